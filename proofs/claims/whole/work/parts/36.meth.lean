theorem dX7_noTold_0 : decode cX7_noTold 0 = .ok (.iload_n 1, 1) := by decide +kernel
theorem dX7_noTold_1 : decode cX7_noTold 1 = .ok (.i2l, 1) := by decide +kernel
theorem dX7_noTold_2 : decode cX7_noTold 2 = .ok (.lconst 0, 1) := by decide +kernel
theorem dX7_noTold_3 : decode cX7_noTold 3 = .ok (.ldc2_w 71, 3) := by decide +kernel
theorem dX7_noTold_6 : decode cX7_noTold 6 = .ok (.invokestatic 64, 3) := by decide +kernel
theorem dX7_noTold_9 : decode cX7_noTold 9 = .ok (.ifCond .eq 14, 3) := by decide +kernel
theorem dX7_noTold_12 : decode cX7_noTold 12 = .ok (.iload_n 2, 1) := by decide +kernel
theorem dX7_noTold_13 : decode cX7_noTold 13 = .ok (.i2l, 1) := by decide +kernel
theorem dX7_noTold_14 : decode cX7_noTold 14 = .ok (.lconst 0, 1) := by decide +kernel
theorem dX7_noTold_15 : decode cX7_noTold 15 = .ok (.iload_n 3, 1) := by decide +kernel
theorem dX7_noTold_16 : decode cX7_noTold 16 = .ok (.i2l, 1) := by decide +kernel
theorem dX7_noTold_17 : decode cX7_noTold 17 = .ok (.invokestatic 64, 3) := by decide +kernel
theorem dX7_noTold_20 : decode cX7_noTold 20 = .ok (.ifCond .ne 10, 3) := by decide +kernel
theorem dX7_noTold_23 : decode cX7_noTold 23 = .ok (.aload_n 0, 1) := by decide +kernel
theorem dX7_noTold_24 : decode cX7_noTold 24 = .ok (.bipush (-2), 2) := by decide +kernel
theorem dX7_noTold_26 : decode cX7_noTold 26 = .ok (.invokevirtual 77, 3) := by decide +kernel
theorem dX7_noTold_29 : decode cX7_noTold 29 = .ok (.ireturn, 1) := by decide +kernel
theorem dX7_noTold_30 : decode cX7_noTold 30 = .ok (.aload_n 0, 1) := by decide +kernel
theorem dX7_noTold_31 : decode cX7_noTold 31 = .ok (.iload_n 1, 1) := by decide +kernel
theorem dX7_noTold_32 : decode cX7_noTold 32 = .ok (.invokevirtual 81, 3) := by decide +kernel
theorem dX7_noTold_35 : decode cX7_noTold 35 = .ok (.istore 4, 2) := by decide +kernel
theorem dX7_noTold_37 : decode cX7_noTold 37 = .ok (.iload 4, 2) := by decide +kernel
theorem dX7_noTold_39 : decode cX7_noTold 39 = .ok (.ifCond .eq 6, 3) := by decide +kernel
theorem dX7_noTold_42 : decode cX7_noTold 42 = .ok (.iload 4, 2) := by decide +kernel
theorem dX7_noTold_44 : decode cX7_noTold 44 = .ok (.ireturn, 1) := by decide +kernel
theorem dX7_noTold_45 : decode cX7_noTold 45 = .ok (.aload_n 0, 1) := by decide +kernel
theorem dX7_noTold_46 : decode cX7_noTold 46 = .ok (.getfield 16, 3) := by decide +kernel
theorem dX7_noTold_49 : decode cX7_noTold 49 = .ok (.iload_n 1, 1) := by decide +kernel
theorem dX7_noTold_50 : decode cX7_noTold 50 = .ok (.iaload, 1) := by decide +kernel
theorem dX7_noTold_51 : decode cX7_noTold 51 = .ok (.iload_n 2, 1) := by decide +kernel
theorem dX7_noTold_52 : decode cX7_noTold 52 = .ok (.if_icmp .ge 12, 3) := by decide +kernel
theorem dX7_noTold_55 : decode cX7_noTold 55 = .ok (.aload_n 0, 1) := by decide +kernel
theorem dX7_noTold_56 : decode cX7_noTold 56 = .ok (.bipush (-2), 2) := by decide +kernel
theorem dX7_noTold_58 : decode cX7_noTold 58 = .ok (.invokevirtual 77, 3) := by decide +kernel
theorem dX7_noTold_61 : decode cX7_noTold 61 = .ok (.goto 4, 3) := by decide +kernel
theorem dX7_noTold_64 : decode cX7_noTold 64 = .ok (.iconst 0, 1) := by decide +kernel
theorem dX7_noTold_65 : decode cX7_noTold 65 = .ok (.ireturn, 1) := by decide +kernel
theorem dX7_errands_0 : decode cX7_errands 0 = .ok (.aload_n 0, 1) := by decide +kernel
theorem dX7_errands_1 : decode cX7_errands 1 = .ok (.iload_n 1, 1) := by decide +kernel
theorem dX7_errands_2 : decode cX7_errands 2 = .ok (.invokevirtual 120, 3) := by decide +kernel
theorem dX7_errands_5 : decode cX7_errands 5 = .ok (.ifCond .ne 10, 3) := by decide +kernel
theorem dX7_errands_8 : decode cX7_errands 8 = .ok (.aload_n 0, 1) := by decide +kernel
theorem dX7_errands_9 : decode cX7_errands 9 = .ok (.bipush (-2), 2) := by decide +kernel
theorem dX7_errands_11 : decode cX7_errands 11 = .ok (.invokevirtual 77, 3) := by decide +kernel
theorem dX7_errands_14 : decode cX7_errands 14 = .ok (.ireturn, 1) := by decide +kernel
theorem dX7_errands_15 : decode cX7_errands 15 = .ok (.aload_n 0, 1) := by decide +kernel
theorem dX7_errands_16 : decode cX7_errands 16 = .ok (.iload_n 2, 1) := by decide +kernel
theorem dX7_errands_17 : decode cX7_errands 17 = .ok (.iload_n 3, 1) := by decide +kernel
theorem dX7_errands_18 : decode cX7_errands 18 = .ok (.iconst 4, 1) := by decide +kernel
theorem dX7_errands_19 : decode cX7_errands 19 = .ok (.invokevirtual 293, 3) := by decide +kernel
theorem dX7_errands_22 : decode cX7_errands 22 = .ok (.istore 4, 2) := by decide +kernel
theorem dX7_errands_24 : decode cX7_errands 24 = .ok (.iload 4, 2) := by decide +kernel
theorem dX7_errands_26 : decode cX7_errands 26 = .ok (.ifCond .eq 6, 3) := by decide +kernel
theorem dX7_errands_29 : decode cX7_errands 29 = .ok (.iload 4, 2) := by decide +kernel
theorem dX7_errands_31 : decode cX7_errands 31 = .ok (.ireturn, 1) := by decide +kernel
theorem dX7_errands_32 : decode cX7_errands 32 = .ok (.aload_n 0, 1) := by decide +kernel
theorem dX7_errands_33 : decode cX7_errands 33 = .ok (.getfield 61, 3) := by decide +kernel
theorem dX7_errands_36 : decode cX7_errands 36 = .ok (.bipush 9, 2) := by decide +kernel
theorem dX7_errands_38 : decode cX7_errands 38 = .ok (.if_icmp .le 10, 3) := by decide +kernel
theorem dX7_errands_41 : decode cX7_errands 41 = .ok (.aload_n 0, 1) := by decide +kernel
theorem dX7_errands_42 : decode cX7_errands 42 = .ok (.bipush (-5), 2) := by decide +kernel
theorem dX7_errands_44 : decode cX7_errands 44 = .ok (.invokevirtual 77, 3) := by decide +kernel
theorem dX7_errands_47 : decode cX7_errands 47 = .ok (.ireturn, 1) := by decide +kernel
theorem dX7_errands_48 : decode cX7_errands 48 = .ok (.iconst 0, 1) := by decide +kernel
theorem dX7_errands_49 : decode cX7_errands 49 = .ok (.istore 5, 2) := by decide +kernel
theorem dX7_errands_51 : decode cX7_errands 51 = .ok (.iload 5, 2) := by decide +kernel
theorem dX7_errands_53 : decode cX7_errands 53 = .ok (.iload_n 3, 1) := by decide +kernel
theorem dX7_errands_54 : decode cX7_errands 54 = .ok (.if_icmp .ge 43, 3) := by decide +kernel
theorem dX7_errands_57 : decode cX7_errands 57 = .ok (.aload_n 0, 1) := by decide +kernel
theorem dX7_errands_58 : decode cX7_errands 58 = .ok (.getfield 21, 3) := by decide +kernel
theorem dX7_errands_61 : decode cX7_errands 61 = .ok (.iload_n 2, 1) := by decide +kernel
theorem dX7_errands_62 : decode cX7_errands 62 = .ok (.aaload, 1) := by decide +kernel
theorem dX7_errands_63 : decode cX7_errands 63 = .ok (.iload 5, 2) := by decide +kernel
theorem dX7_errands_65 : decode cX7_errands 65 = .ok (.laload, 1) := by decide +kernel
theorem dX7_errands_66 : decode cX7_errands 66 = .ok (.invokestatic 104, 3) := by decide +kernel
theorem dX7_errands_69 : decode cX7_errands 69 = .ok (.ifCond .ne 5, 3) := by decide +kernel
theorem dX7_errands_72 : decode cX7_errands 72 = .ok (.iconst (-1), 1) := by decide +kernel
theorem dX7_errands_73 : decode cX7_errands 73 = .ok (.ireturn, 1) := by decide +kernel
theorem dX7_errands_74 : decode cX7_errands 74 = .ok (.aload_n 0, 1) := by decide +kernel
theorem dX7_errands_75 : decode cX7_errands 75 = .ok (.getfield 55, 3) := by decide +kernel
theorem dX7_errands_78 : decode cX7_errands 78 = .ok (.iload 5, 2) := by decide +kernel
theorem dX7_errands_80 : decode cX7_errands 80 = .ok (.aload_n 0, 1) := by decide +kernel
theorem dX7_errands_81 : decode cX7_errands 81 = .ok (.getfield 21, 3) := by decide +kernel
theorem dX7_errands_84 : decode cX7_errands 84 = .ok (.iload_n 2, 1) := by decide +kernel
theorem dX7_errands_85 : decode cX7_errands 85 = .ok (.aaload, 1) := by decide +kernel
theorem dX7_errands_86 : decode cX7_errands 86 = .ok (.iload 5, 2) := by decide +kernel
theorem dX7_errands_88 : decode cX7_errands 88 = .ok (.laload, 1) := by decide +kernel
theorem dX7_errands_89 : decode cX7_errands 89 = .ok (.l2i, 1) := by decide +kernel
theorem dX7_errands_90 : decode cX7_errands 90 = .ok (.iastore, 1) := by decide +kernel
theorem dX7_errands_91 : decode cX7_errands 91 = .ok (.iinc 5 1, 3) := by decide +kernel
theorem dX7_errands_94 : decode cX7_errands 94 = .ok (.goto (-43), 3) := by decide +kernel
theorem dX7_errands_97 : decode cX7_errands 97 = .ok (.aload_n 0, 1) := by decide +kernel
theorem dX7_errands_98 : decode cX7_errands 98 = .ok (.iload_n 3, 1) := by decide +kernel
theorem dX7_errands_99 : decode cX7_errands 99 = .ok (.putfield 256, 3) := by decide +kernel
theorem dX7_errands_102 : decode cX7_errands 102 = .ok (.aload_n 0, 1) := by decide +kernel
theorem dX7_errands_103 : decode cX7_errands 103 = .ok (.iload_n 1, 1) := by decide +kernel
theorem dX7_errands_104 : decode cX7_errands 104 = .ok (.invokevirtual 284, 3) := by decide +kernel
theorem dX7_errands_107 : decode cX7_errands 107 = .ok (.aload_n 0, 1) := by decide +kernel
theorem dX7_errands_108 : decode cX7_errands 108 = .ok (.invokevirtual 287, 3) := by decide +kernel
theorem dX7_errands_111 : decode cX7_errands 111 = .ok (.ireturn, 1) := by decide +kernel
theorem dX7_lost_0 : decode cX7_lost 0 = .ok (.aload_n 0, 1) := by decide +kernel
theorem dX7_lost_1 : decode cX7_lost 1 = .ok (.getfield 61, 3) := by decide +kernel
theorem dX7_lost_4 : decode cX7_lost 4 = .ok (.bipush 9, 2) := by decide +kernel
theorem dX7_lost_6 : decode cX7_lost 6 = .ok (.if_icmp .le 10, 3) := by decide +kernel
theorem dX7_lost_9 : decode cX7_lost 9 = .ok (.aload_n 0, 1) := by decide +kernel
theorem dX7_lost_10 : decode cX7_lost 10 = .ok (.bipush (-5), 2) := by decide +kernel
theorem dX7_lost_12 : decode cX7_lost 12 = .ok (.invokevirtual 77, 3) := by decide +kernel
theorem dX7_lost_15 : decode cX7_lost 15 = .ok (.ireturn, 1) := by decide +kernel
theorem dX7_lost_16 : decode cX7_lost 16 = .ok (.iconst 0, 1) := by decide +kernel
theorem dX7_lost_17 : decode cX7_lost 17 = .ok (.istore_n 1, 1) := by decide +kernel
theorem dX7_lost_18 : decode cX7_lost 18 = .ok (.iconst 0, 1) := by decide +kernel
theorem dX7_lost_19 : decode cX7_lost 19 = .ok (.istore_n 2, 1) := by decide +kernel
theorem dX7_lost_20 : decode cX7_lost 20 = .ok (.iload_n 2, 1) := by decide +kernel
theorem dX7_lost_21 : decode cX7_lost 21 = .ok (.aload_n 0, 1) := by decide +kernel
theorem dX7_lost_22 : decode cX7_lost 22 = .ok (.getfield 68, 3) := by decide +kernel
theorem dX7_lost_25 : decode cX7_lost 25 = .ok (.if_icmp .ge 29, 3) := by decide +kernel
theorem dX7_lost_28 : decode cX7_lost 28 = .ok (.iload_n 1, 1) := by decide +kernel
theorem dX7_lost_29 : decode cX7_lost 29 = .ok (.aload_n 0, 1) := by decide +kernel
theorem dX7_lost_30 : decode cX7_lost 30 = .ok (.iload_n 2, 1) := by decide +kernel
theorem dX7_lost_31 : decode cX7_lost 31 = .ok (.iconst 0, 1) := by decide +kernel
theorem dX7_lost_32 : decode cX7_lost 32 = .ok (.invokevirtual 290, 3) := by decide +kernel
theorem dX7_lost_35 : decode cX7_lost 35 = .ok (.iconst (-1), 1) := by decide +kernel
theorem dX7_lost_36 : decode cX7_lost 36 = .ok (.if_icmp .ne 9, 3) := by decide +kernel
theorem dX7_lost_39 : decode cX7_lost 39 = .ok (.iconst 1, 1) := by decide +kernel
theorem dX7_lost_40 : decode cX7_lost 40 = .ok (.iload_n 2, 1) := by decide +kernel
theorem dX7_lost_41 : decode cX7_lost 41 = .ok (.ishl, 1) := by decide +kernel
theorem dX7_lost_42 : decode cX7_lost 42 = .ok (.goto 4, 3) := by decide +kernel
theorem dX7_lost_45 : decode cX7_lost 45 = .ok (.iconst 0, 1) := by decide +kernel
theorem dX7_lost_46 : decode cX7_lost 46 = .ok (.ior, 1) := by decide +kernel
theorem dX7_lost_47 : decode cX7_lost 47 = .ok (.istore_n 1, 1) := by decide +kernel
theorem dX7_lost_48 : decode cX7_lost 48 = .ok (.iinc 2 1, 3) := by decide +kernel
theorem dX7_lost_51 : decode cX7_lost 51 = .ok (.goto (-31), 3) := by decide +kernel
theorem dX7_lost_54 : decode cX7_lost 54 = .ok (.iload_n 1, 1) := by decide +kernel
theorem dX7_lost_55 : decode cX7_lost 55 = .ok (.ireturn, 1) := by decide +kernel
theorem dX7_stock_0 : decode cX7_stock 0 = .ok (.aload_n 0, 1) := by decide +kernel
theorem dX7_stock_1 : decode cX7_stock 1 = .ok (.invokevirtual 243, 3) := by decide +kernel
theorem dX7_stock_4 : decode cX7_stock 4 = .ok (.ireturn, 1) := by decide +kernel
theorem dX7_placeOf_0 : decode cX7_placeOf 0 = .ok (.iload_n 1, 1) := by decide +kernel
theorem dX7_placeOf_1 : decode cX7_placeOf 1 = .ok (.aload_n 0, 1) := by decide +kernel
theorem dX7_placeOf_2 : decode cX7_placeOf 2 = .ok (.getfield 296, 3) := by decide +kernel
theorem dX7_placeOf_5 : decode cX7_placeOf 5 = .ok (.iconst 1, 1) := by decide +kernel
theorem dX7_placeOf_6 : decode cX7_placeOf 6 = .ok (.iadd, 1) := by decide +kernel
theorem dX7_placeOf_7 : decode cX7_placeOf 7 = .ok (.imul, 1) := by decide +kernel
theorem dX7_placeOf_8 : decode cX7_placeOf 8 = .ok (.iload_n 2, 1) := by decide +kernel
theorem dX7_placeOf_9 : decode cX7_placeOf 9 = .ok (.iadd, 1) := by decide +kernel
theorem dX7_placeOf_10 : decode cX7_placeOf 10 = .ok (.aload_n 0, 1) := by decide +kernel
theorem dX7_placeOf_11 : decode cX7_placeOf 11 = .ok (.getfield 299, 3) := by decide +kernel
theorem dX7_placeOf_14 : decode cX7_placeOf 14 = .ok (.iconst 1, 1) := by decide +kernel
theorem dX7_placeOf_15 : decode cX7_placeOf 15 = .ok (.iadd, 1) := by decide +kernel
theorem dX7_placeOf_16 : decode cX7_placeOf 16 = .ok (.imul, 1) := by decide +kernel
theorem dX7_placeOf_17 : decode cX7_placeOf 17 = .ok (.iload_n 3, 1) := by decide +kernel
theorem dX7_placeOf_18 : decode cX7_placeOf 18 = .ok (.iadd, 1) := by decide +kernel
theorem dX7_placeOf_19 : decode cX7_placeOf 19 = .ok (.aload_n 0, 1) := by decide +kernel
theorem dX7_placeOf_20 : decode cX7_placeOf 20 = .ok (.getfield 302, 3) := by decide +kernel
theorem dX7_placeOf_23 : decode cX7_placeOf 23 = .ok (.iconst 1, 1) := by decide +kernel
theorem dX7_placeOf_24 : decode cX7_placeOf 24 = .ok (.iadd, 1) := by decide +kernel
theorem dX7_placeOf_25 : decode cX7_placeOf 25 = .ok (.imul, 1) := by decide +kernel
theorem dX7_placeOf_26 : decode cX7_placeOf 26 = .ok (.iload 4, 2) := by decide +kernel
theorem dX7_placeOf_28 : decode cX7_placeOf 28 = .ok (.iadd, 1) := by decide +kernel
theorem dX7_placeOf_29 : decode cX7_placeOf 29 = .ok (.ireturn, 1) := by decide +kernel
theorem dX7_opensBeside_0 : decode cX7_opensBeside 0 = .ok (.iconst 0, 1) := by decide +kernel
theorem dX7_opensBeside_1 : decode cX7_opensBeside 1 = .ok (.istore 7, 2) := by decide +kernel
theorem dX7_opensBeside_3 : decode cX7_opensBeside 3 = .ok (.iload_n 1, 1) := by decide +kernel
theorem dX7_opensBeside_4 : decode cX7_opensBeside 4 = .ok (.aload_n 0, 1) := by decide +kernel
theorem dX7_opensBeside_5 : decode cX7_opensBeside 5 = .ok (.getfield 309, 3) := by decide +kernel
theorem dX7_opensBeside_8 : decode cX7_opensBeside 8 = .ok (.if_icmp .ge 45, 3) := by decide +kernel
theorem dX7_opensBeside_11 : decode cX7_opensBeside 11 = .ok (.aload_n 0, 1) := by decide +kernel
theorem dX7_opensBeside_12 : decode cX7_opensBeside 12 = .ok (.getfield 312, 3) := by decide +kernel
theorem dX7_opensBeside_15 : decode cX7_opensBeside 15 = .ok (.aload_n 0, 1) := by decide +kernel
theorem dX7_opensBeside_16 : decode cX7_opensBeside 16 = .ok (.iload_n 1, 1) := by decide +kernel
theorem dX7_opensBeside_17 : decode cX7_opensBeside 17 = .ok (.iload 5, 2) := by decide +kernel
theorem dX7_opensBeside_19 : decode cX7_opensBeside 19 = .ok (.isub, 1) := by decide +kernel
theorem dX7_opensBeside_20 : decode cX7_opensBeside 20 = .ok (.iconst 1, 1) := by decide +kernel
theorem dX7_opensBeside_21 : decode cX7_opensBeside 21 = .ok (.iadd, 1) := by decide +kernel
theorem dX7_opensBeside_22 : decode cX7_opensBeside 22 = .ok (.iload_n 2, 1) := by decide +kernel
theorem dX7_opensBeside_23 : decode cX7_opensBeside 23 = .ok (.iload 6, 2) := by decide +kernel
theorem dX7_opensBeside_25 : decode cX7_opensBeside 25 = .ok (.isub, 1) := by decide +kernel
theorem dX7_opensBeside_26 : decode cX7_opensBeside 26 = .ok (.iload_n 3, 1) := by decide +kernel
theorem dX7_opensBeside_27 : decode cX7_opensBeside 27 = .ok (.iload 4, 2) := by decide +kernel
theorem dX7_opensBeside_29 : decode cX7_opensBeside 29 = .ok (.invokevirtual 315, 3) := by decide +kernel
theorem dX7_opensBeside_32 : decode cX7_opensBeside 32 = .ok (.iaload, 1) := by decide +kernel
theorem dX7_opensBeside_33 : decode cX7_opensBeside 33 = .ok (.iconst 1, 1) := by decide +kernel
theorem dX7_opensBeside_34 : decode cX7_opensBeside 34 = .ok (.iadd, 1) := by decide +kernel
theorem dX7_opensBeside_35 : decode cX7_opensBeside 35 = .ok (.istore 8, 2) := by decide +kernel
theorem dX7_opensBeside_37 : decode cX7_opensBeside 37 = .ok (.iload 8, 2) := by decide +kernel
theorem dX7_opensBeside_39 : decode cX7_opensBeside 39 = .ok (.iload 7, 2) := by decide +kernel
theorem dX7_opensBeside_41 : decode cX7_opensBeside 41 = .ok (.if_icmp .le 8, 3) := by decide +kernel
theorem dX7_opensBeside_44 : decode cX7_opensBeside 44 = .ok (.iload 8, 2) := by decide +kernel
theorem dX7_opensBeside_46 : decode cX7_opensBeside 46 = .ok (.goto 5, 3) := by decide +kernel
theorem dX7_opensBeside_49 : decode cX7_opensBeside 49 = .ok (.iload 7, 2) := by decide +kernel
theorem dX7_opensBeside_51 : decode cX7_opensBeside 51 = .ok (.istore 7, 2) := by decide +kernel
theorem dX7_opensBeside_53 : decode cX7_opensBeside 53 = .ok (.iload_n 2, 1) := by decide +kernel
theorem dX7_opensBeside_54 : decode cX7_opensBeside 54 = .ok (.aload_n 0, 1) := by decide +kernel
theorem dX7_opensBeside_55 : decode cX7_opensBeside 55 = .ok (.getfield 296, 3) := by decide +kernel
theorem dX7_opensBeside_58 : decode cX7_opensBeside 58 = .ok (.if_icmp .ge 45, 3) := by decide +kernel
theorem dX7_opensBeside_61 : decode cX7_opensBeside 61 = .ok (.aload_n 0, 1) := by decide +kernel
theorem dX7_opensBeside_62 : decode cX7_opensBeside 62 = .ok (.getfield 312, 3) := by decide +kernel
theorem dX7_opensBeside_65 : decode cX7_opensBeside 65 = .ok (.aload_n 0, 1) := by decide +kernel
theorem dX7_opensBeside_66 : decode cX7_opensBeside 66 = .ok (.iload_n 1, 1) := by decide +kernel
theorem dX7_opensBeside_67 : decode cX7_opensBeside 67 = .ok (.iload 5, 2) := by decide +kernel
theorem dX7_opensBeside_69 : decode cX7_opensBeside 69 = .ok (.isub, 1) := by decide +kernel
theorem dX7_opensBeside_70 : decode cX7_opensBeside 70 = .ok (.iload_n 2, 1) := by decide +kernel
theorem dX7_opensBeside_71 : decode cX7_opensBeside 71 = .ok (.iload 6, 2) := by decide +kernel
theorem dX7_opensBeside_73 : decode cX7_opensBeside 73 = .ok (.isub, 1) := by decide +kernel
theorem dX7_opensBeside_74 : decode cX7_opensBeside 74 = .ok (.iconst 1, 1) := by decide +kernel
theorem dX7_opensBeside_75 : decode cX7_opensBeside 75 = .ok (.iadd, 1) := by decide +kernel
theorem dX7_opensBeside_76 : decode cX7_opensBeside 76 = .ok (.iload_n 3, 1) := by decide +kernel
theorem dX7_opensBeside_77 : decode cX7_opensBeside 77 = .ok (.iload 4, 2) := by decide +kernel
theorem dX7_opensBeside_79 : decode cX7_opensBeside 79 = .ok (.invokevirtual 315, 3) := by decide +kernel
theorem dX7_opensBeside_82 : decode cX7_opensBeside 82 = .ok (.iaload, 1) := by decide +kernel
theorem dX7_opensBeside_83 : decode cX7_opensBeside 83 = .ok (.iconst 1, 1) := by decide +kernel
theorem dX7_opensBeside_84 : decode cX7_opensBeside 84 = .ok (.iadd, 1) := by decide +kernel
theorem dX7_opensBeside_85 : decode cX7_opensBeside 85 = .ok (.istore 8, 2) := by decide +kernel
theorem dX7_opensBeside_87 : decode cX7_opensBeside 87 = .ok (.iload 8, 2) := by decide +kernel
theorem dX7_opensBeside_89 : decode cX7_opensBeside 89 = .ok (.iload 7, 2) := by decide +kernel
theorem dX7_opensBeside_91 : decode cX7_opensBeside 91 = .ok (.if_icmp .le 8, 3) := by decide +kernel
theorem dX7_opensBeside_94 : decode cX7_opensBeside 94 = .ok (.iload 8, 2) := by decide +kernel
theorem dX7_opensBeside_96 : decode cX7_opensBeside 96 = .ok (.goto 5, 3) := by decide +kernel
theorem dX7_opensBeside_99 : decode cX7_opensBeside 99 = .ok (.iload 7, 2) := by decide +kernel
theorem dX7_opensBeside_101 : decode cX7_opensBeside 101 = .ok (.istore 7, 2) := by decide +kernel
theorem dX7_opensBeside_103 : decode cX7_opensBeside 103 = .ok (.iload_n 3, 1) := by decide +kernel
theorem dX7_opensBeside_104 : decode cX7_opensBeside 104 = .ok (.ifCond .le 45, 3) := by decide +kernel
theorem dX7_opensBeside_107 : decode cX7_opensBeside 107 = .ok (.aload_n 0, 1) := by decide +kernel
theorem dX7_opensBeside_108 : decode cX7_opensBeside 108 = .ok (.getfield 312, 3) := by decide +kernel
theorem dX7_opensBeside_111 : decode cX7_opensBeside 111 = .ok (.aload_n 0, 1) := by decide +kernel
theorem dX7_opensBeside_112 : decode cX7_opensBeside 112 = .ok (.iload_n 1, 1) := by decide +kernel
theorem dX7_opensBeside_113 : decode cX7_opensBeside 113 = .ok (.iload 5, 2) := by decide +kernel
theorem dX7_opensBeside_115 : decode cX7_opensBeside 115 = .ok (.isub, 1) := by decide +kernel
theorem dX7_opensBeside_116 : decode cX7_opensBeside 116 = .ok (.iload_n 2, 1) := by decide +kernel
theorem dX7_opensBeside_117 : decode cX7_opensBeside 117 = .ok (.iload 6, 2) := by decide +kernel
theorem dX7_opensBeside_119 : decode cX7_opensBeside 119 = .ok (.isub, 1) := by decide +kernel
theorem dX7_opensBeside_120 : decode cX7_opensBeside 120 = .ok (.iload_n 3, 1) := by decide +kernel
theorem dX7_opensBeside_121 : decode cX7_opensBeside 121 = .ok (.iconst 1, 1) := by decide +kernel
theorem dX7_opensBeside_122 : decode cX7_opensBeside 122 = .ok (.isub, 1) := by decide +kernel
theorem dX7_opensBeside_123 : decode cX7_opensBeside 123 = .ok (.iload 4, 2) := by decide +kernel
theorem dX7_opensBeside_125 : decode cX7_opensBeside 125 = .ok (.invokevirtual 315, 3) := by decide +kernel
theorem dX7_opensBeside_128 : decode cX7_opensBeside 128 = .ok (.iaload, 1) := by decide +kernel
theorem dX7_opensBeside_129 : decode cX7_opensBeside 129 = .ok (.iconst 1, 1) := by decide +kernel
theorem dX7_opensBeside_130 : decode cX7_opensBeside 130 = .ok (.iadd, 1) := by decide +kernel
theorem dX7_opensBeside_131 : decode cX7_opensBeside 131 = .ok (.istore 8, 2) := by decide +kernel
theorem dX7_opensBeside_133 : decode cX7_opensBeside 133 = .ok (.iload 8, 2) := by decide +kernel
theorem dX7_opensBeside_135 : decode cX7_opensBeside 135 = .ok (.iload 7, 2) := by decide +kernel
theorem dX7_opensBeside_137 : decode cX7_opensBeside 137 = .ok (.if_icmp .le 8, 3) := by decide +kernel
theorem dX7_opensBeside_140 : decode cX7_opensBeside 140 = .ok (.iload 8, 2) := by decide +kernel
theorem dX7_opensBeside_142 : decode cX7_opensBeside 142 = .ok (.goto 5, 3) := by decide +kernel
theorem dX7_opensBeside_145 : decode cX7_opensBeside 145 = .ok (.iload 7, 2) := by decide +kernel
theorem dX7_opensBeside_147 : decode cX7_opensBeside 147 = .ok (.istore 7, 2) := by decide +kernel
theorem dX7_opensBeside_149 : decode cX7_opensBeside 149 = .ok (.iload 4, 2) := by decide +kernel
theorem dX7_opensBeside_151 : decode cX7_opensBeside 151 = .ok (.ifCond .le 45, 3) := by decide +kernel
theorem dX7_opensBeside_154 : decode cX7_opensBeside 154 = .ok (.aload_n 0, 1) := by decide +kernel
theorem dX7_opensBeside_155 : decode cX7_opensBeside 155 = .ok (.getfield 312, 3) := by decide +kernel
theorem dX7_opensBeside_158 : decode cX7_opensBeside 158 = .ok (.aload_n 0, 1) := by decide +kernel
theorem dX7_opensBeside_159 : decode cX7_opensBeside 159 = .ok (.iload_n 1, 1) := by decide +kernel
theorem dX7_opensBeside_160 : decode cX7_opensBeside 160 = .ok (.iload 5, 2) := by decide +kernel
theorem dX7_opensBeside_162 : decode cX7_opensBeside 162 = .ok (.isub, 1) := by decide +kernel
theorem dX7_opensBeside_163 : decode cX7_opensBeside 163 = .ok (.iload_n 2, 1) := by decide +kernel
theorem dX7_opensBeside_164 : decode cX7_opensBeside 164 = .ok (.iload 6, 2) := by decide +kernel
theorem dX7_opensBeside_166 : decode cX7_opensBeside 166 = .ok (.isub, 1) := by decide +kernel
theorem dX7_opensBeside_167 : decode cX7_opensBeside 167 = .ok (.iload_n 3, 1) := by decide +kernel
theorem dX7_opensBeside_168 : decode cX7_opensBeside 168 = .ok (.iload 4, 2) := by decide +kernel
theorem dX7_opensBeside_170 : decode cX7_opensBeside 170 = .ok (.iconst 1, 1) := by decide +kernel
theorem dX7_opensBeside_171 : decode cX7_opensBeside 171 = .ok (.isub, 1) := by decide +kernel
theorem dX7_opensBeside_172 : decode cX7_opensBeside 172 = .ok (.invokevirtual 315, 3) := by decide +kernel
theorem dX7_opensBeside_175 : decode cX7_opensBeside 175 = .ok (.iaload, 1) := by decide +kernel
theorem dX7_opensBeside_176 : decode cX7_opensBeside 176 = .ok (.iconst 1, 1) := by decide +kernel
theorem dX7_opensBeside_177 : decode cX7_opensBeside 177 = .ok (.iadd, 1) := by decide +kernel
theorem dX7_opensBeside_178 : decode cX7_opensBeside 178 = .ok (.istore 8, 2) := by decide +kernel
theorem dX7_opensBeside_180 : decode cX7_opensBeside 180 = .ok (.iload 8, 2) := by decide +kernel
theorem dX7_opensBeside_182 : decode cX7_opensBeside 182 = .ok (.iload 7, 2) := by decide +kernel
theorem dX7_opensBeside_184 : decode cX7_opensBeside 184 = .ok (.if_icmp .le 8, 3) := by decide +kernel
theorem dX7_opensBeside_187 : decode cX7_opensBeside 187 = .ok (.iload 8, 2) := by decide +kernel
theorem dX7_opensBeside_189 : decode cX7_opensBeside 189 = .ok (.goto 5, 3) := by decide +kernel
theorem dX7_opensBeside_192 : decode cX7_opensBeside 192 = .ok (.iload 7, 2) := by decide +kernel
theorem dX7_opensBeside_194 : decode cX7_opensBeside 194 = .ok (.istore 7, 2) := by decide +kernel
theorem dX7_opensBeside_196 : decode cX7_opensBeside 196 = .ok (.iload 7, 2) := by decide +kernel
theorem dX7_opensBeside_198 : decode cX7_opensBeside 198 = .ok (.ireturn, 1) := by decide +kernel
theorem dX7_mostOf_0 : decode cX7_mostOf 0 = .ok (.iconst 0, 1) := by decide +kernel
theorem dX7_mostOf_1 : decode cX7_mostOf 1 = .ok (.istore 6, 2) := by decide +kernel
theorem dX7_mostOf_3 : decode cX7_mostOf 3 = .ok (.iconst 0, 1) := by decide +kernel
theorem dX7_mostOf_4 : decode cX7_mostOf 4 = .ok (.istore 7, 2) := by decide +kernel
theorem dX7_mostOf_6 : decode cX7_mostOf 6 = .ok (.iload 7, 2) := by decide +kernel
theorem dX7_mostOf_8 : decode cX7_mostOf 8 = .ok (.iload_n 3, 1) := by decide +kernel
theorem dX7_mostOf_9 : decode cX7_mostOf 9 = .ok (.if_icmp .gt 113, 3) := by decide +kernel
theorem dX7_mostOf_12 : decode cX7_mostOf 12 = .ok (.iconst 0, 1) := by decide +kernel
theorem dX7_mostOf_13 : decode cX7_mostOf 13 = .ok (.istore 8, 2) := by decide +kernel
theorem dX7_mostOf_15 : decode cX7_mostOf 15 = .ok (.iload 8, 2) := by decide +kernel
theorem dX7_mostOf_17 : decode cX7_mostOf 17 = .ok (.iload_n 2, 1) := by decide +kernel
theorem dX7_mostOf_18 : decode cX7_mostOf 18 = .ok (.if_icmp .gt 98, 3) := by decide +kernel
theorem dX7_mostOf_21 : decode cX7_mostOf 21 = .ok (.iload 8, 2) := by decide +kernel
theorem dX7_mostOf_23 : decode cX7_mostOf 23 = .ok (.iconst 2, 1) := by decide +kernel
theorem dX7_mostOf_24 : decode cX7_mostOf 24 = .ok (.iload 7, 2) := by decide +kernel
theorem dX7_mostOf_26 : decode cX7_mostOf 26 = .ok (.imul, 1) := by decide +kernel
theorem dX7_mostOf_27 : decode cX7_mostOf 27 = .ok (.iadd, 1) := by decide +kernel
theorem dX7_mostOf_28 : decode cX7_mostOf 28 = .ok (.istore 9, 2) := by decide +kernel
theorem dX7_mostOf_30 : decode cX7_mostOf 30 = .ok (.iload 9, 2) := by decide +kernel
theorem dX7_mostOf_32 : decode cX7_mostOf 32 = .ok (.iload_n 1, 1) := by decide +kernel
theorem dX7_mostOf_33 : decode cX7_mostOf 33 = .ok (.if_icmp .lt 33, 3) := by decide +kernel
theorem dX7_mostOf_36 : decode cX7_mostOf 36 = .ok (.iload 8, 2) := by decide +kernel
theorem dX7_mostOf_38 : decode cX7_mostOf 38 = .ok (.ifCond .eq 11, 3) := by decide +kernel
theorem dX7_mostOf_41 : decode cX7_mostOf 41 = .ok (.iload 9, 2) := by decide +kernel
theorem dX7_mostOf_43 : decode cX7_mostOf 43 = .ok (.iconst 1, 1) := by decide +kernel
theorem dX7_mostOf_44 : decode cX7_mostOf 44 = .ok (.isub, 1) := by decide +kernel
theorem dX7_mostOf_45 : decode cX7_mostOf 45 = .ok (.iload_n 1, 1) := by decide +kernel
theorem dX7_mostOf_46 : decode cX7_mostOf 46 = .ok (.if_icmp .ge 20, 3) := by decide +kernel
theorem dX7_mostOf_49 : decode cX7_mostOf 49 = .ok (.iload 7, 2) := by decide +kernel
theorem dX7_mostOf_51 : decode cX7_mostOf 51 = .ok (.ifCond .eq 11, 3) := by decide +kernel
theorem dX7_mostOf_54 : decode cX7_mostOf 54 = .ok (.iload 9, 2) := by decide +kernel
theorem dX7_mostOf_56 : decode cX7_mostOf 56 = .ok (.iconst 2, 1) := by decide +kernel
theorem dX7_mostOf_57 : decode cX7_mostOf 57 = .ok (.isub, 1) := by decide +kernel
theorem dX7_mostOf_58 : decode cX7_mostOf 58 = .ok (.iload_n 1, 1) := by decide +kernel
theorem dX7_mostOf_59 : decode cX7_mostOf 59 = .ok (.if_icmp .ge 7, 3) := by decide +kernel
theorem dX7_mostOf_62 : decode cX7_mostOf 62 = .ok (.iconst 1, 1) := by decide +kernel
theorem dX7_mostOf_63 : decode cX7_mostOf 63 = .ok (.goto 4, 3) := by decide +kernel
theorem dX7_mostOf_66 : decode cX7_mostOf 66 = .ok (.iconst 0, 1) := by decide +kernel
theorem dX7_mostOf_67 : decode cX7_mostOf 67 = .ok (.istore 10, 2) := by decide +kernel
theorem dX7_mostOf_69 : decode cX7_mostOf 69 = .ok (.iload 10, 2) := by decide +kernel
theorem dX7_mostOf_71 : decode cX7_mostOf 71 = .ok (.ifCond .eq 20, 3) := by decide +kernel
theorem dX7_mostOf_74 : decode cX7_mostOf 74 = .ok (.aload_n 0, 1) := by decide +kernel
theorem dX7_mostOf_75 : decode cX7_mostOf 75 = .ok (.iload_n 2, 1) := by decide +kernel
theorem dX7_mostOf_76 : decode cX7_mostOf 76 = .ok (.iload_n 3, 1) := by decide +kernel
theorem dX7_mostOf_77 : decode cX7_mostOf 77 = .ok (.iload 4, 2) := by decide +kernel
theorem dX7_mostOf_79 : decode cX7_mostOf 79 = .ok (.iload 5, 2) := by decide +kernel
theorem dX7_mostOf_81 : decode cX7_mostOf 81 = .ok (.iload 8, 2) := by decide +kernel
theorem dX7_mostOf_83 : decode cX7_mostOf 83 = .ok (.iload 7, 2) := by decide +kernel
theorem dX7_mostOf_85 : decode cX7_mostOf 85 = .ok (.invokevirtual 305, 3) := by decide +kernel
theorem dX7_mostOf_88 : decode cX7_mostOf 88 = .ok (.goto 4, 3) := by decide +kernel
theorem dX7_mostOf_91 : decode cX7_mostOf 91 = .ok (.iconst 0, 1) := by decide +kernel
theorem dX7_mostOf_92 : decode cX7_mostOf 92 = .ok (.istore 11, 2) := by decide +kernel
theorem dX7_mostOf_94 : decode cX7_mostOf 94 = .ok (.iload 11, 2) := by decide +kernel
theorem dX7_mostOf_96 : decode cX7_mostOf 96 = .ok (.iload 6, 2) := by decide +kernel
theorem dX7_mostOf_98 : decode cX7_mostOf 98 = .ok (.if_icmp .le 8, 3) := by decide +kernel
theorem dX7_mostOf_101 : decode cX7_mostOf 101 = .ok (.iload 11, 2) := by decide +kernel
theorem dX7_mostOf_103 : decode cX7_mostOf 103 = .ok (.goto 5, 3) := by decide +kernel
theorem dX7_mostOf_106 : decode cX7_mostOf 106 = .ok (.iload 6, 2) := by decide +kernel
theorem dX7_mostOf_108 : decode cX7_mostOf 108 = .ok (.istore 6, 2) := by decide +kernel
theorem dX7_mostOf_110 : decode cX7_mostOf 110 = .ok (.iinc 8 1, 3) := by decide +kernel
theorem dX7_mostOf_113 : decode cX7_mostOf 113 = .ok (.goto (-98), 3) := by decide +kernel
theorem dX7_mostOf_116 : decode cX7_mostOf 116 = .ok (.iinc 7 1, 3) := by decide +kernel
theorem dX7_mostOf_119 : decode cX7_mostOf 119 = .ok (.goto (-113), 3) := by decide +kernel
theorem dX7_mostOf_122 : decode cX7_mostOf 122 = .ok (.iload 6, 2) := by decide +kernel
theorem dX7_mostOf_124 : decode cX7_mostOf 124 = .ok (.ireturn, 1) := by decide +kernel
theorem dX7_turnsOn_0 : decode cX7_turnsOn 0 = .ok (.iload_n 2, 1) := by decide +kernel
theorem dX7_turnsOn_1 : decode cX7_turnsOn 1 = .ok (.istore_n 3, 1) := by decide +kernel
theorem dX7_turnsOn_2 : decode cX7_turnsOn 2 = .ok (.iconst 0, 1) := by decide +kernel
theorem dX7_turnsOn_3 : decode cX7_turnsOn 3 = .ok (.istore 4, 2) := by decide +kernel
theorem dX7_turnsOn_5 : decode cX7_turnsOn 5 = .ok (.iload 4, 2) := by decide +kernel
theorem dX7_turnsOn_7 : decode cX7_turnsOn 7 = .ok (.aload_n 0, 1) := by decide +kernel
theorem dX7_turnsOn_8 : decode cX7_turnsOn 8 = .ok (.getfield 309, 3) := by decide +kernel
theorem dX7_turnsOn_11 : decode cX7_turnsOn 11 = .ok (.if_icmp .gt 134, 3) := by decide +kernel
theorem dX7_turnsOn_14 : decode cX7_turnsOn 14 = .ok (.iconst 0, 1) := by decide +kernel
theorem dX7_turnsOn_15 : decode cX7_turnsOn 15 = .ok (.istore 5, 2) := by decide +kernel
theorem dX7_turnsOn_17 : decode cX7_turnsOn 17 = .ok (.iload 5, 2) := by decide +kernel
theorem dX7_turnsOn_19 : decode cX7_turnsOn 19 = .ok (.aload_n 0, 1) := by decide +kernel
theorem dX7_turnsOn_20 : decode cX7_turnsOn 20 = .ok (.getfield 296, 3) := by decide +kernel
theorem dX7_turnsOn_23 : decode cX7_turnsOn 23 = .ok (.if_icmp .gt 116, 3) := by decide +kernel
theorem dX7_turnsOn_26 : decode cX7_turnsOn 26 = .ok (.iconst 0, 1) := by decide +kernel
theorem dX7_turnsOn_27 : decode cX7_turnsOn 27 = .ok (.istore 6, 2) := by decide +kernel
theorem dX7_turnsOn_29 : decode cX7_turnsOn 29 = .ok (.iload 6, 2) := by decide +kernel
theorem dX7_turnsOn_31 : decode cX7_turnsOn 31 = .ok (.aload_n 0, 1) := by decide +kernel
theorem dX7_turnsOn_32 : decode cX7_turnsOn 32 = .ok (.getfield 299, 3) := by decide +kernel
theorem dX7_turnsOn_35 : decode cX7_turnsOn 35 = .ok (.if_icmp .gt 98, 3) := by decide +kernel
theorem dX7_turnsOn_38 : decode cX7_turnsOn 38 = .ok (.iconst 0, 1) := by decide +kernel
theorem dX7_turnsOn_39 : decode cX7_turnsOn 39 = .ok (.istore 7, 2) := by decide +kernel
theorem dX7_turnsOn_41 : decode cX7_turnsOn 41 = .ok (.iload 7, 2) := by decide +kernel
theorem dX7_turnsOn_43 : decode cX7_turnsOn 43 = .ok (.aload_n 0, 1) := by decide +kernel
theorem dX7_turnsOn_44 : decode cX7_turnsOn 44 = .ok (.getfield 302, 3) := by decide +kernel
theorem dX7_turnsOn_47 : decode cX7_turnsOn 47 = .ok (.if_icmp .gt 80, 3) := by decide +kernel
theorem dX7_turnsOn_50 : decode cX7_turnsOn 50 = .ok (.aload_n 0, 1) := by decide +kernel
theorem dX7_turnsOn_51 : decode cX7_turnsOn 51 = .ok (.iload 4, 2) := by decide +kernel
theorem dX7_turnsOn_53 : decode cX7_turnsOn 53 = .ok (.iload 5, 2) := by decide +kernel
theorem dX7_turnsOn_55 : decode cX7_turnsOn 55 = .ok (.iload 6, 2) := by decide +kernel
theorem dX7_turnsOn_57 : decode cX7_turnsOn 57 = .ok (.iload 7, 2) := by decide +kernel
theorem dX7_turnsOn_59 : decode cX7_turnsOn 59 = .ok (.invokevirtual 315, 3) := by decide +kernel
theorem dX7_turnsOn_62 : decode cX7_turnsOn 62 = .ok (.istore 8, 2) := by decide +kernel
theorem dX7_turnsOn_64 : decode cX7_turnsOn 64 = .ok (.aload_n 0, 1) := by decide +kernel
theorem dX7_turnsOn_65 : decode cX7_turnsOn 65 = .ok (.getfield 319, 3) := by decide +kernel
theorem dX7_turnsOn_68 : decode cX7_turnsOn 68 = .ok (.iload 8, 2) := by decide +kernel
theorem dX7_turnsOn_70 : decode cX7_turnsOn 70 = .ok (.iload_n 2, 1) := by decide +kernel
theorem dX7_turnsOn_71 : decode cX7_turnsOn 71 = .ok (.ifCond .eq 7, 3) := by decide +kernel
theorem dX7_turnsOn_74 : decode cX7_turnsOn 74 = .ok (.iconst 0, 1) := by decide +kernel
theorem dX7_turnsOn_75 : decode cX7_turnsOn 75 = .ok (.goto 16, 3) := by decide +kernel
theorem dX7_turnsOn_78 : decode cX7_turnsOn 78 = .ok (.aload_n 0, 1) := by decide +kernel
theorem dX7_turnsOn_79 : decode cX7_turnsOn 79 = .ok (.iload_n 1, 1) := by decide +kernel
theorem dX7_turnsOn_80 : decode cX7_turnsOn 80 = .ok (.iload 4, 2) := by decide +kernel
theorem dX7_turnsOn_82 : decode cX7_turnsOn 82 = .ok (.iload 5, 2) := by decide +kernel
theorem dX7_turnsOn_84 : decode cX7_turnsOn 84 = .ok (.iload 6, 2) := by decide +kernel
theorem dX7_turnsOn_86 : decode cX7_turnsOn 86 = .ok (.iload 7, 2) := by decide +kernel
theorem dX7_turnsOn_88 : decode cX7_turnsOn 88 = .ok (.invokevirtual 322, 3) := by decide +kernel
theorem dX7_turnsOn_91 : decode cX7_turnsOn 91 = .ok (.iastore, 1) := by decide +kernel
theorem dX7_turnsOn_92 : decode cX7_turnsOn 92 = .ok (.iload_n 3, 1) := by decide +kernel
theorem dX7_turnsOn_93 : decode cX7_turnsOn 93 = .ok (.iload_n 2, 1) := by decide +kernel
theorem dX7_turnsOn_94 : decode cX7_turnsOn 94 = .ok (.ifCond .ne 24, 3) := by decide +kernel
theorem dX7_turnsOn_97 : decode cX7_turnsOn 97 = .ok (.aload_n 0, 1) := by decide +kernel
theorem dX7_turnsOn_98 : decode cX7_turnsOn 98 = .ok (.getfield 319, 3) := by decide +kernel
theorem dX7_turnsOn_101 : decode cX7_turnsOn 101 = .ok (.iload 8, 2) := by decide +kernel
theorem dX7_turnsOn_103 : decode cX7_turnsOn 103 = .ok (.iaload, 1) := by decide +kernel
theorem dX7_turnsOn_104 : decode cX7_turnsOn 104 = .ok (.aload_n 0, 1) := by decide +kernel
theorem dX7_turnsOn_105 : decode cX7_turnsOn 105 = .ok (.getfield 312, 3) := by decide +kernel
theorem dX7_turnsOn_108 : decode cX7_turnsOn 108 = .ok (.iload 8, 2) := by decide +kernel
theorem dX7_turnsOn_110 : decode cX7_turnsOn 110 = .ok (.iaload, 1) := by decide +kernel
theorem dX7_turnsOn_111 : decode cX7_turnsOn 111 = .ok (.if_icmp .eq 7, 3) := by decide +kernel
theorem dX7_turnsOn_114 : decode cX7_turnsOn 114 = .ok (.iconst 1, 1) := by decide +kernel
theorem dX7_turnsOn_115 : decode cX7_turnsOn 115 = .ok (.goto 4, 3) := by decide +kernel
theorem dX7_turnsOn_118 : decode cX7_turnsOn 118 = .ok (.iconst 0, 1) := by decide +kernel
theorem dX7_turnsOn_119 : decode cX7_turnsOn 119 = .ok (.ior, 1) := by decide +kernel
theorem dX7_turnsOn_120 : decode cX7_turnsOn 120 = .ok (.istore_n 3, 1) := by decide +kernel
theorem dX7_turnsOn_121 : decode cX7_turnsOn 121 = .ok (.iinc 7 1, 3) := by decide +kernel
theorem dX7_turnsOn_124 : decode cX7_turnsOn 124 = .ok (.goto (-83), 3) := by decide +kernel
theorem dX7_turnsOn_127 : decode cX7_turnsOn 127 = .ok (.iinc 6 1, 3) := by decide +kernel
theorem dX7_turnsOn_130 : decode cX7_turnsOn 130 = .ok (.goto (-101), 3) := by decide +kernel
theorem dX7_turnsOn_133 : decode cX7_turnsOn 133 = .ok (.iinc 5 1, 3) := by decide +kernel
theorem dX7_turnsOn_136 : decode cX7_turnsOn 136 = .ok (.goto (-119), 3) := by decide +kernel
theorem dX7_turnsOn_139 : decode cX7_turnsOn 139 = .ok (.iinc 4 1, 3) := by decide +kernel
theorem dX7_turnsOn_142 : decode cX7_turnsOn 142 = .ok (.goto (-137), 3) := by decide +kernel
theorem dX7_turnsOn_145 : decode cX7_turnsOn 145 = .ok (.aload_n 0, 1) := by decide +kernel
theorem dX7_turnsOn_146 : decode cX7_turnsOn 146 = .ok (.getfield 312, 3) := by decide +kernel
theorem dX7_turnsOn_149 : decode cX7_turnsOn 149 = .ok (.astore 4, 2) := by decide +kernel
theorem dX7_turnsOn_151 : decode cX7_turnsOn 151 = .ok (.aload_n 0, 1) := by decide +kernel
theorem dX7_turnsOn_152 : decode cX7_turnsOn 152 = .ok (.aload_n 0, 1) := by decide +kernel
theorem dX7_turnsOn_153 : decode cX7_turnsOn 153 = .ok (.getfield 319, 3) := by decide +kernel
theorem dX7_turnsOn_156 : decode cX7_turnsOn 156 = .ok (.putfield 312, 3) := by decide +kernel
theorem dX7_turnsOn_159 : decode cX7_turnsOn 159 = .ok (.aload_n 0, 1) := by decide +kernel
theorem dX7_turnsOn_160 : decode cX7_turnsOn 160 = .ok (.aload 4, 2) := by decide +kernel
theorem dX7_turnsOn_162 : decode cX7_turnsOn 162 = .ok (.putfield 319, 3) := by decide +kernel
theorem dX7_turnsOn_165 : decode cX7_turnsOn 165 = .ok (.iload_n 3, 1) := by decide +kernel
theorem dX7_turnsOn_166 : decode cX7_turnsOn 166 = .ok (.ireturn, 1) := by decide +kernel
theorem dX7_lastsBy_0 : decode cX7_lastsBy 0 = .ok (.aload_n 0, 1) := by decide +kernel
theorem dX7_lastsBy_1 : decode cX7_lastsBy 1 = .ok (.getfield 319, 3) := by decide +kernel
theorem dX7_lastsBy_4 : decode cX7_lastsBy 4 = .ok (.ifnonnull 21, 3) := by decide +kernel
theorem dX7_lastsBy_7 : decode cX7_lastsBy 7 = .ok (.aload_n 0, 1) := by decide +kernel
theorem dX7_lastsBy_8 : decode cX7_lastsBy 8 = .ok (.sipush 6000, 3) := by decide +kernel
theorem dX7_lastsBy_11 : decode cX7_lastsBy 11 = .ok (.newarray .int, 2) := by decide +kernel
theorem dX7_lastsBy_13 : decode cX7_lastsBy 13 = .ok (.putfield 319, 3) := by decide +kernel
theorem dX7_lastsBy_16 : decode cX7_lastsBy 16 = .ok (.aload_n 0, 1) := by decide +kernel
theorem dX7_lastsBy_17 : decode cX7_lastsBy 17 = .ok (.sipush 6000, 3) := by decide +kernel
theorem dX7_lastsBy_20 : decode cX7_lastsBy 20 = .ok (.newarray .int, 2) := by decide +kernel
theorem dX7_lastsBy_22 : decode cX7_lastsBy 22 = .ok (.putfield 312, 3) := by decide +kernel
theorem dX7_lastsBy_25 : decode cX7_lastsBy 25 = .ok (.aload_n 0, 1) := by decide +kernel
theorem dX7_lastsBy_26 : decode cX7_lastsBy 26 = .ok (.iload_n 2, 1) := by decide +kernel
theorem dX7_lastsBy_27 : decode cX7_lastsBy 27 = .ok (.putfield 309, 3) := by decide +kernel
theorem dX7_lastsBy_30 : decode cX7_lastsBy 30 = .ok (.aload_n 0, 1) := by decide +kernel
theorem dX7_lastsBy_31 : decode cX7_lastsBy 31 = .ok (.iconst 0, 1) := by decide +kernel
theorem dX7_lastsBy_32 : decode cX7_lastsBy 32 = .ok (.putfield 296, 3) := by decide +kernel
theorem dX7_lastsBy_35 : decode cX7_lastsBy 35 = .ok (.aload_n 0, 1) := by decide +kernel
theorem dX7_lastsBy_36 : decode cX7_lastsBy 36 = .ok (.iconst 0, 1) := by decide +kernel
theorem dX7_lastsBy_37 : decode cX7_lastsBy 37 = .ok (.putfield 299, 3) := by decide +kernel
theorem dX7_lastsBy_40 : decode cX7_lastsBy 40 = .ok (.aload_n 0, 1) := by decide +kernel
theorem dX7_lastsBy_41 : decode cX7_lastsBy 41 = .ok (.iconst 0, 1) := by decide +kernel
theorem dX7_lastsBy_42 : decode cX7_lastsBy 42 = .ok (.putfield 302, 3) := by decide +kernel
theorem dX7_lastsBy_45 : decode cX7_lastsBy 45 = .ok (.iload_n 2, 1) := by decide +kernel
theorem dX7_lastsBy_46 : decode cX7_lastsBy 46 = .ok (.istore_n 3, 1) := by decide +kernel
theorem dX7_lastsBy_47 : decode cX7_lastsBy 47 = .ok (.iconst 0, 1) := by decide +kernel
theorem dX7_lastsBy_48 : decode cX7_lastsBy 48 = .ok (.istore 4, 2) := by decide +kernel
theorem dX7_lastsBy_50 : decode cX7_lastsBy 50 = .ok (.iconst 0, 1) := by decide +kernel
theorem dX7_lastsBy_51 : decode cX7_lastsBy 51 = .ok (.istore 5, 2) := by decide +kernel
theorem dX7_lastsBy_53 : decode cX7_lastsBy 53 = .ok (.iload 5, 2) := by decide +kernel
theorem dX7_lastsBy_55 : decode cX7_lastsBy 55 = .ok (.aload_n 0, 1) := by decide +kernel
theorem dX7_lastsBy_56 : decode cX7_lastsBy 56 = .ok (.getfield 61, 3) := by decide +kernel
theorem dX7_lastsBy_59 : decode cX7_lastsBy 59 = .ok (.if_icmp .ge 173, 3) := by decide +kernel
theorem dX7_lastsBy_62 : decode cX7_lastsBy 62 = .ok (.aload_n 0, 1) := by decide +kernel
theorem dX7_lastsBy_63 : decode cX7_lastsBy 63 = .ok (.getfield 39, 3) := by decide +kernel
theorem dX7_lastsBy_66 : decode cX7_lastsBy 66 = .ok (.iload 5, 2) := by decide +kernel
theorem dX7_lastsBy_68 : decode cX7_lastsBy 68 = .ok (.aaload, 1) := by decide +kernel
theorem dX7_lastsBy_69 : decode cX7_lastsBy 69 = .ok (.iconst 0, 1) := by decide +kernel
theorem dX7_lastsBy_70 : decode cX7_lastsBy 70 = .ok (.iaload, 1) := by decide +kernel
theorem dX7_lastsBy_71 : decode cX7_lastsBy 71 = .ok (.istore 6, 2) := by decide +kernel
theorem dX7_lastsBy_73 : decode cX7_lastsBy 73 = .ok (.aload_n 0, 1) := by decide +kernel
theorem dX7_lastsBy_74 : decode cX7_lastsBy 74 = .ok (.getfield 108, 3) := by decide +kernel
theorem dX7_lastsBy_77 : decode cX7_lastsBy 77 = .ok (.iload 5, 2) := by decide +kernel
theorem dX7_lastsBy_79 : decode cX7_lastsBy 79 = .ok (.ishr, 1) := by decide +kernel
theorem dX7_lastsBy_80 : decode cX7_lastsBy 80 = .ok (.iconst 1, 1) := by decide +kernel
theorem dX7_lastsBy_81 : decode cX7_lastsBy 81 = .ok (.iand, 1) := by decide +kernel
theorem dX7_lastsBy_82 : decode cX7_lastsBy 82 = .ok (.istore 7, 2) := by decide +kernel
theorem dX7_lastsBy_84 : decode cX7_lastsBy 84 = .ok (.aload_n 0, 1) := by decide +kernel
theorem dX7_lastsBy_85 : decode cX7_lastsBy 85 = .ok (.dup, 1) := by decide +kernel
theorem dX7_lastsBy_86 : decode cX7_lastsBy 86 = .ok (.getfield 309, 3) := by decide +kernel
theorem dX7_lastsBy_89 : decode cX7_lastsBy 89 = .ok (.iload 6, 2) := by decide +kernel
theorem dX7_lastsBy_91 : decode cX7_lastsBy 91 = .ok (.iconst 5, 1) := by decide +kernel
theorem dX7_lastsBy_92 : decode cX7_lastsBy 92 = .ok (.if_icmp .eq 15, 3) := by decide +kernel
theorem dX7_lastsBy_95 : decode cX7_lastsBy 95 = .ok (.iload 6, 2) := by decide +kernel
theorem dX7_lastsBy_97 : decode cX7_lastsBy 97 = .ok (.iconst 4, 1) := by decide +kernel
theorem dX7_lastsBy_98 : decode cX7_lastsBy 98 = .ok (.if_icmp .eq 9, 3) := by decide +kernel
theorem dX7_lastsBy_101 : decode cX7_lastsBy 101 = .ok (.iload 6, 2) := by decide +kernel
theorem dX7_lastsBy_103 : decode cX7_lastsBy 103 = .ok (.iconst 2, 1) := by decide +kernel
theorem dX7_lastsBy_104 : decode cX7_lastsBy 104 = .ok (.if_icmp .ne 7, 3) := by decide +kernel
theorem dX7_lastsBy_107 : decode cX7_lastsBy 107 = .ok (.iconst 0, 1) := by decide +kernel
theorem dX7_lastsBy_108 : decode cX7_lastsBy 108 = .ok (.goto 4, 3) := by decide +kernel
theorem dX7_lastsBy_111 : decode cX7_lastsBy 111 = .ok (.iconst 1, 1) := by decide +kernel
theorem dX7_lastsBy_112 : decode cX7_lastsBy 112 = .ok (.iadd, 1) := by decide +kernel
theorem dX7_lastsBy_113 : decode cX7_lastsBy 113 = .ok (.putfield 309, 3) := by decide +kernel
theorem dX7_lastsBy_116 : decode cX7_lastsBy 116 = .ok (.iload_n 3, 1) := by decide +kernel
theorem dX7_lastsBy_117 : decode cX7_lastsBy 117 = .ok (.iload 6, 2) := by decide +kernel
theorem dX7_lastsBy_119 : decode cX7_lastsBy 119 = .ok (.iconst 5, 1) := by decide +kernel
theorem dX7_lastsBy_120 : decode cX7_lastsBy 120 = .ok (.if_icmp .eq 15, 3) := by decide +kernel
theorem dX7_lastsBy_123 : decode cX7_lastsBy 123 = .ok (.iload 6, 2) := by decide +kernel
theorem dX7_lastsBy_125 : decode cX7_lastsBy 125 = .ok (.iconst 4, 1) := by decide +kernel
theorem dX7_lastsBy_126 : decode cX7_lastsBy 126 = .ok (.if_icmp .eq 9, 3) := by decide +kernel
theorem dX7_lastsBy_129 : decode cX7_lastsBy 129 = .ok (.iload 6, 2) := by decide +kernel
theorem dX7_lastsBy_131 : decode cX7_lastsBy 131 = .ok (.iconst 2, 1) := by decide +kernel
theorem dX7_lastsBy_132 : decode cX7_lastsBy 132 = .ok (.if_icmp .ne 7, 3) := by decide +kernel
theorem dX7_lastsBy_135 : decode cX7_lastsBy 135 = .ok (.iconst 0, 1) := by decide +kernel
theorem dX7_lastsBy_136 : decode cX7_lastsBy 136 = .ok (.goto 5, 3) := by decide +kernel
theorem dX7_lastsBy_139 : decode cX7_lastsBy 139 = .ok (.iload 7, 2) := by decide +kernel
theorem dX7_lastsBy_141 : decode cX7_lastsBy 141 = .ok (.iadd, 1) := by decide +kernel
theorem dX7_lastsBy_142 : decode cX7_lastsBy 142 = .ok (.istore_n 3, 1) := by decide +kernel
theorem dX7_lastsBy_143 : decode cX7_lastsBy 143 = .ok (.aload_n 0, 1) := by decide +kernel
theorem dX7_lastsBy_144 : decode cX7_lastsBy 144 = .ok (.dup, 1) := by decide +kernel
theorem dX7_lastsBy_145 : decode cX7_lastsBy 145 = .ok (.getfield 296, 3) := by decide +kernel
theorem dX7_lastsBy_148 : decode cX7_lastsBy 148 = .ok (.iload 6, 2) := by decide +kernel
theorem dX7_lastsBy_150 : decode cX7_lastsBy 150 = .ok (.iconst 2, 1) := by decide +kernel
theorem dX7_lastsBy_151 : decode cX7_lastsBy 151 = .ok (.if_icmp .ne 7, 3) := by decide +kernel
theorem dX7_lastsBy_154 : decode cX7_lastsBy 154 = .ok (.iconst 1, 1) := by decide +kernel
theorem dX7_lastsBy_155 : decode cX7_lastsBy 155 = .ok (.goto 4, 3) := by decide +kernel
theorem dX7_lastsBy_158 : decode cX7_lastsBy 158 = .ok (.iconst 0, 1) := by decide +kernel
theorem dX7_lastsBy_159 : decode cX7_lastsBy 159 = .ok (.iadd, 1) := by decide +kernel
theorem dX7_lastsBy_160 : decode cX7_lastsBy 160 = .ok (.putfield 296, 3) := by decide +kernel
theorem dX7_lastsBy_163 : decode cX7_lastsBy 163 = .ok (.iload 4, 2) := by decide +kernel
theorem dX7_lastsBy_165 : decode cX7_lastsBy 165 = .ok (.iload 6, 2) := by decide +kernel
theorem dX7_lastsBy_167 : decode cX7_lastsBy 167 = .ok (.iconst 2, 1) := by decide +kernel
theorem dX7_lastsBy_168 : decode cX7_lastsBy 168 = .ok (.if_icmp .ne 8, 3) := by decide +kernel
theorem dX7_lastsBy_171 : decode cX7_lastsBy 171 = .ok (.iload 7, 2) := by decide +kernel
theorem dX7_lastsBy_173 : decode cX7_lastsBy 173 = .ok (.goto 4, 3) := by decide +kernel
theorem dX7_lastsBy_176 : decode cX7_lastsBy 176 = .ok (.iconst 0, 1) := by decide +kernel
theorem dX7_lastsBy_177 : decode cX7_lastsBy 177 = .ok (.iadd, 1) := by decide +kernel
theorem dX7_lastsBy_178 : decode cX7_lastsBy 178 = .ok (.istore 4, 2) := by decide +kernel
theorem dX7_lastsBy_180 : decode cX7_lastsBy 180 = .ok (.aload_n 0, 1) := by decide +kernel
theorem dX7_lastsBy_181 : decode cX7_lastsBy 181 = .ok (.dup, 1) := by decide +kernel
theorem dX7_lastsBy_182 : decode cX7_lastsBy 182 = .ok (.getfield 299, 3) := by decide +kernel
theorem dX7_lastsBy_185 : decode cX7_lastsBy 185 = .ok (.iload 6, 2) := by decide +kernel
theorem dX7_lastsBy_187 : decode cX7_lastsBy 187 = .ok (.iconst 5, 1) := by decide +kernel
theorem dX7_lastsBy_188 : decode cX7_lastsBy 188 = .ok (.if_icmp .ne 10, 3) := by decide +kernel
theorem dX7_lastsBy_191 : decode cX7_lastsBy 191 = .ok (.iconst 1, 1) := by decide +kernel
theorem dX7_lastsBy_192 : decode cX7_lastsBy 192 = .ok (.iload 7, 2) := by decide +kernel
theorem dX7_lastsBy_194 : decode cX7_lastsBy 194 = .ok (.isub, 1) := by decide +kernel
theorem dX7_lastsBy_195 : decode cX7_lastsBy 195 = .ok (.goto 4, 3) := by decide +kernel
theorem dX7_lastsBy_198 : decode cX7_lastsBy 198 = .ok (.iconst 0, 1) := by decide +kernel
theorem dX7_lastsBy_199 : decode cX7_lastsBy 199 = .ok (.iadd, 1) := by decide +kernel
theorem dX7_lastsBy_200 : decode cX7_lastsBy 200 = .ok (.putfield 299, 3) := by decide +kernel
theorem dX7_lastsBy_203 : decode cX7_lastsBy 203 = .ok (.aload_n 0, 1) := by decide +kernel
theorem dX7_lastsBy_204 : decode cX7_lastsBy 204 = .ok (.dup, 1) := by decide +kernel
theorem dX7_lastsBy_205 : decode cX7_lastsBy 205 = .ok (.getfield 302, 3) := by decide +kernel
theorem dX7_lastsBy_208 : decode cX7_lastsBy 208 = .ok (.iload 6, 2) := by decide +kernel
theorem dX7_lastsBy_210 : decode cX7_lastsBy 210 = .ok (.iconst 4, 1) := by decide +kernel
theorem dX7_lastsBy_211 : decode cX7_lastsBy 211 = .ok (.if_icmp .ne 10, 3) := by decide +kernel
theorem dX7_lastsBy_214 : decode cX7_lastsBy 214 = .ok (.iconst 1, 1) := by decide +kernel
theorem dX7_lastsBy_215 : decode cX7_lastsBy 215 = .ok (.iload 7, 2) := by decide +kernel
theorem dX7_lastsBy_217 : decode cX7_lastsBy 217 = .ok (.isub, 1) := by decide +kernel
theorem dX7_lastsBy_218 : decode cX7_lastsBy 218 = .ok (.goto 4, 3) := by decide +kernel
theorem dX7_lastsBy_221 : decode cX7_lastsBy 221 = .ok (.iconst 0, 1) := by decide +kernel
theorem dX7_lastsBy_222 : decode cX7_lastsBy 222 = .ok (.iadd, 1) := by decide +kernel
theorem dX7_lastsBy_223 : decode cX7_lastsBy 223 = .ok (.putfield 302, 3) := by decide +kernel
theorem dX7_lastsBy_226 : decode cX7_lastsBy 226 = .ok (.iinc 5 1, 3) := by decide +kernel
theorem dX7_lastsBy_229 : decode cX7_lastsBy 229 = .ok (.goto (-176), 3) := by decide +kernel
theorem dX7_lastsBy_232 : decode cX7_lastsBy 232 = .ok (.aload_n 0, 1) := by decide +kernel
theorem dX7_lastsBy_233 : decode cX7_lastsBy 233 = .ok (.iload_n 1, 1) := by decide +kernel
theorem dX7_lastsBy_234 : decode cX7_lastsBy 234 = .ok (.iconst 1, 1) := by decide +kernel
theorem dX7_lastsBy_235 : decode cX7_lastsBy 235 = .ok (.invokevirtual 326, 3) := by decide +kernel
theorem dX7_lastsBy_238 : decode cX7_lastsBy 238 = .ok (.istore 5, 2) := by decide +kernel
theorem dX7_lastsBy_240 : decode cX7_lastsBy 240 = .ok (.iconst 1, 1) := by decide +kernel
theorem dX7_lastsBy_241 : decode cX7_lastsBy 241 = .ok (.istore 6, 2) := by decide +kernel
theorem dX7_lastsBy_243 : decode cX7_lastsBy 243 = .ok (.iload 6, 2) := by decide +kernel
theorem dX7_lastsBy_245 : decode cX7_lastsBy 245 = .ok (.bipush 99, 2) := by decide +kernel
theorem dX7_lastsBy_247 : decode cX7_lastsBy 247 = .ok (.if_icmp .gt 22, 3) := by decide +kernel
theorem dX7_lastsBy_250 : decode cX7_lastsBy 250 = .ok (.iload 5, 2) := by decide +kernel
theorem dX7_lastsBy_252 : decode cX7_lastsBy 252 = .ok (.ifCond .eq 17, 3) := by decide +kernel
theorem dX7_lastsBy_255 : decode cX7_lastsBy 255 = .ok (.aload_n 0, 1) := by decide +kernel
theorem dX7_lastsBy_256 : decode cX7_lastsBy 256 = .ok (.iload_n 1, 1) := by decide +kernel
theorem dX7_lastsBy_257 : decode cX7_lastsBy 257 = .ok (.iconst 0, 1) := by decide +kernel
theorem dX7_lastsBy_258 : decode cX7_lastsBy 258 = .ok (.invokevirtual 326, 3) := by decide +kernel
theorem dX7_lastsBy_261 : decode cX7_lastsBy 261 = .ok (.istore 5, 2) := by decide +kernel
theorem dX7_lastsBy_263 : decode cX7_lastsBy 263 = .ok (.iinc 6 1, 3) := by decide +kernel
theorem dX7_lastsBy_266 : decode cX7_lastsBy 266 = .ok (.goto (-23), 3) := by decide +kernel
theorem dX7_lastsBy_269 : decode cX7_lastsBy 269 = .ok (.aload_n 0, 1) := by decide +kernel
theorem dX7_lastsBy_270 : decode cX7_lastsBy 270 = .ok (.getfield 312, 3) := by decide +kernel
theorem dX7_lastsBy_273 : decode cX7_lastsBy 273 = .ok (.aload_n 0, 1) := by decide +kernel
theorem dX7_lastsBy_274 : decode cX7_lastsBy 274 = .ok (.iload_n 3, 1) := by decide +kernel
theorem dX7_lastsBy_275 : decode cX7_lastsBy 275 = .ok (.iload 4, 2) := by decide +kernel
theorem dX7_lastsBy_277 : decode cX7_lastsBy 277 = .ok (.aload_n 0, 1) := by decide +kernel
theorem dX7_lastsBy_278 : decode cX7_lastsBy 278 = .ok (.getfield 299, 3) := by decide +kernel
theorem dX7_lastsBy_281 : decode cX7_lastsBy 281 = .ok (.aload_n 0, 1) := by decide +kernel
theorem dX7_lastsBy_282 : decode cX7_lastsBy 282 = .ok (.getfield 302, 3) := by decide +kernel
theorem dX7_lastsBy_285 : decode cX7_lastsBy 285 = .ok (.invokevirtual 315, 3) := by decide +kernel
theorem dX7_lastsBy_288 : decode cX7_lastsBy 288 = .ok (.iaload, 1) := by decide +kernel
theorem dX7_lastsBy_289 : decode cX7_lastsBy 289 = .ok (.ireturn, 1) := by decide +kernel
def f_X7_noTold (h : xH) (a0 : Nat) (p1 : Int32) (p2 : Int32) (p3 : Int32) : Option (Int32 × xH) :=
  (f_X7_in h p1.toInt64 (0 : Int64) (7 : Int64)).bind fun q1 =>
  if q1 = 0 then
    (x_ob h a0 7).bind fun u2 =>
    (f_X7_refuse h a0 (-2 : Int32)).bind fun q3 =>
    some (q3.1, q3.2)
  else
    (f_X7_in h p2.toInt64 (0 : Int64) p3.toInt64).bind fun q4 =>
    if q4 = 0 then
      (x_ob h a0 7).bind fun u5 =>
      (f_X7_refuse h a0 (-2 : Int32)).bind fun q6 =>
      some (q6.1, q6.2)
    else
      (x_ob h a0 7).bind fun u7 =>
      (f_X7_noRow h a0 p1).bind fun q8 =>
      if q8.1 = 0 then
        (x_gR q8.2 a0 7 2).bind fun a9 =>
        (x_ld q8.2 a9 p1).bind fun x10 =>
        if p2 ≤ x10 then
          some ((0 : Int32), q8.2)
        else
          (x_ob q8.2 a0 7).bind fun u11 =>
          (f_X7_refuse q8.2 a0 (-2 : Int32)).bind fun q12 =>
          some (q12.1, q12.2)
      else
        some (q8.1, q8.2)
set_option maxRecDepth 100000 in
set_option maxHeartbeats 4000000 in
theorem c_X7_noTold {h : xH} {a0 : Nat} {p1 : Int32} {p2 : Int32} {p3 : Int32} {r9 : Int32} {hz : xH} (hE : f_X7_noTold h a0 p1 p2 p3 = some (r9, hz)) : Ctr M_X7_noTold [.ref a0, .int p1, .int p2, .int p3] h (some (.int r9)) hz 0 0 := by
  refine ctr_of (by decide) (fun _ _ => Nat.le_of_ble_eq_true rfl) (fun S => ?_)
  show Y S M_X7_noTold h (some (.int r9)) hz 0 0 0 [(0, .ref a0), (1, .int p1), (2, .int p2), (3, .int p3)] [] h 0 0
  unfold f_X7_noTold at hE
  refine y_iload_n dX7_noTold_0 1 rfl ?_
  refine y_i2l dX7_noTold_1 ?_
  refine y_lconst (v := (0 : Int64)) dX7_noTold_2 (by decide) ?_
  refine y_ldc2 (v := (7 : Int64)) (x_wt (tb 1051 (by decide +kernel)) rfl) dX7_noTold_3 ?_
  obtain ⟨q1, eq1, hE⟩ := Option.bind_eq_some_iff.mp hE
  refine y_cSi0 (st := []) (as := [.long p1.toInt64, .long (0 : Int64), .long (7 : Int64)]) (c_X7_in eq1) lk_X7_64 st_X7_in ⟨Nat.le_of_ble_eq_true rfl, Nat.le_of_ble_eq_true rfl⟩ (Nat.le_of_ble_eq_true rfl) dX7_noTold_6 ⟨Nat.le_refl _, Nat.le_refl _⟩ rfl ?_
  refine y_if_eq (tgt := 23) dX7_noTold_9 (by decide) (fun hc16 => ?_) (fun hc16 => ?_)
  · rw [if_pos hc16] at hE
    refine y_aload_n dX7_noTold_23 0 rfl ?_
    refine y_bipush (v := (-2 : Int32)) dX7_noTold_24 (by decide) ?_
    obtain ⟨u2, eu2, hE⟩ := Option.bind_eq_some_iff.mp hE
    obtain ⟨q3, eq3, hE⟩ := Option.bind_eq_some_iff.mp hE
    refine y_cVi0 (st := []) (as := [.int (-2 : Int32)]) (c_X7_refuse eq3) lk_X7_77 in_X7_refuse se_X7_refuse rfl eu2 ⟨Nat.le_of_ble_eq_true rfl, Nat.le_of_ble_eq_true rfl⟩ (Nat.le_of_ble_eq_true rfl) dX7_noTold_26 ⟨Nat.le_refl _, Nat.le_refl _⟩ rfl ?_
    obtain ⟨rfl, rfl⟩ := x_inj2 hE
    exact y_ret dX7_noTold_29 (Nat.le_refl _) (Nat.le_refl _) ⟨_, rfl, rfl⟩
  · rw [if_neg hc16] at hE
    refine y_iload_n dX7_noTold_12 2 rfl ?_
    refine y_i2l dX7_noTold_13 ?_
    refine y_lconst (v := (0 : Int64)) dX7_noTold_14 (by decide) ?_
    refine y_iload_n dX7_noTold_15 3 rfl ?_
    refine y_i2l dX7_noTold_16 ?_
    obtain ⟨q4, eq4, hE⟩ := Option.bind_eq_some_iff.mp hE
    refine y_cSi0 (st := []) (as := [.long p2.toInt64, .long (0 : Int64), .long p3.toInt64]) (c_X7_in eq4) lk_X7_64 st_X7_in ⟨Nat.le_of_ble_eq_true rfl, Nat.le_of_ble_eq_true rfl⟩ (Nat.le_of_ble_eq_true rfl) dX7_noTold_17 ⟨Nat.le_refl _, Nat.le_refl _⟩ rfl ?_
    refine y_if_ne (tgt := 30) dX7_noTold_20 (by decide) (fun hc15 => ?_) (fun hc15 => ?_)
    · rw [if_pos hc15] at hE
      refine y_aload_n dX7_noTold_23 0 rfl ?_
      refine y_bipush (v := (-2 : Int32)) dX7_noTold_24 (by decide) ?_
      obtain ⟨u5, eu5, hE⟩ := Option.bind_eq_some_iff.mp hE
      obtain ⟨q6, eq6, hE⟩ := Option.bind_eq_some_iff.mp hE
      refine y_cVi0 (st := []) (as := [.int (-2 : Int32)]) (c_X7_refuse eq6) lk_X7_77 in_X7_refuse se_X7_refuse rfl eu5 ⟨Nat.le_of_ble_eq_true rfl, Nat.le_of_ble_eq_true rfl⟩ (Nat.le_of_ble_eq_true rfl) dX7_noTold_26 ⟨Nat.le_refl _, Nat.le_refl _⟩ rfl ?_
      obtain ⟨rfl, rfl⟩ := x_inj2 hE
      exact y_ret dX7_noTold_29 (Nat.le_refl _) (Nat.le_refl _) ⟨_, rfl, rfl⟩
    · rw [if_neg hc15] at hE
      refine y_aload_n dX7_noTold_30 0 rfl ?_
      refine y_iload_n dX7_noTold_31 1 rfl ?_
      obtain ⟨u7, eu7, hE⟩ := Option.bind_eq_some_iff.mp hE
      obtain ⟨q8, eq8, hE⟩ := Option.bind_eq_some_iff.mp hE
      refine y_cVi0 (st := []) (as := [.int p1]) (c_X7_noRow eq8) lk_X7_81 in_X7_noRow se_X7_noRow rfl eu7 ⟨Nat.le_of_ble_eq_true rfl, Nat.le_of_ble_eq_true rfl⟩ (Nat.le_of_ble_eq_true rfl) dX7_noTold_32 ⟨Nat.le_refl _, Nat.le_refl _⟩ rfl ?_
      refine y_istore (ls' := [(4, .int q8.1), (0, .ref a0), (1, .int p1), (2, .int p2), (3, .int p3)]) dX7_noTold_35 (by decide) rfl rfl ?_
      refine y_iload dX7_noTold_37 0 rfl ?_
      refine y_if_eq (tgt := 45) dX7_noTold_39 (by decide) (fun hc14 => ?_) (fun hc14 => ?_)
      · rw [if_pos hc14] at hE
        refine y_aload_n dX7_noTold_45 1 rfl ?_
        obtain ⟨a9, ea9, hE⟩ := Option.bind_eq_some_iff.mp hE
        refine y_getR fl_X7_16 ea9 dX7_noTold_46 ?_
        refine y_iload_n dX7_noTold_49 2 rfl ?_
        obtain ⟨x10, ex10, hE⟩ := Option.bind_eq_some_iff.mp hE
        refine y_iald ex10 dX7_noTold_50 ?_
        refine y_iload_n dX7_noTold_51 3 rfl ?_
        refine y_icmp_ge (tgt := 64) dX7_noTold_52 (by decide) (fun hc13 => ?_) (fun hc13 => ?_)
        · rw [if_pos hc13] at hE
          refine y_iconst (v := (0 : Int32)) dX7_noTold_64 (by decide) ?_
          obtain ⟨rfl, rfl⟩ := x_inj2 hE
          exact y_ret dX7_noTold_65 (Nat.le_refl _) (Nat.le_refl _) ⟨_, rfl, rfl⟩
        · rw [if_neg hc13] at hE
          refine y_aload_n dX7_noTold_55 1 rfl ?_
          refine y_bipush (v := (-2 : Int32)) dX7_noTold_56 (by decide) ?_
          obtain ⟨u11, eu11, hE⟩ := Option.bind_eq_some_iff.mp hE
          obtain ⟨q12, eq12, hE⟩ := Option.bind_eq_some_iff.mp hE
          refine y_cVi0 (st := []) (as := [.int (-2 : Int32)]) (c_X7_refuse eq12) lk_X7_77 in_X7_refuse se_X7_refuse rfl eu11 ⟨Nat.le_of_ble_eq_true rfl, Nat.le_of_ble_eq_true rfl⟩ (Nat.le_of_ble_eq_true rfl) dX7_noTold_58 ⟨Nat.le_refl _, Nat.le_refl _⟩ rfl ?_
          refine y_goto (tgt := 65) dX7_noTold_61 (by decide) ?_
          obtain ⟨rfl, rfl⟩ := x_inj2 hE
          exact y_ret dX7_noTold_65 (Nat.le_refl _) (Nat.le_refl _) ⟨_, rfl, rfl⟩
      · rw [if_neg hc14] at hE
        refine y_iload dX7_noTold_42 0 rfl ?_
        obtain ⟨rfl, rfl⟩ := x_inj2 hE
        exact y_ret dX7_noTold_44 (Nat.le_refl _) (Nat.le_refl _) ⟨_, rfl, rfl⟩
def f_X7_errands_L51 (v0 : Nat) (v1 : Int32) (v2 : Int32) (v3 : Int32) : Nat → Int32 → xH → Option (Sum (Int32 × xH) (xH))
  | 0, _, _ => none
  | k + 1, v5, h =>
    if v3 ≤ v5 then
      some (.inr h)
    else
      (x_gR h v0 7 3).bind fun a8 =>
      (x_ldQ h a8 v2).bind fun a9 =>
      (x_ldL h a9 v5).bind fun x10 =>
      (f_X7_isRoom h x10).bind fun q11 =>
      if q11 = 0 then
        some (.inl ((-1 : Int32), h))
      else
        (x_gR h v0 7 29).bind fun a12 =>
        (x_gR h v0 7 3).bind fun a13 =>
        (x_ldQ h a13 v2).bind fun a14 =>
        (x_ldL h a14 v5).bind fun x15 =>
        (x_st h a12 v5 x15.toInt32).bind fun h16 =>
        (some (v5 + (1 : Int32))).bind fun x17 =>
        f_X7_errands_L51 v0 v1 v2 v3 k x17 h16
set_option maxRecDepth 100000 in
set_option maxHeartbeats 4000000 in
theorem l_X7_errands_51 {S : Nat × (Nat → Int32)} {rv : Option Value} {h0 h1 : xH} {mc ms : Nat} {cells slots : Nat} (hm : cells ≤ mc ∧ slots ≤ ms) (v0 : Nat) (v1 : Int32) (v2 : Int32) (v3 : Int32) : ∀ (k : Nat) (v5 : Int32) (h : xH) (res : Sum (Int32 × xH) (xH)), f_X7_errands_L51 v0 v1 v2 v3 k v5 h = some res → (∀ r9, res = .inl r9 → rv = some (.int r9.1) ∧ h1 = r9.2) → (∀ r9, res = .inr r9 → Y S M_X7_errands h0 rv h1 mc ms 97 [(0, .ref v0), (1, .int v1), (3, .int v3)] [] r9 cells slots) → Y S M_X7_errands h0 rv h1 mc ms 51 [(0, .ref v0), (1, .int v1), (2, .int v2), (3, .int v3), (5, .int v5)] [] h cells slots := by
  intro k
  induction k with
  | zero =>
    intro _ _ _ hE
    cases hE
  | succ k ih =>
    intro v5 h res hE KR K
    unfold f_X7_errands_L51 at hE
    refine y_iload dX7_errands_51 4 rfl ?_
    refine y_iload_n dX7_errands_53 3 rfl ?_
    refine y_icmp_ge (tgt := 97) dX7_errands_54 (by decide) (fun hc19 => ?_) (fun hc19 => ?_)
    · rw [if_pos hc19] at hE
      obtain rfl := Option.some.inj hE
      exact y_pick [0, 1, 3] rfl (K _ rfl)
    · rw [if_neg hc19] at hE
      refine y_aload_n dX7_errands_57 0 rfl ?_
      obtain ⟨a8, ea8, hE⟩ := Option.bind_eq_some_iff.mp hE
      refine y_getR fl_X7_21 ea8 dX7_errands_58 ?_
      refine y_iload_n dX7_errands_61 2 rfl ?_
      obtain ⟨a9, ea9, hE⟩ := Option.bind_eq_some_iff.mp hE
      refine y_aald ea9 dX7_errands_62 ?_
      refine y_iload dX7_errands_63 4 rfl ?_
      obtain ⟨x10, ex10, hE⟩ := Option.bind_eq_some_iff.mp hE
      refine y_lald ex10 dX7_errands_65 ?_
      obtain ⟨q11, eq11, hE⟩ := Option.bind_eq_some_iff.mp hE
      refine y_cSi0 (st := []) (as := [.long x10]) (c_X7_isRoom eq11) lk_X7_104 st_X7_isRoom ⟨Nat.le_of_ble_eq_true rfl, Nat.le_of_ble_eq_true rfl⟩ (Nat.le_of_ble_eq_true rfl) dX7_errands_66 hm rfl ?_
      refine y_if_ne (tgt := 74) dX7_errands_69 (by decide) (fun hc18 => ?_) (fun hc18 => ?_)
      · rw [if_pos hc18] at hE
        refine y_iconst (v := (-1 : Int32)) dX7_errands_72 (by decide) ?_
        obtain rfl := Option.some.inj hE
        obtain ⟨rfl, rfl⟩ := KR _ rfl
        dsimp only
        exact y_ret dX7_errands_73 hm.1 hm.2 ⟨_, rfl, rfl⟩
      · rw [if_neg hc18] at hE
        refine y_aload_n dX7_errands_74 0 rfl ?_
        obtain ⟨a12, ea12, hE⟩ := Option.bind_eq_some_iff.mp hE
        refine y_getR fl_X7_55 ea12 dX7_errands_75 ?_
        refine y_iload dX7_errands_78 4 rfl ?_
        refine y_aload_n dX7_errands_80 0 rfl ?_
        obtain ⟨a13, ea13, hE⟩ := Option.bind_eq_some_iff.mp hE
        refine y_getR fl_X7_21 ea13 dX7_errands_81 ?_
        refine y_iload_n dX7_errands_84 2 rfl ?_
        obtain ⟨a14, ea14, hE⟩ := Option.bind_eq_some_iff.mp hE
        refine y_aald ea14 dX7_errands_85 ?_
        refine y_iload dX7_errands_86 4 rfl ?_
        obtain ⟨x15, ex15, hE⟩ := Option.bind_eq_some_iff.mp hE
        refine y_lald ex15 dX7_errands_88 ?_
        refine y_l2i dX7_errands_89 ?_
        obtain ⟨h16, eh16, hE⟩ := Option.bind_eq_some_iff.mp hE
        refine y_iast eh16 dX7_errands_90 ?_
        obtain ⟨x17, ex17, hE⟩ := Option.bind_eq_some_iff.mp hE
        refine y_iinc (ls' := [(5, .int x17), (0, .ref v0), (1, .int v1), (2, .int v2), (3, .int v3)]) dX7_errands_91 4 rfl (Option.some.inj ex17) (by decide) rfl ?_
        refine y_goto (tgt := 51) dX7_errands_94 (by decide) ?_
        refine y_pick [1, 2, 3, 4, 0] rfl ?_
        exact ih _ _ _ hE KR K
def f_X7_errands (n : Nat) (h : xH) (a0 : Nat) (p1 : Int32) (p2 : Int32) (p3 : Int32) : Option ((Int32 × xH) × Nat × Nat) :=
  (x_ob h a0 7).bind fun u1 =>
  (f_X7_isOne h a0 p1).bind fun q2 =>
  if q2 = 0 then
    (x_ob h a0 7).bind fun u3 =>
    (f_X7_refuse h a0 (-2 : Int32)).bind fun q4 =>
    some ((q4.1, q4.2), 0, 0)
  else
    (x_ob h a0 7).bind fun u5 =>
    (f_X7_noTold h a0 p2 p3 (4 : Int32)).bind fun q6 =>
    if q6.1 = 0 then
      (x_gI q6.2 a0 7 9).bind fun x7 =>
      if x7 ≤ (9 : Int32) then
        (f_X7_errands_L51 a0 p1 p2 p3 n (0 : Int32) q6.2).bind fun q20 =>
        match q20 with
        | .inl r21 => some (r21, 0, 0)
        | .inr e22 =>
          (x_put e22 a0 7 30 (.int p3)).bind fun h23 =>
          (x_ob h23 a0 7).bind fun u24 =>
          (f_X7_findComing n h23 a0 p1).bind fun q25 =>
          x_add q25.2.1 q25.2.2 <|
          (x_ob q25.1 a0 7).bind fun u28 =>
          (f_X7_fewest n q25.1 a0).bind fun q29 =>
          some ((q29.1, q29.2), 0, 0)
      else
        (x_ob q6.2 a0 7).bind fun u30 =>
        (f_X7_refuse q6.2 a0 (-5 : Int32)).bind fun q31 =>
        some ((q31.1, q31.2), 0, 0)
    else
      some ((q6.1, q6.2), 0, 0)
set_option maxRecDepth 100000 in
set_option maxHeartbeats 4000000 in
theorem c_X7_errands {n : Nat} {h : xH} {a0 : Nat} {p1 : Int32} {p2 : Int32} {p3 : Int32} {r9 : Int32} {hz : xH} {c9 s9 : Nat} (hE : f_X7_errands n h a0 p1 p2 p3 = some ((r9, hz), c9, s9)) : Ctr M_X7_errands [.ref a0, .int p1, .int p2, .int p3] h (some (.int r9)) hz c9 s9 := by
  refine ctr_of (by decide) (fun _ _ => Nat.le_of_ble_eq_true rfl) (fun S => ?_)
  show Y S M_X7_errands h (some (.int r9)) hz c9 s9 0 [(0, .ref a0), (1, .int p1), (2, .int p2), (3, .int p3)] [] h 0 0
  unfold f_X7_errands at hE
  refine y_aload_n dX7_errands_0 0 rfl ?_
  refine y_iload_n dX7_errands_1 1 rfl ?_
  obtain ⟨u1, eu1, hE⟩ := Option.bind_eq_some_iff.mp hE
  obtain ⟨q2, eq2, hE⟩ := Option.bind_eq_some_iff.mp hE
  refine y_cVi0 (st := []) (as := [.int p1]) (c_X7_isOne eq2) lk_X7_120 in_X7_isOne se_X7_isOne rfl eu1 ⟨Nat.le_of_ble_eq_true rfl, Nat.le_of_ble_eq_true rfl⟩ (Nat.le_of_ble_eq_true rfl) dX7_errands_2 ⟨by omega, by omega⟩ rfl ?_
  refine y_if_ne (tgt := 15) dX7_errands_5 (by decide) (fun hc34 => ?_) (fun hc34 => ?_)
  · rw [if_pos hc34] at hE
    refine y_aload_n dX7_errands_8 0 rfl ?_
    refine y_bipush (v := (-2 : Int32)) dX7_errands_9 (by decide) ?_
    obtain ⟨u3, eu3, hE⟩ := Option.bind_eq_some_iff.mp hE
    obtain ⟨q4, eq4, hE⟩ := Option.bind_eq_some_iff.mp hE
    refine y_cVi0 (st := []) (as := [.int (-2 : Int32)]) (c_X7_refuse eq4) lk_X7_77 in_X7_refuse se_X7_refuse rfl eu3 ⟨Nat.le_of_ble_eq_true rfl, Nat.le_of_ble_eq_true rfl⟩ (Nat.le_of_ble_eq_true rfl) dX7_errands_11 ⟨by omega, by omega⟩ rfl ?_
    obtain ⟨rfl, rfl, rfl, rfl⟩ := x_inj4 hE
    exact y_ret dX7_errands_14 (by omega) (by omega) ⟨_, rfl, rfl⟩
  · rw [if_neg hc34] at hE
    refine y_aload_n dX7_errands_15 0 rfl ?_
    refine y_iload_n dX7_errands_16 2 rfl ?_
    refine y_iload_n dX7_errands_17 3 rfl ?_
    refine y_iconst (v := (4 : Int32)) dX7_errands_18 (by decide) ?_
    obtain ⟨u5, eu5, hE⟩ := Option.bind_eq_some_iff.mp hE
    obtain ⟨q6, eq6, hE⟩ := Option.bind_eq_some_iff.mp hE
    refine y_cVi0 (st := []) (as := [.int p2, .int p3, .int (4 : Int32)]) (c_X7_noTold eq6) lk_X7_293 in_X7_noTold se_X7_noTold rfl eu5 ⟨Nat.le_of_ble_eq_true rfl, Nat.le_of_ble_eq_true rfl⟩ (Nat.le_of_ble_eq_true rfl) dX7_errands_19 ⟨by omega, by omega⟩ rfl ?_
    refine y_istore (ls' := [(4, .int q6.1), (0, .ref a0), (1, .int p1), (2, .int p2), (3, .int p3)]) dX7_errands_22 (by decide) rfl rfl ?_
    refine y_iload dX7_errands_24 0 rfl ?_
    refine y_if_eq (tgt := 32) dX7_errands_26 (by decide) (fun hc33 => ?_) (fun hc33 => ?_)
    · rw [if_pos hc33] at hE
      refine y_aload_n dX7_errands_32 1 rfl ?_
      obtain ⟨x7, ex7, hE⟩ := Option.bind_eq_some_iff.mp hE
      refine y_getI fl_X7_61 ex7 dX7_errands_33 ?_
      refine y_bipush (v := (9 : Int32)) dX7_errands_36 (by decide) ?_
      refine y_icmp_le (tgt := 48) dX7_errands_38 (by decide) (fun hc32 => ?_) (fun hc32 => ?_)
      · rw [if_pos hc32] at hE
        refine y_iconst (v := (0 : Int32)) dX7_errands_48 (by decide) ?_
        refine y_istore (ls' := [(5, .int (0 : Int32)), (4, .int q6.1), (0, .ref a0), (1, .int p1), (2, .int p2), (3, .int p3)]) dX7_errands_49 (by decide) rfl rfl ?_
        obtain ⟨q20, eq20, hE⟩ := Option.bind_eq_some_iff.mp hE
        refine y_pick [2, 3, 4, 5, 0] rfl ?_
        cases q20 with
        | inl r21 =>
          dsimp only at hE
          cases hE
          exact l_X7_errands_51 (S := S) ⟨by omega, by omega⟩ a0 p1 p2 p3 n (0 : Int32) q6.2 _ eq20 (fun r8 hr8 => by cases hr8; exact ⟨rfl, rfl⟩) (fun r8 hr8 => by cases hr8)
        | inr e22 =>
          dsimp only at hE
          refine l_X7_errands_51 (S := S) ⟨by omega, by omega⟩ a0 p1 p2 p3 n (0 : Int32) q6.2 _ eq20 (fun r8 hr8 => by cases hr8) (fun r8 hr8 => ?_)
          cases hr8
          refine y_aload_n dX7_errands_97 0 rfl ?_
          refine y_iload_n dX7_errands_98 2 rfl ?_
          obtain ⟨h23, eh23, hE⟩ := Option.bind_eq_some_iff.mp hE
          refine y_putI fp_X7_256 eh23 dX7_errands_99 ?_
          refine y_aload_n dX7_errands_102 0 rfl ?_
          refine y_iload_n dX7_errands_103 1 rfl ?_
          obtain ⟨u24, eu24, hE⟩ := Option.bind_eq_some_iff.mp hE
          obtain ⟨q25, eq25, hE⟩ := Option.bind_eq_some_iff.mp hE
          obtain ⟨c26, s27, hN, ecc26, ess27⟩ := x_add.spec hE
          clear hE; have hE := hN; clear hN
          refine y_cVv1 (st := []) (as := [.int p1]) (c_X7_findComing (eq25.trans (show some q25 = some (q25.1, q25.2.1, q25.2.2) from rfl))) lk_X7_284 in_X7_findComing se_X7_findComing rfl eu24 ⟨Nat.le_of_ble_eq_true rfl, Nat.le_of_ble_eq_true rfl⟩ (Nat.le_of_ble_eq_true rfl) dX7_errands_104 ⟨by omega, by omega⟩ rfl ?_
          refine y_aload_n dX7_errands_107 0 rfl ?_
          obtain ⟨u28, eu28, hE⟩ := Option.bind_eq_some_iff.mp hE
          obtain ⟨q29, eq29, hE⟩ := Option.bind_eq_some_iff.mp hE
          refine y_cVi0 (st := []) (as := []) (c_X7_fewest eq29) lk_X7_287 in_X7_fewest se_X7_fewest rfl eu28 ⟨Nat.le_of_ble_eq_true rfl, Nat.le_of_ble_eq_true rfl⟩ (Nat.le_of_ble_eq_true rfl) dX7_errands_108 ⟨by omega, by omega⟩ rfl ?_
          obtain ⟨rfl, rfl, rfl, rfl⟩ := x_inj4 hE
          exact y_ret dX7_errands_111 (by omega) (by omega) ⟨_, rfl, rfl⟩
      · rw [if_neg hc32] at hE
        refine y_aload_n dX7_errands_41 1 rfl ?_
        refine y_bipush (v := (-5 : Int32)) dX7_errands_42 (by decide) ?_
        obtain ⟨u30, eu30, hE⟩ := Option.bind_eq_some_iff.mp hE
        obtain ⟨q31, eq31, hE⟩ := Option.bind_eq_some_iff.mp hE
        refine y_cVi0 (st := []) (as := [.int (-5 : Int32)]) (c_X7_refuse eq31) lk_X7_77 in_X7_refuse se_X7_refuse rfl eu30 ⟨Nat.le_of_ble_eq_true rfl, Nat.le_of_ble_eq_true rfl⟩ (Nat.le_of_ble_eq_true rfl) dX7_errands_44 ⟨by omega, by omega⟩ rfl ?_
        obtain ⟨rfl, rfl, rfl, rfl⟩ := x_inj4 hE
        exact y_ret dX7_errands_47 (by omega) (by omega) ⟨_, rfl, rfl⟩
    · rw [if_neg hc33] at hE
      refine y_iload dX7_errands_29 0 rfl ?_
      obtain ⟨rfl, rfl, rfl, rfl⟩ := x_inj4 hE
      exact y_ret dX7_errands_31 (by omega) (by omega) ⟨_, rfl, rfl⟩
def f_X7_lost_L20 (n : Nat) (v0 : Nat) : Nat → Int32 → Int32 → xH → Option ((Int32 × xH) × Nat × Nat)
  | 0, _, _, _ => none
  | k + 1, v1, v2, h =>
    (x_gI h v0 7 12).bind fun x2 =>
    if x2 ≤ v2 then
      some ((v1, h), 0, 0)
    else
      (x_ob h v0 7).bind fun u3 =>
      (f_X7_comingTo n h v0 v2 (0 : Int32)).bind fun q4 =>
      x_add q4.2.1 q4.2.2 <|
      if q4.1.1 = (-1 : Int32) then
        (some (v1 ||| (i_shl (1 : Int32) v2))).bind fun x7 =>
        (some (v2 + (1 : Int32))).bind fun x8 =>
        f_X7_lost_L20 n v0 k x7 x8 q4.1.2
      else
        (some (v1 ||| (0 : Int32))).bind fun x9 =>
        (some (v2 + (1 : Int32))).bind fun x10 =>
        f_X7_lost_L20 n v0 k x9 x10 q4.1.2
set_option maxRecDepth 100000 in
set_option maxHeartbeats 4000000 in
theorem l_X7_lost_20 {S : Nat × (Nat → Int32)} {rv : Option Value} {h0 h1 : xH} {mc ms : Nat} {tc ts : Nat} (n : Nat) (v0 : Nat) : ∀ (k : Nat) (v1 : Int32) (v2 : Int32) (h : xH) (res : Int32 × xH) (c9 s9 cells slots : Nat), f_X7_lost_L20 n v0 k v1 v2 h = some (res, c9, s9) → cells + c9 = tc → slots + s9 = ts → (tc ≤ mc ∧ ts ≤ ms) → (∀ r9, res = r9 → Y S M_X7_lost h0 rv h1 mc ms 54 [(1, .int r9.1)] [] r9.2 tc ts) → Y S M_X7_lost h0 rv h1 mc ms 20 [(0, .ref v0), (1, .int v1), (2, .int v2)] [] h cells slots := by
  intro k
  induction k with
  | zero =>
    intro _ _ _ _ _ _ _ _ hE
    cases hE
  | succ k ih =>
    intro v1 v2 h res c9 s9 cells slots hE hc9 hs9 hm K
    unfold f_X7_lost_L20 at hE
    refine y_iload_n dX7_lost_20 2 rfl ?_
    refine y_aload_n dX7_lost_21 0 rfl ?_
    obtain ⟨x2, ex2, hE⟩ := Option.bind_eq_some_iff.mp hE
    refine y_getI fl_X7_68 ex2 dX7_lost_22 ?_
    refine y_icmp_ge (tgt := 54) dX7_lost_25 (by decide) (fun hc12 => ?_) (fun hc12 => ?_)
    · rw [if_pos hc12] at hE
      obtain ⟨rfl, rfl, rfl⟩ := x_inj3 hE
      refine y_cnt (c2 := tc) (s2 := ts) (by omega) (by omega) ?_
      exact y_pick [1] rfl (K _ rfl)
    · rw [if_neg hc12] at hE
      refine y_iload_n dX7_lost_28 1 rfl ?_
      refine y_aload_n dX7_lost_29 0 rfl ?_
      refine y_iload_n dX7_lost_30 2 rfl ?_
      refine y_iconst (v := (0 : Int32)) dX7_lost_31 (by decide) ?_
      obtain ⟨u3, eu3, hE⟩ := Option.bind_eq_some_iff.mp hE
      obtain ⟨q4, eq4, hE⟩ := Option.bind_eq_some_iff.mp hE
      obtain ⟨c5, s6, hN, ecc5, ess6⟩ := x_add.spec hE
      clear hE; have hE := hN; clear hN
      refine y_cVi1 (st := [.int v1]) (as := [.int v2, .int (0 : Int32)]) (c_X7_comingTo (eq4.trans (show some q4 = some ((q4.1.1, q4.1.2), q4.2.1, q4.2.2) from rfl))) lk_X7_290 in_X7_comingTo se_X7_comingTo rfl eu3 ⟨Nat.le_of_ble_eq_true rfl, Nat.le_of_ble_eq_true rfl⟩ (Nat.le_of_ble_eq_true rfl) dX7_lost_32 ⟨by omega, by omega⟩ rfl ?_
      refine y_iconst (v := (-1 : Int32)) dX7_lost_35 (by decide) ?_
      refine y_icmp_ne (tgt := 45) dX7_lost_36 (by decide) (fun hc11 => ?_) (fun hc11 => ?_)
      · rw [if_pos hc11] at hE
        refine y_iconst (v := (1 : Int32)) dX7_lost_39 (by decide) ?_
        refine y_iload_n dX7_lost_40 2 rfl ?_
        refine y_ishl dX7_lost_41 ?_
        refine y_goto (tgt := 46) dX7_lost_42 (by decide) ?_
        refine y_ior dX7_lost_46 ?_
        obtain ⟨x7, ex7, hE⟩ := Option.bind_eq_some_iff.mp hE
        refine y_istore_n (ls' := [(1, .int x7), (0, .ref v0), (2, .int v2)]) dX7_lost_47 (by decide) (Option.some.inj ex7) rfl ?_
        obtain ⟨x8, ex8, hE⟩ := Option.bind_eq_some_iff.mp hE
        refine y_iinc (ls' := [(2, .int x8), (1, .int x7), (0, .ref v0)]) dX7_lost_48 2 rfl (Option.some.inj ex8) (by decide) rfl ?_
        refine y_goto (tgt := 20) dX7_lost_51 (by decide) ?_
        refine y_pick [2, 1, 0] rfl ?_
        exact ih _ _ _ _ _ _ _ _ hE (by omega) (by omega) hm K
      · rw [if_neg hc11] at hE
        refine y_iconst (v := (0 : Int32)) dX7_lost_45 (by decide) ?_
        refine y_ior dX7_lost_46 ?_
        obtain ⟨x9, ex9, hE⟩ := Option.bind_eq_some_iff.mp hE
        refine y_istore_n (ls' := [(1, .int x9), (0, .ref v0), (2, .int v2)]) dX7_lost_47 (by decide) (Option.some.inj ex9) rfl ?_
        obtain ⟨x10, ex10, hE⟩ := Option.bind_eq_some_iff.mp hE
        refine y_iinc (ls' := [(2, .int x10), (1, .int x9), (0, .ref v0)]) dX7_lost_48 2 rfl (Option.some.inj ex10) (by decide) rfl ?_
        refine y_goto (tgt := 20) dX7_lost_51 (by decide) ?_
        refine y_pick [2, 1, 0] rfl ?_
        exact ih _ _ _ _ _ _ _ _ hE (by omega) (by omega) hm K
def f_X7_lost (n : Nat) (h : xH) (a0 : Nat) : Option ((Int32 × xH) × Nat × Nat) :=
  (x_gI h a0 7 9).bind fun x1 =>
  if x1 ≤ (9 : Int32) then
    (f_X7_lost_L20 n a0 n (0 : Int32) (0 : Int32) h).bind fun q13 =>
    x_add q13.2.1 q13.2.2 <|
    some ((q13.1.1, q13.1.2), 0, 0)
  else
    (x_ob h a0 7).bind fun u16 =>
    (f_X7_refuse h a0 (-5 : Int32)).bind fun q17 =>
    some ((q17.1, q17.2), 0, 0)
set_option maxRecDepth 100000 in
set_option maxHeartbeats 4000000 in
theorem c_X7_lost {n : Nat} {h : xH} {a0 : Nat} {r9 : Int32} {hz : xH} {c9 s9 : Nat} (hE : f_X7_lost n h a0 = some ((r9, hz), c9, s9)) : Ctr M_X7_lost [.ref a0] h (some (.int r9)) hz c9 s9 := by
  refine ctr_of (by decide) (fun _ _ => Nat.le_of_ble_eq_true rfl) (fun S => ?_)
  show Y S M_X7_lost h (some (.int r9)) hz c9 s9 0 [(0, .ref a0)] [] h 0 0
  unfold f_X7_lost at hE
  refine y_aload_n dX7_lost_0 0 rfl ?_
  obtain ⟨x1, ex1, hE⟩ := Option.bind_eq_some_iff.mp hE
  refine y_getI fl_X7_61 ex1 dX7_lost_1 ?_
  refine y_bipush (v := (9 : Int32)) dX7_lost_4 (by decide) ?_
  refine y_icmp_le (tgt := 16) dX7_lost_6 (by decide) (fun hc18 => ?_) (fun hc18 => ?_)
  · rw [if_pos hc18] at hE
    refine y_iconst (v := (0 : Int32)) dX7_lost_16 (by decide) ?_
    refine y_istore_n (ls' := [(1, .int (0 : Int32)), (0, .ref a0)]) dX7_lost_17 (by decide) rfl rfl ?_
    refine y_iconst (v := (0 : Int32)) dX7_lost_18 (by decide) ?_
    refine y_istore_n (ls' := [(2, .int (0 : Int32)), (1, .int (0 : Int32)), (0, .ref a0)]) dX7_lost_19 (by decide) rfl rfl ?_
    obtain ⟨q13, eq13, hE⟩ := Option.bind_eq_some_iff.mp hE
    obtain ⟨c14, s15, hN, ecc14, ess15⟩ := x_add.spec hE
    clear hE; have hE := hN; clear hN
    refine y_pick [2, 1, 0] rfl ?_
    refine l_X7_lost_20 (S := S) n a0 n (0 : Int32) (0 : Int32) h _ _ _ _ _ (eq13.trans (show some q13 = some (q13.1, q13.2.1, q13.2.2) from rfl)) rfl rfl ⟨by omega, by omega⟩ (fun r8 hr8 => ?_)
    subst hr8
    refine y_iload_n dX7_lost_54 0 rfl ?_
    obtain ⟨rfl, rfl, rfl, rfl⟩ := x_inj4 hE
    exact y_ret dX7_lost_55 (by omega) (by omega) ⟨_, rfl, rfl⟩
  · rw [if_neg hc18] at hE
    refine y_aload_n dX7_lost_9 0 rfl ?_
    refine y_bipush (v := (-5 : Int32)) dX7_lost_10 (by decide) ?_
    obtain ⟨u16, eu16, hE⟩ := Option.bind_eq_some_iff.mp hE
    obtain ⟨q17, eq17, hE⟩ := Option.bind_eq_some_iff.mp hE
    refine y_cVi0 (st := []) (as := [.int (-5 : Int32)]) (c_X7_refuse eq17) lk_X7_77 in_X7_refuse se_X7_refuse rfl eu16 ⟨Nat.le_of_ble_eq_true rfl, Nat.le_of_ble_eq_true rfl⟩ (Nat.le_of_ble_eq_true rfl) dX7_lost_12 ⟨by omega, by omega⟩ rfl ?_
    obtain ⟨rfl, rfl, rfl, rfl⟩ := x_inj4 hE
    exact y_ret dX7_lost_15 (by omega) (by omega) ⟨_, rfl, rfl⟩
def f_X7_stock (n : Nat) (h : xH) (a0 : Nat) : Option (Int32) :=
  (x_ob h a0 7).bind fun u1 =>
  (f_X7_stockNow n h a0).bind fun q2 =>
  some q2
set_option maxRecDepth 100000 in
set_option maxHeartbeats 4000000 in
theorem c_X7_stock {n : Nat} {h : xH} {a0 : Nat} {r9 : Int32} (hE : f_X7_stock n h a0 = some r9) : Ctr M_X7_stock [.ref a0] h (some (.int r9)) h 0 0 := by
  refine ctr_of (by decide) (fun _ _ => Nat.le_of_ble_eq_true rfl) (fun S => ?_)
  show Y S M_X7_stock h (some (.int r9)) h 0 0 0 [(0, .ref a0)] [] h 0 0
  unfold f_X7_stock at hE
  refine y_aload_n dX7_stock_0 0 rfl ?_
  obtain ⟨u1, eu1, hE⟩ := Option.bind_eq_some_iff.mp hE
  obtain ⟨q2, eq2, hE⟩ := Option.bind_eq_some_iff.mp hE
  refine y_cVi0 (st := []) (as := []) (c_X7_stockNow eq2) lk_X7_243 in_X7_stockNow se_X7_stockNow rfl eu1 ⟨Nat.le_of_ble_eq_true rfl, Nat.le_of_ble_eq_true rfl⟩ (Nat.le_of_ble_eq_true rfl) dX7_stock_1 ⟨Nat.le_refl _, Nat.le_refl _⟩ rfl ?_
  obtain rfl := Option.some.inj hE
  exact y_ret dX7_stock_4 (Nat.le_refl _) (Nat.le_refl _) ⟨_, rfl, rfl⟩
def f_X7_placeOf (h : xH) (a0 : Nat) (p1 : Int32) (p2 : Int32) (p3 : Int32) (p4 : Int32) : Option (Int32) :=
  (x_gI h a0 7 37).bind fun x1 =>
  (x_gI h a0 7 38).bind fun x2 =>
  (x_gI h a0 7 39).bind fun x3 =>
  some ((((((p1 * (x1 + (1 : Int32))) + p2) * (x2 + (1 : Int32))) + p3) * (x3 + (1 : Int32))) + p4)
set_option maxRecDepth 100000 in
set_option maxHeartbeats 4000000 in
theorem c_X7_placeOf {h : xH} {a0 : Nat} {p1 : Int32} {p2 : Int32} {p3 : Int32} {p4 : Int32} {r9 : Int32} (hE : f_X7_placeOf h a0 p1 p2 p3 p4 = some r9) : Ctr M_X7_placeOf [.ref a0, .int p1, .int p2, .int p3, .int p4] h (some (.int r9)) h 0 0 := by
  refine ctr_of (by decide) (fun _ _ => Nat.le_of_ble_eq_true rfl) (fun S => ?_)
  show Y S M_X7_placeOf h (some (.int r9)) h 0 0 0 [(0, .ref a0), (1, .int p1), (2, .int p2), (3, .int p3), (4, .int p4)] [] h 0 0
  unfold f_X7_placeOf at hE
  refine y_iload_n dX7_placeOf_0 1 rfl ?_
  refine y_aload_n dX7_placeOf_1 0 rfl ?_
  obtain ⟨x1, ex1, hE⟩ := Option.bind_eq_some_iff.mp hE
  refine y_getI fl_X7_296 ex1 dX7_placeOf_2 ?_
  refine y_iconst (v := (1 : Int32)) dX7_placeOf_5 (by decide) ?_
  refine y_iadd dX7_placeOf_6 ?_
  refine y_imul dX7_placeOf_7 ?_
  refine y_iload_n dX7_placeOf_8 2 rfl ?_
  refine y_iadd dX7_placeOf_9 ?_
  refine y_aload_n dX7_placeOf_10 0 rfl ?_
  obtain ⟨x2, ex2, hE⟩ := Option.bind_eq_some_iff.mp hE
  refine y_getI fl_X7_299 ex2 dX7_placeOf_11 ?_
  refine y_iconst (v := (1 : Int32)) dX7_placeOf_14 (by decide) ?_
  refine y_iadd dX7_placeOf_15 ?_
  refine y_imul dX7_placeOf_16 ?_
  refine y_iload_n dX7_placeOf_17 3 rfl ?_
  refine y_iadd dX7_placeOf_18 ?_
  refine y_aload_n dX7_placeOf_19 0 rfl ?_
  obtain ⟨x3, ex3, hE⟩ := Option.bind_eq_some_iff.mp hE
  refine y_getI fl_X7_302 ex3 dX7_placeOf_20 ?_
  refine y_iconst (v := (1 : Int32)) dX7_placeOf_23 (by decide) ?_
  refine y_iadd dX7_placeOf_24 ?_
  refine y_imul dX7_placeOf_25 ?_
  refine y_iload dX7_placeOf_26 4 rfl ?_
  refine y_iadd dX7_placeOf_28 ?_
  obtain rfl := Option.some.inj hE
  exact y_ret dX7_placeOf_29 (Nat.le_refl _) (Nat.le_refl _) ⟨_, rfl, rfl⟩
def f_X7_opensBeside (h : xH) (a0 : Nat) (p1 : Int32) (p2 : Int32) (p3 : Int32) (p4 : Int32) (p5 : Int32) (p6 : Int32) : Option (Int32) :=
  (x_gI h a0 7 36).bind fun x1 =>
  (
    if x1 ≤ p1 then
      some (0 : Int32)
    else
      (x_gR h a0 7 35).bind fun a3 =>
      (x_ob h a0 7).bind fun u4 =>
      (f_X7_placeOf h a0 ((p1 - p5) + (1 : Int32)) (p2 - p6) p3 p4).bind fun q5 =>
      (x_ld h a3 q5).bind fun x6 =>
      (some (x6 + (1 : Int32))).bind fun x7 =>
      (
        if x7 ≤ (0 : Int32) then
          some (0 : Int32)
        else
          some x7
      ).bind fun q8 =>
      some q8
  ).bind fun q2 =>
  (x_gI h a0 7 37).bind fun x11 =>
  (
    if x11 ≤ p2 then
      some q2
    else
      (x_gR h a0 7 35).bind fun a13 =>
      (x_ob h a0 7).bind fun u14 =>
      (f_X7_placeOf h a0 (p1 - p5) ((p2 - p6) + (1 : Int32)) p3 p4).bind fun q15 =>
      (x_ld h a13 q15).bind fun x16 =>
      (some (x16 + (1 : Int32))).bind fun x17 =>
      (
        if x17 ≤ q2 then
          some q2
        else
          some x17
      ).bind fun q18 =>
      some q18
  ).bind fun q12 =>
  (
    if p3 ≤ 0 then
      some q12
    else
      (x_gR h a0 7 35).bind fun a22 =>
      (x_ob h a0 7).bind fun u23 =>
      (f_X7_placeOf h a0 (p1 - p5) (p2 - p6) (p3 - (1 : Int32)) p4).bind fun q24 =>
      (x_ld h a22 q24).bind fun x25 =>
      (some (x25 + (1 : Int32))).bind fun x26 =>
      (
        if x26 ≤ q12 then
          some q12
        else
          some x26
      ).bind fun q27 =>
      some q27
  ).bind fun q21 =>
  if p4 ≤ 0 then
    some q21
  else
    (x_gR h a0 7 35).bind fun a30 =>
    (x_ob h a0 7).bind fun u31 =>
    (f_X7_placeOf h a0 (p1 - p5) (p2 - p6) p3 (p4 - (1 : Int32))).bind fun q32 =>
    (x_ld h a30 q32).bind fun x33 =>
    (some (x33 + (1 : Int32))).bind fun x34 =>
    if x34 ≤ q21 then
      some q21
    else
      some x34
set_option maxRecDepth 100000 in
set_option maxHeartbeats 4000000 in
theorem c_X7_opensBeside {h : xH} {a0 : Nat} {p1 : Int32} {p2 : Int32} {p3 : Int32} {p4 : Int32} {p5 : Int32} {p6 : Int32} {r9 : Int32} (hE : f_X7_opensBeside h a0 p1 p2 p3 p4 p5 p6 = some r9) : Ctr M_X7_opensBeside [.ref a0, .int p1, .int p2, .int p3, .int p4, .int p5, .int p6] h (some (.int r9)) h 0 0 := by
  refine ctr_of (by decide) (fun _ _ => Nat.le_of_ble_eq_true rfl) (fun S => ?_)
  show Y S M_X7_opensBeside h (some (.int r9)) h 0 0 0 [(0, .ref a0), (1, .int p1), (2, .int p2), (3, .int p3), (4, .int p4), (5, .int p5), (6, .int p6)] [] h 0 0
  unfold f_X7_opensBeside at hE
  refine y_iconst (v := (0 : Int32)) dX7_opensBeside_0 (by decide) ?_
  refine y_istore (ls' := [(7, .int (0 : Int32)), (0, .ref a0), (1, .int p1), (2, .int p2), (3, .int p3), (4, .int p4), (5, .int p5), (6, .int p6)]) dX7_opensBeside_1 (by decide) rfl rfl ?_
  refine y_iload_n dX7_opensBeside_3 2 rfl ?_
  refine y_aload_n dX7_opensBeside_4 1 rfl ?_
  obtain ⟨x1, ex1, hE⟩ := Option.bind_eq_some_iff.mp hE
  refine y_getI fl_X7_309 ex1 dX7_opensBeside_5 ?_
  obtain ⟨q2, eJ, hE⟩ := Option.bind_eq_some_iff.mp hE
  have hJ : Y S M_X7_opensBeside h (some (.int r9)) h 0 0 53 [(0, .ref a0), (1, .int p1), (2, .int p2), (3, .int p3), (4, .int p4), (5, .int p5), (6, .int p6), (7, .int q2)] [] h 0 0 := by
    refine y_iload_n dX7_opensBeside_53 2 rfl ?_
    refine y_aload_n dX7_opensBeside_54 0 rfl ?_
    obtain ⟨x11, ex11, hE⟩ := Option.bind_eq_some_iff.mp hE
    refine y_getI fl_X7_296 ex11 dX7_opensBeside_55 ?_
    obtain ⟨q12, eJ, hE⟩ := Option.bind_eq_some_iff.mp hE
    have hJ : Y S M_X7_opensBeside h (some (.int r9)) h 0 0 103 [(0, .ref a0), (1, .int p1), (2, .int p2), (3, .int p3), (4, .int p4), (5, .int p5), (6, .int p6), (7, .int q12)] [] h 0 0 := by
      refine y_iload_n dX7_opensBeside_103 3 rfl ?_
      obtain ⟨q21, eJ, hE⟩ := Option.bind_eq_some_iff.mp hE
      have hJ : Y S M_X7_opensBeside h (some (.int r9)) h 0 0 149 [(0, .ref a0), (1, .int p1), (2, .int p2), (3, .int p3), (4, .int p4), (5, .int p5), (6, .int p6), (7, .int q21)] [] h 0 0 := by
        refine y_iload dX7_opensBeside_149 4 rfl ?_
        refine y_if_le (tgt := 196) dX7_opensBeside_151 (by decide) (fun hc36 => ?_) (fun hc36 => ?_)
        · rw [if_pos hc36] at hE
          refine y_iload dX7_opensBeside_196 7 rfl ?_
          obtain rfl := Option.some.inj hE
          exact y_ret dX7_opensBeside_198 (Nat.le_refl _) (Nat.le_refl _) ⟨_, rfl, rfl⟩
        · rw [if_neg hc36] at hE
          refine y_aload_n dX7_opensBeside_154 0 rfl ?_
          obtain ⟨a30, ea30, hE⟩ := Option.bind_eq_some_iff.mp hE
          refine y_getR fl_X7_312 ea30 dX7_opensBeside_155 ?_
          refine y_aload_n dX7_opensBeside_158 0 rfl ?_
          refine y_iload_n dX7_opensBeside_159 1 rfl ?_
          refine y_iload dX7_opensBeside_160 5 rfl ?_
          refine y_isub dX7_opensBeside_162 ?_
          refine y_iload_n dX7_opensBeside_163 2 rfl ?_
          refine y_iload dX7_opensBeside_164 6 rfl ?_
          refine y_isub dX7_opensBeside_166 ?_
          refine y_iload_n dX7_opensBeside_167 3 rfl ?_
          refine y_iload dX7_opensBeside_168 4 rfl ?_
          refine y_iconst (v := (1 : Int32)) dX7_opensBeside_170 (by decide) ?_
          refine y_isub dX7_opensBeside_171 ?_
          obtain ⟨u31, eu31, hE⟩ := Option.bind_eq_some_iff.mp hE
          obtain ⟨q32, eq32, hE⟩ := Option.bind_eq_some_iff.mp hE
          refine y_cVi0 (st := [.ref a30]) (as := [.int (p1 - p5), .int (p2 - p6), .int p3, .int (p4 - (1 : Int32))]) (c_X7_placeOf eq32) lk_X7_315 in_X7_placeOf se_X7_placeOf rfl eu31 ⟨Nat.le_of_ble_eq_true rfl, Nat.le_of_ble_eq_true rfl⟩ (Nat.le_of_ble_eq_true rfl) dX7_opensBeside_172 ⟨Nat.le_refl _, Nat.le_refl _⟩ rfl ?_
          obtain ⟨x33, ex33, hE⟩ := Option.bind_eq_some_iff.mp hE
          refine y_iald ex33 dX7_opensBeside_175 ?_
          refine y_iconst (v := (1 : Int32)) dX7_opensBeside_176 (by decide) ?_
          refine y_iadd dX7_opensBeside_177 ?_
          obtain ⟨x34, ex34, hE⟩ := Option.bind_eq_some_iff.mp hE
          refine y_istore (ls' := [(8, .int x34), (0, .ref a0), (1, .int p1), (2, .int p2), (3, .int p3), (4, .int p4), (5, .int p5), (6, .int p6), (7, .int q21)]) dX7_opensBeside_178 (by decide) (Option.some.inj ex34) rfl ?_
          refine y_iload dX7_opensBeside_180 0 rfl ?_
          refine y_iload dX7_opensBeside_182 8 rfl ?_
          refine y_icmp_le (tgt := 192) dX7_opensBeside_184 (by decide) (fun hc35 => ?_) (fun hc35 => ?_)
          · rw [if_pos hc35] at hE
            refine y_iload dX7_opensBeside_192 8 rfl ?_
            refine y_istore (ls' := [(7, .int q21), (8, .int x34), (0, .ref a0), (1, .int p1), (2, .int p2), (3, .int p3), (4, .int p4), (5, .int p5), (6, .int p6)]) dX7_opensBeside_194 (by decide) rfl rfl ?_
            refine y_iload dX7_opensBeside_196 0 rfl ?_
            obtain rfl := Option.some.inj hE
            exact y_ret dX7_opensBeside_198 (Nat.le_refl _) (Nat.le_refl _) ⟨_, rfl, rfl⟩
          · rw [if_neg hc35] at hE
            refine y_iload dX7_opensBeside_187 0 rfl ?_
            refine y_goto (tgt := 194) dX7_opensBeside_189 (by decide) ?_
            refine y_istore (ls' := [(7, .int x34), (8, .int x34), (0, .ref a0), (1, .int p1), (2, .int p2), (3, .int p3), (4, .int p4), (5, .int p5), (6, .int p6)]) dX7_opensBeside_194 (by decide) rfl rfl ?_
            refine y_iload dX7_opensBeside_196 0 rfl ?_
            obtain rfl := Option.some.inj hE
            exact y_ret dX7_opensBeside_198 (Nat.le_refl _) (Nat.le_refl _) ⟨_, rfl, rfl⟩
      clear hE
      have hE := eJ
      clear eJ
      refine y_if_le (tgt := 149) dX7_opensBeside_104 (by decide) (fun hc29 => ?_) (fun hc29 => ?_)
      · rw [if_pos hc29] at hE
        obtain rfl := Option.some.inj hE
        exact y_pick [0, 1, 2, 3, 4, 5, 6, 7] rfl hJ
      · rw [if_neg hc29] at hE
        refine y_aload_n dX7_opensBeside_107 0 rfl ?_
        obtain ⟨a22, ea22, hE⟩ := Option.bind_eq_some_iff.mp hE
        refine y_getR fl_X7_312 ea22 dX7_opensBeside_108 ?_
        refine y_aload_n dX7_opensBeside_111 0 rfl ?_
        refine y_iload_n dX7_opensBeside_112 1 rfl ?_
        refine y_iload dX7_opensBeside_113 5 rfl ?_
        refine y_isub dX7_opensBeside_115 ?_
        refine y_iload_n dX7_opensBeside_116 2 rfl ?_
        refine y_iload dX7_opensBeside_117 6 rfl ?_
        refine y_isub dX7_opensBeside_119 ?_
        refine y_iload_n dX7_opensBeside_120 3 rfl ?_
        refine y_iconst (v := (1 : Int32)) dX7_opensBeside_121 (by decide) ?_
        refine y_isub dX7_opensBeside_122 ?_
        refine y_iload dX7_opensBeside_123 4 rfl ?_
        obtain ⟨u23, eu23, hE⟩ := Option.bind_eq_some_iff.mp hE
        obtain ⟨q24, eq24, hE⟩ := Option.bind_eq_some_iff.mp hE
        refine y_cVi0 (st := [.ref a22]) (as := [.int (p1 - p5), .int (p2 - p6), .int (p3 - (1 : Int32)), .int p4]) (c_X7_placeOf eq24) lk_X7_315 in_X7_placeOf se_X7_placeOf rfl eu23 ⟨Nat.le_of_ble_eq_true rfl, Nat.le_of_ble_eq_true rfl⟩ (Nat.le_of_ble_eq_true rfl) dX7_opensBeside_125 ⟨Nat.le_refl _, Nat.le_refl _⟩ rfl ?_
        obtain ⟨x25, ex25, hE⟩ := Option.bind_eq_some_iff.mp hE
        refine y_iald ex25 dX7_opensBeside_128 ?_
        refine y_iconst (v := (1 : Int32)) dX7_opensBeside_129 (by decide) ?_
        refine y_iadd dX7_opensBeside_130 ?_
        obtain ⟨x26, ex26, hE⟩ := Option.bind_eq_some_iff.mp hE
        refine y_istore (ls' := [(8, .int x26), (0, .ref a0), (1, .int p1), (2, .int p2), (3, .int p3), (4, .int p4), (5, .int p5), (6, .int p6), (7, .int q12)]) dX7_opensBeside_131 (by decide) (Option.some.inj ex26) rfl ?_
        refine y_iload dX7_opensBeside_133 0 rfl ?_
        refine y_iload dX7_opensBeside_135 8 rfl ?_
        obtain ⟨q27, eJ, hE⟩ := Option.bind_eq_some_iff.mp hE
        have hJ : Y S M_X7_opensBeside h (some (.int r9)) h 0 0 147 [(0, .ref a0), (1, .int p1), (2, .int p2), (3, .int p3), (4, .int p4), (5, .int p5), (6, .int p6)] [.int q27] h 0 0 := by
          refine y_istore (ls' := [(7, .int q27), (0, .ref a0), (1, .int p1), (2, .int p2), (3, .int p3), (4, .int p4), (5, .int p5), (6, .int p6)]) dX7_opensBeside_147 (by decide) rfl rfl ?_
          obtain rfl := Option.some.inj hE
          exact y_pick [1, 2, 3, 4, 5, 6, 7, 0] rfl hJ
        clear hE
        have hE := eJ
        clear eJ
        refine y_icmp_le (tgt := 145) dX7_opensBeside_137 (by decide) (fun hc28 => ?_) (fun hc28 => ?_)
        · rw [if_pos hc28] at hE
          refine y_iload dX7_opensBeside_145 8 rfl ?_
          obtain rfl := Option.some.inj hE
          exact y_pick [1, 2, 3, 4, 5, 6, 7] rfl hJ
        · rw [if_neg hc28] at hE
          refine y_iload dX7_opensBeside_140 0 rfl ?_
          refine y_goto (tgt := 147) dX7_opensBeside_142 (by decide) ?_
          obtain rfl := Option.some.inj hE
          exact y_pick [1, 2, 3, 4, 5, 6, 7] rfl hJ
    clear hE
    have hE := eJ
    clear eJ
    refine y_icmp_ge (tgt := 103) dX7_opensBeside_58 (by decide) (fun hc20 => ?_) (fun hc20 => ?_)
    · rw [if_pos hc20] at hE
      obtain rfl := Option.some.inj hE
      exact y_pick [0, 1, 2, 3, 4, 5, 6, 7] rfl hJ
    · rw [if_neg hc20] at hE
      refine y_aload_n dX7_opensBeside_61 0 rfl ?_
      obtain ⟨a13, ea13, hE⟩ := Option.bind_eq_some_iff.mp hE
      refine y_getR fl_X7_312 ea13 dX7_opensBeside_62 ?_
      refine y_aload_n dX7_opensBeside_65 0 rfl ?_
      refine y_iload_n dX7_opensBeside_66 1 rfl ?_
      refine y_iload dX7_opensBeside_67 5 rfl ?_
      refine y_isub dX7_opensBeside_69 ?_
      refine y_iload_n dX7_opensBeside_70 2 rfl ?_
      refine y_iload dX7_opensBeside_71 6 rfl ?_
      refine y_isub dX7_opensBeside_73 ?_
      refine y_iconst (v := (1 : Int32)) dX7_opensBeside_74 (by decide) ?_
      refine y_iadd dX7_opensBeside_75 ?_
      refine y_iload_n dX7_opensBeside_76 3 rfl ?_
      refine y_iload dX7_opensBeside_77 4 rfl ?_
      obtain ⟨u14, eu14, hE⟩ := Option.bind_eq_some_iff.mp hE
      obtain ⟨q15, eq15, hE⟩ := Option.bind_eq_some_iff.mp hE
      refine y_cVi0 (st := [.ref a13]) (as := [.int (p1 - p5), .int ((p2 - p6) + (1 : Int32)), .int p3, .int p4]) (c_X7_placeOf eq15) lk_X7_315 in_X7_placeOf se_X7_placeOf rfl eu14 ⟨Nat.le_of_ble_eq_true rfl, Nat.le_of_ble_eq_true rfl⟩ (Nat.le_of_ble_eq_true rfl) dX7_opensBeside_79 ⟨Nat.le_refl _, Nat.le_refl _⟩ rfl ?_
      obtain ⟨x16, ex16, hE⟩ := Option.bind_eq_some_iff.mp hE
      refine y_iald ex16 dX7_opensBeside_82 ?_
      refine y_iconst (v := (1 : Int32)) dX7_opensBeside_83 (by decide) ?_
      refine y_iadd dX7_opensBeside_84 ?_
      obtain ⟨x17, ex17, hE⟩ := Option.bind_eq_some_iff.mp hE
      refine y_istore (ls' := [(8, .int x17), (0, .ref a0), (1, .int p1), (2, .int p2), (3, .int p3), (4, .int p4), (5, .int p5), (6, .int p6), (7, .int q2)]) dX7_opensBeside_85 (by decide) (Option.some.inj ex17) rfl ?_
      refine y_iload dX7_opensBeside_87 0 rfl ?_
      refine y_iload dX7_opensBeside_89 8 rfl ?_
      obtain ⟨q18, eJ, hE⟩ := Option.bind_eq_some_iff.mp hE
      have hJ : Y S M_X7_opensBeside h (some (.int r9)) h 0 0 101 [(0, .ref a0), (1, .int p1), (2, .int p2), (3, .int p3), (4, .int p4), (5, .int p5), (6, .int p6)] [.int q18] h 0 0 := by
        refine y_istore (ls' := [(7, .int q18), (0, .ref a0), (1, .int p1), (2, .int p2), (3, .int p3), (4, .int p4), (5, .int p5), (6, .int p6)]) dX7_opensBeside_101 (by decide) rfl rfl ?_
        obtain rfl := Option.some.inj hE
        exact y_pick [1, 2, 3, 4, 5, 6, 7, 0] rfl hJ
      clear hE
      have hE := eJ
      clear eJ
      refine y_icmp_le (tgt := 99) dX7_opensBeside_91 (by decide) (fun hc19 => ?_) (fun hc19 => ?_)
      · rw [if_pos hc19] at hE
        refine y_iload dX7_opensBeside_99 8 rfl ?_
        obtain rfl := Option.some.inj hE
        exact y_pick [1, 2, 3, 4, 5, 6, 7] rfl hJ
      · rw [if_neg hc19] at hE
        refine y_iload dX7_opensBeside_94 0 rfl ?_
        refine y_goto (tgt := 101) dX7_opensBeside_96 (by decide) ?_
        obtain rfl := Option.some.inj hE
        exact y_pick [1, 2, 3, 4, 5, 6, 7] rfl hJ
  clear hE
  have hE := eJ
  clear eJ
  refine y_icmp_ge (tgt := 53) dX7_opensBeside_8 (by decide) (fun hc10 => ?_) (fun hc10 => ?_)
  · rw [if_pos hc10] at hE
    obtain rfl := Option.some.inj hE
    exact y_pick [1, 2, 3, 4, 5, 6, 7, 0] rfl hJ
  · rw [if_neg hc10] at hE
    refine y_aload_n dX7_opensBeside_11 1 rfl ?_
    obtain ⟨a3, ea3, hE⟩ := Option.bind_eq_some_iff.mp hE
    refine y_getR fl_X7_312 ea3 dX7_opensBeside_12 ?_
    refine y_aload_n dX7_opensBeside_15 1 rfl ?_
    refine y_iload_n dX7_opensBeside_16 2 rfl ?_
    refine y_iload dX7_opensBeside_17 6 rfl ?_
    refine y_isub dX7_opensBeside_19 ?_
    refine y_iconst (v := (1 : Int32)) dX7_opensBeside_20 (by decide) ?_
    refine y_iadd dX7_opensBeside_21 ?_
    refine y_iload_n dX7_opensBeside_22 3 rfl ?_
    refine y_iload dX7_opensBeside_23 7 rfl ?_
    refine y_isub dX7_opensBeside_25 ?_
    refine y_iload_n dX7_opensBeside_26 4 rfl ?_
    refine y_iload dX7_opensBeside_27 5 rfl ?_
    obtain ⟨u4, eu4, hE⟩ := Option.bind_eq_some_iff.mp hE
    obtain ⟨q5, eq5, hE⟩ := Option.bind_eq_some_iff.mp hE
    refine y_cVi0 (st := [.ref a3]) (as := [.int ((p1 - p5) + (1 : Int32)), .int (p2 - p6), .int p3, .int p4]) (c_X7_placeOf eq5) lk_X7_315 in_X7_placeOf se_X7_placeOf rfl eu4 ⟨Nat.le_of_ble_eq_true rfl, Nat.le_of_ble_eq_true rfl⟩ (Nat.le_of_ble_eq_true rfl) dX7_opensBeside_29 ⟨Nat.le_refl _, Nat.le_refl _⟩ rfl ?_
    obtain ⟨x6, ex6, hE⟩ := Option.bind_eq_some_iff.mp hE
    refine y_iald ex6 dX7_opensBeside_32 ?_
    refine y_iconst (v := (1 : Int32)) dX7_opensBeside_33 (by decide) ?_
    refine y_iadd dX7_opensBeside_34 ?_
    obtain ⟨x7, ex7, hE⟩ := Option.bind_eq_some_iff.mp hE
    refine y_istore (ls' := [(8, .int x7), (7, .int (0 : Int32)), (0, .ref a0), (1, .int p1), (2, .int p2), (3, .int p3), (4, .int p4), (5, .int p5), (6, .int p6)]) dX7_opensBeside_35 (by decide) (Option.some.inj ex7) rfl ?_
    refine y_iload dX7_opensBeside_37 0 rfl ?_
    refine y_iload dX7_opensBeside_39 1 rfl ?_
    obtain ⟨q8, eJ, hE⟩ := Option.bind_eq_some_iff.mp hE
    have hJ : Y S M_X7_opensBeside h (some (.int r9)) h 0 0 51 [(0, .ref a0), (1, .int p1), (2, .int p2), (3, .int p3), (4, .int p4), (5, .int p5), (6, .int p6)] [.int q8] h 0 0 := by
      refine y_istore (ls' := [(7, .int q8), (0, .ref a0), (1, .int p1), (2, .int p2), (3, .int p3), (4, .int p4), (5, .int p5), (6, .int p6)]) dX7_opensBeside_51 (by decide) rfl rfl ?_
      obtain rfl := Option.some.inj hE
      exact y_pick [1, 2, 3, 4, 5, 6, 7, 0] rfl hJ
    clear hE
    have hE := eJ
    clear eJ
    refine y_icmp_le (tgt := 49) dX7_opensBeside_41 (by decide) (fun hc9 => ?_) (fun hc9 => ?_)
    · rw [if_pos hc9] at hE
      refine y_iload dX7_opensBeside_49 1 rfl ?_
      obtain rfl := Option.some.inj hE
      exact y_pick [2, 3, 4, 5, 6, 7, 8] rfl hJ
    · rw [if_neg hc9] at hE
      refine y_iload dX7_opensBeside_44 0 rfl ?_
      refine y_goto (tgt := 51) dX7_opensBeside_46 (by decide) ?_
      obtain rfl := Option.some.inj hE
      exact y_pick [2, 3, 4, 5, 6, 7, 8] rfl hJ
def f_X7_mostOf_L15 (h : xH) (v0 : Nat) (v1 : Int32) (v2 : Int32) (v3 : Int32) (v4 : Int32) (v5 : Int32) (v7 : Int32) : Nat → Int32 → Int32 → Option (Int32)
  | 0, _, _ => none
  | k + 1, v6, v8 =>
    if v2 < v8 then
      some v6
    else
      (some (v8 + ((2 : Int32) * v7))).bind fun x1 =>
      (
        if x1 < v1 then
          some (0 : Int32)
        else
          if v8 = 0 then
            if v7 = 0 then
              some (1 : Int32)
            else
              if v1 ≤ (x1 - (2 : Int32)) then
                some (0 : Int32)
              else
                some (1 : Int32)
          else
            if v1 ≤ (x1 - (1 : Int32)) then
              some (0 : Int32)
            else
              if v7 = 0 then
                some (1 : Int32)
              else
                if v1 ≤ (x1 - (2 : Int32)) then
                  some (0 : Int32)
                else
                  some (1 : Int32)
      ).bind fun q2 =>
      (
        if q2 = 0 then
          some (0 : Int32)
        else
          (x_ob h v0 7).bind fun u11 =>
          (f_X7_opensBeside h v0 v2 v3 v4 v5 v8 v7).bind fun q12 =>
          some q12
      ).bind fun q10 =>
      if q10 ≤ v6 then
        (some (v8 + (1 : Int32))).bind fun x14 =>
        f_X7_mostOf_L15 h v0 v1 v2 v3 v4 v5 v7 k v6 x14
      else
        (some (v8 + (1 : Int32))).bind fun x15 =>
        f_X7_mostOf_L15 h v0 v1 v2 v3 v4 v5 v7 k q10 x15
set_option maxRecDepth 100000 in
set_option maxHeartbeats 4000000 in
theorem l_X7_mostOf_15 {S : Nat × (Nat → Int32)} {rv : Option Value} {h0 h1 : xH} {mc ms : Nat} {cells slots : Nat} (hm : cells ≤ mc ∧ slots ≤ ms) (h : xH) (v0 : Nat) (v1 : Int32) (v2 : Int32) (v3 : Int32) (v4 : Int32) (v5 : Int32) (v7 : Int32) : ∀ (k : Nat) (v6 : Int32) (v8 : Int32) (res : Int32), f_X7_mostOf_L15 h v0 v1 v2 v3 v4 v5 v7 k v6 v8 = some res → (∀ r9, res = r9 → Y S M_X7_mostOf h0 rv h1 mc ms 116 [(0, .ref v0), (1, .int v1), (2, .int v2), (3, .int v3), (4, .int v4), (5, .int v5), (6, .int r9), (7, .int v7)] [] h cells slots) → Y S M_X7_mostOf h0 rv h1 mc ms 15 [(0, .ref v0), (1, .int v1), (2, .int v2), (3, .int v3), (4, .int v4), (5, .int v5), (6, .int v6), (7, .int v7), (8, .int v8)] [] h cells slots := by
  intro k
  induction k with
  | zero =>
    intro _ _ _ hE
    cases hE
  | succ k ih =>
    intro v6 v8 res hE K
    unfold f_X7_mostOf_L15 at hE
    refine y_iload dX7_mostOf_15 8 rfl ?_
    refine y_iload_n dX7_mostOf_17 2 rfl ?_
    refine y_icmp_gt (tgt := 116) dX7_mostOf_18 (by decide) (fun hc17 => ?_) (fun hc17 => ?_)
    · rw [if_pos hc17] at hE
      obtain rfl := Option.some.inj hE
      exact y_pick [0, 1, 2, 3, 4, 5, 6, 7] rfl (K _ rfl)
    · rw [if_neg hc17] at hE
      refine y_iload dX7_mostOf_21 8 rfl ?_
      refine y_iconst (v := (2 : Int32)) dX7_mostOf_23 (by decide) ?_
      refine y_iload dX7_mostOf_24 7 rfl ?_
      refine y_imul dX7_mostOf_26 ?_
      refine y_iadd dX7_mostOf_27 ?_
      obtain ⟨x1, ex1, hE⟩ := Option.bind_eq_some_iff.mp hE
      refine y_istore (ls' := [(9, .int x1), (0, .ref v0), (1, .int v1), (2, .int v2), (3, .int v3), (4, .int v4), (5, .int v5), (6, .int v6), (7, .int v7), (8, .int v8)]) dX7_mostOf_28 (by decide) (Option.some.inj ex1) rfl ?_
      refine y_iload dX7_mostOf_30 0 rfl ?_
      refine y_iload_n dX7_mostOf_32 2 rfl ?_
      obtain ⟨q2, eJ, hE⟩ := Option.bind_eq_some_iff.mp hE
      have hJ : Y S M_X7_mostOf h0 rv h1 mc ms 67 [(0, .ref v0), (1, .int v1), (2, .int v2), (3, .int v3), (4, .int v4), (5, .int v5), (6, .int v6), (7, .int v7), (8, .int v8)] [.int q2] h cells slots := by
        refine y_istore (ls' := [(10, .int q2), (0, .ref v0), (1, .int v1), (2, .int v2), (3, .int v3), (4, .int v4), (5, .int v5), (6, .int v6), (7, .int v7), (8, .int v8)]) dX7_mostOf_67 (by decide) rfl rfl ?_
        refine y_iload dX7_mostOf_69 0 rfl ?_
        obtain ⟨q10, eJ, hE⟩ := Option.bind_eq_some_iff.mp hE
        have hJ : Y S M_X7_mostOf h0 rv h1 mc ms 92 [(0, .ref v0), (1, .int v1), (2, .int v2), (3, .int v3), (4, .int v4), (5, .int v5), (6, .int v6), (7, .int v7), (8, .int v8)] [.int q10] h cells slots := by
          refine y_istore (ls' := [(11, .int q10), (0, .ref v0), (1, .int v1), (2, .int v2), (3, .int v3), (4, .int v4), (5, .int v5), (6, .int v6), (7, .int v7), (8, .int v8)]) dX7_mostOf_92 (by decide) rfl rfl ?_
          refine y_iload dX7_mostOf_94 0 rfl ?_
          refine y_iload dX7_mostOf_96 7 rfl ?_
          refine y_icmp_le (tgt := 106) dX7_mostOf_98 (by decide) (fun hc16 => ?_) (fun hc16 => ?_)
          · rw [if_pos hc16] at hE
            refine y_iload dX7_mostOf_106 7 rfl ?_
            refine y_istore (ls' := [(6, .int v6), (11, .int q10), (0, .ref v0), (1, .int v1), (2, .int v2), (3, .int v3), (4, .int v4), (5, .int v5), (7, .int v7), (8, .int v8)]) dX7_mostOf_108 (by decide) rfl rfl ?_
            obtain ⟨x14, ex14, hE⟩ := Option.bind_eq_some_iff.mp hE
            refine y_iinc (ls' := [(8, .int x14), (6, .int v6), (11, .int q10), (0, .ref v0), (1, .int v1), (2, .int v2), (3, .int v3), (4, .int v4), (5, .int v5), (7, .int v7)]) dX7_mostOf_110 9 rfl (Option.some.inj ex14) (by decide) rfl ?_
            refine y_goto (tgt := 15) dX7_mostOf_113 (by decide) ?_
            refine y_pick [3, 4, 5, 6, 7, 8, 1, 9, 0] rfl ?_
            exact ih _ _ _ hE K
          · rw [if_neg hc16] at hE
            refine y_iload dX7_mostOf_101 0 rfl ?_
            refine y_goto (tgt := 108) dX7_mostOf_103 (by decide) ?_
            refine y_istore (ls' := [(6, .int q10), (11, .int q10), (0, .ref v0), (1, .int v1), (2, .int v2), (3, .int v3), (4, .int v4), (5, .int v5), (7, .int v7), (8, .int v8)]) dX7_mostOf_108 (by decide) rfl rfl ?_
            obtain ⟨x15, ex15, hE⟩ := Option.bind_eq_some_iff.mp hE
            refine y_iinc (ls' := [(8, .int x15), (6, .int q10), (11, .int q10), (0, .ref v0), (1, .int v1), (2, .int v2), (3, .int v3), (4, .int v4), (5, .int v5), (7, .int v7)]) dX7_mostOf_110 9 rfl (Option.some.inj ex15) (by decide) rfl ?_
            refine y_goto (tgt := 15) dX7_mostOf_113 (by decide) ?_
            refine y_pick [3, 4, 5, 6, 7, 8, 1, 9, 0] rfl ?_
            exact ih _ _ _ hE K
        clear hE
        have hE := eJ
        clear eJ
        refine y_if_eq (tgt := 91) dX7_mostOf_71 (by decide) (fun hc13 => ?_) (fun hc13 => ?_)
        · rw [if_pos hc13] at hE
          refine y_iconst (v := (0 : Int32)) dX7_mostOf_91 (by decide) ?_
          obtain rfl := Option.some.inj hE
          exact y_pick [1, 2, 3, 4, 5, 6, 7, 8, 9] rfl hJ
        · rw [if_neg hc13] at hE
          refine y_aload_n dX7_mostOf_74 1 rfl ?_
          refine y_iload_n dX7_mostOf_75 3 rfl ?_
          refine y_iload_n dX7_mostOf_76 4 rfl ?_
          refine y_iload dX7_mostOf_77 5 rfl ?_
          refine y_iload dX7_mostOf_79 6 rfl ?_
          refine y_iload dX7_mostOf_81 9 rfl ?_
          refine y_iload dX7_mostOf_83 8 rfl ?_
          obtain ⟨u11, eu11, hE⟩ := Option.bind_eq_some_iff.mp hE
          obtain ⟨q12, eq12, hE⟩ := Option.bind_eq_some_iff.mp hE
          refine y_cVi0 (st := []) (as := [.int v2, .int v3, .int v4, .int v5, .int v8, .int v7]) (c_X7_opensBeside eq12) lk_X7_305 in_X7_opensBeside se_X7_opensBeside rfl eu11 ⟨Nat.le_of_ble_eq_true rfl, Nat.le_of_ble_eq_true rfl⟩ (Nat.le_of_ble_eq_true rfl) dX7_mostOf_85 hm rfl ?_
          refine y_goto (tgt := 92) dX7_mostOf_88 (by decide) ?_
          obtain rfl := Option.some.inj hE
          exact y_pick [1, 2, 3, 4, 5, 6, 7, 8, 9] rfl hJ
      clear hE
      have hE := eJ
      clear eJ
      refine y_icmp_lt (tgt := 66) dX7_mostOf_33 (by decide) (fun hc9 => ?_) (fun hc9 => ?_)
      · rw [if_pos hc9] at hE
        refine y_iconst (v := (0 : Int32)) dX7_mostOf_66 (by decide) ?_
        obtain rfl := Option.some.inj hE
        exact y_pick [1, 2, 3, 4, 5, 6, 7, 8, 9] rfl hJ
      · rw [if_neg hc9] at hE
        refine y_iload dX7_mostOf_36 9 rfl ?_
        refine y_if_eq (tgt := 49) dX7_mostOf_38 (by decide) (fun hc8 => ?_) (fun hc8 => ?_)
        · rw [if_pos hc8] at hE
          refine y_iload dX7_mostOf_49 8 rfl ?_
          refine y_if_eq (tgt := 62) dX7_mostOf_51 (by decide) (fun hc4 => ?_) (fun hc4 => ?_)
          · rw [if_pos hc4] at hE
            refine y_iconst (v := (1 : Int32)) dX7_mostOf_62 (by decide) ?_
            refine y_goto (tgt := 67) dX7_mostOf_63 (by decide) ?_
            obtain rfl := Option.some.inj hE
            exact y_pick [1, 2, 3, 4, 5, 6, 7, 8, 9] rfl hJ
          · rw [if_neg hc4] at hE
            refine y_iload dX7_mostOf_54 0 rfl ?_
            refine y_iconst (v := (2 : Int32)) dX7_mostOf_56 (by decide) ?_
            refine y_isub dX7_mostOf_57 ?_
            refine y_iload_n dX7_mostOf_58 2 rfl ?_
            refine y_icmp_ge (tgt := 66) dX7_mostOf_59 (by decide) (fun hc3 => ?_) (fun hc3 => ?_)
            · rw [if_pos hc3] at hE
              refine y_iconst (v := (0 : Int32)) dX7_mostOf_66 (by decide) ?_
              obtain rfl := Option.some.inj hE
              exact y_pick [1, 2, 3, 4, 5, 6, 7, 8, 9] rfl hJ
            · rw [if_neg hc3] at hE
              refine y_iconst (v := (1 : Int32)) dX7_mostOf_62 (by decide) ?_
              refine y_goto (tgt := 67) dX7_mostOf_63 (by decide) ?_
              obtain rfl := Option.some.inj hE
              exact y_pick [1, 2, 3, 4, 5, 6, 7, 8, 9] rfl hJ
        · rw [if_neg hc8] at hE
          refine y_iload dX7_mostOf_41 0 rfl ?_
          refine y_iconst (v := (1 : Int32)) dX7_mostOf_43 (by decide) ?_
          refine y_isub dX7_mostOf_44 ?_
          refine y_iload_n dX7_mostOf_45 2 rfl ?_
          refine y_icmp_ge (tgt := 66) dX7_mostOf_46 (by decide) (fun hc7 => ?_) (fun hc7 => ?_)
          · rw [if_pos hc7] at hE
            refine y_iconst (v := (0 : Int32)) dX7_mostOf_66 (by decide) ?_
            obtain rfl := Option.some.inj hE
            exact y_pick [1, 2, 3, 4, 5, 6, 7, 8, 9] rfl hJ
          · rw [if_neg hc7] at hE
            refine y_iload dX7_mostOf_49 8 rfl ?_
            refine y_if_eq (tgt := 62) dX7_mostOf_51 (by decide) (fun hc6 => ?_) (fun hc6 => ?_)
            · rw [if_pos hc6] at hE
              refine y_iconst (v := (1 : Int32)) dX7_mostOf_62 (by decide) ?_
              refine y_goto (tgt := 67) dX7_mostOf_63 (by decide) ?_
              obtain rfl := Option.some.inj hE
              exact y_pick [1, 2, 3, 4, 5, 6, 7, 8, 9] rfl hJ
            · rw [if_neg hc6] at hE
              refine y_iload dX7_mostOf_54 0 rfl ?_
              refine y_iconst (v := (2 : Int32)) dX7_mostOf_56 (by decide) ?_
              refine y_isub dX7_mostOf_57 ?_
              refine y_iload_n dX7_mostOf_58 2 rfl ?_
              refine y_icmp_ge (tgt := 66) dX7_mostOf_59 (by decide) (fun hc5 => ?_) (fun hc5 => ?_)
              · rw [if_pos hc5] at hE
                refine y_iconst (v := (0 : Int32)) dX7_mostOf_66 (by decide) ?_
                obtain rfl := Option.some.inj hE
                exact y_pick [1, 2, 3, 4, 5, 6, 7, 8, 9] rfl hJ
              · rw [if_neg hc5] at hE
                refine y_iconst (v := (1 : Int32)) dX7_mostOf_62 (by decide) ?_
                refine y_goto (tgt := 67) dX7_mostOf_63 (by decide) ?_
                obtain rfl := Option.some.inj hE
                exact y_pick [1, 2, 3, 4, 5, 6, 7, 8, 9] rfl hJ
def f_X7_mostOf_L6 (n : Nat) (h : xH) (v0 : Nat) (v1 : Int32) (v2 : Int32) (v3 : Int32) (v4 : Int32) (v5 : Int32) : Nat → Int32 → Int32 → Option (Int32)
  | 0, _, _ => none
  | k + 1, v6, v7 =>
    if v3 < v7 then
      some v6
    else
      (f_X7_mostOf_L15 h v0 v1 v2 v3 v4 v5 v7 n v6 (0 : Int32)).bind fun q18 =>
      (some (v7 + (1 : Int32))).bind fun x19 =>
      f_X7_mostOf_L6 n h v0 v1 v2 v3 v4 v5 k q18 x19
set_option maxRecDepth 100000 in
set_option maxHeartbeats 4000000 in
theorem l_X7_mostOf_6 {S : Nat × (Nat → Int32)} {rv : Option Value} {h0 h1 : xH} {mc ms : Nat} {cells slots : Nat} (hm : cells ≤ mc ∧ slots ≤ ms) (n : Nat) (h : xH) (v0 : Nat) (v1 : Int32) (v2 : Int32) (v3 : Int32) (v4 : Int32) (v5 : Int32) : ∀ (k : Nat) (v6 : Int32) (v7 : Int32) (res : Int32), f_X7_mostOf_L6 n h v0 v1 v2 v3 v4 v5 k v6 v7 = some res → (∀ r9, res = r9 → Y S M_X7_mostOf h0 rv h1 mc ms 122 [(6, .int r9)] [] h cells slots) → Y S M_X7_mostOf h0 rv h1 mc ms 6 [(0, .ref v0), (1, .int v1), (2, .int v2), (3, .int v3), (4, .int v4), (5, .int v5), (6, .int v6), (7, .int v7)] [] h cells slots := by
  intro k
  induction k with
  | zero =>
    intro _ _ _ hE
    cases hE
  | succ k ih =>
    intro v6 v7 res hE K
    unfold f_X7_mostOf_L6 at hE
    refine y_iload dX7_mostOf_6 7 rfl ?_
    refine y_iload_n dX7_mostOf_8 3 rfl ?_
    refine y_icmp_gt (tgt := 122) dX7_mostOf_9 (by decide) (fun hc20 => ?_) (fun hc20 => ?_)
    · rw [if_pos hc20] at hE
      obtain rfl := Option.some.inj hE
      exact y_pick [6] rfl (K _ rfl)
    · rw [if_neg hc20] at hE
      refine y_iconst (v := (0 : Int32)) dX7_mostOf_12 (by decide) ?_
      refine y_istore (ls' := [(8, .int (0 : Int32)), (0, .ref v0), (1, .int v1), (2, .int v2), (3, .int v3), (4, .int v4), (5, .int v5), (6, .int v6), (7, .int v7)]) dX7_mostOf_13 (by decide) rfl rfl ?_
      obtain ⟨q18, eq18, hE⟩ := Option.bind_eq_some_iff.mp hE
      refine y_pick [1, 2, 3, 4, 5, 6, 7, 8, 0] rfl ?_
      refine l_X7_mostOf_15 (S := S) hm h v0 v1 v2 v3 v4 v5 v7 n v6 (0 : Int32) _ eq18 (fun r8 hr8 => ?_)
      subst hr8
      obtain ⟨x19, ex19, hE⟩ := Option.bind_eq_some_iff.mp hE
      refine y_iinc (ls' := [(7, .int x19), (0, .ref v0), (1, .int v1), (2, .int v2), (3, .int v3), (4, .int v4), (5, .int v5), (6, .int q18)]) dX7_mostOf_116 7 rfl (Option.some.inj ex19) (by decide) rfl ?_
      refine y_goto (tgt := 6) dX7_mostOf_119 (by decide) ?_
      refine y_pick [1, 2, 3, 4, 5, 6, 7, 0] rfl ?_
      exact ih _ _ _ hE K
def f_X7_mostOf (n : Nat) (h : xH) (a0 : Nat) (p1 : Int32) (p2 : Int32) (p3 : Int32) (p4 : Int32) (p5 : Int32) : Option (Int32) :=
  (f_X7_mostOf_L6 n h a0 p1 p2 p3 p4 p5 n (0 : Int32) (0 : Int32)).bind fun q21 =>
  some q21
set_option maxRecDepth 100000 in
set_option maxHeartbeats 4000000 in
theorem c_X7_mostOf {n : Nat} {h : xH} {a0 : Nat} {p1 : Int32} {p2 : Int32} {p3 : Int32} {p4 : Int32} {p5 : Int32} {r9 : Int32} (hE : f_X7_mostOf n h a0 p1 p2 p3 p4 p5 = some r9) : Ctr M_X7_mostOf [.ref a0, .int p1, .int p2, .int p3, .int p4, .int p5] h (some (.int r9)) h 0 0 := by
  refine ctr_of (by decide) (fun _ _ => Nat.le_of_ble_eq_true rfl) (fun S => ?_)
  show Y S M_X7_mostOf h (some (.int r9)) h 0 0 0 [(0, .ref a0), (1, .int p1), (2, .int p2), (3, .int p3), (4, .int p4), (5, .int p5)] [] h 0 0
  unfold f_X7_mostOf at hE
  refine y_iconst (v := (0 : Int32)) dX7_mostOf_0 (by decide) ?_
  refine y_istore (ls' := [(6, .int (0 : Int32)), (0, .ref a0), (1, .int p1), (2, .int p2), (3, .int p3), (4, .int p4), (5, .int p5)]) dX7_mostOf_1 (by decide) rfl rfl ?_
  refine y_iconst (v := (0 : Int32)) dX7_mostOf_3 (by decide) ?_
  refine y_istore (ls' := [(7, .int (0 : Int32)), (6, .int (0 : Int32)), (0, .ref a0), (1, .int p1), (2, .int p2), (3, .int p3), (4, .int p4), (5, .int p5)]) dX7_mostOf_4 (by decide) rfl rfl ?_
  obtain ⟨q21, eq21, hE⟩ := Option.bind_eq_some_iff.mp hE
  refine y_pick [2, 3, 4, 5, 6, 7, 1, 0] rfl ?_
  refine l_X7_mostOf_6 (S := S) ⟨Nat.le_refl _, Nat.le_refl _⟩ n h a0 p1 p2 p3 p4 p5 n (0 : Int32) (0 : Int32) _ eq21 (fun r8 hr8 => ?_)
  subst hr8
  refine y_iload dX7_mostOf_122 0 rfl ?_
  obtain rfl := Option.some.inj hE
  exact y_ret dX7_mostOf_124 (Nat.le_refl _) (Nat.le_refl _) ⟨_, rfl, rfl⟩
def f_X7_turnsOn_L41 (n : Nat) (v0 : Nat) (v1 : Int32) (v2 : Int32) (v4 : Int32) (v5 : Int32) (v6 : Int32) : Nat → Int32 → Int32 → xH → Option (Int32 × xH)
  | 0, _, _, _ => none
  | k + 1, v3, v7, h =>
    (x_gI h v0 7 39).bind fun x4 =>
    if x4 < v7 then
      some (v3, h)
    else
      (x_ob h v0 7).bind fun u5 =>
      (f_X7_placeOf h v0 v4 v5 v6 v7).bind fun q6 =>
      (x_gR h v0 7 34).bind fun a7 =>
      (
        if v2 = 0 then
          (x_ob h v0 7).bind fun u9 =>
          (f_X7_mostOf n h v0 v1 v4 v5 v6 v7).bind fun q10 =>
          some q10
        else
          some (0 : Int32)
      ).bind fun q8 =>
      (x_st h a7 q6 q8).bind fun h12 =>
      if v2 = 0 then
        (x_gR h12 v0 7 34).bind fun a13 =>
        (x_ld h12 a13 q6).bind fun x14 =>
        (x_gR h12 v0 7 35).bind fun a15 =>
        (x_ld h12 a15 q6).bind fun x16 =>
        if x14 = x16 then
          (some (v3 ||| (0 : Int32))).bind fun x17 =>
          (some (v7 + (1 : Int32))).bind fun x18 =>
          f_X7_turnsOn_L41 n v0 v1 v2 v4 v5 v6 k x17 x18 h12
        else
          (some (v3 ||| (1 : Int32))).bind fun x19 =>
          (some (v7 + (1 : Int32))).bind fun x20 =>
          f_X7_turnsOn_L41 n v0 v1 v2 v4 v5 v6 k x19 x20 h12
      else
        (some (v3 ||| (0 : Int32))).bind fun x22 =>
        (some (v7 + (1 : Int32))).bind fun x23 =>
        f_X7_turnsOn_L41 n v0 v1 v2 v4 v5 v6 k x22 x23 h12
set_option maxRecDepth 100000 in
set_option maxHeartbeats 4000000 in
theorem l_X7_turnsOn_41 {S : Nat × (Nat → Int32)} {rv : Option Value} {h0 h1 : xH} {mc ms : Nat} {cells slots : Nat} (hm : cells ≤ mc ∧ slots ≤ ms) (n : Nat) (v0 : Nat) (v1 : Int32) (v2 : Int32) (v4 : Int32) (v5 : Int32) (v6 : Int32) : ∀ (k : Nat) (v3 : Int32) (v7 : Int32) (h : xH) (res : Int32 × xH), f_X7_turnsOn_L41 n v0 v1 v2 v4 v5 v6 k v3 v7 h = some res → (∀ r9, res = r9 → Y S M_X7_turnsOn h0 rv h1 mc ms 127 [(0, .ref v0), (1, .int v1), (2, .int v2), (3, .int r9.1), (4, .int v4), (5, .int v5), (6, .int v6)] [] r9.2 cells slots) → Y S M_X7_turnsOn h0 rv h1 mc ms 41 [(0, .ref v0), (1, .int v1), (2, .int v2), (3, .int v3), (4, .int v4), (5, .int v5), (6, .int v6), (7, .int v7)] [] h cells slots := by
  intro k
  induction k with
  | zero =>
    intro _ _ _ _ hE
    cases hE
  | succ k ih =>
    intro v3 v7 h res hE K
    unfold f_X7_turnsOn_L41 at hE
    refine y_iload dX7_turnsOn_41 7 rfl ?_
    refine y_aload_n dX7_turnsOn_43 0 rfl ?_
    obtain ⟨x4, ex4, hE⟩ := Option.bind_eq_some_iff.mp hE
    refine y_getI fl_X7_302 ex4 dX7_turnsOn_44 ?_
    refine y_icmp_gt (tgt := 127) dX7_turnsOn_47 (by decide) (fun hc25 => ?_) (fun hc25 => ?_)
    · rw [if_pos hc25] at hE
      obtain rfl := Option.some.inj hE
      exact y_pick [0, 1, 2, 3, 4, 5, 6] rfl (K _ rfl)
    · rw [if_neg hc25] at hE
      refine y_aload_n dX7_turnsOn_50 0 rfl ?_
      refine y_iload dX7_turnsOn_51 4 rfl ?_
      refine y_iload dX7_turnsOn_53 5 rfl ?_
      refine y_iload dX7_turnsOn_55 6 rfl ?_
      refine y_iload dX7_turnsOn_57 7 rfl ?_
      obtain ⟨u5, eu5, hE⟩ := Option.bind_eq_some_iff.mp hE
      obtain ⟨q6, eq6, hE⟩ := Option.bind_eq_some_iff.mp hE
      refine y_cVi0 (st := []) (as := [.int v4, .int v5, .int v6, .int v7]) (c_X7_placeOf eq6) lk_X7_315 in_X7_placeOf se_X7_placeOf rfl eu5 ⟨Nat.le_of_ble_eq_true rfl, Nat.le_of_ble_eq_true rfl⟩ (Nat.le_of_ble_eq_true rfl) dX7_turnsOn_59 hm rfl ?_
      refine y_istore (ls' := [(8, .int q6), (0, .ref v0), (1, .int v1), (2, .int v2), (3, .int v3), (4, .int v4), (5, .int v5), (6, .int v6), (7, .int v7)]) dX7_turnsOn_62 (by decide) rfl rfl ?_
      refine y_aload_n dX7_turnsOn_64 1 rfl ?_
      obtain ⟨a7, ea7, hE⟩ := Option.bind_eq_some_iff.mp hE
      refine y_getR fl_X7_319 ea7 dX7_turnsOn_65 ?_
      refine y_iload dX7_turnsOn_68 0 rfl ?_
      refine y_iload_n dX7_turnsOn_70 3 rfl ?_
      obtain ⟨q8, eJ, hE⟩ := Option.bind_eq_some_iff.mp hE
      have hJ : Y S M_X7_turnsOn h0 rv h1 mc ms 91 [(0, .ref v0), (1, .int v1), (2, .int v2), (3, .int v3), (4, .int v4), (5, .int v5), (6, .int v6), (7, .int v7), (8, .int q6)] [.int q8, .int q6, .ref a7] h cells slots := by
        obtain ⟨h12, eh12, hE⟩ := Option.bind_eq_some_iff.mp hE
        refine y_iast eh12 dX7_turnsOn_91 ?_
        refine y_iload_n dX7_turnsOn_92 3 rfl ?_
        refine y_iload_n dX7_turnsOn_93 2 rfl ?_
        refine y_if_ne (tgt := 118) dX7_turnsOn_94 (by decide) (fun hc24 => ?_) (fun hc24 => ?_)
        · rw [if_pos hc24] at hE
          refine y_aload_n dX7_turnsOn_97 0 rfl ?_
          obtain ⟨a13, ea13, hE⟩ := Option.bind_eq_some_iff.mp hE
          refine y_getR fl_X7_319 ea13 dX7_turnsOn_98 ?_
          refine y_iload dX7_turnsOn_101 8 rfl ?_
          obtain ⟨x14, ex14, hE⟩ := Option.bind_eq_some_iff.mp hE
          refine y_iald ex14 dX7_turnsOn_103 ?_
          refine y_aload_n dX7_turnsOn_104 0 rfl ?_
          obtain ⟨a15, ea15, hE⟩ := Option.bind_eq_some_iff.mp hE
          refine y_getR fl_X7_312 ea15 dX7_turnsOn_105 ?_
          refine y_iload dX7_turnsOn_108 8 rfl ?_
          obtain ⟨x16, ex16, hE⟩ := Option.bind_eq_some_iff.mp hE
          refine y_iald ex16 dX7_turnsOn_110 ?_
          refine y_icmp_eq (tgt := 118) dX7_turnsOn_111 (by decide) (fun hc21 => ?_) (fun hc21 => ?_)
          · rw [if_pos hc21] at hE
            refine y_iconst (v := (0 : Int32)) dX7_turnsOn_118 (by decide) ?_
            refine y_ior dX7_turnsOn_119 ?_
            obtain ⟨x17, ex17, hE⟩ := Option.bind_eq_some_iff.mp hE
            refine y_istore_n (ls' := [(3, .int x17), (0, .ref v0), (1, .int v1), (2, .int v2), (4, .int v4), (5, .int v5), (6, .int v6), (7, .int v7), (8, .int q6)]) dX7_turnsOn_120 (by decide) (Option.some.inj ex17) rfl ?_
            obtain ⟨x18, ex18, hE⟩ := Option.bind_eq_some_iff.mp hE
            refine y_iinc (ls' := [(7, .int x18), (3, .int x17), (0, .ref v0), (1, .int v1), (2, .int v2), (4, .int v4), (5, .int v5), (6, .int v6), (8, .int q6)]) dX7_turnsOn_121 7 rfl (Option.some.inj ex18) (by decide) rfl ?_
            refine y_goto (tgt := 41) dX7_turnsOn_124 (by decide) ?_
            refine y_pick [2, 3, 4, 1, 5, 6, 7, 0] rfl ?_
            exact ih _ _ _ _ hE K
          · rw [if_neg hc21] at hE
            refine y_iconst (v := (1 : Int32)) dX7_turnsOn_114 (by decide) ?_
            refine y_goto (tgt := 119) dX7_turnsOn_115 (by decide) ?_
            refine y_ior dX7_turnsOn_119 ?_
            obtain ⟨x19, ex19, hE⟩ := Option.bind_eq_some_iff.mp hE
            refine y_istore_n (ls' := [(3, .int x19), (0, .ref v0), (1, .int v1), (2, .int v2), (4, .int v4), (5, .int v5), (6, .int v6), (7, .int v7), (8, .int q6)]) dX7_turnsOn_120 (by decide) (Option.some.inj ex19) rfl ?_
            obtain ⟨x20, ex20, hE⟩ := Option.bind_eq_some_iff.mp hE
            refine y_iinc (ls' := [(7, .int x20), (3, .int x19), (0, .ref v0), (1, .int v1), (2, .int v2), (4, .int v4), (5, .int v5), (6, .int v6), (8, .int q6)]) dX7_turnsOn_121 7 rfl (Option.some.inj ex20) (by decide) rfl ?_
            refine y_goto (tgt := 41) dX7_turnsOn_124 (by decide) ?_
            refine y_pick [2, 3, 4, 1, 5, 6, 7, 0] rfl ?_
            exact ih _ _ _ _ hE K
        · rw [if_neg hc24] at hE
          refine y_iconst (v := (0 : Int32)) dX7_turnsOn_118 (by decide) ?_
          refine y_ior dX7_turnsOn_119 ?_
          obtain ⟨x22, ex22, hE⟩ := Option.bind_eq_some_iff.mp hE
          refine y_istore_n (ls' := [(3, .int x22), (0, .ref v0), (1, .int v1), (2, .int v2), (4, .int v4), (5, .int v5), (6, .int v6), (7, .int v7), (8, .int q6)]) dX7_turnsOn_120 (by decide) (Option.some.inj ex22) rfl ?_
          obtain ⟨x23, ex23, hE⟩ := Option.bind_eq_some_iff.mp hE
          refine y_iinc (ls' := [(7, .int x23), (3, .int x22), (0, .ref v0), (1, .int v1), (2, .int v2), (4, .int v4), (5, .int v5), (6, .int v6), (8, .int q6)]) dX7_turnsOn_121 7 rfl (Option.some.inj ex23) (by decide) rfl ?_
          refine y_goto (tgt := 41) dX7_turnsOn_124 (by decide) ?_
          refine y_pick [2, 3, 4, 1, 5, 6, 7, 0] rfl ?_
          exact ih _ _ _ _ hE K
      clear hE
      have hE := eJ
      clear eJ
      refine y_if_eq (tgt := 78) dX7_turnsOn_71 (by decide) (fun hc11 => ?_) (fun hc11 => ?_)
      · rw [if_pos hc11] at hE
        refine y_aload_n dX7_turnsOn_78 1 rfl ?_
        refine y_iload_n dX7_turnsOn_79 2 rfl ?_
        refine y_iload dX7_turnsOn_80 5 rfl ?_
        refine y_iload dX7_turnsOn_82 6 rfl ?_
        refine y_iload dX7_turnsOn_84 7 rfl ?_
        refine y_iload dX7_turnsOn_86 8 rfl ?_
        obtain ⟨u9, eu9, hE⟩ := Option.bind_eq_some_iff.mp hE
        obtain ⟨q10, eq10, hE⟩ := Option.bind_eq_some_iff.mp hE
        refine y_cVi0 (st := [.int q6, .ref a7]) (as := [.int v1, .int v4, .int v5, .int v6, .int v7]) (c_X7_mostOf eq10) lk_X7_322 in_X7_mostOf se_X7_mostOf rfl eu9 ⟨Nat.le_of_ble_eq_true rfl, Nat.le_of_ble_eq_true rfl⟩ (Nat.le_of_ble_eq_true rfl) dX7_turnsOn_88 hm rfl ?_
        obtain rfl := Option.some.inj hE
        exact y_pick [1, 2, 3, 4, 5, 6, 7, 8, 0] rfl hJ
      · rw [if_neg hc11] at hE
        refine y_iconst (v := (0 : Int32)) dX7_turnsOn_74 (by decide) ?_
        refine y_goto (tgt := 91) dX7_turnsOn_75 (by decide) ?_
        obtain rfl := Option.some.inj hE
        exact y_pick [1, 2, 3, 4, 5, 6, 7, 8, 0] rfl hJ
def f_X7_turnsOn_L29 (n : Nat) (v0 : Nat) (v1 : Int32) (v2 : Int32) (v4 : Int32) (v5 : Int32) : Nat → Int32 → Int32 → xH → Option (Int32 × xH)
  | 0, _, _, _ => none
  | k + 1, v3, v6, h =>
    (x_gI h v0 7 38).bind fun x3 =>
    if x3 < v6 then
      some (v3, h)
    else
      (f_X7_turnsOn_L41 n v0 v1 v2 v4 v5 v6 n v3 (0 : Int32) h).bind fun q26 =>
      (some (v6 + (1 : Int32))).bind fun x27 =>
      f_X7_turnsOn_L29 n v0 v1 v2 v4 v5 k q26.1 x27 q26.2
set_option maxRecDepth 100000 in
set_option maxHeartbeats 4000000 in
theorem l_X7_turnsOn_29 {S : Nat × (Nat → Int32)} {rv : Option Value} {h0 h1 : xH} {mc ms : Nat} {cells slots : Nat} (hm : cells ≤ mc ∧ slots ≤ ms) (n : Nat) (v0 : Nat) (v1 : Int32) (v2 : Int32) (v4 : Int32) (v5 : Int32) : ∀ (k : Nat) (v3 : Int32) (v6 : Int32) (h : xH) (res : Int32 × xH), f_X7_turnsOn_L29 n v0 v1 v2 v4 v5 k v3 v6 h = some res → (∀ r9, res = r9 → Y S M_X7_turnsOn h0 rv h1 mc ms 133 [(0, .ref v0), (1, .int v1), (2, .int v2), (3, .int r9.1), (4, .int v4), (5, .int v5)] [] r9.2 cells slots) → Y S M_X7_turnsOn h0 rv h1 mc ms 29 [(0, .ref v0), (1, .int v1), (2, .int v2), (3, .int v3), (4, .int v4), (5, .int v5), (6, .int v6)] [] h cells slots := by
  intro k
  induction k with
  | zero =>
    intro _ _ _ _ hE
    cases hE
  | succ k ih =>
    intro v3 v6 h res hE K
    unfold f_X7_turnsOn_L29 at hE
    refine y_iload dX7_turnsOn_29 6 rfl ?_
    refine y_aload_n dX7_turnsOn_31 0 rfl ?_
    obtain ⟨x3, ex3, hE⟩ := Option.bind_eq_some_iff.mp hE
    refine y_getI fl_X7_299 ex3 dX7_turnsOn_32 ?_
    refine y_icmp_gt (tgt := 133) dX7_turnsOn_35 (by decide) (fun hc28 => ?_) (fun hc28 => ?_)
    · rw [if_pos hc28] at hE
      obtain rfl := Option.some.inj hE
      exact y_pick [0, 1, 2, 3, 4, 5] rfl (K _ rfl)
    · rw [if_neg hc28] at hE
      refine y_iconst (v := (0 : Int32)) dX7_turnsOn_38 (by decide) ?_
      refine y_istore (ls' := [(7, .int (0 : Int32)), (0, .ref v0), (1, .int v1), (2, .int v2), (3, .int v3), (4, .int v4), (5, .int v5), (6, .int v6)]) dX7_turnsOn_39 (by decide) rfl rfl ?_
      obtain ⟨q26, eq26, hE⟩ := Option.bind_eq_some_iff.mp hE
      refine y_pick [1, 2, 3, 4, 5, 6, 7, 0] rfl ?_
      refine l_X7_turnsOn_41 (S := S) hm n v0 v1 v2 v4 v5 v6 n v3 (0 : Int32) h _ eq26 (fun r8 hr8 => ?_)
      subst hr8
      obtain ⟨x27, ex27, hE⟩ := Option.bind_eq_some_iff.mp hE
      refine y_iinc (ls' := [(6, .int x27), (0, .ref v0), (1, .int v1), (2, .int v2), (3, .int q26.1), (4, .int v4), (5, .int v5)]) dX7_turnsOn_127 6 rfl (Option.some.inj ex27) (by decide) rfl ?_
      refine y_goto (tgt := 29) dX7_turnsOn_130 (by decide) ?_
      refine y_pick [1, 2, 3, 4, 5, 6, 0] rfl ?_
      exact ih _ _ _ _ hE K
def f_X7_turnsOn_L17 (n : Nat) (v0 : Nat) (v1 : Int32) (v2 : Int32) (v4 : Int32) : Nat → Int32 → Int32 → xH → Option (Int32 × xH)
  | 0, _, _, _ => none
  | k + 1, v3, v5, h =>
    (x_gI h v0 7 37).bind fun x2 =>
    if x2 < v5 then
      some (v3, h)
    else
      (f_X7_turnsOn_L29 n v0 v1 v2 v4 v5 n v3 (0 : Int32) h).bind fun q29 =>
      (some (v5 + (1 : Int32))).bind fun x30 =>
      f_X7_turnsOn_L17 n v0 v1 v2 v4 k q29.1 x30 q29.2
set_option maxRecDepth 100000 in
set_option maxHeartbeats 4000000 in
theorem l_X7_turnsOn_17 {S : Nat × (Nat → Int32)} {rv : Option Value} {h0 h1 : xH} {mc ms : Nat} {cells slots : Nat} (hm : cells ≤ mc ∧ slots ≤ ms) (n : Nat) (v0 : Nat) (v1 : Int32) (v2 : Int32) (v4 : Int32) : ∀ (k : Nat) (v3 : Int32) (v5 : Int32) (h : xH) (res : Int32 × xH), f_X7_turnsOn_L17 n v0 v1 v2 v4 k v3 v5 h = some res → (∀ r9, res = r9 → Y S M_X7_turnsOn h0 rv h1 mc ms 139 [(0, .ref v0), (1, .int v1), (2, .int v2), (3, .int r9.1), (4, .int v4)] [] r9.2 cells slots) → Y S M_X7_turnsOn h0 rv h1 mc ms 17 [(0, .ref v0), (1, .int v1), (2, .int v2), (3, .int v3), (4, .int v4), (5, .int v5)] [] h cells slots := by
  intro k
  induction k with
  | zero =>
    intro _ _ _ _ hE
    cases hE
  | succ k ih =>
    intro v3 v5 h res hE K
    unfold f_X7_turnsOn_L17 at hE
    refine y_iload dX7_turnsOn_17 5 rfl ?_
    refine y_aload_n dX7_turnsOn_19 0 rfl ?_
    obtain ⟨x2, ex2, hE⟩ := Option.bind_eq_some_iff.mp hE
    refine y_getI fl_X7_296 ex2 dX7_turnsOn_20 ?_
    refine y_icmp_gt (tgt := 139) dX7_turnsOn_23 (by decide) (fun hc31 => ?_) (fun hc31 => ?_)
    · rw [if_pos hc31] at hE
      obtain rfl := Option.some.inj hE
      exact y_pick [0, 1, 2, 3, 4] rfl (K _ rfl)
    · rw [if_neg hc31] at hE
      refine y_iconst (v := (0 : Int32)) dX7_turnsOn_26 (by decide) ?_
      refine y_istore (ls' := [(6, .int (0 : Int32)), (0, .ref v0), (1, .int v1), (2, .int v2), (3, .int v3), (4, .int v4), (5, .int v5)]) dX7_turnsOn_27 (by decide) rfl rfl ?_
      obtain ⟨q29, eq29, hE⟩ := Option.bind_eq_some_iff.mp hE
      refine y_pick [1, 2, 3, 4, 5, 6, 0] rfl ?_
      refine l_X7_turnsOn_29 (S := S) hm n v0 v1 v2 v4 v5 n v3 (0 : Int32) h _ eq29 (fun r8 hr8 => ?_)
      subst hr8
      obtain ⟨x30, ex30, hE⟩ := Option.bind_eq_some_iff.mp hE
      refine y_iinc (ls' := [(5, .int x30), (0, .ref v0), (1, .int v1), (2, .int v2), (3, .int q29.1), (4, .int v4)]) dX7_turnsOn_133 5 rfl (Option.some.inj ex30) (by decide) rfl ?_
      refine y_goto (tgt := 17) dX7_turnsOn_136 (by decide) ?_
      refine y_pick [1, 2, 3, 4, 5, 0] rfl ?_
      exact ih _ _ _ _ hE K
def f_X7_turnsOn_L5 (n : Nat) (v0 : Nat) (v1 : Int32) (v2 : Int32) : Nat → Int32 → Int32 → xH → Option (Int32 × xH)
  | 0, _, _, _ => none
  | k + 1, v3, v4, h =>
    (x_gI h v0 7 36).bind fun x1 =>
    if x1 < v4 then
      some (v3, h)
    else
      (f_X7_turnsOn_L17 n v0 v1 v2 v4 n v3 (0 : Int32) h).bind fun q32 =>
      (some (v4 + (1 : Int32))).bind fun x33 =>
      f_X7_turnsOn_L5 n v0 v1 v2 k q32.1 x33 q32.2
set_option maxRecDepth 100000 in
set_option maxHeartbeats 4000000 in
theorem l_X7_turnsOn_5 {S : Nat × (Nat → Int32)} {rv : Option Value} {h0 h1 : xH} {mc ms : Nat} {cells slots : Nat} (hm : cells ≤ mc ∧ slots ≤ ms) (n : Nat) (v0 : Nat) (v1 : Int32) (v2 : Int32) : ∀ (k : Nat) (v3 : Int32) (v4 : Int32) (h : xH) (res : Int32 × xH), f_X7_turnsOn_L5 n v0 v1 v2 k v3 v4 h = some res → (∀ r9, res = r9 → Y S M_X7_turnsOn h0 rv h1 mc ms 145 [(0, .ref v0), (3, .int r9.1)] [] r9.2 cells slots) → Y S M_X7_turnsOn h0 rv h1 mc ms 5 [(0, .ref v0), (1, .int v1), (2, .int v2), (3, .int v3), (4, .int v4)] [] h cells slots := by
  intro k
  induction k with
  | zero =>
    intro _ _ _ _ hE
    cases hE
  | succ k ih =>
    intro v3 v4 h res hE K
    unfold f_X7_turnsOn_L5 at hE
    refine y_iload dX7_turnsOn_5 4 rfl ?_
    refine y_aload_n dX7_turnsOn_7 0 rfl ?_
    obtain ⟨x1, ex1, hE⟩ := Option.bind_eq_some_iff.mp hE
    refine y_getI fl_X7_309 ex1 dX7_turnsOn_8 ?_
    refine y_icmp_gt (tgt := 145) dX7_turnsOn_11 (by decide) (fun hc34 => ?_) (fun hc34 => ?_)
    · rw [if_pos hc34] at hE
      obtain rfl := Option.some.inj hE
      exact y_pick [0, 3] rfl (K _ rfl)
    · rw [if_neg hc34] at hE
      refine y_iconst (v := (0 : Int32)) dX7_turnsOn_14 (by decide) ?_
      refine y_istore (ls' := [(5, .int (0 : Int32)), (0, .ref v0), (1, .int v1), (2, .int v2), (3, .int v3), (4, .int v4)]) dX7_turnsOn_15 (by decide) rfl rfl ?_
      obtain ⟨q32, eq32, hE⟩ := Option.bind_eq_some_iff.mp hE
      refine y_pick [1, 2, 3, 4, 5, 0] rfl ?_
      refine l_X7_turnsOn_17 (S := S) hm n v0 v1 v2 v4 n v3 (0 : Int32) h _ eq32 (fun r8 hr8 => ?_)
      subst hr8
      obtain ⟨x33, ex33, hE⟩ := Option.bind_eq_some_iff.mp hE
      refine y_iinc (ls' := [(4, .int x33), (0, .ref v0), (1, .int v1), (2, .int v2), (3, .int q32.1)]) dX7_turnsOn_139 4 rfl (Option.some.inj ex33) (by decide) rfl ?_
      refine y_goto (tgt := 5) dX7_turnsOn_142 (by decide) ?_
      refine y_pick [1, 2, 3, 4, 0] rfl ?_
      exact ih _ _ _ _ hE K
def f_X7_turnsOn (n : Nat) (h : xH) (a0 : Nat) (p1 : Int32) (p2 : Int32) : Option (Int32 × xH) :=
  (f_X7_turnsOn_L5 n a0 p1 p2 n p2 (0 : Int32) h).bind fun q35 =>
  (x_gR q35.2 a0 7 35).bind fun a36 =>
  (x_gR q35.2 a0 7 34).bind fun a37 =>
  (x_put q35.2 a0 7 35 (.ref a37)).bind fun h38 =>
  (x_put h38 a0 7 34 (.ref a36)).bind fun h39 =>
  (x_bool q35.1).bind fun x40 =>
  some (x40, h39)
set_option maxRecDepth 100000 in
set_option maxHeartbeats 4000000 in
theorem c_X7_turnsOn {n : Nat} {h : xH} {a0 : Nat} {p1 : Int32} {p2 : Int32} {r9 : Int32} {hz : xH} (hE : f_X7_turnsOn n h a0 p1 p2 = some (r9, hz)) : Ctr M_X7_turnsOn [.ref a0, .int p1, .int p2] h (some (.int r9)) hz 0 0 := by
  refine ctr_of (by decide) (fun _ _ => Nat.le_of_ble_eq_true rfl) (fun S => ?_)
  show Y S M_X7_turnsOn h (some (.int r9)) hz 0 0 0 [(0, .ref a0), (1, .int p1), (2, .int p2)] [] h 0 0
  unfold f_X7_turnsOn at hE
  refine y_iload_n dX7_turnsOn_0 2 rfl ?_
  refine y_istore_n (ls' := [(3, .int p2), (0, .ref a0), (1, .int p1), (2, .int p2)]) dX7_turnsOn_1 (by decide) rfl rfl ?_
  refine y_iconst (v := (0 : Int32)) dX7_turnsOn_2 (by decide) ?_
  refine y_istore (ls' := [(4, .int (0 : Int32)), (3, .int p2), (0, .ref a0), (1, .int p1), (2, .int p2)]) dX7_turnsOn_3 (by decide) rfl rfl ?_
  obtain ⟨q35, eq35, hE⟩ := Option.bind_eq_some_iff.mp hE
  refine y_pick [2, 3, 4, 1, 0] rfl ?_
  refine l_X7_turnsOn_5 (S := S) ⟨Nat.le_refl _, Nat.le_refl _⟩ n a0 p1 p2 n p2 (0 : Int32) h _ eq35 (fun r8 hr8 => ?_)
  subst hr8
  refine y_aload_n dX7_turnsOn_145 0 rfl ?_
  obtain ⟨a36, ea36, hE⟩ := Option.bind_eq_some_iff.mp hE
  refine y_getR fl_X7_312 ea36 dX7_turnsOn_146 ?_
  refine y_astore (ls' := [(4, .ref a36), (0, .ref a0), (3, .int q35.1)]) dX7_turnsOn_149 (by decide) rfl rfl ?_
  refine y_aload_n dX7_turnsOn_151 1 rfl ?_
  refine y_aload_n dX7_turnsOn_152 1 rfl ?_
  obtain ⟨a37, ea37, hE⟩ := Option.bind_eq_some_iff.mp hE
  refine y_getR fl_X7_319 ea37 dX7_turnsOn_153 ?_
  obtain ⟨h38, eh38, hE⟩ := Option.bind_eq_some_iff.mp hE
  refine y_putR fp_X7_312 (fun q => by first | rfl | cases q) (fun _ => rfl) (fun _ => rfl) eh38 dX7_turnsOn_156 ?_
  refine y_aload_n dX7_turnsOn_159 1 rfl ?_
  refine y_aload dX7_turnsOn_160 0 rfl ?_
  obtain ⟨h39, eh39, hE⟩ := Option.bind_eq_some_iff.mp hE
  refine y_putR fp_X7_319 (fun q => by first | rfl | cases q) (fun _ => rfl) (fun _ => rfl) eh39 dX7_turnsOn_162 ?_
  refine y_iload_n dX7_turnsOn_165 2 rfl ?_
  obtain ⟨x40, ex40, hE⟩ := Option.bind_eq_some_iff.mp hE
  obtain ⟨e9, hnb⟩ := x_bool.spec ex40
  rw [e9]
  obtain ⟨rfl, rfl⟩ := x_inj2 hE
  exact y_ret dX7_turnsOn_166 (Nat.le_refl _) (Nat.le_refl _) ⟨_, rfl, hnb⟩
def f_X7_lastsBy_L53 (v0 : Nat) (v1 : Int32) : Nat → Int32 → Int32 → Int32 → xH → Option (Int32 × Int32 × xH)
  | 0, _, _, _, _ => none
  | k + 1, v3, v4, v5, h =>
    (x_gI h v0 7 9).bind fun x13 =>
    if x13 ≤ v5 then
      some (v3, v4, h)
    else
      (x_gR h v0 7 10).bind fun a14 =>
      (x_ldQ h a14 v5).bind fun a15 =>
      (x_ld h a15 (0 : Int32)).bind fun x16 =>
      (x_gI h v0 7 11).bind fun x17 =>
      (some ((i_shr x17 v5) &&& (1 : Int32))).bind fun x18 =>
      (x_gI h v0 7 36).bind fun x19 =>
      (
        if x16 = (5 : Int32) then
          some (0 : Int32)
        else
          if x16 = (4 : Int32) then
            some (0 : Int32)
          else
            if x16 = (2 : Int32) then
              some (0 : Int32)
            else
              some (1 : Int32)
      ).bind fun q20 =>
      (x_put h v0 7 36 (.int (x19 + q20))).bind fun h24 =>
      (
        if x16 = (5 : Int32) then
          some (0 : Int32)
        else
          if x16 = (4 : Int32) then
            some (0 : Int32)
          else
            if x16 = (2 : Int32) then
              some (0 : Int32)
            else
              some x18
      ).bind fun q25 =>
      (some (v3 + q25)).bind fun x29 =>
      (x_gI h24 v0 7 37).bind fun x30 =>
      (
        if x16 = (2 : Int32) then
          some (1 : Int32)
        else
          some (0 : Int32)
      ).bind fun q31 =>
      (x_put h24 v0 7 37 (.int (x30 + q31))).bind fun h33 =>
      (
        if x16 = (2 : Int32) then
          some x18
        else
          some (0 : Int32)
      ).bind fun q34 =>
      (some (v4 + q34)).bind fun x36 =>
      (x_gI h33 v0 7 38).bind fun x37 =>
      (
        if x16 = (5 : Int32) then
          some ((1 : Int32) - x18)
        else
          some (0 : Int32)
      ).bind fun q38 =>
      (x_put h33 v0 7 38 (.int (x37 + q38))).bind fun h40 =>
      (x_gI h40 v0 7 39).bind fun x41 =>
      if x16 = (4 : Int32) then
        (x_put h40 v0 7 39 (.int (x41 + ((1 : Int32) - x18)))).bind fun h42 =>
        (some (v5 + (1 : Int32))).bind fun x43 =>
        f_X7_lastsBy_L53 v0 v1 k x29 x36 x43 h42
      else
        (x_put h40 v0 7 39 (.int (x41 + (0 : Int32)))).bind fun h44 =>
        (some (v5 + (1 : Int32))).bind fun x45 =>
        f_X7_lastsBy_L53 v0 v1 k x29 x36 x45 h44
set_option maxRecDepth 100000 in
set_option maxHeartbeats 4000000 in
theorem l_X7_lastsBy_53 {S : Nat × (Nat → Int32)} {rv : Option Value} {h0 h1 : xH} {mc ms : Nat} {cells slots : Nat} (hm : cells ≤ mc ∧ slots ≤ ms) (v0 : Nat) (v1 : Int32) : ∀ (k : Nat) (v3 : Int32) (v4 : Int32) (v5 : Int32) (h : xH) (res : Int32 × Int32 × xH), f_X7_lastsBy_L53 v0 v1 k v3 v4 v5 h = some res → (∀ r9, res = r9 → Y S M_X7_lastsBy h0 rv h1 mc ms 232 [(0, .ref v0), (1, .int v1), (3, .int r9.1), (4, .int r9.2.1)] [] r9.2.2 cells slots) → Y S M_X7_lastsBy h0 rv h1 mc ms 53 [(0, .ref v0), (1, .int v1), (3, .int v3), (4, .int v4), (5, .int v5)] [] h cells slots := by
  intro k
  induction k with
  | zero =>
    intro _ _ _ _ _ hE
    cases hE
  | succ k ih =>
    intro v3 v4 v5 h res hE K
    unfold f_X7_lastsBy_L53 at hE
    refine y_iload dX7_lastsBy_53 4 rfl ?_
    refine y_aload_n dX7_lastsBy_55 0 rfl ?_
    obtain ⟨x13, ex13, hE⟩ := Option.bind_eq_some_iff.mp hE
    refine y_getI fl_X7_61 ex13 dX7_lastsBy_56 ?_
    refine y_icmp_ge (tgt := 232) dX7_lastsBy_59 (by decide) (fun hc47 => ?_) (fun hc47 => ?_)
    · rw [if_pos hc47] at hE
      obtain rfl := Option.some.inj hE
      exact y_pick [0, 1, 2, 3] rfl (K _ rfl)
    · rw [if_neg hc47] at hE
      refine y_aload_n dX7_lastsBy_62 0 rfl ?_
      obtain ⟨a14, ea14, hE⟩ := Option.bind_eq_some_iff.mp hE
      refine y_getR fl_X7_39 ea14 dX7_lastsBy_63 ?_
      refine y_iload dX7_lastsBy_66 4 rfl ?_
      obtain ⟨a15, ea15, hE⟩ := Option.bind_eq_some_iff.mp hE
      refine y_aald ea15 dX7_lastsBy_68 ?_
      refine y_iconst (v := (0 : Int32)) dX7_lastsBy_69 (by decide) ?_
      obtain ⟨x16, ex16, hE⟩ := Option.bind_eq_some_iff.mp hE
      refine y_iald ex16 dX7_lastsBy_70 ?_
      refine y_istore (ls' := [(6, .int x16), (0, .ref v0), (1, .int v1), (3, .int v3), (4, .int v4), (5, .int v5)]) dX7_lastsBy_71 (by decide) rfl rfl ?_
      refine y_aload_n dX7_lastsBy_73 1 rfl ?_
      obtain ⟨x17, ex17, hE⟩ := Option.bind_eq_some_iff.mp hE
      refine y_getI fl_X7_108 ex17 dX7_lastsBy_74 ?_
      refine y_iload dX7_lastsBy_77 5 rfl ?_
      refine y_ishr dX7_lastsBy_79 ?_
      refine y_iconst (v := (1 : Int32)) dX7_lastsBy_80 (by decide) ?_
      refine y_iand dX7_lastsBy_81 ?_
      obtain ⟨x18, ex18, hE⟩ := Option.bind_eq_some_iff.mp hE
      refine y_istore (ls' := [(7, .int x18), (6, .int x16), (0, .ref v0), (1, .int v1), (3, .int v3), (4, .int v4), (5, .int v5)]) dX7_lastsBy_82 (by decide) (Option.some.inj ex18) rfl ?_
      refine y_aload_n dX7_lastsBy_84 2 rfl ?_
      refine y_dup dX7_lastsBy_85 rfl ?_
      obtain ⟨x19, ex19, hE⟩ := Option.bind_eq_some_iff.mp hE
      refine y_getI fl_X7_309 ex19 dX7_lastsBy_86 ?_
      refine y_iload dX7_lastsBy_89 1 rfl ?_
      refine y_iconst (v := (5 : Int32)) dX7_lastsBy_91 (by decide) ?_
      obtain ⟨q20, eJ, hE⟩ := Option.bind_eq_some_iff.mp hE
      have hJ : Y S M_X7_lastsBy h0 rv h1 mc ms 112 [(0, .ref v0), (1, .int v1), (3, .int v3), (4, .int v4), (5, .int v5), (6, .int x16), (7, .int x18)] [.int q20, .int x19, .ref v0] h cells slots := by
        refine y_iadd dX7_lastsBy_112 ?_
        obtain ⟨h24, eh24, hE⟩ := Option.bind_eq_some_iff.mp hE
        refine y_putI fp_X7_309 eh24 dX7_lastsBy_113 ?_
        refine y_iload_n dX7_lastsBy_116 2 rfl ?_
        refine y_iload dX7_lastsBy_117 5 rfl ?_
        refine y_iconst (v := (5 : Int32)) dX7_lastsBy_119 (by decide) ?_
        obtain ⟨q25, eJ, hE⟩ := Option.bind_eq_some_iff.mp hE
        have hJ : Y S M_X7_lastsBy h0 rv h1 mc ms 141 [(0, .ref v0), (1, .int v1), (4, .int v4), (5, .int v5), (6, .int x16), (7, .int x18)] [.int q25, .int v3] h24 cells slots := by
          refine y_iadd dX7_lastsBy_141 ?_
          obtain ⟨x29, ex29, hE⟩ := Option.bind_eq_some_iff.mp hE
          refine y_istore_n (ls' := [(3, .int x29), (0, .ref v0), (1, .int v1), (4, .int v4), (5, .int v5), (6, .int x16), (7, .int x18)]) dX7_lastsBy_142 (by decide) (Option.some.inj ex29) rfl ?_
          refine y_aload_n dX7_lastsBy_143 1 rfl ?_
          refine y_dup dX7_lastsBy_144 rfl ?_
          obtain ⟨x30, ex30, hE⟩ := Option.bind_eq_some_iff.mp hE
          refine y_getI fl_X7_296 ex30 dX7_lastsBy_145 ?_
          refine y_iload dX7_lastsBy_148 5 rfl ?_
          refine y_iconst (v := (2 : Int32)) dX7_lastsBy_150 (by decide) ?_
          obtain ⟨q31, eJ, hE⟩ := Option.bind_eq_some_iff.mp hE
          have hJ : Y S M_X7_lastsBy h0 rv h1 mc ms 159 [(0, .ref v0), (1, .int v1), (3, .int x29), (4, .int v4), (5, .int v5), (6, .int x16), (7, .int x18)] [.int q31, .int x30, .ref v0] h24 cells slots := by
            refine y_iadd dX7_lastsBy_159 ?_
            obtain ⟨h33, eh33, hE⟩ := Option.bind_eq_some_iff.mp hE
            refine y_putI fp_X7_296 eh33 dX7_lastsBy_160 ?_
            refine y_iload dX7_lastsBy_163 3 rfl ?_
            refine y_iload dX7_lastsBy_165 5 rfl ?_
            refine y_iconst (v := (2 : Int32)) dX7_lastsBy_167 (by decide) ?_
            obtain ⟨q34, eJ, hE⟩ := Option.bind_eq_some_iff.mp hE
            have hJ : Y S M_X7_lastsBy h0 rv h1 mc ms 177 [(0, .ref v0), (1, .int v1), (3, .int x29), (5, .int v5), (6, .int x16), (7, .int x18)] [.int q34, .int v4] h33 cells slots := by
              refine y_iadd dX7_lastsBy_177 ?_
              obtain ⟨x36, ex36, hE⟩ := Option.bind_eq_some_iff.mp hE
              refine y_istore (ls' := [(4, .int x36), (0, .ref v0), (1, .int v1), (3, .int x29), (5, .int v5), (6, .int x16), (7, .int x18)]) dX7_lastsBy_178 (by decide) (Option.some.inj ex36) rfl ?_
              refine y_aload_n dX7_lastsBy_180 1 rfl ?_
              refine y_dup dX7_lastsBy_181 rfl ?_
              obtain ⟨x37, ex37, hE⟩ := Option.bind_eq_some_iff.mp hE
              refine y_getI fl_X7_299 ex37 dX7_lastsBy_182 ?_
              refine y_iload dX7_lastsBy_185 5 rfl ?_
              refine y_iconst (v := (5 : Int32)) dX7_lastsBy_187 (by decide) ?_
              obtain ⟨q38, eJ, hE⟩ := Option.bind_eq_some_iff.mp hE
              have hJ : Y S M_X7_lastsBy h0 rv h1 mc ms 199 [(0, .ref v0), (1, .int v1), (3, .int x29), (4, .int x36), (5, .int v5), (6, .int x16), (7, .int x18)] [.int q38, .int x37, .ref v0] h33 cells slots := by
                refine y_iadd dX7_lastsBy_199 ?_
                obtain ⟨h40, eh40, hE⟩ := Option.bind_eq_some_iff.mp hE
                refine y_putI fp_X7_299 eh40 dX7_lastsBy_200 ?_
                refine y_aload_n dX7_lastsBy_203 0 rfl ?_
                refine y_dup dX7_lastsBy_204 rfl ?_
                obtain ⟨x41, ex41, hE⟩ := Option.bind_eq_some_iff.mp hE
                refine y_getI fl_X7_302 ex41 dX7_lastsBy_205 ?_
                refine y_iload dX7_lastsBy_208 5 rfl ?_
                refine y_iconst (v := (4 : Int32)) dX7_lastsBy_210 (by decide) ?_
                refine y_icmp_ne (tgt := 221) dX7_lastsBy_211 (by decide) (fun hc46 => ?_) (fun hc46 => ?_)
                · rw [if_pos hc46] at hE
                  refine y_iconst (v := (1 : Int32)) dX7_lastsBy_214 (by decide) ?_
                  refine y_iload dX7_lastsBy_215 6 rfl ?_
                  refine y_isub dX7_lastsBy_217 ?_
                  refine y_goto (tgt := 222) dX7_lastsBy_218 (by decide) ?_
                  refine y_iadd dX7_lastsBy_222 ?_
                  obtain ⟨h42, eh42, hE⟩ := Option.bind_eq_some_iff.mp hE
                  refine y_putI fp_X7_302 eh42 dX7_lastsBy_223 ?_
                  obtain ⟨x43, ex43, hE⟩ := Option.bind_eq_some_iff.mp hE
                  refine y_iinc (ls' := [(5, .int x43), (0, .ref v0), (1, .int v1), (3, .int x29), (4, .int x36), (6, .int x16), (7, .int x18)]) dX7_lastsBy_226 4 rfl (Option.some.inj ex43) (by decide) rfl ?_
                  refine y_goto (tgt := 53) dX7_lastsBy_229 (by decide) ?_
                  refine y_pick [1, 2, 3, 4, 0] rfl ?_
                  exact ih _ _ _ _ _ hE K
                · rw [if_neg hc46] at hE
                  refine y_iconst (v := (0 : Int32)) dX7_lastsBy_221 (by decide) ?_
                  refine y_iadd dX7_lastsBy_222 ?_
                  obtain ⟨h44, eh44, hE⟩ := Option.bind_eq_some_iff.mp hE
                  refine y_putI fp_X7_302 eh44 dX7_lastsBy_223 ?_
                  obtain ⟨x45, ex45, hE⟩ := Option.bind_eq_some_iff.mp hE
                  refine y_iinc (ls' := [(5, .int x45), (0, .ref v0), (1, .int v1), (3, .int x29), (4, .int x36), (6, .int x16), (7, .int x18)]) dX7_lastsBy_226 4 rfl (Option.some.inj ex45) (by decide) rfl ?_
                  refine y_goto (tgt := 53) dX7_lastsBy_229 (by decide) ?_
                  refine y_pick [1, 2, 3, 4, 0] rfl ?_
                  exact ih _ _ _ _ _ hE K
              clear hE
              have hE := eJ
              clear eJ
              refine y_icmp_ne (tgt := 198) dX7_lastsBy_188 (by decide) (fun hc39 => ?_) (fun hc39 => ?_)
              · rw [if_pos hc39] at hE
                refine y_iconst (v := (1 : Int32)) dX7_lastsBy_191 (by decide) ?_
                refine y_iload dX7_lastsBy_192 6 rfl ?_
                refine y_isub dX7_lastsBy_194 ?_
                refine y_goto (tgt := 199) dX7_lastsBy_195 (by decide) ?_
                obtain rfl := Option.some.inj hE
                exact y_pick [1, 2, 3, 0, 4, 5, 6] rfl hJ
              · rw [if_neg hc39] at hE
                refine y_iconst (v := (0 : Int32)) dX7_lastsBy_198 (by decide) ?_
                obtain rfl := Option.some.inj hE
                exact y_pick [1, 2, 3, 0, 4, 5, 6] rfl hJ
            clear hE
            have hE := eJ
            clear eJ
            refine y_icmp_ne (tgt := 176) dX7_lastsBy_168 (by decide) (fun hc35 => ?_) (fun hc35 => ?_)
            · rw [if_pos hc35] at hE
              refine y_iload dX7_lastsBy_171 6 rfl ?_
              refine y_goto (tgt := 177) dX7_lastsBy_173 (by decide) ?_
              obtain rfl := Option.some.inj hE
              exact y_pick [0, 1, 2, 4, 5, 6] rfl hJ
            · rw [if_neg hc35] at hE
              refine y_iconst (v := (0 : Int32)) dX7_lastsBy_176 (by decide) ?_
              obtain rfl := Option.some.inj hE
              exact y_pick [0, 1, 2, 4, 5, 6] rfl hJ
          clear hE
          have hE := eJ
          clear eJ
          refine y_icmp_ne (tgt := 158) dX7_lastsBy_151 (by decide) (fun hc32 => ?_) (fun hc32 => ?_)
          · rw [if_pos hc32] at hE
            refine y_iconst (v := (1 : Int32)) dX7_lastsBy_154 (by decide) ?_
            refine y_goto (tgt := 159) dX7_lastsBy_155 (by decide) ?_
            obtain rfl := Option.some.inj hE
            exact y_pick [1, 2, 0, 3, 4, 5, 6] rfl hJ
          · rw [if_neg hc32] at hE
            refine y_iconst (v := (0 : Int32)) dX7_lastsBy_158 (by decide) ?_
            obtain rfl := Option.some.inj hE
            exact y_pick [1, 2, 0, 3, 4, 5, 6] rfl hJ
        clear hE
        have hE := eJ
        clear eJ
        refine y_icmp_eq (tgt := 135) dX7_lastsBy_120 (by decide) (fun hc28 => ?_) (fun hc28 => ?_)
        · rw [if_pos hc28] at hE
          refine y_iconst (v := (0 : Int32)) dX7_lastsBy_135 (by decide) ?_
          refine y_goto (tgt := 141) dX7_lastsBy_136 (by decide) ?_
          obtain rfl := Option.some.inj hE
          exact y_pick [0, 1, 3, 4, 5, 6] rfl hJ
        · rw [if_neg hc28] at hE
          refine y_iload dX7_lastsBy_123 5 rfl ?_
          refine y_iconst (v := (4 : Int32)) dX7_lastsBy_125 (by decide) ?_
          refine y_icmp_eq (tgt := 135) dX7_lastsBy_126 (by decide) (fun hc27 => ?_) (fun hc27 => ?_)
          · rw [if_pos hc27] at hE
            refine y_iconst (v := (0 : Int32)) dX7_lastsBy_135 (by decide) ?_
            refine y_goto (tgt := 141) dX7_lastsBy_136 (by decide) ?_
            obtain rfl := Option.some.inj hE
            exact y_pick [0, 1, 3, 4, 5, 6] rfl hJ
          · rw [if_neg hc27] at hE
            refine y_iload dX7_lastsBy_129 5 rfl ?_
            refine y_iconst (v := (2 : Int32)) dX7_lastsBy_131 (by decide) ?_
            refine y_icmp_ne (tgt := 139) dX7_lastsBy_132 (by decide) (fun hc26 => ?_) (fun hc26 => ?_)
            · rw [if_pos hc26] at hE
              refine y_iconst (v := (0 : Int32)) dX7_lastsBy_135 (by decide) ?_
              refine y_goto (tgt := 141) dX7_lastsBy_136 (by decide) ?_
              obtain rfl := Option.some.inj hE
              exact y_pick [0, 1, 3, 4, 5, 6] rfl hJ
            · rw [if_neg hc26] at hE
              refine y_iload dX7_lastsBy_139 6 rfl ?_
              obtain rfl := Option.some.inj hE
              exact y_pick [0, 1, 3, 4, 5, 6] rfl hJ
      clear hE
      have hE := eJ
      clear eJ
      refine y_icmp_eq (tgt := 107) dX7_lastsBy_92 (by decide) (fun hc23 => ?_) (fun hc23 => ?_)
      · rw [if_pos hc23] at hE
        refine y_iconst (v := (0 : Int32)) dX7_lastsBy_107 (by decide) ?_
        refine y_goto (tgt := 112) dX7_lastsBy_108 (by decide) ?_
        obtain rfl := Option.some.inj hE
        exact y_pick [2, 3, 4, 5, 6, 1, 0] rfl hJ
      · rw [if_neg hc23] at hE
        refine y_iload dX7_lastsBy_95 1 rfl ?_
        refine y_iconst (v := (4 : Int32)) dX7_lastsBy_97 (by decide) ?_
        refine y_icmp_eq (tgt := 107) dX7_lastsBy_98 (by decide) (fun hc22 => ?_) (fun hc22 => ?_)
        · rw [if_pos hc22] at hE
          refine y_iconst (v := (0 : Int32)) dX7_lastsBy_107 (by decide) ?_
          refine y_goto (tgt := 112) dX7_lastsBy_108 (by decide) ?_
          obtain rfl := Option.some.inj hE
          exact y_pick [2, 3, 4, 5, 6, 1, 0] rfl hJ
        · rw [if_neg hc22] at hE
          refine y_iload dX7_lastsBy_101 1 rfl ?_
          refine y_iconst (v := (2 : Int32)) dX7_lastsBy_103 (by decide) ?_
          refine y_icmp_ne (tgt := 111) dX7_lastsBy_104 (by decide) (fun hc21 => ?_) (fun hc21 => ?_)
          · rw [if_pos hc21] at hE
            refine y_iconst (v := (0 : Int32)) dX7_lastsBy_107 (by decide) ?_
            refine y_goto (tgt := 112) dX7_lastsBy_108 (by decide) ?_
            obtain rfl := Option.some.inj hE
            exact y_pick [2, 3, 4, 5, 6, 1, 0] rfl hJ
          · rw [if_neg hc21] at hE
            refine y_iconst (v := (1 : Int32)) dX7_lastsBy_111 (by decide) ?_
            obtain rfl := Option.some.inj hE
            exact y_pick [2, 3, 4, 5, 6, 1, 0] rfl hJ
def f_X7_lastsBy_L243 (n : Nat) (v0 : Nat) (v1 : Int32) (v3 : Int32) (v4 : Int32) : Nat → Int32 → Int32 → xH → Option (xH)
  | 0, _, _, _ => none
  | k + 1, v5, v6, h =>
    if (99 : Int32) < v6 then
      some h
    else
      if v5 = 0 then
        some h
      else
        (x_ob h v0 7).bind fun u51 =>
        (f_X7_turnsOn n h v0 v1 (0 : Int32)).bind fun q52 =>
        (some (v6 + (1 : Int32))).bind fun x53 =>
        f_X7_lastsBy_L243 n v0 v1 v3 v4 k q52.1 x53 q52.2
set_option maxRecDepth 100000 in
set_option maxHeartbeats 4000000 in
theorem l_X7_lastsBy_243 {S : Nat × (Nat → Int32)} {rv : Option Value} {h0 h1 : xH} {mc ms : Nat} {cells slots : Nat} (hm : cells ≤ mc ∧ slots ≤ ms) (n : Nat) (v0 : Nat) (v1 : Int32) (v3 : Int32) (v4 : Int32) : ∀ (k : Nat) (v5 : Int32) (v6 : Int32) (h : xH) (res : xH), f_X7_lastsBy_L243 n v0 v1 v3 v4 k v5 v6 h = some res → (∀ r9, res = r9 → Y S M_X7_lastsBy h0 rv h1 mc ms 269 [(0, .ref v0), (3, .int v3), (4, .int v4)] [] r9 cells slots) → Y S M_X7_lastsBy h0 rv h1 mc ms 243 [(0, .ref v0), (1, .int v1), (3, .int v3), (4, .int v4), (5, .int v5), (6, .int v6)] [] h cells slots := by
  intro k
  induction k with
  | zero =>
    intro _ _ _ _ hE
    cases hE
  | succ k ih =>
    intro v5 v6 h res hE K
    unfold f_X7_lastsBy_L243 at hE
    refine y_iload dX7_lastsBy_243 5 rfl ?_
    refine y_bipush (v := (99 : Int32)) dX7_lastsBy_245 (by decide) ?_
    refine y_icmp_gt (tgt := 269) dX7_lastsBy_247 (by decide) (fun hc55 => ?_) (fun hc55 => ?_)
    · rw [if_pos hc55] at hE
      obtain rfl := Option.some.inj hE
      exact y_pick [0, 2, 3] rfl (K _ rfl)
    · rw [if_neg hc55] at hE
      refine y_iload dX7_lastsBy_250 4 rfl ?_
      refine y_if_eq (tgt := 269) dX7_lastsBy_252 (by decide) (fun hc54 => ?_) (fun hc54 => ?_)
      · rw [if_pos hc54] at hE
        obtain rfl := Option.some.inj hE
        exact y_pick [0, 2, 3] rfl (K _ rfl)
      · rw [if_neg hc54] at hE
        refine y_aload_n dX7_lastsBy_255 0 rfl ?_
        refine y_iload_n dX7_lastsBy_256 1 rfl ?_
        refine y_iconst (v := (0 : Int32)) dX7_lastsBy_257 (by decide) ?_
        obtain ⟨u51, eu51, hE⟩ := Option.bind_eq_some_iff.mp hE
        obtain ⟨q52, eq52, hE⟩ := Option.bind_eq_some_iff.mp hE
        refine y_cVi0 (st := []) (as := [.int v1, .int (0 : Int32)]) (c_X7_turnsOn eq52) lk_X7_326 in_X7_turnsOn se_X7_turnsOn rfl eu51 ⟨Nat.le_of_ble_eq_true rfl, Nat.le_of_ble_eq_true rfl⟩ (Nat.le_of_ble_eq_true rfl) dX7_lastsBy_258 hm rfl ?_
        refine y_istore (ls' := [(5, .int q52.1), (0, .ref v0), (1, .int v1), (3, .int v3), (4, .int v4), (6, .int v6)]) dX7_lastsBy_261 (by decide) rfl rfl ?_
        obtain ⟨x53, ex53, hE⟩ := Option.bind_eq_some_iff.mp hE
        refine y_iinc (ls' := [(6, .int x53), (5, .int q52.1), (0, .ref v0), (1, .int v1), (3, .int v3), (4, .int v4)]) dX7_lastsBy_263 5 rfl (Option.some.inj ex53) (by decide) rfl ?_
        refine y_goto (tgt := 243) dX7_lastsBy_266 (by decide) ?_
        refine y_pick [2, 3, 4, 5, 1, 0] rfl ?_
        exact ih _ _ _ _ hE K
def f_X7_lastsBy (n : Nat) (h : xH) (a0 : Nat) (p1 : Int32) (p2 : Int32) : Option ((Int32 × xH) × Nat × Nat) :=
  (x_gN h a0 7 34).bind fun b1 =>
  (
    if b1 = false then
      x_add 1 6000 <|
      (x_put (h ++ [.inl (.int, 6000, .inl (fun _ => 0))]) a0 7 34 (.ref (h.length + 16))).bind fun h5 =>
      x_add 1 6000 <|
      (x_put (h5 ++ [.inl (.int, 6000, .inl (fun _ => 0))]) a0 7 35 (.ref (h5.length + 16))).bind fun h8 =>
      some (h8, 0, 0)
    else
      some (h, 0, 0)
  ).bind fun q2 =>
  x_add q2.2.1 q2.2.2 <|
  (x_put q2.1 a0 7 36 (.int p2)).bind fun h9 =>
  (x_put h9 a0 7 37 (.int (0 : Int32))).bind fun h10 =>
  (x_put h10 a0 7 38 (.int (0 : Int32))).bind fun h11 =>
  (x_put h11 a0 7 39 (.int (0 : Int32))).bind fun h12 =>
  (f_X7_lastsBy_L53 a0 p1 n p2 (0 : Int32) (0 : Int32) h12).bind fun q48 =>
  (x_ob q48.2.2 a0 7).bind fun u49 =>
  (f_X7_turnsOn n q48.2.2 a0 p1 (1 : Int32)).bind fun q50 =>
  (f_X7_lastsBy_L243 n a0 p1 q48.1 q48.2.1 n q50.1 (1 : Int32) q50.2).bind fun q56 =>
  (x_gR q56 a0 7 35).bind fun a57 =>
  (x_gI q56 a0 7 38).bind fun x58 =>
  (x_gI q56 a0 7 39).bind fun x59 =>
  (x_ob q56 a0 7).bind fun u60 =>
  (f_X7_placeOf q56 a0 q48.1 q48.2.1 x58 x59).bind fun q61 =>
  (x_ld q56 a57 q61).bind fun x62 =>
  some ((x62, q56), 0, 0)
set_option maxRecDepth 100000 in
set_option maxHeartbeats 4000000 in
theorem c_X7_lastsBy {n : Nat} {h : xH} {a0 : Nat} {p1 : Int32} {p2 : Int32} {r9 : Int32} {hz : xH} {c9 s9 : Nat} (hE : f_X7_lastsBy n h a0 p1 p2 = some ((r9, hz), c9, s9)) : Ctr M_X7_lastsBy [.ref a0, .int p1, .int p2] h (some (.int r9)) hz c9 s9 := by
  refine ctr_of (by decide) (fun _ _ => Nat.le_of_ble_eq_true rfl) (fun S => ?_)
  show Y S M_X7_lastsBy h (some (.int r9)) hz c9 s9 0 [(0, .ref a0), (1, .int p1), (2, .int p2)] [] h 0 0
  unfold f_X7_lastsBy at hE
  refine y_aload_n dX7_lastsBy_0 0 rfl ?_
  obtain ⟨b1, eb1, hE⟩ := Option.bind_eq_some_iff.mp hE
  obtain ⟨q2, eJ, hE⟩ := Option.bind_eq_some_iff.mp hE
  obtain ⟨c63, s64, hN, ecc63, ess64⟩ := x_add.spec hE
  clear hE; have hE := hN; clear hN
  have hJ : Y S M_X7_lastsBy h (some (.int r9)) hz c9 s9 25 [(0, .ref a0), (1, .int p1), (2, .int p2)] [] q2.1 (0 + q2.2.1) (0 + q2.2.2) := by
    refine y_aload_n dX7_lastsBy_25 0 rfl ?_
    refine y_iload_n dX7_lastsBy_26 2 rfl ?_
    obtain ⟨h9, eh9, hE⟩ := Option.bind_eq_some_iff.mp hE
    refine y_putI fp_X7_309 eh9 dX7_lastsBy_27 ?_
    refine y_aload_n dX7_lastsBy_30 0 rfl ?_
    refine y_iconst (v := (0 : Int32)) dX7_lastsBy_31 (by decide) ?_
    obtain ⟨h10, eh10, hE⟩ := Option.bind_eq_some_iff.mp hE
    refine y_putI fp_X7_296 eh10 dX7_lastsBy_32 ?_
    refine y_aload_n dX7_lastsBy_35 0 rfl ?_
    refine y_iconst (v := (0 : Int32)) dX7_lastsBy_36 (by decide) ?_
    obtain ⟨h11, eh11, hE⟩ := Option.bind_eq_some_iff.mp hE
    refine y_putI fp_X7_299 eh11 dX7_lastsBy_37 ?_
    refine y_aload_n dX7_lastsBy_40 0 rfl ?_
    refine y_iconst (v := (0 : Int32)) dX7_lastsBy_41 (by decide) ?_
    obtain ⟨h12, eh12, hE⟩ := Option.bind_eq_some_iff.mp hE
    refine y_putI fp_X7_302 eh12 dX7_lastsBy_42 ?_
    refine y_iload_n dX7_lastsBy_45 2 rfl ?_
    refine y_istore_n (ls' := [(3, .int p2), (0, .ref a0), (1, .int p1), (2, .int p2)]) dX7_lastsBy_46 (by decide) rfl rfl ?_
    refine y_iconst (v := (0 : Int32)) dX7_lastsBy_47 (by decide) ?_
    refine y_istore (ls' := [(4, .int (0 : Int32)), (3, .int p2), (0, .ref a0), (1, .int p1), (2, .int p2)]) dX7_lastsBy_48 (by decide) rfl rfl ?_
    refine y_iconst (v := (0 : Int32)) dX7_lastsBy_50 (by decide) ?_
    refine y_istore (ls' := [(5, .int (0 : Int32)), (4, .int (0 : Int32)), (3, .int p2), (0, .ref a0), (1, .int p1), (2, .int p2)]) dX7_lastsBy_51 (by decide) rfl rfl ?_
    obtain ⟨q48, eq48, hE⟩ := Option.bind_eq_some_iff.mp hE
    refine y_pick [3, 4, 2, 1, 0] rfl ?_
    refine l_X7_lastsBy_53 (S := S) ⟨by omega, by omega⟩ a0 p1 n p2 (0 : Int32) (0 : Int32) h12 _ eq48 (fun r8 hr8 => ?_)
    subst hr8
    refine y_aload_n dX7_lastsBy_232 0 rfl ?_
    refine y_iload_n dX7_lastsBy_233 1 rfl ?_
    refine y_iconst (v := (1 : Int32)) dX7_lastsBy_234 (by decide) ?_
    obtain ⟨u49, eu49, hE⟩ := Option.bind_eq_some_iff.mp hE
    obtain ⟨q50, eq50, hE⟩ := Option.bind_eq_some_iff.mp hE
    refine y_cVi0 (st := []) (as := [.int p1, .int (1 : Int32)]) (c_X7_turnsOn eq50) lk_X7_326 in_X7_turnsOn se_X7_turnsOn rfl eu49 ⟨Nat.le_of_ble_eq_true rfl, Nat.le_of_ble_eq_true rfl⟩ (Nat.le_of_ble_eq_true rfl) dX7_lastsBy_235 ⟨by omega, by omega⟩ rfl ?_
    refine y_istore (ls' := [(5, .int q50.1), (0, .ref a0), (1, .int p1), (3, .int q48.1), (4, .int q48.2.1)]) dX7_lastsBy_238 (by decide) rfl rfl ?_
    refine y_iconst (v := (1 : Int32)) dX7_lastsBy_240 (by decide) ?_
    refine y_istore (ls' := [(6, .int (1 : Int32)), (5, .int q50.1), (0, .ref a0), (1, .int p1), (3, .int q48.1), (4, .int q48.2.1)]) dX7_lastsBy_241 (by decide) rfl rfl ?_
    obtain ⟨q56, eq56, hE⟩ := Option.bind_eq_some_iff.mp hE
    refine y_pick [2, 3, 4, 5, 1, 0] rfl ?_
    refine l_X7_lastsBy_243 (S := S) ⟨by omega, by omega⟩ n a0 p1 q48.1 q48.2.1 n q50.1 (1 : Int32) q50.2 _ eq56 (fun r8 hr8 => ?_)
    subst hr8
    refine y_aload_n dX7_lastsBy_269 0 rfl ?_
    obtain ⟨a57, ea57, hE⟩ := Option.bind_eq_some_iff.mp hE
    refine y_getR fl_X7_312 ea57 dX7_lastsBy_270 ?_
    refine y_aload_n dX7_lastsBy_273 0 rfl ?_
    refine y_iload_n dX7_lastsBy_274 1 rfl ?_
    refine y_iload dX7_lastsBy_275 2 rfl ?_
    refine y_aload_n dX7_lastsBy_277 0 rfl ?_
    obtain ⟨x58, ex58, hE⟩ := Option.bind_eq_some_iff.mp hE
    refine y_getI fl_X7_299 ex58 dX7_lastsBy_278 ?_
    refine y_aload_n dX7_lastsBy_281 0 rfl ?_
    obtain ⟨x59, ex59, hE⟩ := Option.bind_eq_some_iff.mp hE
    refine y_getI fl_X7_302 ex59 dX7_lastsBy_282 ?_
    obtain ⟨u60, eu60, hE⟩ := Option.bind_eq_some_iff.mp hE
    obtain ⟨q61, eq61, hE⟩ := Option.bind_eq_some_iff.mp hE
    refine y_cVi0 (st := [.ref a57]) (as := [.int q48.1, .int q48.2.1, .int x58, .int x59]) (c_X7_placeOf eq61) lk_X7_315 in_X7_placeOf se_X7_placeOf rfl eu60 ⟨Nat.le_of_ble_eq_true rfl, Nat.le_of_ble_eq_true rfl⟩ (Nat.le_of_ble_eq_true rfl) dX7_lastsBy_285 ⟨by omega, by omega⟩ rfl ?_
    obtain ⟨x62, ex62, hE⟩ := Option.bind_eq_some_iff.mp hE
    refine y_iald ex62 dX7_lastsBy_288 ?_
    obtain ⟨rfl, rfl, rfl, rfl⟩ := x_inj4 hE
    exact y_ret dX7_lastsBy_289 (by omega) (by omega) ⟨_, rfl, rfl⟩
  clear hE
  have hE := eJ.trans (show some q2 = some (q2.1, q2.2.1, q2.2.2) from rfl)
  clear eJ
  cases b1 with
  | false =>
    rw [if_pos rfl] at hE
    refine y_get fl_X7_319 (x_gN.no eb1) dX7_lastsBy_1 ?_
    refine y_nonnullN dX7_lastsBy_4 ?_
    refine y_aload_n dX7_lastsBy_7 0 rfl ?_
    refine y_sipush (v := (6000 : Int32)) dX7_lastsBy_8 (by decide) ?_
    obtain ⟨c3, s4, hN, ecc3, ess4⟩ := x_add.spec hE
    clear hE; have hE := hN; clear hN
    refine y_newI (N := 6000) (x_wt (tb 92 (by decide +kernel)) rfl) (by decide) (by decide) (by decide) ⟨by omega, by omega⟩ dX7_lastsBy_11 ?_
    obtain ⟨h5, eh5, hE⟩ := Option.bind_eq_some_iff.mp hE
    refine y_putR fp_X7_319 (fun q => by first | rfl | cases q) (fun _ => rfl) (fun _ => rfl) eh5 dX7_lastsBy_13 ?_
    refine y_aload_n dX7_lastsBy_16 0 rfl ?_
    refine y_sipush (v := (6000 : Int32)) dX7_lastsBy_17 (by decide) ?_
    obtain ⟨c6, s7, hN, ecc6, ess7⟩ := x_add.spec hE
    clear hE; have hE := hN; clear hN
    refine y_newI (N := 6000) (x_wt (tb 92 (by decide +kernel)) rfl) (by decide) (by decide) (by decide) ⟨by omega, by omega⟩ dX7_lastsBy_20 ?_
    obtain ⟨h8, eh8, hE⟩ := Option.bind_eq_some_iff.mp hE
    refine y_putR fp_X7_312 (fun q => by first | rfl | cases q) (fun _ => rfl) (fun _ => rfl) eh8 dX7_lastsBy_22 ?_
    have e9 := Option.some.inj hE
    have e8 := congrArg Prod.fst e9
    have e7 := congrArg (fun z => z.2.1) e9
    have e6 := congrArg (fun z => z.2.2) e9
    dsimp only at e8 e7 e6
    rw [← e8] at hJ
    refine y_cnt (c2 := 0 + q2.2.1) (s2 := 0 + q2.2.2) (by omega) (by omega) ?_
    exact y_pick [0, 1, 2] rfl hJ
  | true =>
    rw [if_neg (by decide)] at hE
    obtain ⟨_, e9⟩ := x_gN.yes eb1
    refine y_get fl_X7_319 e9 dX7_lastsBy_1 ?_
    refine y_nonnullR (tgt := 25) dX7_lastsBy_4 (by decide) ?_
    have e9 := Option.some.inj hE
    have e8 := congrArg Prod.fst e9
    have e7 := congrArg (fun z => z.2.1) e9
    have e6 := congrArg (fun z => z.2.2) e9
    dsimp only at e8 e7 e6
    rw [← e8] at hJ
    refine y_cnt (c2 := 0 + q2.2.1) (s2 := 0 + q2.2.2) (by omega) (by omega) ?_
    exact y_pick [0, 1, 2] rfl hJ
