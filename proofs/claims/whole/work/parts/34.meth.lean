theorem dX7_may_0 : decode cX7_may 0 = .ok (.aload_n 0, 1) := by decide +kernel
theorem dX7_may_1 : decode cX7_may 1 = .ok (.iload_n 1, 1) := by decide +kernel
theorem dX7_may_2 : decode cX7_may 2 = .ok (.invokevirtual 120, 3) := by decide +kernel
theorem dX7_may_5 : decode cX7_may 5 = .ok (.ifCond .eq 23, 3) := by decide +kernel
theorem dX7_may_8 : decode cX7_may 8 = .ok (.aload_n 0, 1) := by decide +kernel
theorem dX7_may_9 : decode cX7_may 9 = .ok (.iload_n 2, 1) := by decide +kernel
theorem dX7_may_10 : decode cX7_may 10 = .ok (.invokevirtual 88, 3) := by decide +kernel
theorem dX7_may_13 : decode cX7_may 13 = .ok (.ifCond .eq 15, 3) := by decide +kernel
theorem dX7_may_16 : decode cX7_may 16 = .ok (.iload_n 3, 1) := by decide +kernel
theorem dX7_may_17 : decode cX7_may 17 = .ok (.i2l, 1) := by decide +kernel
theorem dX7_may_18 : decode cX7_may 18 = .ok (.lconst 0, 1) := by decide +kernel
theorem dX7_may_19 : decode cX7_may 19 = .ok (.ldc2_w 225, 3) := by decide +kernel
theorem dX7_may_22 : decode cX7_may 22 = .ok (.invokestatic 64, 3) := by decide +kernel
theorem dX7_may_25 : decode cX7_may 25 = .ok (.ifCond .ne 10, 3) := by decide +kernel
theorem dX7_may_28 : decode cX7_may 28 = .ok (.aload_n 0, 1) := by decide +kernel
theorem dX7_may_29 : decode cX7_may 29 = .ok (.bipush (-2), 2) := by decide +kernel
theorem dX7_may_31 : decode cX7_may 31 = .ok (.invokevirtual 77, 3) := by decide +kernel
theorem dX7_may_34 : decode cX7_may 34 = .ok (.ireturn, 1) := by decide +kernel
theorem dX7_may_35 : decode cX7_may 35 = .ok (.iload_n 3, 1) := by decide +kernel
theorem dX7_may_36 : decode cX7_may 36 = .ok (.iconst 2, 1) := by decide +kernel
theorem dX7_may_37 : decode cX7_may 37 = .ok (.if_icmp .ne 20, 3) := by decide +kernel
theorem dX7_may_40 : decode cX7_may 40 = .ok (.aload_n 0, 1) := by decide +kernel
theorem dX7_may_41 : decode cX7_may 41 = .ok (.iload_n 1, 1) := by decide +kernel
theorem dX7_may_42 : decode cX7_may 42 = .ok (.iload_n 2, 1) := by decide +kernel
theorem dX7_may_43 : decode cX7_may 43 = .ok (.iconst 1, 1) := by decide +kernel
theorem dX7_may_44 : decode cX7_may 44 = .ok (.invokevirtual 227, 3) := by decide +kernel
theorem dX7_may_47 : decode cX7_may 47 = .ok (.iconst (-1), 1) := by decide +kernel
theorem dX7_may_48 : decode cX7_may 48 = .ok (.if_icmp .eq 7, 3) := by decide +kernel
theorem dX7_may_51 : decode cX7_may 51 = .ok (.iconst 1, 1) := by decide +kernel
theorem dX7_may_52 : decode cX7_may 52 = .ok (.goto 4, 3) := by decide +kernel
theorem dX7_may_55 : decode cX7_may 55 = .ok (.iconst 0, 1) := by decide +kernel
theorem dX7_may_56 : decode cX7_may 56 = .ok (.ireturn, 1) := by decide +kernel
theorem dX7_may_57 : decode cX7_may 57 = .ok (.iload_n 3, 1) := by decide +kernel
theorem dX7_may_58 : decode cX7_may 58 = .ok (.ifCond .ne 20, 3) := by decide +kernel
theorem dX7_may_61 : decode cX7_may 61 = .ok (.aload_n 0, 1) := by decide +kernel
theorem dX7_may_62 : decode cX7_may 62 = .ok (.iload_n 2, 1) := by decide +kernel
theorem dX7_may_63 : decode cX7_may 63 = .ok (.aload_n 0, 1) := by decide +kernel
theorem dX7_may_64 : decode cX7_may 64 = .ok (.getfield 42, 3) := by decide +kernel
theorem dX7_may_67 : decode cX7_may 67 = .ok (.iload_n 1, 1) := by decide +kernel
theorem dX7_may_68 : decode cX7_may 68 = .ok (.iaload, 1) := by decide +kernel
theorem dX7_may_69 : decode cX7_may 69 = .ok (.invokevirtual 230, 3) := by decide +kernel
theorem dX7_may_72 : decode cX7_may 72 = .ok (.ifCond .eq 24, 3) := by decide +kernel
theorem dX7_may_75 : decode cX7_may 75 = .ok (.goto 17, 3) := by decide +kernel
theorem dX7_may_78 : decode cX7_may 78 = .ok (.aload_n 0, 1) := by decide +kernel
theorem dX7_may_79 : decode cX7_may 79 = .ok (.iload_n 2, 1) := by decide +kernel
theorem dX7_may_80 : decode cX7_may 80 = .ok (.aload_n 0, 1) := by decide +kernel
theorem dX7_may_81 : decode cX7_may 81 = .ok (.getfield 42, 3) := by decide +kernel
theorem dX7_may_84 : decode cX7_may 84 = .ok (.iload_n 1, 1) := by decide +kernel
theorem dX7_may_85 : decode cX7_may 85 = .ok (.iaload, 1) := by decide +kernel
theorem dX7_may_86 : decode cX7_may 86 = .ok (.invokevirtual 213, 3) := by decide +kernel
theorem dX7_may_89 : decode cX7_may 89 = .ok (.ifCond .eq 7, 3) := by decide +kernel
theorem dX7_may_92 : decode cX7_may 92 = .ok (.iconst 1, 1) := by decide +kernel
theorem dX7_may_93 : decode cX7_may 93 = .ok (.goto 4, 3) := by decide +kernel
theorem dX7_may_96 : decode cX7_may 96 = .ok (.iconst 0, 1) := by decide +kernel
theorem dX7_may_97 : decode cX7_may 97 = .ok (.ireturn, 1) := by decide +kernel
theorem dX7_isSet_0 : decode cX7_isSet 0 = .ok (.iload_n 1, 1) := by decide +kernel
theorem dX7_isSet_1 : decode cX7_isSet 1 = .ok (.i2l, 1) := by decide +kernel
theorem dX7_isSet_2 : decode cX7_isSet 2 = .ok (.lconst 0, 1) := by decide +kernel
theorem dX7_isSet_3 : decode cX7_isSet 3 = .ok (.iconst 1, 1) := by decide +kernel
theorem dX7_isSet_4 : decode cX7_isSet 4 = .ok (.aload_n 0, 1) := by decide +kernel
theorem dX7_isSet_5 : decode cX7_isSet 5 = .ok (.getfield 61, 3) := by decide +kernel
theorem dX7_isSet_8 : decode cX7_isSet 8 = .ok (.ishl, 1) := by decide +kernel
theorem dX7_isSet_9 : decode cX7_isSet 9 = .ok (.iconst 1, 1) := by decide +kernel
theorem dX7_isSet_10 : decode cX7_isSet 10 = .ok (.isub, 1) := by decide +kernel
theorem dX7_isSet_11 : decode cX7_isSet 11 = .ok (.i2l, 1) := by decide +kernel
theorem dX7_isSet_12 : decode cX7_isSet 12 = .ok (.invokestatic 64, 3) := by decide +kernel
theorem dX7_isSet_15 : decode cX7_isSet 15 = .ok (.ireturn, 1) := by decide +kernel
theorem dX7_by_0 : decode cX7_by 0 = .ok (.aload_n 0, 1) := by decide +kernel
theorem dX7_by_1 : decode cX7_by 1 = .ok (.iload_n 1, 1) := by decide +kernel
theorem dX7_by_2 : decode cX7_by 2 = .ok (.invokevirtual 120, 3) := by decide +kernel
theorem dX7_by_5 : decode cX7_by 5 = .ok (.ifCond .eq 19, 3) := by decide +kernel
theorem dX7_by_8 : decode cX7_by 8 = .ok (.aload_n 0, 1) := by decide +kernel
theorem dX7_by_9 : decode cX7_by 9 = .ok (.iload_n 2, 1) := by decide +kernel
theorem dX7_by_10 : decode cX7_by 10 = .ok (.invokevirtual 88, 3) := by decide +kernel
theorem dX7_by_13 : decode cX7_by 13 = .ok (.ifCond .eq 11, 3) := by decide +kernel
theorem dX7_by_16 : decode cX7_by 16 = .ok (.aload_n 0, 1) := by decide +kernel
theorem dX7_by_17 : decode cX7_by 17 = .ok (.iload_n 3, 1) := by decide +kernel
theorem dX7_by_18 : decode cX7_by 18 = .ok (.invokevirtual 233, 3) := by decide +kernel
theorem dX7_by_21 : decode cX7_by 21 = .ok (.ifCond .ne 10, 3) := by decide +kernel
theorem dX7_by_24 : decode cX7_by 24 = .ok (.aload_n 0, 1) := by decide +kernel
theorem dX7_by_25 : decode cX7_by 25 = .ok (.bipush (-2), 2) := by decide +kernel
theorem dX7_by_27 : decode cX7_by 27 = .ok (.invokevirtual 77, 3) := by decide +kernel
theorem dX7_by_30 : decode cX7_by 30 = .ok (.ireturn, 1) := by decide +kernel
theorem dX7_by_31 : decode cX7_by 31 = .ok (.aload_n 0, 1) := by decide +kernel
theorem dX7_by_32 : decode cX7_by 32 = .ok (.iload_n 1, 1) := by decide +kernel
theorem dX7_by_33 : decode cX7_by 33 = .ok (.iload_n 2, 1) := by decide +kernel
theorem dX7_by_34 : decode cX7_by 34 = .ok (.iload_n 3, 1) := by decide +kernel
theorem dX7_by_35 : decode cX7_by 35 = .ok (.invokevirtual 236, 3) := by decide +kernel
theorem dX7_by_38 : decode cX7_by 38 = .ok (.ifCond .eq 7, 3) := by decide +kernel
theorem dX7_by_41 : decode cX7_by 41 = .ok (.iconst 1, 1) := by decide +kernel
theorem dX7_by_42 : decode cX7_by 42 = .ok (.goto 4, 3) := by decide +kernel
theorem dX7_by_45 : decode cX7_by 45 = .ok (.iconst 0, 1) := by decide +kernel
theorem dX7_by_46 : decode cX7_by 46 = .ok (.ireturn, 1) := by decide +kernel
theorem dX7_ways_0 : decode cX7_ways 0 = .ok (.aload_n 0, 1) := by decide +kernel
theorem dX7_ways_1 : decode cX7_ways 1 = .ok (.iload_n 1, 1) := by decide +kernel
theorem dX7_ways_2 : decode cX7_ways 2 = .ok (.invokevirtual 120, 3) := by decide +kernel
theorem dX7_ways_5 : decode cX7_ways 5 = .ok (.ifCond .eq 21, 3) := by decide +kernel
theorem dX7_ways_8 : decode cX7_ways 8 = .ok (.aload_n 0, 1) := by decide +kernel
theorem dX7_ways_9 : decode cX7_ways 9 = .ok (.iload_n 2, 1) := by decide +kernel
theorem dX7_ways_10 : decode cX7_ways 10 = .ok (.invokevirtual 88, 3) := by decide +kernel
theorem dX7_ways_13 : decode cX7_ways 13 = .ok (.ifCond .eq 13, 3) := by decide +kernel
theorem dX7_ways_16 : decode cX7_ways 16 = .ok (.iload_n 3, 1) := by decide +kernel
theorem dX7_ways_17 : decode cX7_ways 17 = .ok (.i2l, 1) := by decide +kernel
theorem dX7_ways_18 : decode cX7_ways 18 = .ok (.lconst 0, 1) := by decide +kernel
theorem dX7_ways_19 : decode cX7_ways 19 = .ok (.lconst 1, 1) := by decide +kernel
theorem dX7_ways_20 : decode cX7_ways 20 = .ok (.invokestatic 64, 3) := by decide +kernel
theorem dX7_ways_23 : decode cX7_ways 23 = .ok (.ifCond .ne 10, 3) := by decide +kernel
theorem dX7_ways_26 : decode cX7_ways 26 = .ok (.aload_n 0, 1) := by decide +kernel
theorem dX7_ways_27 : decode cX7_ways 27 = .ok (.bipush (-2), 2) := by decide +kernel
theorem dX7_ways_29 : decode cX7_ways 29 = .ok (.invokevirtual 77, 3) := by decide +kernel
theorem dX7_ways_32 : decode cX7_ways 32 = .ok (.ireturn, 1) := by decide +kernel
theorem dX7_ways_33 : decode cX7_ways 33 = .ok (.aload_n 0, 1) := by decide +kernel
theorem dX7_ways_34 : decode cX7_ways 34 = .ok (.iload_n 1, 1) := by decide +kernel
theorem dX7_ways_35 : decode cX7_ways 35 = .ok (.iload_n 2, 1) := by decide +kernel
theorem dX7_ways_36 : decode cX7_ways 36 = .ok (.iload_n 3, 1) := by decide +kernel
theorem dX7_ways_37 : decode cX7_ways 37 = .ok (.invokevirtual 227, 3) := by decide +kernel
theorem dX7_ways_40 : decode cX7_ways 40 = .ok (.istore 4, 2) := by decide +kernel
theorem dX7_ways_42 : decode cX7_ways 42 = .ok (.iload 4, 2) := by decide +kernel
theorem dX7_ways_44 : decode cX7_ways 44 = .ok (.iconst (-1), 1) := by decide +kernel
theorem dX7_ways_45 : decode cX7_ways 45 = .ok (.if_icmp .ne 12, 3) := by decide +kernel
theorem dX7_ways_48 : decode cX7_ways 48 = .ok (.aload_n 0, 1) := by decide +kernel
theorem dX7_ways_49 : decode cX7_ways 49 = .ok (.bipush (-5), 2) := by decide +kernel
theorem dX7_ways_51 : decode cX7_ways 51 = .ok (.invokevirtual 77, 3) := by decide +kernel
theorem dX7_ways_54 : decode cX7_ways 54 = .ok (.goto 5, 3) := by decide +kernel
theorem dX7_ways_57 : decode cX7_ways 57 = .ok (.iload 4, 2) := by decide +kernel
theorem dX7_ways_59 : decode cX7_ways 59 = .ok (.ireturn, 1) := by decide +kernel
theorem dX7_walk_0 : decode cX7_walk 0 = .ok (.aload_n 0, 1) := by decide +kernel
theorem dX7_walk_1 : decode cX7_walk 1 = .ok (.iload_n 1, 1) := by decide +kernel
theorem dX7_walk_2 : decode cX7_walk 2 = .ok (.invokevirtual 120, 3) := by decide +kernel
theorem dX7_walk_5 : decode cX7_walk 5 = .ok (.ifCond .eq 11, 3) := by decide +kernel
theorem dX7_walk_8 : decode cX7_walk 8 = .ok (.aload_n 0, 1) := by decide +kernel
theorem dX7_walk_9 : decode cX7_walk 9 = .ok (.iload_n 2, 1) := by decide +kernel
theorem dX7_walk_10 : decode cX7_walk 10 = .ok (.invokevirtual 88, 3) := by decide +kernel
theorem dX7_walk_13 : decode cX7_walk 13 = .ok (.ifCond .ne 10, 3) := by decide +kernel
theorem dX7_walk_16 : decode cX7_walk 16 = .ok (.aload_n 0, 1) := by decide +kernel
theorem dX7_walk_17 : decode cX7_walk 17 = .ok (.bipush (-2), 2) := by decide +kernel
theorem dX7_walk_19 : decode cX7_walk 19 = .ok (.invokevirtual 77, 3) := by decide +kernel
theorem dX7_walk_22 : decode cX7_walk 22 = .ok (.ireturn, 1) := by decide +kernel
theorem dX7_walk_23 : decode cX7_walk 23 = .ok (.aload_n 0, 1) := by decide +kernel
theorem dX7_walk_24 : decode cX7_walk 24 = .ok (.iload_n 2, 1) := by decide +kernel
theorem dX7_walk_25 : decode cX7_walk 25 = .ok (.aload_n 0, 1) := by decide +kernel
theorem dX7_walk_26 : decode cX7_walk 26 = .ok (.getfield 42, 3) := by decide +kernel
theorem dX7_walk_29 : decode cX7_walk 29 = .ok (.iload_n 1, 1) := by decide +kernel
theorem dX7_walk_30 : decode cX7_walk 30 = .ok (.iaload, 1) := by decide +kernel
theorem dX7_walk_31 : decode cX7_walk 31 = .ok (.invokevirtual 230, 3) := by decide +kernel
theorem dX7_walk_34 : decode cX7_walk 34 = .ok (.ifCond .ne 10, 3) := by decide +kernel
theorem dX7_walk_37 : decode cX7_walk 37 = .ok (.aload_n 0, 1) := by decide +kernel
theorem dX7_walk_38 : decode cX7_walk 38 = .ok (.bipush (-5), 2) := by decide +kernel
theorem dX7_walk_40 : decode cX7_walk 40 = .ok (.invokevirtual 77, 3) := by decide +kernel
theorem dX7_walk_43 : decode cX7_walk 43 = .ok (.ireturn, 1) := by decide +kernel
theorem dX7_walk_44 : decode cX7_walk 44 = .ok (.aload_n 0, 1) := by decide +kernel
theorem dX7_walk_45 : decode cX7_walk 45 = .ok (.getfield 42, 3) := by decide +kernel
theorem dX7_walk_48 : decode cX7_walk 48 = .ok (.iload_n 1, 1) := by decide +kernel
theorem dX7_walk_49 : decode cX7_walk 49 = .ok (.aload_n 0, 1) := by decide +kernel
theorem dX7_walk_50 : decode cX7_walk 50 = .ok (.iload_n 2, 1) := by decide +kernel
theorem dX7_walk_51 : decode cX7_walk 51 = .ok (.aload_n 0, 1) := by decide +kernel
theorem dX7_walk_52 : decode cX7_walk 52 = .ok (.getfield 42, 3) := by decide +kernel
theorem dX7_walk_55 : decode cX7_walk 55 = .ok (.iload_n 1, 1) := by decide +kernel
theorem dX7_walk_56 : decode cX7_walk 56 = .ok (.iaload, 1) := by decide +kernel
theorem dX7_walk_57 : decode cX7_walk 57 = .ok (.invokevirtual 239, 3) := by decide +kernel
theorem dX7_walk_60 : decode cX7_walk 60 = .ok (.iastore, 1) := by decide +kernel
theorem dX7_walk_61 : decode cX7_walk 61 = .ok (.aload_n 0, 1) := by decide +kernel
theorem dX7_walk_62 : decode cX7_walk 62 = .ok (.getfield 42, 3) := by decide +kernel
theorem dX7_walk_65 : decode cX7_walk 65 = .ok (.iload_n 1, 1) := by decide +kernel
theorem dX7_walk_66 : decode cX7_walk 66 = .ok (.iaload, 1) := by decide +kernel
theorem dX7_walk_67 : decode cX7_walk 67 = .ok (.ireturn, 1) := by decide +kernel
theorem dX7_stockNow_0 : decode cX7_stockNow 0 = .ok (.iconst 0, 1) := by decide +kernel
theorem dX7_stockNow_1 : decode cX7_stockNow 1 = .ok (.istore_n 1, 1) := by decide +kernel
theorem dX7_stockNow_2 : decode cX7_stockNow 2 = .ok (.iconst 0, 1) := by decide +kernel
theorem dX7_stockNow_3 : decode cX7_stockNow 3 = .ok (.istore_n 2, 1) := by decide +kernel
theorem dX7_stockNow_4 : decode cX7_stockNow 4 = .ok (.iload_n 2, 1) := by decide +kernel
theorem dX7_stockNow_5 : decode cX7_stockNow 5 = .ok (.aload_n 0, 1) := by decide +kernel
theorem dX7_stockNow_6 : decode cX7_stockNow 6 = .ok (.getfield 61, 3) := by decide +kernel
theorem dX7_stockNow_9 : decode cX7_stockNow 9 = .ok (.if_icmp .ge 44, 3) := by decide +kernel
theorem dX7_stockNow_12 : decode cX7_stockNow 12 = .ok (.iload_n 1, 1) := by decide +kernel
theorem dX7_stockNow_13 : decode cX7_stockNow 13 = .ok (.aload_n 0, 1) := by decide +kernel
theorem dX7_stockNow_14 : decode cX7_stockNow 14 = .ok (.getfield 108, 3) := by decide +kernel
theorem dX7_stockNow_17 : decode cX7_stockNow 17 = .ok (.iload_n 2, 1) := by decide +kernel
theorem dX7_stockNow_18 : decode cX7_stockNow 18 = .ok (.invokestatic 116, 3) := by decide +kernel
theorem dX7_stockNow_21 : decode cX7_stockNow 21 = .ok (.ifCond .eq 23, 3) := by decide +kernel
theorem dX7_stockNow_24 : decode cX7_stockNow 24 = .ok (.aload_n 0, 1) := by decide +kernel
theorem dX7_stockNow_25 : decode cX7_stockNow 25 = .ok (.getfield 39, 3) := by decide +kernel
theorem dX7_stockNow_28 : decode cX7_stockNow 28 = .ok (.iload_n 2, 1) := by decide +kernel
theorem dX7_stockNow_29 : decode cX7_stockNow 29 = .ok (.aaload, 1) := by decide +kernel
theorem dX7_stockNow_30 : decode cX7_stockNow 30 = .ok (.iconst 0, 1) := by decide +kernel
theorem dX7_stockNow_31 : decode cX7_stockNow 31 = .ok (.iaload, 1) := by decide +kernel
theorem dX7_stockNow_32 : decode cX7_stockNow 32 = .ok (.iconst 5, 1) := by decide +kernel
theorem dX7_stockNow_33 : decode cX7_stockNow 33 = .ok (.if_icmp .eq 11, 3) := by decide +kernel
theorem dX7_stockNow_36 : decode cX7_stockNow 36 = .ok (.aload_n 0, 1) := by decide +kernel
theorem dX7_stockNow_37 : decode cX7_stockNow 37 = .ok (.iload_n 2, 1) := by decide +kernel
theorem dX7_stockNow_38 : decode cX7_stockNow 38 = .ok (.invokevirtual 94, 3) := by decide +kernel
theorem dX7_stockNow_41 : decode cX7_stockNow 41 = .ok (.goto 4, 3) := by decide +kernel
theorem dX7_stockNow_44 : decode cX7_stockNow 44 = .ok (.iconst 0, 1) := by decide +kernel
theorem dX7_stockNow_45 : decode cX7_stockNow 45 = .ok (.iadd, 1) := by decide +kernel
theorem dX7_stockNow_46 : decode cX7_stockNow 46 = .ok (.istore_n 1, 1) := by decide +kernel
theorem dX7_stockNow_47 : decode cX7_stockNow 47 = .ok (.iinc 2 1, 3) := by decide +kernel
theorem dX7_stockNow_50 : decode cX7_stockNow 50 = .ok (.goto (-46), 3) := by decide +kernel
theorem dX7_stockNow_53 : decode cX7_stockNow 53 = .ok (.iload_n 1, 1) := by decide +kernel
theorem dX7_stockNow_54 : decode cX7_stockNow 54 = .ok (.ireturn, 1) := by decide +kernel
theorem dX7_shut_0 : decode cX7_shut 0 = .ok (.aload_n 0, 1) := by decide +kernel
theorem dX7_shut_1 : decode cX7_shut 1 = .ok (.iload_n 1, 1) := by decide +kernel
theorem dX7_shut_2 : decode cX7_shut 2 = .ok (.invokevirtual 120, 3) := by decide +kernel
theorem dX7_shut_5 : decode cX7_shut 5 = .ok (.ifCond .eq 11, 3) := by decide +kernel
theorem dX7_shut_8 : decode cX7_shut 8 = .ok (.aload_n 0, 1) := by decide +kernel
theorem dX7_shut_9 : decode cX7_shut 9 = .ok (.iload_n 2, 1) := by decide +kernel
theorem dX7_shut_10 : decode cX7_shut 10 = .ok (.invokevirtual 88, 3) := by decide +kernel
theorem dX7_shut_13 : decode cX7_shut 13 = .ok (.ifCond .ne 10, 3) := by decide +kernel
theorem dX7_shut_16 : decode cX7_shut 16 = .ok (.aload_n 0, 1) := by decide +kernel
theorem dX7_shut_17 : decode cX7_shut 17 = .ok (.bipush (-2), 2) := by decide +kernel
theorem dX7_shut_19 : decode cX7_shut 19 = .ok (.invokevirtual 77, 3) := by decide +kernel
theorem dX7_shut_22 : decode cX7_shut 22 = .ok (.ireturn, 1) := by decide +kernel
theorem dX7_shut_23 : decode cX7_shut 23 = .ok (.aload_n 0, 1) := by decide +kernel
theorem dX7_shut_24 : decode cX7_shut 24 = .ok (.iload_n 2, 1) := by decide +kernel
theorem dX7_shut_25 : decode cX7_shut 25 = .ok (.aload_n 0, 1) := by decide +kernel
theorem dX7_shut_26 : decode cX7_shut 26 = .ok (.getfield 42, 3) := by decide +kernel
theorem dX7_shut_29 : decode cX7_shut 29 = .ok (.iload_n 1, 1) := by decide +kernel
theorem dX7_shut_30 : decode cX7_shut 30 = .ok (.iaload, 1) := by decide +kernel
theorem dX7_shut_31 : decode cX7_shut 31 = .ok (.invokevirtual 213, 3) := by decide +kernel
theorem dX7_shut_34 : decode cX7_shut 34 = .ok (.ifCond .ne 10, 3) := by decide +kernel
theorem dX7_shut_37 : decode cX7_shut 37 = .ok (.aload_n 0, 1) := by decide +kernel
theorem dX7_shut_38 : decode cX7_shut 38 = .ok (.bipush (-5), 2) := by decide +kernel
theorem dX7_shut_40 : decode cX7_shut 40 = .ok (.invokevirtual 77, 3) := by decide +kernel
theorem dX7_shut_43 : decode cX7_shut 43 = .ok (.ireturn, 1) := by decide +kernel
theorem dX7_shut_44 : decode cX7_shut 44 = .ok (.aload_n 0, 1) := by decide +kernel
theorem dX7_shut_45 : decode cX7_shut 45 = .ok (.dup, 1) := by decide +kernel
theorem dX7_shut_46 : decode cX7_shut 46 = .ok (.getfield 108, 3) := by decide +kernel
theorem dX7_shut_49 : decode cX7_shut 49 = .ok (.iconst 1, 1) := by decide +kernel
theorem dX7_shut_50 : decode cX7_shut 50 = .ok (.iload_n 2, 1) := by decide +kernel
theorem dX7_shut_51 : decode cX7_shut 51 = .ok (.ishl, 1) := by decide +kernel
theorem dX7_shut_52 : decode cX7_shut 52 = .ok (.iconst (-1), 1) := by decide +kernel
theorem dX7_shut_53 : decode cX7_shut 53 = .ok (.ixor, 1) := by decide +kernel
theorem dX7_shut_54 : decode cX7_shut 54 = .ok (.iand, 1) := by decide +kernel
theorem dX7_shut_55 : decode cX7_shut 55 = .ok (.putfield 108, 3) := by decide +kernel
theorem dX7_shut_58 : decode cX7_shut 58 = .ok (.aload_n 0, 1) := by decide +kernel
theorem dX7_shut_59 : decode cX7_shut 59 = .ok (.invokevirtual 243, 3) := by decide +kernel
theorem dX7_shut_62 : decode cX7_shut 62 = .ok (.ireturn, 1) := by decide +kernel
theorem dX7_opens_0 : decode cX7_opens 0 = .ok (.aload_n 0, 1) := by decide +kernel
theorem dX7_opens_1 : decode cX7_opens 1 = .ok (.aload_n 0, 1) := by decide +kernel
theorem dX7_opens_2 : decode cX7_opens 2 = .ok (.getfield 108, 3) := by decide +kernel
theorem dX7_opens_5 : decode cX7_opens 5 = .ok (.iload_n 2, 1) := by decide +kernel
theorem dX7_opens_6 : decode cX7_opens 6 = .ok (.iconst (-1), 1) := by decide +kernel
theorem dX7_opens_7 : decode cX7_opens 7 = .ok (.ixor, 1) := by decide +kernel
theorem dX7_opens_8 : decode cX7_opens 8 = .ok (.iand, 1) := by decide +kernel
theorem dX7_opens_9 : decode cX7_opens 9 = .ok (.iconst 1, 1) := by decide +kernel
theorem dX7_opens_10 : decode cX7_opens 10 = .ok (.iload_n 1, 1) := by decide +kernel
theorem dX7_opens_11 : decode cX7_opens 11 = .ok (.ishl, 1) := by decide +kernel
theorem dX7_opens_12 : decode cX7_opens 12 = .ok (.ior, 1) := by decide +kernel
theorem dX7_opens_13 : decode cX7_opens 13 = .ok (.putfield 108, 3) := by decide +kernel
theorem dX7_opens_16 : decode cX7_opens 16 = .ok (.aload_n 0, 1) := by decide +kernel
theorem dX7_opens_17 : decode cX7_opens 17 = .ok (.dup, 1) := by decide +kernel
theorem dX7_opens_18 : decode cX7_opens 18 = .ok (.getfield 246, 3) := by decide +kernel
theorem dX7_opens_21 : decode cX7_opens 21 = .ok (.iconst 1, 1) := by decide +kernel
theorem dX7_opens_22 : decode cX7_opens 22 = .ok (.iadd, 1) := by decide +kernel
theorem dX7_opens_23 : decode cX7_opens 23 = .ok (.putfield 246, 3) := by decide +kernel
theorem dX7_opens_26 : decode cX7_opens 26 = .ok (.return_, 1) := by decide +kernel
theorem dX7_open_0 : decode cX7_open 0 = .ok (.aload_n 0, 1) := by decide +kernel
theorem dX7_open_1 : decode cX7_open 1 = .ok (.iload_n 1, 1) := by decide +kernel
theorem dX7_open_2 : decode cX7_open 2 = .ok (.invokevirtual 120, 3) := by decide +kernel
theorem dX7_open_5 : decode cX7_open 5 = .ok (.ifCond .eq 19, 3) := by decide +kernel
theorem dX7_open_8 : decode cX7_open 8 = .ok (.aload_n 0, 1) := by decide +kernel
theorem dX7_open_9 : decode cX7_open 9 = .ok (.iload_n 2, 1) := by decide +kernel
theorem dX7_open_10 : decode cX7_open 10 = .ok (.invokevirtual 88, 3) := by decide +kernel
theorem dX7_open_13 : decode cX7_open 13 = .ok (.ifCond .eq 11, 3) := by decide +kernel
theorem dX7_open_16 : decode cX7_open 16 = .ok (.aload_n 0, 1) := by decide +kernel
theorem dX7_open_17 : decode cX7_open 17 = .ok (.iload_n 3, 1) := by decide +kernel
theorem dX7_open_18 : decode cX7_open 18 = .ok (.invokevirtual 233, 3) := by decide +kernel
theorem dX7_open_21 : decode cX7_open 21 = .ok (.ifCond .ne 10, 3) := by decide +kernel
theorem dX7_open_24 : decode cX7_open 24 = .ok (.aload_n 0, 1) := by decide +kernel
theorem dX7_open_25 : decode cX7_open 25 = .ok (.bipush (-2), 2) := by decide +kernel
theorem dX7_open_27 : decode cX7_open 27 = .ok (.invokevirtual 77, 3) := by decide +kernel
theorem dX7_open_30 : decode cX7_open 30 = .ok (.ireturn, 1) := by decide +kernel
theorem dX7_open_31 : decode cX7_open 31 = .ok (.aload_n 0, 1) := by decide +kernel
theorem dX7_open_32 : decode cX7_open 32 = .ok (.iload_n 1, 1) := by decide +kernel
theorem dX7_open_33 : decode cX7_open 33 = .ok (.iload_n 2, 1) := by decide +kernel
theorem dX7_open_34 : decode cX7_open 34 = .ok (.iload_n 3, 1) := by decide +kernel
theorem dX7_open_35 : decode cX7_open 35 = .ok (.invokevirtual 236, 3) := by decide +kernel
theorem dX7_open_38 : decode cX7_open 38 = .ok (.ifCond .ne 10, 3) := by decide +kernel
theorem dX7_open_41 : decode cX7_open 41 = .ok (.aload_n 0, 1) := by decide +kernel
theorem dX7_open_42 : decode cX7_open 42 = .ok (.bipush (-5), 2) := by decide +kernel
theorem dX7_open_44 : decode cX7_open 44 = .ok (.invokevirtual 77, 3) := by decide +kernel
theorem dX7_open_47 : decode cX7_open 47 = .ok (.ireturn, 1) := by decide +kernel
theorem dX7_open_48 : decode cX7_open 48 = .ok (.aload_n 0, 1) := by decide +kernel
theorem dX7_open_49 : decode cX7_open 49 = .ok (.iload_n 2, 1) := by decide +kernel
theorem dX7_open_50 : decode cX7_open 50 = .ok (.iload_n 3, 1) := by decide +kernel
theorem dX7_open_51 : decode cX7_open 51 = .ok (.invokevirtual 249, 3) := by decide +kernel
theorem dX7_open_54 : decode cX7_open 54 = .ok (.aload_n 0, 1) := by decide +kernel
theorem dX7_open_55 : decode cX7_open 55 = .ok (.invokevirtual 243, 3) := by decide +kernel
theorem dX7_open_58 : decode cX7_open 58 = .ok (.ireturn, 1) := by decide +kernel
theorem dX7_reachOf_0 : decode cX7_reachOf 0 = .ok (.iconst 1, 1) := by decide +kernel
theorem dX7_reachOf_1 : decode cX7_reachOf 1 = .ok (.aload_n 0, 1) := by decide +kernel
theorem dX7_reachOf_2 : decode cX7_reachOf 2 = .ok (.getfield 42, 3) := by decide +kernel
theorem dX7_reachOf_5 : decode cX7_reachOf 5 = .ok (.iload_n 1, 1) := by decide +kernel
theorem dX7_reachOf_6 : decode cX7_reachOf 6 = .ok (.iaload, 1) := by decide +kernel
theorem dX7_reachOf_7 : decode cX7_reachOf 7 = .ok (.ishl, 1) := by decide +kernel
theorem dX7_reachOf_8 : decode cX7_reachOf 8 = .ok (.istore_n 2, 1) := by decide +kernel
theorem dX7_reachOf_9 : decode cX7_reachOf 9 = .ok (.iconst 0, 1) := by decide +kernel
theorem dX7_reachOf_10 : decode cX7_reachOf 10 = .ok (.istore_n 3, 1) := by decide +kernel
theorem dX7_reachOf_11 : decode cX7_reachOf 11 = .ok (.iload_n 3, 1) := by decide +kernel
theorem dX7_reachOf_12 : decode cX7_reachOf 12 = .ok (.bipush 8, 2) := by decide +kernel
theorem dX7_reachOf_14 : decode cX7_reachOf 14 = .ok (.if_icmp .ge 105, 3) := by decide +kernel
theorem dX7_reachOf_17 : decode cX7_reachOf 17 = .ok (.iconst 0, 1) := by decide +kernel
theorem dX7_reachOf_18 : decode cX7_reachOf 18 = .ok (.istore 4, 2) := by decide +kernel
theorem dX7_reachOf_20 : decode cX7_reachOf 20 = .ok (.iload 4, 2) := by decide +kernel
theorem dX7_reachOf_22 : decode cX7_reachOf 22 = .ok (.aload_n 0, 1) := by decide +kernel
theorem dX7_reachOf_23 : decode cX7_reachOf 23 = .ok (.getfield 61, 3) := by decide +kernel
theorem dX7_reachOf_26 : decode cX7_reachOf 26 = .ok (.if_icmp .ge 87, 3) := by decide +kernel
theorem dX7_reachOf_29 : decode cX7_reachOf 29 = .ok (.iconst 1, 1) := by decide +kernel
theorem dX7_reachOf_30 : decode cX7_reachOf 30 = .ok (.aload_n 0, 1) := by decide +kernel
theorem dX7_reachOf_31 : decode cX7_reachOf 31 = .ok (.getfield 39, 3) := by decide +kernel
theorem dX7_reachOf_34 : decode cX7_reachOf 34 = .ok (.iload 4, 2) := by decide +kernel
theorem dX7_reachOf_36 : decode cX7_reachOf 36 = .ok (.aaload, 1) := by decide +kernel
theorem dX7_reachOf_37 : decode cX7_reachOf 37 = .ok (.iconst 1, 1) := by decide +kernel
theorem dX7_reachOf_38 : decode cX7_reachOf 38 = .ok (.iaload, 1) := by decide +kernel
theorem dX7_reachOf_39 : decode cX7_reachOf 39 = .ok (.ishl, 1) := by decide +kernel
theorem dX7_reachOf_40 : decode cX7_reachOf 40 = .ok (.iconst 1, 1) := by decide +kernel
theorem dX7_reachOf_41 : decode cX7_reachOf 41 = .ok (.aload_n 0, 1) := by decide +kernel
theorem dX7_reachOf_42 : decode cX7_reachOf 42 = .ok (.getfield 39, 3) := by decide +kernel
theorem dX7_reachOf_45 : decode cX7_reachOf 45 = .ok (.iload 4, 2) := by decide +kernel
theorem dX7_reachOf_47 : decode cX7_reachOf 47 = .ok (.aaload, 1) := by decide +kernel
theorem dX7_reachOf_48 : decode cX7_reachOf 48 = .ok (.iconst 2, 1) := by decide +kernel
theorem dX7_reachOf_49 : decode cX7_reachOf 49 = .ok (.iaload, 1) := by decide +kernel
theorem dX7_reachOf_50 : decode cX7_reachOf 50 = .ok (.ishl, 1) := by decide +kernel
theorem dX7_reachOf_51 : decode cX7_reachOf 51 = .ok (.ior, 1) := by decide +kernel
theorem dX7_reachOf_52 : decode cX7_reachOf 52 = .ok (.istore 5, 2) := by decide +kernel
theorem dX7_reachOf_54 : decode cX7_reachOf 54 = .ok (.aload_n 0, 1) := by decide +kernel
theorem dX7_reachOf_55 : decode cX7_reachOf 55 = .ok (.getfield 108, 3) := by decide +kernel
theorem dX7_reachOf_58 : decode cX7_reachOf 58 = .ok (.iload 4, 2) := by decide +kernel
theorem dX7_reachOf_60 : decode cX7_reachOf 60 = .ok (.invokestatic 116, 3) := by decide +kernel
theorem dX7_reachOf_63 : decode cX7_reachOf 63 = .ok (.ifCond .eq 27, 3) := by decide +kernel
theorem dX7_reachOf_66 : decode cX7_reachOf 66 = .ok (.aload_n 0, 1) := by decide +kernel
theorem dX7_reachOf_67 : decode cX7_reachOf 67 = .ok (.getfield 39, 3) := by decide +kernel
theorem dX7_reachOf_70 : decode cX7_reachOf 70 = .ok (.iload 4, 2) := by decide +kernel
theorem dX7_reachOf_72 : decode cX7_reachOf 72 = .ok (.aaload, 1) := by decide +kernel
theorem dX7_reachOf_73 : decode cX7_reachOf 73 = .ok (.iconst 0, 1) := by decide +kernel
theorem dX7_reachOf_74 : decode cX7_reachOf 74 = .ok (.iaload, 1) := by decide +kernel
theorem dX7_reachOf_75 : decode cX7_reachOf 75 = .ok (.iconst 1, 1) := by decide +kernel
theorem dX7_reachOf_76 : decode cX7_reachOf 76 = .ok (.if_icmp .eq 14, 3) := by decide +kernel
theorem dX7_reachOf_79 : decode cX7_reachOf 79 = .ok (.iload_n 2, 1) := by decide +kernel
theorem dX7_reachOf_80 : decode cX7_reachOf 80 = .ok (.iload 5, 2) := by decide +kernel
theorem dX7_reachOf_82 : decode cX7_reachOf 82 = .ok (.iand, 1) := by decide +kernel
theorem dX7_reachOf_83 : decode cX7_reachOf 83 = .ok (.ifCond .eq 7, 3) := by decide +kernel
theorem dX7_reachOf_86 : decode cX7_reachOf 86 = .ok (.iconst 1, 1) := by decide +kernel
theorem dX7_reachOf_87 : decode cX7_reachOf 87 = .ok (.goto 4, 3) := by decide +kernel
theorem dX7_reachOf_90 : decode cX7_reachOf 90 = .ok (.iconst 0, 1) := by decide +kernel
theorem dX7_reachOf_91 : decode cX7_reachOf 91 = .ok (.istore 6, 2) := by decide +kernel
theorem dX7_reachOf_93 : decode cX7_reachOf 93 = .ok (.iload_n 2, 1) := by decide +kernel
theorem dX7_reachOf_94 : decode cX7_reachOf 94 = .ok (.iload 6, 2) := by decide +kernel
theorem dX7_reachOf_96 : decode cX7_reachOf 96 = .ok (.ifCond .eq 8, 3) := by decide +kernel
theorem dX7_reachOf_99 : decode cX7_reachOf 99 = .ok (.iload 5, 2) := by decide +kernel
theorem dX7_reachOf_101 : decode cX7_reachOf 101 = .ok (.goto 4, 3) := by decide +kernel
theorem dX7_reachOf_104 : decode cX7_reachOf 104 = .ok (.iconst 0, 1) := by decide +kernel
theorem dX7_reachOf_105 : decode cX7_reachOf 105 = .ok (.ior, 1) := by decide +kernel
theorem dX7_reachOf_106 : decode cX7_reachOf 106 = .ok (.istore_n 2, 1) := by decide +kernel
theorem dX7_reachOf_107 : decode cX7_reachOf 107 = .ok (.iinc 4 1, 3) := by decide +kernel
theorem dX7_reachOf_110 : decode cX7_reachOf 110 = .ok (.goto (-90), 3) := by decide +kernel
theorem dX7_reachOf_113 : decode cX7_reachOf 113 = .ok (.iinc 3 1, 3) := by decide +kernel
theorem dX7_reachOf_116 : decode cX7_reachOf 116 = .ok (.goto (-105), 3) := by decide +kernel
theorem dX7_reachOf_119 : decode cX7_reachOf 119 = .ok (.iload_n 2, 1) := by decide +kernel
theorem dX7_reachOf_120 : decode cX7_reachOf 120 = .ok (.ireturn, 1) := by decide +kernel
theorem dX7_reach_0 : decode cX7_reach 0 = .ok (.aload_n 0, 1) := by decide +kernel
theorem dX7_reach_1 : decode cX7_reach 1 = .ok (.iload_n 1, 1) := by decide +kernel
theorem dX7_reach_2 : decode cX7_reach 2 = .ok (.invokevirtual 120, 3) := by decide +kernel
theorem dX7_reach_5 : decode cX7_reach 5 = .ok (.ifCond .eq 11, 3) := by decide +kernel
theorem dX7_reach_8 : decode cX7_reach 8 = .ok (.aload_n 0, 1) := by decide +kernel
theorem dX7_reach_9 : decode cX7_reach 9 = .ok (.iload_n 1, 1) := by decide +kernel
theorem dX7_reach_10 : decode cX7_reach 10 = .ok (.invokevirtual 253, 3) := by decide +kernel
theorem dX7_reach_13 : decode cX7_reach 13 = .ok (.goto 9, 3) := by decide +kernel
theorem dX7_reach_16 : decode cX7_reach 16 = .ok (.aload_n 0, 1) := by decide +kernel
theorem dX7_reach_17 : decode cX7_reach 17 = .ok (.bipush (-2), 2) := by decide +kernel
theorem dX7_reach_19 : decode cX7_reach 19 = .ok (.invokevirtual 77, 3) := by decide +kernel
theorem dX7_reach_22 : decode cX7_reach 22 = .ok (.ireturn, 1) := by decide +kernel
theorem dX7_shutIn_0 : decode cX7_shutIn 0 = .ok (.iconst 0, 1) := by decide +kernel
theorem dX7_shutIn_1 : decode cX7_shutIn 1 = .ok (.istore_n 1, 1) := by decide +kernel
theorem dX7_shutIn_2 : decode cX7_shutIn 2 = .ok (.iconst 0, 1) := by decide +kernel
theorem dX7_shutIn_3 : decode cX7_shutIn 3 = .ok (.istore_n 2, 1) := by decide +kernel
theorem dX7_shutIn_4 : decode cX7_shutIn 4 = .ok (.iload_n 2, 1) := by decide +kernel
theorem dX7_shutIn_5 : decode cX7_shutIn 5 = .ok (.aload_n 0, 1) := by decide +kernel
theorem dX7_shutIn_6 : decode cX7_shutIn 6 = .ok (.getfield 68, 3) := by decide +kernel
theorem dX7_shutIn_9 : decode cX7_shutIn 9 = .ok (.if_icmp .ge 31, 3) := by decide +kernel
theorem dX7_shutIn_12 : decode cX7_shutIn 12 = .ok (.iload_n 1, 1) := by decide +kernel
theorem dX7_shutIn_13 : decode cX7_shutIn 13 = .ok (.aload_n 0, 1) := by decide +kernel
theorem dX7_shutIn_14 : decode cX7_shutIn 14 = .ok (.iload_n 2, 1) := by decide +kernel
theorem dX7_shutIn_15 : decode cX7_shutIn 15 = .ok (.invokevirtual 253, 3) := by decide +kernel
theorem dX7_shutIn_18 : decode cX7_shutIn 18 = .ok (.iconst 0, 1) := by decide +kernel
theorem dX7_shutIn_19 : decode cX7_shutIn 19 = .ok (.invokestatic 116, 3) := by decide +kernel
theorem dX7_shutIn_22 : decode cX7_shutIn 22 = .ok (.ifCond .eq 7, 3) := by decide +kernel
theorem dX7_shutIn_25 : decode cX7_shutIn 25 = .ok (.iconst 0, 1) := by decide +kernel
theorem dX7_shutIn_26 : decode cX7_shutIn 26 = .ok (.goto 6, 3) := by decide +kernel
theorem dX7_shutIn_29 : decode cX7_shutIn 29 = .ok (.iconst 1, 1) := by decide +kernel
theorem dX7_shutIn_30 : decode cX7_shutIn 30 = .ok (.iload_n 2, 1) := by decide +kernel
theorem dX7_shutIn_31 : decode cX7_shutIn 31 = .ok (.ishl, 1) := by decide +kernel
theorem dX7_shutIn_32 : decode cX7_shutIn 32 = .ok (.ior, 1) := by decide +kernel
theorem dX7_shutIn_33 : decode cX7_shutIn 33 = .ok (.istore_n 1, 1) := by decide +kernel
theorem dX7_shutIn_34 : decode cX7_shutIn 34 = .ok (.iinc 2 1, 3) := by decide +kernel
theorem dX7_shutIn_37 : decode cX7_shutIn 37 = .ok (.goto (-33), 3) := by decide +kernel
theorem dX7_shutIn_40 : decode cX7_shutIn 40 = .ok (.iload_n 1, 1) := by decide +kernel
theorem dX7_shutIn_41 : decode cX7_shutIn 41 = .ok (.ireturn, 1) := by decide +kernel
theorem dX7_stateOf_0 : decode cX7_stateOf 0 = .ok (.iload_n 1, 1) := by decide +kernel
theorem dX7_stateOf_1 : decode cX7_stateOf 1 = .ok (.istore 4, 2) := by decide +kernel
theorem dX7_stateOf_3 : decode cX7_stateOf 3 = .ok (.iload 4, 2) := by decide +kernel
theorem dX7_stateOf_5 : decode cX7_stateOf 5 = .ok (.aload_n 0, 1) := by decide +kernel
theorem dX7_stateOf_6 : decode cX7_stateOf 6 = .ok (.getfield 256, 3) := by decide +kernel
theorem dX7_stateOf_9 : decode cX7_stateOf 9 = .ok (.if_icmp .ge 20, 3) := by decide +kernel
theorem dX7_stateOf_12 : decode cX7_stateOf 12 = .ok (.aload_n 0, 1) := by decide +kernel
theorem dX7_stateOf_13 : decode cX7_stateOf 13 = .ok (.getfield 55, 3) := by decide +kernel
theorem dX7_stateOf_16 : decode cX7_stateOf 16 = .ok (.iload 4, 2) := by decide +kernel
theorem dX7_stateOf_18 : decode cX7_stateOf 18 = .ok (.iaload, 1) := by decide +kernel
theorem dX7_stateOf_19 : decode cX7_stateOf 19 = .ok (.iload_n 3, 1) := by decide +kernel
theorem dX7_stateOf_20 : decode cX7_stateOf 20 = .ok (.if_icmp .ne 9, 3) := by decide +kernel
theorem dX7_stateOf_23 : decode cX7_stateOf 23 = .ok (.iinc 4 1, 3) := by decide +kernel
theorem dX7_stateOf_26 : decode cX7_stateOf 26 = .ok (.goto (-23), 3) := by decide +kernel
theorem dX7_stateOf_29 : decode cX7_stateOf 29 = .ok (.iload 4, 2) := by decide +kernel
theorem dX7_stateOf_31 : decode cX7_stateOf 31 = .ok (.sipush 512, 3) := by decide +kernel
theorem dX7_stateOf_34 : decode cX7_stateOf 34 = .ok (.imul, 1) := by decide +kernel
theorem dX7_stateOf_35 : decode cX7_stateOf 35 = .ok (.iload_n 2, 1) := by decide +kernel
theorem dX7_stateOf_36 : decode cX7_stateOf 36 = .ok (.iadd, 1) := by decide +kernel
theorem dX7_stateOf_37 : decode cX7_stateOf 37 = .ok (.bipush 8, 2) := by decide +kernel
theorem dX7_stateOf_39 : decode cX7_stateOf 39 = .ok (.imul, 1) := by decide +kernel
theorem dX7_stateOf_40 : decode cX7_stateOf 40 = .ok (.iload_n 3, 1) := by decide +kernel
theorem dX7_stateOf_41 : decode cX7_stateOf 41 = .ok (.iadd, 1) := by decide +kernel
theorem dX7_stateOf_42 : decode cX7_stateOf 42 = .ok (.ireturn, 1) := by decide +kernel
theorem dX7_comes_0 : decode cX7_comes 0 = .ok (.aload_n 0, 1) := by decide +kernel
theorem dX7_comes_1 : decode cX7_comes 1 = .ok (.getfield 259, 3) := by decide +kernel
theorem dX7_comes_4 : decode cX7_comes 4 = .ok (.iload_n 1, 1) := by decide +kernel
theorem dX7_comes_5 : decode cX7_comes 5 = .ok (.iaload, 1) := by decide +kernel
theorem dX7_comes_6 : decode cX7_comes 6 = .ok (.iconst (-1), 1) := by decide +kernel
theorem dX7_comes_7 : decode cX7_comes 7 = .ok (.if_icmp .eq 23, 3) := by decide +kernel
theorem dX7_comes_10 : decode cX7_comes 10 = .ok (.aload_n 0, 1) := by decide +kernel
theorem dX7_comes_11 : decode cX7_comes 11 = .ok (.getfield 259, 3) := by decide +kernel
theorem dX7_comes_14 : decode cX7_comes 14 = .ok (.iload_n 1, 1) := by decide +kernel
theorem dX7_comes_15 : decode cX7_comes 15 = .ok (.iaload, 1) := by decide +kernel
theorem dX7_comes_16 : decode cX7_comes 16 = .ok (.iload_n 2, 1) := by decide +kernel
theorem dX7_comes_17 : decode cX7_comes 17 = .ok (.if_icmp .ne 29, 3) := by decide +kernel
theorem dX7_comes_20 : decode cX7_comes 20 = .ok (.iload_n 3, 1) := by decide +kernel
theorem dX7_comes_21 : decode cX7_comes 21 = .ok (.aload_n 0, 1) := by decide +kernel
theorem dX7_comes_22 : decode cX7_comes 22 = .ok (.getfield 262, 3) := by decide +kernel
theorem dX7_comes_25 : decode cX7_comes 25 = .ok (.iload_n 1, 1) := by decide +kernel
theorem dX7_comes_26 : decode cX7_comes 26 = .ok (.iaload, 1) := by decide +kernel
theorem dX7_comes_27 : decode cX7_comes 27 = .ok (.if_icmp .ge 19, 3) := by decide +kernel
theorem dX7_comes_30 : decode cX7_comes 30 = .ok (.aload_n 0, 1) := by decide +kernel
theorem dX7_comes_31 : decode cX7_comes 31 = .ok (.getfield 259, 3) := by decide +kernel
theorem dX7_comes_34 : decode cX7_comes 34 = .ok (.iload_n 1, 1) := by decide +kernel
theorem dX7_comes_35 : decode cX7_comes 35 = .ok (.iload_n 2, 1) := by decide +kernel
theorem dX7_comes_36 : decode cX7_comes 36 = .ok (.iastore, 1) := by decide +kernel
theorem dX7_comes_37 : decode cX7_comes 37 = .ok (.aload_n 0, 1) := by decide +kernel
theorem dX7_comes_38 : decode cX7_comes 38 = .ok (.getfield 262, 3) := by decide +kernel
theorem dX7_comes_41 : decode cX7_comes 41 = .ok (.iload_n 1, 1) := by decide +kernel
theorem dX7_comes_42 : decode cX7_comes 42 = .ok (.iload_n 3, 1) := by decide +kernel
theorem dX7_comes_43 : decode cX7_comes 43 = .ok (.iastore, 1) := by decide +kernel
theorem dX7_comes_44 : decode cX7_comes 44 = .ok (.iconst 1, 1) := by decide +kernel
theorem dX7_comes_45 : decode cX7_comes 45 = .ok (.ireturn, 1) := by decide +kernel
theorem dX7_comes_46 : decode cX7_comes 46 = .ok (.iconst 0, 1) := by decide +kernel
theorem dX7_comes_47 : decode cX7_comes 47 = .ok (.ireturn, 1) := by decide +kernel
def f_X7_may (n : Nat) (h : xH) (a0 : Nat) (p1 : Int32) (p2 : Int32) (p3 : Int32) : Option (Int32 × xH) :=
  (x_ob h a0 7).bind fun u1 =>
  (f_X7_isOne h a0 p1).bind fun q2 =>
  if q2 = 0 then
    (x_ob h a0 7).bind fun u3 =>
    (f_X7_refuse h a0 (-2 : Int32)).bind fun q4 =>
    some (q4.1, q4.2)
  else
    (x_ob h a0 7).bind fun u5 =>
    (f_X7_isDoor h a0 p2).bind fun q6 =>
    if q6 = 0 then
      (x_ob h a0 7).bind fun u7 =>
      (f_X7_refuse h a0 (-2 : Int32)).bind fun q8 =>
      some (q8.1, q8.2)
    else
      (f_X7_in h p3.toInt64 (0 : Int64) (2 : Int64)).bind fun q9 =>
      if q9 = 0 then
        (x_ob h a0 7).bind fun u10 =>
        (f_X7_refuse h a0 (-2 : Int32)).bind fun q11 =>
        some (q11.1, q11.2)
      else
        if p3 = (2 : Int32) then
          (x_ob h a0 7).bind fun u12 =>
          (f_X7_waysOf n h a0 p1 p2 (1 : Int32)).bind fun q13 =>
          if q13 = (-1 : Int32) then
            some ((0 : Int32), h)
          else
            some ((1 : Int32), h)
        else
          if p3 = 0 then
            (x_gR h a0 7 13).bind fun a15 =>
            (x_ld h a15 p1).bind fun x16 =>
            (x_ob h a0 7).bind fun u17 =>
            (f_X7_mayWalk h a0 p2 x16).bind fun q18 =>
            if q18 = 0 then
              some ((0 : Int32), h)
            else
              some ((1 : Int32), h)
          else
            (x_gR h a0 7 13).bind fun a20 =>
            (x_ld h a20 p1).bind fun x21 =>
            (x_ob h a0 7).bind fun u22 =>
            (f_X7_mayShut h a0 p2 x21).bind fun q23 =>
            if q23 = 0 then
              some ((0 : Int32), h)
            else
              some ((1 : Int32), h)
set_option maxRecDepth 100000 in
set_option maxHeartbeats 4000000 in
theorem c_X7_may {n : Nat} {h : xH} {a0 : Nat} {p1 : Int32} {p2 : Int32} {p3 : Int32} {r9 : Int32} {hz : xH} (hE : f_X7_may n h a0 p1 p2 p3 = some (r9, hz)) : Ctr M_X7_may [.ref a0, .int p1, .int p2, .int p3] h (some (.int r9)) hz 0 0 := by
  refine ctr_of (by decide) (fun _ _ => Nat.le_of_ble_eq_true rfl) (fun S => ?_)
  show Y S M_X7_may h (some (.int r9)) hz 0 0 0 [(0, .ref a0), (1, .int p1), (2, .int p2), (3, .int p3)] [] h 0 0
  unfold f_X7_may at hE
  refine y_aload_n dX7_may_0 0 rfl ?_
  refine y_iload_n dX7_may_1 1 rfl ?_
  obtain ⟨u1, eu1, hE⟩ := Option.bind_eq_some_iff.mp hE
  obtain ⟨q2, eq2, hE⟩ := Option.bind_eq_some_iff.mp hE
  refine y_cVi0 (st := []) (as := [.int p1]) (c_X7_isOne eq2) lk_X7_120 in_X7_isOne se_X7_isOne rfl eu1 ⟨Nat.le_of_ble_eq_true rfl, Nat.le_of_ble_eq_true rfl⟩ (Nat.le_of_ble_eq_true rfl) dX7_may_2 ⟨Nat.le_refl _, Nat.le_refl _⟩ rfl ?_
  refine y_if_eq (tgt := 28) dX7_may_5 (by decide) (fun hc29 => ?_) (fun hc29 => ?_)
  · rw [if_pos hc29] at hE
    refine y_aload_n dX7_may_28 0 rfl ?_
    refine y_bipush (v := (-2 : Int32)) dX7_may_29 (by decide) ?_
    obtain ⟨u3, eu3, hE⟩ := Option.bind_eq_some_iff.mp hE
    obtain ⟨q4, eq4, hE⟩ := Option.bind_eq_some_iff.mp hE
    refine y_cVi0 (st := []) (as := [.int (-2 : Int32)]) (c_X7_refuse eq4) lk_X7_77 in_X7_refuse se_X7_refuse rfl eu3 ⟨Nat.le_of_ble_eq_true rfl, Nat.le_of_ble_eq_true rfl⟩ (Nat.le_of_ble_eq_true rfl) dX7_may_31 ⟨Nat.le_refl _, Nat.le_refl _⟩ rfl ?_
    obtain ⟨rfl, rfl⟩ := x_inj2 hE
    exact y_ret dX7_may_34 (Nat.le_refl _) (Nat.le_refl _) ⟨_, rfl, rfl⟩
  · rw [if_neg hc29] at hE
    refine y_aload_n dX7_may_8 0 rfl ?_
    refine y_iload_n dX7_may_9 2 rfl ?_
    obtain ⟨u5, eu5, hE⟩ := Option.bind_eq_some_iff.mp hE
    obtain ⟨q6, eq6, hE⟩ := Option.bind_eq_some_iff.mp hE
    refine y_cVi0 (st := []) (as := [.int p2]) (c_X7_isDoor eq6) lk_X7_88 in_X7_isDoor se_X7_isDoor rfl eu5 ⟨Nat.le_of_ble_eq_true rfl, Nat.le_of_ble_eq_true rfl⟩ (Nat.le_of_ble_eq_true rfl) dX7_may_10 ⟨Nat.le_refl _, Nat.le_refl _⟩ rfl ?_
    refine y_if_eq (tgt := 28) dX7_may_13 (by decide) (fun hc28 => ?_) (fun hc28 => ?_)
    · rw [if_pos hc28] at hE
      refine y_aload_n dX7_may_28 0 rfl ?_
      refine y_bipush (v := (-2 : Int32)) dX7_may_29 (by decide) ?_
      obtain ⟨u7, eu7, hE⟩ := Option.bind_eq_some_iff.mp hE
      obtain ⟨q8, eq8, hE⟩ := Option.bind_eq_some_iff.mp hE
      refine y_cVi0 (st := []) (as := [.int (-2 : Int32)]) (c_X7_refuse eq8) lk_X7_77 in_X7_refuse se_X7_refuse rfl eu7 ⟨Nat.le_of_ble_eq_true rfl, Nat.le_of_ble_eq_true rfl⟩ (Nat.le_of_ble_eq_true rfl) dX7_may_31 ⟨Nat.le_refl _, Nat.le_refl _⟩ rfl ?_
      obtain ⟨rfl, rfl⟩ := x_inj2 hE
      exact y_ret dX7_may_34 (Nat.le_refl _) (Nat.le_refl _) ⟨_, rfl, rfl⟩
    · rw [if_neg hc28] at hE
      refine y_iload_n dX7_may_16 3 rfl ?_
      refine y_i2l dX7_may_17 ?_
      refine y_lconst (v := (0 : Int64)) dX7_may_18 (by decide) ?_
      refine y_ldc2 (v := (2 : Int64)) (x_wt (tb 1231 (by decide +kernel)) rfl) dX7_may_19 ?_
      obtain ⟨q9, eq9, hE⟩ := Option.bind_eq_some_iff.mp hE
      refine y_cSi0 (st := []) (as := [.long p3.toInt64, .long (0 : Int64), .long (2 : Int64)]) (c_X7_in eq9) lk_X7_64 st_X7_in ⟨Nat.le_of_ble_eq_true rfl, Nat.le_of_ble_eq_true rfl⟩ (Nat.le_of_ble_eq_true rfl) dX7_may_22 ⟨Nat.le_refl _, Nat.le_refl _⟩ rfl ?_
      refine y_if_ne (tgt := 35) dX7_may_25 (by decide) (fun hc27 => ?_) (fun hc27 => ?_)
      · rw [if_pos hc27] at hE
        refine y_aload_n dX7_may_28 0 rfl ?_
        refine y_bipush (v := (-2 : Int32)) dX7_may_29 (by decide) ?_
        obtain ⟨u10, eu10, hE⟩ := Option.bind_eq_some_iff.mp hE
        obtain ⟨q11, eq11, hE⟩ := Option.bind_eq_some_iff.mp hE
        refine y_cVi0 (st := []) (as := [.int (-2 : Int32)]) (c_X7_refuse eq11) lk_X7_77 in_X7_refuse se_X7_refuse rfl eu10 ⟨Nat.le_of_ble_eq_true rfl, Nat.le_of_ble_eq_true rfl⟩ (Nat.le_of_ble_eq_true rfl) dX7_may_31 ⟨Nat.le_refl _, Nat.le_refl _⟩ rfl ?_
        obtain ⟨rfl, rfl⟩ := x_inj2 hE
        exact y_ret dX7_may_34 (Nat.le_refl _) (Nat.le_refl _) ⟨_, rfl, rfl⟩
      · rw [if_neg hc27] at hE
        refine y_iload_n dX7_may_35 3 rfl ?_
        refine y_iconst (v := (2 : Int32)) dX7_may_36 (by decide) ?_
        refine y_icmp_ne (tgt := 57) dX7_may_37 (by decide) (fun hc26 => ?_) (fun hc26 => ?_)
        · rw [if_pos hc26] at hE
          refine y_aload_n dX7_may_40 0 rfl ?_
          refine y_iload_n dX7_may_41 1 rfl ?_
          refine y_iload_n dX7_may_42 2 rfl ?_
          refine y_iconst (v := (1 : Int32)) dX7_may_43 (by decide) ?_
          obtain ⟨u12, eu12, hE⟩ := Option.bind_eq_some_iff.mp hE
          obtain ⟨q13, eq13, hE⟩ := Option.bind_eq_some_iff.mp hE
          refine y_cVi0 (st := []) (as := [.int p1, .int p2, .int (1 : Int32)]) (c_X7_waysOf eq13) lk_X7_227 in_X7_waysOf se_X7_waysOf rfl eu12 ⟨Nat.le_of_ble_eq_true rfl, Nat.le_of_ble_eq_true rfl⟩ (Nat.le_of_ble_eq_true rfl) dX7_may_44 ⟨Nat.le_refl _, Nat.le_refl _⟩ rfl ?_
          refine y_iconst (v := (-1 : Int32)) dX7_may_47 (by decide) ?_
          refine y_icmp_eq (tgt := 55) dX7_may_48 (by decide) (fun hc14 => ?_) (fun hc14 => ?_)
          · rw [if_pos hc14] at hE
            refine y_iconst (v := (0 : Int32)) dX7_may_55 (by decide) ?_
            obtain ⟨rfl, rfl⟩ := x_inj2 hE
            exact y_ret dX7_may_56 (Nat.le_refl _) (Nat.le_refl _) ⟨_, rfl, rfl⟩
          · rw [if_neg hc14] at hE
            refine y_iconst (v := (1 : Int32)) dX7_may_51 (by decide) ?_
            refine y_goto (tgt := 56) dX7_may_52 (by decide) ?_
            obtain ⟨rfl, rfl⟩ := x_inj2 hE
            exact y_ret dX7_may_56 (Nat.le_refl _) (Nat.le_refl _) ⟨_, rfl, rfl⟩
        · rw [if_neg hc26] at hE
          refine y_iload_n dX7_may_57 3 rfl ?_
          refine y_if_ne (tgt := 78) dX7_may_58 (by decide) (fun hc25 => ?_) (fun hc25 => ?_)
          · rw [if_pos hc25] at hE
            refine y_aload_n dX7_may_61 0 rfl ?_
            refine y_iload_n dX7_may_62 2 rfl ?_
            refine y_aload_n dX7_may_63 0 rfl ?_
            obtain ⟨a15, ea15, hE⟩ := Option.bind_eq_some_iff.mp hE
            refine y_getR fl_X7_42 ea15 dX7_may_64 ?_
            refine y_iload_n dX7_may_67 1 rfl ?_
            obtain ⟨x16, ex16, hE⟩ := Option.bind_eq_some_iff.mp hE
            refine y_iald ex16 dX7_may_68 ?_
            obtain ⟨u17, eu17, hE⟩ := Option.bind_eq_some_iff.mp hE
            obtain ⟨q18, eq18, hE⟩ := Option.bind_eq_some_iff.mp hE
            refine y_cVi0 (st := []) (as := [.int p2, .int x16]) (c_X7_mayWalk eq18) lk_X7_230 in_X7_mayWalk se_X7_mayWalk rfl eu17 ⟨Nat.le_of_ble_eq_true rfl, Nat.le_of_ble_eq_true rfl⟩ (Nat.le_of_ble_eq_true rfl) dX7_may_69 ⟨Nat.le_refl _, Nat.le_refl _⟩ rfl ?_
            refine y_if_eq (tgt := 96) dX7_may_72 (by decide) (fun hc19 => ?_) (fun hc19 => ?_)
            · rw [if_pos hc19] at hE
              refine y_iconst (v := (0 : Int32)) dX7_may_96 (by decide) ?_
              obtain ⟨rfl, rfl⟩ := x_inj2 hE
              exact y_ret dX7_may_97 (Nat.le_refl _) (Nat.le_refl _) ⟨_, rfl, rfl⟩
            · rw [if_neg hc19] at hE
              refine y_goto (tgt := 92) dX7_may_75 (by decide) ?_
              refine y_iconst (v := (1 : Int32)) dX7_may_92 (by decide) ?_
              refine y_goto (tgt := 97) dX7_may_93 (by decide) ?_
              obtain ⟨rfl, rfl⟩ := x_inj2 hE
              exact y_ret dX7_may_97 (Nat.le_refl _) (Nat.le_refl _) ⟨_, rfl, rfl⟩
          · rw [if_neg hc25] at hE
            refine y_aload_n dX7_may_78 0 rfl ?_
            refine y_iload_n dX7_may_79 2 rfl ?_
            refine y_aload_n dX7_may_80 0 rfl ?_
            obtain ⟨a20, ea20, hE⟩ := Option.bind_eq_some_iff.mp hE
            refine y_getR fl_X7_42 ea20 dX7_may_81 ?_
            refine y_iload_n dX7_may_84 1 rfl ?_
            obtain ⟨x21, ex21, hE⟩ := Option.bind_eq_some_iff.mp hE
            refine y_iald ex21 dX7_may_85 ?_
            obtain ⟨u22, eu22, hE⟩ := Option.bind_eq_some_iff.mp hE
            obtain ⟨q23, eq23, hE⟩ := Option.bind_eq_some_iff.mp hE
            refine y_cVi0 (st := []) (as := [.int p2, .int x21]) (c_X7_mayShut eq23) lk_X7_213 in_X7_mayShut se_X7_mayShut rfl eu22 ⟨Nat.le_of_ble_eq_true rfl, Nat.le_of_ble_eq_true rfl⟩ (Nat.le_of_ble_eq_true rfl) dX7_may_86 ⟨Nat.le_refl _, Nat.le_refl _⟩ rfl ?_
            refine y_if_eq (tgt := 96) dX7_may_89 (by decide) (fun hc24 => ?_) (fun hc24 => ?_)
            · rw [if_pos hc24] at hE
              refine y_iconst (v := (0 : Int32)) dX7_may_96 (by decide) ?_
              obtain ⟨rfl, rfl⟩ := x_inj2 hE
              exact y_ret dX7_may_97 (Nat.le_refl _) (Nat.le_refl _) ⟨_, rfl, rfl⟩
            · rw [if_neg hc24] at hE
              refine y_iconst (v := (1 : Int32)) dX7_may_92 (by decide) ?_
              refine y_goto (tgt := 97) dX7_may_93 (by decide) ?_
              obtain ⟨rfl, rfl⟩ := x_inj2 hE
              exact y_ret dX7_may_97 (Nat.le_refl _) (Nat.le_refl _) ⟨_, rfl, rfl⟩
def f_X7_isSet (h : xH) (a0 : Nat) (p1 : Int32) : Option (Int32) :=
  (x_gI h a0 7 9).bind fun x1 =>
  (f_X7_in h p1.toInt64 (0 : Int64) (((i_shl (1 : Int32) x1) - (1 : Int32)).toInt64)).bind fun q2 =>
  (x_bool q2).bind fun x3 =>
  some x3
set_option maxRecDepth 100000 in
set_option maxHeartbeats 4000000 in
theorem c_X7_isSet {h : xH} {a0 : Nat} {p1 : Int32} {r9 : Int32} (hE : f_X7_isSet h a0 p1 = some r9) : Ctr M_X7_isSet [.ref a0, .int p1] h (some (.int r9)) h 0 0 := by
  refine ctr_of (by decide) (fun _ _ => Nat.le_of_ble_eq_true rfl) (fun S => ?_)
  show Y S M_X7_isSet h (some (.int r9)) h 0 0 0 [(0, .ref a0), (1, .int p1)] [] h 0 0
  unfold f_X7_isSet at hE
  refine y_iload_n dX7_isSet_0 1 rfl ?_
  refine y_i2l dX7_isSet_1 ?_
  refine y_lconst (v := (0 : Int64)) dX7_isSet_2 (by decide) ?_
  refine y_iconst (v := (1 : Int32)) dX7_isSet_3 (by decide) ?_
  refine y_aload_n dX7_isSet_4 0 rfl ?_
  obtain ⟨x1, ex1, hE⟩ := Option.bind_eq_some_iff.mp hE
  refine y_getI fl_X7_61 ex1 dX7_isSet_5 ?_
  refine y_ishl dX7_isSet_8 ?_
  refine y_iconst (v := (1 : Int32)) dX7_isSet_9 (by decide) ?_
  refine y_isub dX7_isSet_10 ?_
  refine y_i2l dX7_isSet_11 ?_
  obtain ⟨q2, eq2, hE⟩ := Option.bind_eq_some_iff.mp hE
  refine y_cSi0 (st := []) (as := [.long p1.toInt64, .long (0 : Int64), .long (((i_shl (1 : Int32) x1) - (1 : Int32)).toInt64)]) (c_X7_in eq2) lk_X7_64 st_X7_in ⟨Nat.le_of_ble_eq_true rfl, Nat.le_of_ble_eq_true rfl⟩ (Nat.le_of_ble_eq_true rfl) dX7_isSet_12 ⟨Nat.le_refl _, Nat.le_refl _⟩ rfl ?_
  obtain ⟨x3, ex3, hE⟩ := Option.bind_eq_some_iff.mp hE
  obtain ⟨e9, hnb⟩ := x_bool.spec ex3
  rw [e9]
  obtain rfl := Option.some.inj hE
  exact y_ret dX7_isSet_15 (Nat.le_refl _) (Nat.le_refl _) ⟨_, rfl, hnb⟩
def f_X7_by (n : Nat) (h : xH) (a0 : Nat) (p1 : Int32) (p2 : Int32) (p3 : Int32) : Option (Int32 × xH) :=
  (x_ob h a0 7).bind fun u1 =>
  (f_X7_isOne h a0 p1).bind fun q2 =>
  if q2 = 0 then
    (x_ob h a0 7).bind fun u3 =>
    (f_X7_refuse h a0 (-2 : Int32)).bind fun q4 =>
    some (q4.1, q4.2)
  else
    (x_ob h a0 7).bind fun u5 =>
    (f_X7_isDoor h a0 p2).bind fun q6 =>
    if q6 = 0 then
      (x_ob h a0 7).bind fun u7 =>
      (f_X7_refuse h a0 (-2 : Int32)).bind fun q8 =>
      some (q8.1, q8.2)
    else
      (x_ob h a0 7).bind fun u9 =>
      (f_X7_isSet h a0 p3).bind fun q10 =>
      if q10 = 0 then
        (x_ob h a0 7).bind fun u11 =>
        (f_X7_refuse h a0 (-2 : Int32)).bind fun q12 =>
        some (q12.1, q12.2)
      else
        (x_ob h a0 7).bind fun u13 =>
        (f_X7_mayOpenBy n h a0 p1 p2 p3).bind fun q14 =>
        if q14 = 0 then
          some ((0 : Int32), h)
        else
          some ((1 : Int32), h)
set_option maxRecDepth 100000 in
set_option maxHeartbeats 4000000 in
theorem c_X7_by {n : Nat} {h : xH} {a0 : Nat} {p1 : Int32} {p2 : Int32} {p3 : Int32} {r9 : Int32} {hz : xH} (hE : f_X7_by n h a0 p1 p2 p3 = some (r9, hz)) : Ctr M_X7_by [.ref a0, .int p1, .int p2, .int p3] h (some (.int r9)) hz 0 0 := by
  refine ctr_of (by decide) (fun _ _ => Nat.le_of_ble_eq_true rfl) (fun S => ?_)
  show Y S M_X7_by h (some (.int r9)) hz 0 0 0 [(0, .ref a0), (1, .int p1), (2, .int p2), (3, .int p3)] [] h 0 0
  unfold f_X7_by at hE
  refine y_aload_n dX7_by_0 0 rfl ?_
  refine y_iload_n dX7_by_1 1 rfl ?_
  obtain ⟨u1, eu1, hE⟩ := Option.bind_eq_some_iff.mp hE
  obtain ⟨q2, eq2, hE⟩ := Option.bind_eq_some_iff.mp hE
  refine y_cVi0 (st := []) (as := [.int p1]) (c_X7_isOne eq2) lk_X7_120 in_X7_isOne se_X7_isOne rfl eu1 ⟨Nat.le_of_ble_eq_true rfl, Nat.le_of_ble_eq_true rfl⟩ (Nat.le_of_ble_eq_true rfl) dX7_by_2 ⟨Nat.le_refl _, Nat.le_refl _⟩ rfl ?_
  refine y_if_eq (tgt := 24) dX7_by_5 (by decide) (fun hc18 => ?_) (fun hc18 => ?_)
  · rw [if_pos hc18] at hE
    refine y_aload_n dX7_by_24 0 rfl ?_
    refine y_bipush (v := (-2 : Int32)) dX7_by_25 (by decide) ?_
    obtain ⟨u3, eu3, hE⟩ := Option.bind_eq_some_iff.mp hE
    obtain ⟨q4, eq4, hE⟩ := Option.bind_eq_some_iff.mp hE
    refine y_cVi0 (st := []) (as := [.int (-2 : Int32)]) (c_X7_refuse eq4) lk_X7_77 in_X7_refuse se_X7_refuse rfl eu3 ⟨Nat.le_of_ble_eq_true rfl, Nat.le_of_ble_eq_true rfl⟩ (Nat.le_of_ble_eq_true rfl) dX7_by_27 ⟨Nat.le_refl _, Nat.le_refl _⟩ rfl ?_
    obtain ⟨rfl, rfl⟩ := x_inj2 hE
    exact y_ret dX7_by_30 (Nat.le_refl _) (Nat.le_refl _) ⟨_, rfl, rfl⟩
  · rw [if_neg hc18] at hE
    refine y_aload_n dX7_by_8 0 rfl ?_
    refine y_iload_n dX7_by_9 2 rfl ?_
    obtain ⟨u5, eu5, hE⟩ := Option.bind_eq_some_iff.mp hE
    obtain ⟨q6, eq6, hE⟩ := Option.bind_eq_some_iff.mp hE
    refine y_cVi0 (st := []) (as := [.int p2]) (c_X7_isDoor eq6) lk_X7_88 in_X7_isDoor se_X7_isDoor rfl eu5 ⟨Nat.le_of_ble_eq_true rfl, Nat.le_of_ble_eq_true rfl⟩ (Nat.le_of_ble_eq_true rfl) dX7_by_10 ⟨Nat.le_refl _, Nat.le_refl _⟩ rfl ?_
    refine y_if_eq (tgt := 24) dX7_by_13 (by decide) (fun hc17 => ?_) (fun hc17 => ?_)
    · rw [if_pos hc17] at hE
      refine y_aload_n dX7_by_24 0 rfl ?_
      refine y_bipush (v := (-2 : Int32)) dX7_by_25 (by decide) ?_
      obtain ⟨u7, eu7, hE⟩ := Option.bind_eq_some_iff.mp hE
      obtain ⟨q8, eq8, hE⟩ := Option.bind_eq_some_iff.mp hE
      refine y_cVi0 (st := []) (as := [.int (-2 : Int32)]) (c_X7_refuse eq8) lk_X7_77 in_X7_refuse se_X7_refuse rfl eu7 ⟨Nat.le_of_ble_eq_true rfl, Nat.le_of_ble_eq_true rfl⟩ (Nat.le_of_ble_eq_true rfl) dX7_by_27 ⟨Nat.le_refl _, Nat.le_refl _⟩ rfl ?_
      obtain ⟨rfl, rfl⟩ := x_inj2 hE
      exact y_ret dX7_by_30 (Nat.le_refl _) (Nat.le_refl _) ⟨_, rfl, rfl⟩
    · rw [if_neg hc17] at hE
      refine y_aload_n dX7_by_16 0 rfl ?_
      refine y_iload_n dX7_by_17 3 rfl ?_
      obtain ⟨u9, eu9, hE⟩ := Option.bind_eq_some_iff.mp hE
      obtain ⟨q10, eq10, hE⟩ := Option.bind_eq_some_iff.mp hE
      refine y_cVi0 (st := []) (as := [.int p3]) (c_X7_isSet eq10) lk_X7_233 in_X7_isSet se_X7_isSet rfl eu9 ⟨Nat.le_of_ble_eq_true rfl, Nat.le_of_ble_eq_true rfl⟩ (Nat.le_of_ble_eq_true rfl) dX7_by_18 ⟨Nat.le_refl _, Nat.le_refl _⟩ rfl ?_
      refine y_if_ne (tgt := 31) dX7_by_21 (by decide) (fun hc16 => ?_) (fun hc16 => ?_)
      · rw [if_pos hc16] at hE
        refine y_aload_n dX7_by_24 0 rfl ?_
        refine y_bipush (v := (-2 : Int32)) dX7_by_25 (by decide) ?_
        obtain ⟨u11, eu11, hE⟩ := Option.bind_eq_some_iff.mp hE
        obtain ⟨q12, eq12, hE⟩ := Option.bind_eq_some_iff.mp hE
        refine y_cVi0 (st := []) (as := [.int (-2 : Int32)]) (c_X7_refuse eq12) lk_X7_77 in_X7_refuse se_X7_refuse rfl eu11 ⟨Nat.le_of_ble_eq_true rfl, Nat.le_of_ble_eq_true rfl⟩ (Nat.le_of_ble_eq_true rfl) dX7_by_27 ⟨Nat.le_refl _, Nat.le_refl _⟩ rfl ?_
        obtain ⟨rfl, rfl⟩ := x_inj2 hE
        exact y_ret dX7_by_30 (Nat.le_refl _) (Nat.le_refl _) ⟨_, rfl, rfl⟩
      · rw [if_neg hc16] at hE
        refine y_aload_n dX7_by_31 0 rfl ?_
        refine y_iload_n dX7_by_32 1 rfl ?_
        refine y_iload_n dX7_by_33 2 rfl ?_
        refine y_iload_n dX7_by_34 3 rfl ?_
        obtain ⟨u13, eu13, hE⟩ := Option.bind_eq_some_iff.mp hE
        obtain ⟨q14, eq14, hE⟩ := Option.bind_eq_some_iff.mp hE
        refine y_cVi0 (st := []) (as := [.int p1, .int p2, .int p3]) (c_X7_mayOpenBy eq14) lk_X7_236 in_X7_mayOpenBy se_X7_mayOpenBy rfl eu13 ⟨Nat.le_of_ble_eq_true rfl, Nat.le_of_ble_eq_true rfl⟩ (Nat.le_of_ble_eq_true rfl) dX7_by_35 ⟨Nat.le_refl _, Nat.le_refl _⟩ rfl ?_
        refine y_if_eq (tgt := 45) dX7_by_38 (by decide) (fun hc15 => ?_) (fun hc15 => ?_)
        · rw [if_pos hc15] at hE
          refine y_iconst (v := (0 : Int32)) dX7_by_45 (by decide) ?_
          obtain ⟨rfl, rfl⟩ := x_inj2 hE
          exact y_ret dX7_by_46 (Nat.le_refl _) (Nat.le_refl _) ⟨_, rfl, rfl⟩
        · rw [if_neg hc15] at hE
          refine y_iconst (v := (1 : Int32)) dX7_by_41 (by decide) ?_
          refine y_goto (tgt := 46) dX7_by_42 (by decide) ?_
          obtain ⟨rfl, rfl⟩ := x_inj2 hE
          exact y_ret dX7_by_46 (Nat.le_refl _) (Nat.le_refl _) ⟨_, rfl, rfl⟩
def f_X7_ways (n : Nat) (h : xH) (a0 : Nat) (p1 : Int32) (p2 : Int32) (p3 : Int32) : Option (Int32 × xH) :=
  (x_ob h a0 7).bind fun u1 =>
  (f_X7_isOne h a0 p1).bind fun q2 =>
  if q2 = 0 then
    (x_ob h a0 7).bind fun u3 =>
    (f_X7_refuse h a0 (-2 : Int32)).bind fun q4 =>
    some (q4.1, q4.2)
  else
    (x_ob h a0 7).bind fun u5 =>
    (f_X7_isDoor h a0 p2).bind fun q6 =>
    if q6 = 0 then
      (x_ob h a0 7).bind fun u7 =>
      (f_X7_refuse h a0 (-2 : Int32)).bind fun q8 =>
      some (q8.1, q8.2)
    else
      (f_X7_in h p3.toInt64 (0 : Int64) (1 : Int64)).bind fun q9 =>
      if q9 = 0 then
        (x_ob h a0 7).bind fun u10 =>
        (f_X7_refuse h a0 (-2 : Int32)).bind fun q11 =>
        some (q11.1, q11.2)
      else
        (x_ob h a0 7).bind fun u12 =>
        (f_X7_waysOf n h a0 p1 p2 p3).bind fun q13 =>
        if q13 = (-1 : Int32) then
          (x_ob h a0 7).bind fun u14 =>
          (f_X7_refuse h a0 (-5 : Int32)).bind fun q15 =>
          some (q15.1, q15.2)
        else
          some (q13, h)
set_option maxRecDepth 100000 in
set_option maxHeartbeats 4000000 in
theorem c_X7_ways {n : Nat} {h : xH} {a0 : Nat} {p1 : Int32} {p2 : Int32} {p3 : Int32} {r9 : Int32} {hz : xH} (hE : f_X7_ways n h a0 p1 p2 p3 = some (r9, hz)) : Ctr M_X7_ways [.ref a0, .int p1, .int p2, .int p3] h (some (.int r9)) hz 0 0 := by
  refine ctr_of (by decide) (fun _ _ => Nat.le_of_ble_eq_true rfl) (fun S => ?_)
  show Y S M_X7_ways h (some (.int r9)) hz 0 0 0 [(0, .ref a0), (1, .int p1), (2, .int p2), (3, .int p3)] [] h 0 0
  unfold f_X7_ways at hE
  refine y_aload_n dX7_ways_0 0 rfl ?_
  refine y_iload_n dX7_ways_1 1 rfl ?_
  obtain ⟨u1, eu1, hE⟩ := Option.bind_eq_some_iff.mp hE
  obtain ⟨q2, eq2, hE⟩ := Option.bind_eq_some_iff.mp hE
  refine y_cVi0 (st := []) (as := [.int p1]) (c_X7_isOne eq2) lk_X7_120 in_X7_isOne se_X7_isOne rfl eu1 ⟨Nat.le_of_ble_eq_true rfl, Nat.le_of_ble_eq_true rfl⟩ (Nat.le_of_ble_eq_true rfl) dX7_ways_2 ⟨Nat.le_refl _, Nat.le_refl _⟩ rfl ?_
  refine y_if_eq (tgt := 26) dX7_ways_5 (by decide) (fun hc19 => ?_) (fun hc19 => ?_)
  · rw [if_pos hc19] at hE
    refine y_aload_n dX7_ways_26 0 rfl ?_
    refine y_bipush (v := (-2 : Int32)) dX7_ways_27 (by decide) ?_
    obtain ⟨u3, eu3, hE⟩ := Option.bind_eq_some_iff.mp hE
    obtain ⟨q4, eq4, hE⟩ := Option.bind_eq_some_iff.mp hE
    refine y_cVi0 (st := []) (as := [.int (-2 : Int32)]) (c_X7_refuse eq4) lk_X7_77 in_X7_refuse se_X7_refuse rfl eu3 ⟨Nat.le_of_ble_eq_true rfl, Nat.le_of_ble_eq_true rfl⟩ (Nat.le_of_ble_eq_true rfl) dX7_ways_29 ⟨Nat.le_refl _, Nat.le_refl _⟩ rfl ?_
    obtain ⟨rfl, rfl⟩ := x_inj2 hE
    exact y_ret dX7_ways_32 (Nat.le_refl _) (Nat.le_refl _) ⟨_, rfl, rfl⟩
  · rw [if_neg hc19] at hE
    refine y_aload_n dX7_ways_8 0 rfl ?_
    refine y_iload_n dX7_ways_9 2 rfl ?_
    obtain ⟨u5, eu5, hE⟩ := Option.bind_eq_some_iff.mp hE
    obtain ⟨q6, eq6, hE⟩ := Option.bind_eq_some_iff.mp hE
    refine y_cVi0 (st := []) (as := [.int p2]) (c_X7_isDoor eq6) lk_X7_88 in_X7_isDoor se_X7_isDoor rfl eu5 ⟨Nat.le_of_ble_eq_true rfl, Nat.le_of_ble_eq_true rfl⟩ (Nat.le_of_ble_eq_true rfl) dX7_ways_10 ⟨Nat.le_refl _, Nat.le_refl _⟩ rfl ?_
    refine y_if_eq (tgt := 26) dX7_ways_13 (by decide) (fun hc18 => ?_) (fun hc18 => ?_)
    · rw [if_pos hc18] at hE
      refine y_aload_n dX7_ways_26 0 rfl ?_
      refine y_bipush (v := (-2 : Int32)) dX7_ways_27 (by decide) ?_
      obtain ⟨u7, eu7, hE⟩ := Option.bind_eq_some_iff.mp hE
      obtain ⟨q8, eq8, hE⟩ := Option.bind_eq_some_iff.mp hE
      refine y_cVi0 (st := []) (as := [.int (-2 : Int32)]) (c_X7_refuse eq8) lk_X7_77 in_X7_refuse se_X7_refuse rfl eu7 ⟨Nat.le_of_ble_eq_true rfl, Nat.le_of_ble_eq_true rfl⟩ (Nat.le_of_ble_eq_true rfl) dX7_ways_29 ⟨Nat.le_refl _, Nat.le_refl _⟩ rfl ?_
      obtain ⟨rfl, rfl⟩ := x_inj2 hE
      exact y_ret dX7_ways_32 (Nat.le_refl _) (Nat.le_refl _) ⟨_, rfl, rfl⟩
    · rw [if_neg hc18] at hE
      refine y_iload_n dX7_ways_16 3 rfl ?_
      refine y_i2l dX7_ways_17 ?_
      refine y_lconst (v := (0 : Int64)) dX7_ways_18 (by decide) ?_
      refine y_lconst (v := (1 : Int64)) dX7_ways_19 (by decide) ?_
      obtain ⟨q9, eq9, hE⟩ := Option.bind_eq_some_iff.mp hE
      refine y_cSi0 (st := []) (as := [.long p3.toInt64, .long (0 : Int64), .long (1 : Int64)]) (c_X7_in eq9) lk_X7_64 st_X7_in ⟨Nat.le_of_ble_eq_true rfl, Nat.le_of_ble_eq_true rfl⟩ (Nat.le_of_ble_eq_true rfl) dX7_ways_20 ⟨Nat.le_refl _, Nat.le_refl _⟩ rfl ?_
      refine y_if_ne (tgt := 33) dX7_ways_23 (by decide) (fun hc17 => ?_) (fun hc17 => ?_)
      · rw [if_pos hc17] at hE
        refine y_aload_n dX7_ways_26 0 rfl ?_
        refine y_bipush (v := (-2 : Int32)) dX7_ways_27 (by decide) ?_
        obtain ⟨u10, eu10, hE⟩ := Option.bind_eq_some_iff.mp hE
        obtain ⟨q11, eq11, hE⟩ := Option.bind_eq_some_iff.mp hE
        refine y_cVi0 (st := []) (as := [.int (-2 : Int32)]) (c_X7_refuse eq11) lk_X7_77 in_X7_refuse se_X7_refuse rfl eu10 ⟨Nat.le_of_ble_eq_true rfl, Nat.le_of_ble_eq_true rfl⟩ (Nat.le_of_ble_eq_true rfl) dX7_ways_29 ⟨Nat.le_refl _, Nat.le_refl _⟩ rfl ?_
        obtain ⟨rfl, rfl⟩ := x_inj2 hE
        exact y_ret dX7_ways_32 (Nat.le_refl _) (Nat.le_refl _) ⟨_, rfl, rfl⟩
      · rw [if_neg hc17] at hE
        refine y_aload_n dX7_ways_33 0 rfl ?_
        refine y_iload_n dX7_ways_34 1 rfl ?_
        refine y_iload_n dX7_ways_35 2 rfl ?_
        refine y_iload_n dX7_ways_36 3 rfl ?_
        obtain ⟨u12, eu12, hE⟩ := Option.bind_eq_some_iff.mp hE
        obtain ⟨q13, eq13, hE⟩ := Option.bind_eq_some_iff.mp hE
        refine y_cVi0 (st := []) (as := [.int p1, .int p2, .int p3]) (c_X7_waysOf eq13) lk_X7_227 in_X7_waysOf se_X7_waysOf rfl eu12 ⟨Nat.le_of_ble_eq_true rfl, Nat.le_of_ble_eq_true rfl⟩ (Nat.le_of_ble_eq_true rfl) dX7_ways_37 ⟨Nat.le_refl _, Nat.le_refl _⟩ rfl ?_
        refine y_istore (ls' := [(4, .int q13), (0, .ref a0), (1, .int p1), (2, .int p2), (3, .int p3)]) dX7_ways_40 (by decide) rfl rfl ?_
        refine y_iload dX7_ways_42 0 rfl ?_
        refine y_iconst (v := (-1 : Int32)) dX7_ways_44 (by decide) ?_
        refine y_icmp_ne (tgt := 57) dX7_ways_45 (by decide) (fun hc16 => ?_) (fun hc16 => ?_)
        · rw [if_pos hc16] at hE
          refine y_aload_n dX7_ways_48 1 rfl ?_
          refine y_bipush (v := (-5 : Int32)) dX7_ways_49 (by decide) ?_
          obtain ⟨u14, eu14, hE⟩ := Option.bind_eq_some_iff.mp hE
          obtain ⟨q15, eq15, hE⟩ := Option.bind_eq_some_iff.mp hE
          refine y_cVi0 (st := []) (as := [.int (-5 : Int32)]) (c_X7_refuse eq15) lk_X7_77 in_X7_refuse se_X7_refuse rfl eu14 ⟨Nat.le_of_ble_eq_true rfl, Nat.le_of_ble_eq_true rfl⟩ (Nat.le_of_ble_eq_true rfl) dX7_ways_51 ⟨Nat.le_refl _, Nat.le_refl _⟩ rfl ?_
          refine y_goto (tgt := 59) dX7_ways_54 (by decide) ?_
          obtain ⟨rfl, rfl⟩ := x_inj2 hE
          exact y_ret dX7_ways_59 (Nat.le_refl _) (Nat.le_refl _) ⟨_, rfl, rfl⟩
        · rw [if_neg hc16] at hE
          refine y_iload dX7_ways_57 0 rfl ?_
          obtain ⟨rfl, rfl⟩ := x_inj2 hE
          exact y_ret dX7_ways_59 (Nat.le_refl _) (Nat.le_refl _) ⟨_, rfl, rfl⟩
def f_X7_walk (h : xH) (a0 : Nat) (p1 : Int32) (p2 : Int32) : Option (Int32 × xH) :=
  (x_ob h a0 7).bind fun u1 =>
  (f_X7_isOne h a0 p1).bind fun q2 =>
  if q2 = 0 then
    (x_ob h a0 7).bind fun u3 =>
    (f_X7_refuse h a0 (-2 : Int32)).bind fun q4 =>
    some (q4.1, q4.2)
  else
    (x_ob h a0 7).bind fun u5 =>
    (f_X7_isDoor h a0 p2).bind fun q6 =>
    if q6 = 0 then
      (x_ob h a0 7).bind fun u7 =>
      (f_X7_refuse h a0 (-2 : Int32)).bind fun q8 =>
      some (q8.1, q8.2)
    else
      (x_gR h a0 7 13).bind fun a9 =>
      (x_ld h a9 p1).bind fun x10 =>
      (x_ob h a0 7).bind fun u11 =>
      (f_X7_mayWalk h a0 p2 x10).bind fun q12 =>
      if q12 = 0 then
        (x_ob h a0 7).bind fun u13 =>
        (f_X7_refuse h a0 (-5 : Int32)).bind fun q14 =>
        some (q14.1, q14.2)
      else
        (x_gR h a0 7 13).bind fun a15 =>
        (x_gR h a0 7 13).bind fun a16 =>
        (x_ld h a16 p1).bind fun x17 =>
        (x_ob h a0 7).bind fun u18 =>
        (f_X7_beyond h a0 p2 x17).bind fun q19 =>
        (x_st h a15 p1 q19).bind fun h20 =>
        (x_gR h20 a0 7 13).bind fun a21 =>
        (x_ld h20 a21 p1).bind fun x22 =>
        some (x22, h20)
set_option maxRecDepth 100000 in
set_option maxHeartbeats 4000000 in
theorem c_X7_walk {h : xH} {a0 : Nat} {p1 : Int32} {p2 : Int32} {r9 : Int32} {hz : xH} (hE : f_X7_walk h a0 p1 p2 = some (r9, hz)) : Ctr M_X7_walk [.ref a0, .int p1, .int p2] h (some (.int r9)) hz 0 0 := by
  refine ctr_of (by decide) (fun _ _ => Nat.le_of_ble_eq_true rfl) (fun S => ?_)
  show Y S M_X7_walk h (some (.int r9)) hz 0 0 0 [(0, .ref a0), (1, .int p1), (2, .int p2)] [] h 0 0
  unfold f_X7_walk at hE
  refine y_aload_n dX7_walk_0 0 rfl ?_
  refine y_iload_n dX7_walk_1 1 rfl ?_
  obtain ⟨u1, eu1, hE⟩ := Option.bind_eq_some_iff.mp hE
  obtain ⟨q2, eq2, hE⟩ := Option.bind_eq_some_iff.mp hE
  refine y_cVi0 (st := []) (as := [.int p1]) (c_X7_isOne eq2) lk_X7_120 in_X7_isOne se_X7_isOne rfl eu1 ⟨Nat.le_of_ble_eq_true rfl, Nat.le_of_ble_eq_true rfl⟩ (Nat.le_of_ble_eq_true rfl) dX7_walk_2 ⟨Nat.le_refl _, Nat.le_refl _⟩ rfl ?_
  refine y_if_eq (tgt := 16) dX7_walk_5 (by decide) (fun hc25 => ?_) (fun hc25 => ?_)
  · rw [if_pos hc25] at hE
    refine y_aload_n dX7_walk_16 0 rfl ?_
    refine y_bipush (v := (-2 : Int32)) dX7_walk_17 (by decide) ?_
    obtain ⟨u3, eu3, hE⟩ := Option.bind_eq_some_iff.mp hE
    obtain ⟨q4, eq4, hE⟩ := Option.bind_eq_some_iff.mp hE
    refine y_cVi0 (st := []) (as := [.int (-2 : Int32)]) (c_X7_refuse eq4) lk_X7_77 in_X7_refuse se_X7_refuse rfl eu3 ⟨Nat.le_of_ble_eq_true rfl, Nat.le_of_ble_eq_true rfl⟩ (Nat.le_of_ble_eq_true rfl) dX7_walk_19 ⟨Nat.le_refl _, Nat.le_refl _⟩ rfl ?_
    obtain ⟨rfl, rfl⟩ := x_inj2 hE
    exact y_ret dX7_walk_22 (Nat.le_refl _) (Nat.le_refl _) ⟨_, rfl, rfl⟩
  · rw [if_neg hc25] at hE
    refine y_aload_n dX7_walk_8 0 rfl ?_
    refine y_iload_n dX7_walk_9 2 rfl ?_
    obtain ⟨u5, eu5, hE⟩ := Option.bind_eq_some_iff.mp hE
    obtain ⟨q6, eq6, hE⟩ := Option.bind_eq_some_iff.mp hE
    refine y_cVi0 (st := []) (as := [.int p2]) (c_X7_isDoor eq6) lk_X7_88 in_X7_isDoor se_X7_isDoor rfl eu5 ⟨Nat.le_of_ble_eq_true rfl, Nat.le_of_ble_eq_true rfl⟩ (Nat.le_of_ble_eq_true rfl) dX7_walk_10 ⟨Nat.le_refl _, Nat.le_refl _⟩ rfl ?_
    refine y_if_ne (tgt := 23) dX7_walk_13 (by decide) (fun hc24 => ?_) (fun hc24 => ?_)
    · rw [if_pos hc24] at hE
      refine y_aload_n dX7_walk_16 0 rfl ?_
      refine y_bipush (v := (-2 : Int32)) dX7_walk_17 (by decide) ?_
      obtain ⟨u7, eu7, hE⟩ := Option.bind_eq_some_iff.mp hE
      obtain ⟨q8, eq8, hE⟩ := Option.bind_eq_some_iff.mp hE
      refine y_cVi0 (st := []) (as := [.int (-2 : Int32)]) (c_X7_refuse eq8) lk_X7_77 in_X7_refuse se_X7_refuse rfl eu7 ⟨Nat.le_of_ble_eq_true rfl, Nat.le_of_ble_eq_true rfl⟩ (Nat.le_of_ble_eq_true rfl) dX7_walk_19 ⟨Nat.le_refl _, Nat.le_refl _⟩ rfl ?_
      obtain ⟨rfl, rfl⟩ := x_inj2 hE
      exact y_ret dX7_walk_22 (Nat.le_refl _) (Nat.le_refl _) ⟨_, rfl, rfl⟩
    · rw [if_neg hc24] at hE
      refine y_aload_n dX7_walk_23 0 rfl ?_
      refine y_iload_n dX7_walk_24 2 rfl ?_
      refine y_aload_n dX7_walk_25 0 rfl ?_
      obtain ⟨a9, ea9, hE⟩ := Option.bind_eq_some_iff.mp hE
      refine y_getR fl_X7_42 ea9 dX7_walk_26 ?_
      refine y_iload_n dX7_walk_29 1 rfl ?_
      obtain ⟨x10, ex10, hE⟩ := Option.bind_eq_some_iff.mp hE
      refine y_iald ex10 dX7_walk_30 ?_
      obtain ⟨u11, eu11, hE⟩ := Option.bind_eq_some_iff.mp hE
      obtain ⟨q12, eq12, hE⟩ := Option.bind_eq_some_iff.mp hE
      refine y_cVi0 (st := []) (as := [.int p2, .int x10]) (c_X7_mayWalk eq12) lk_X7_230 in_X7_mayWalk se_X7_mayWalk rfl eu11 ⟨Nat.le_of_ble_eq_true rfl, Nat.le_of_ble_eq_true rfl⟩ (Nat.le_of_ble_eq_true rfl) dX7_walk_31 ⟨Nat.le_refl _, Nat.le_refl _⟩ rfl ?_
      refine y_if_ne (tgt := 44) dX7_walk_34 (by decide) (fun hc23 => ?_) (fun hc23 => ?_)
      · rw [if_pos hc23] at hE
        refine y_aload_n dX7_walk_37 0 rfl ?_
        refine y_bipush (v := (-5 : Int32)) dX7_walk_38 (by decide) ?_
        obtain ⟨u13, eu13, hE⟩ := Option.bind_eq_some_iff.mp hE
        obtain ⟨q14, eq14, hE⟩ := Option.bind_eq_some_iff.mp hE
        refine y_cVi0 (st := []) (as := [.int (-5 : Int32)]) (c_X7_refuse eq14) lk_X7_77 in_X7_refuse se_X7_refuse rfl eu13 ⟨Nat.le_of_ble_eq_true rfl, Nat.le_of_ble_eq_true rfl⟩ (Nat.le_of_ble_eq_true rfl) dX7_walk_40 ⟨Nat.le_refl _, Nat.le_refl _⟩ rfl ?_
        obtain ⟨rfl, rfl⟩ := x_inj2 hE
        exact y_ret dX7_walk_43 (Nat.le_refl _) (Nat.le_refl _) ⟨_, rfl, rfl⟩
      · rw [if_neg hc23] at hE
        refine y_aload_n dX7_walk_44 0 rfl ?_
        obtain ⟨a15, ea15, hE⟩ := Option.bind_eq_some_iff.mp hE
        refine y_getR fl_X7_42 ea15 dX7_walk_45 ?_
        refine y_iload_n dX7_walk_48 1 rfl ?_
        refine y_aload_n dX7_walk_49 0 rfl ?_
        refine y_iload_n dX7_walk_50 2 rfl ?_
        refine y_aload_n dX7_walk_51 0 rfl ?_
        obtain ⟨a16, ea16, hE⟩ := Option.bind_eq_some_iff.mp hE
        refine y_getR fl_X7_42 ea16 dX7_walk_52 ?_
        refine y_iload_n dX7_walk_55 1 rfl ?_
        obtain ⟨x17, ex17, hE⟩ := Option.bind_eq_some_iff.mp hE
        refine y_iald ex17 dX7_walk_56 ?_
        obtain ⟨u18, eu18, hE⟩ := Option.bind_eq_some_iff.mp hE
        obtain ⟨q19, eq19, hE⟩ := Option.bind_eq_some_iff.mp hE
        refine y_cVi0 (st := [.int p1, .ref a15]) (as := [.int p2, .int x17]) (c_X7_beyond eq19) lk_X7_239 in_X7_beyond se_X7_beyond rfl eu18 ⟨Nat.le_of_ble_eq_true rfl, Nat.le_of_ble_eq_true rfl⟩ (Nat.le_of_ble_eq_true rfl) dX7_walk_57 ⟨Nat.le_refl _, Nat.le_refl _⟩ rfl ?_
        obtain ⟨h20, eh20, hE⟩ := Option.bind_eq_some_iff.mp hE
        refine y_iast eh20 dX7_walk_60 ?_
        refine y_aload_n dX7_walk_61 0 rfl ?_
        obtain ⟨a21, ea21, hE⟩ := Option.bind_eq_some_iff.mp hE
        refine y_getR fl_X7_42 ea21 dX7_walk_62 ?_
        refine y_iload_n dX7_walk_65 1 rfl ?_
        obtain ⟨x22, ex22, hE⟩ := Option.bind_eq_some_iff.mp hE
        refine y_iald ex22 dX7_walk_66 ?_
        obtain ⟨rfl, rfl⟩ := x_inj2 hE
        exact y_ret dX7_walk_67 (Nat.le_refl _) (Nat.le_refl _) ⟨_, rfl, rfl⟩
def f_X7_stockNow_L4 (h : xH) (v0 : Nat) : Nat → Int32 → Int32 → Option (Int32)
  | 0, _, _ => none
  | k + 1, v1, v2 =>
    (x_gI h v0 7 9).bind fun x1 =>
    if x1 ≤ v2 then
      some v1
    else
      (x_gI h v0 7 11).bind fun x2 =>
      (f_X7_has h x2 v2).bind fun q3 =>
      if q3 = 0 then
        (some (v1 + (0 : Int32))).bind fun x4 =>
        (some (v2 + (1 : Int32))).bind fun x5 =>
        f_X7_stockNow_L4 h v0 k x4 x5
      else
        (x_gR h v0 7 10).bind fun a6 =>
        (x_ldQ h a6 v2).bind fun a7 =>
        (x_ld h a7 (0 : Int32)).bind fun x8 =>
        if x8 = (5 : Int32) then
          (some (v1 + (0 : Int32))).bind fun x9 =>
          (some (v2 + (1 : Int32))).bind fun x10 =>
          f_X7_stockNow_L4 h v0 k x9 x10
        else
          (x_ob h v0 7).bind fun u11 =>
          (f_X7_weightOf h v0 v2).bind fun q12 =>
          (some (v1 + q12)).bind fun x13 =>
          (some (v2 + (1 : Int32))).bind fun x14 =>
          f_X7_stockNow_L4 h v0 k x13 x14
set_option maxRecDepth 100000 in
set_option maxHeartbeats 4000000 in
theorem l_X7_stockNow_4 {S : Nat × (Nat → Int32)} {rv : Option Value} {h0 h1 : xH} {mc ms : Nat} {cells slots : Nat} (hm : cells ≤ mc ∧ slots ≤ ms) (h : xH) (v0 : Nat) : ∀ (k : Nat) (v1 : Int32) (v2 : Int32) (res : Int32), f_X7_stockNow_L4 h v0 k v1 v2 = some res → (∀ r9, res = r9 → Y S M_X7_stockNow h0 rv h1 mc ms 53 [(1, .int r9)] [] h cells slots) → Y S M_X7_stockNow h0 rv h1 mc ms 4 [(0, .ref v0), (1, .int v1), (2, .int v2)] [] h cells slots := by
  intro k
  induction k with
  | zero =>
    intro _ _ _ hE
    cases hE
  | succ k ih =>
    intro v1 v2 res hE K
    unfold f_X7_stockNow_L4 at hE
    refine y_iload_n dX7_stockNow_4 2 rfl ?_
    refine y_aload_n dX7_stockNow_5 0 rfl ?_
    obtain ⟨x1, ex1, hE⟩ := Option.bind_eq_some_iff.mp hE
    refine y_getI fl_X7_61 ex1 dX7_stockNow_6 ?_
    refine y_icmp_ge (tgt := 53) dX7_stockNow_9 (by decide) (fun hc17 => ?_) (fun hc17 => ?_)
    · rw [if_pos hc17] at hE
      obtain rfl := Option.some.inj hE
      exact y_pick [1] rfl (K _ rfl)
    · rw [if_neg hc17] at hE
      refine y_iload_n dX7_stockNow_12 1 rfl ?_
      refine y_aload_n dX7_stockNow_13 0 rfl ?_
      obtain ⟨x2, ex2, hE⟩ := Option.bind_eq_some_iff.mp hE
      refine y_getI fl_X7_108 ex2 dX7_stockNow_14 ?_
      refine y_iload_n dX7_stockNow_17 2 rfl ?_
      obtain ⟨q3, eq3, hE⟩ := Option.bind_eq_some_iff.mp hE
      refine y_cSi0 (st := [.int v1]) (as := [.int x2, .int v2]) (c_X7_has eq3) lk_X7_116 st_X7_has ⟨Nat.le_of_ble_eq_true rfl, Nat.le_of_ble_eq_true rfl⟩ (Nat.le_of_ble_eq_true rfl) dX7_stockNow_18 hm rfl ?_
      refine y_if_eq (tgt := 44) dX7_stockNow_21 (by decide) (fun hc16 => ?_) (fun hc16 => ?_)
      · rw [if_pos hc16] at hE
        refine y_iconst (v := (0 : Int32)) dX7_stockNow_44 (by decide) ?_
        refine y_iadd dX7_stockNow_45 ?_
        obtain ⟨x4, ex4, hE⟩ := Option.bind_eq_some_iff.mp hE
        refine y_istore_n (ls' := [(1, .int x4), (0, .ref v0), (2, .int v2)]) dX7_stockNow_46 (by decide) (Option.some.inj ex4) rfl ?_
        obtain ⟨x5, ex5, hE⟩ := Option.bind_eq_some_iff.mp hE
        refine y_iinc (ls' := [(2, .int x5), (1, .int x4), (0, .ref v0)]) dX7_stockNow_47 2 rfl (Option.some.inj ex5) (by decide) rfl ?_
        refine y_goto (tgt := 4) dX7_stockNow_50 (by decide) ?_
        refine y_pick [2, 1, 0] rfl ?_
        exact ih _ _ _ hE K
      · rw [if_neg hc16] at hE
        refine y_aload_n dX7_stockNow_24 0 rfl ?_
        obtain ⟨a6, ea6, hE⟩ := Option.bind_eq_some_iff.mp hE
        refine y_getR fl_X7_39 ea6 dX7_stockNow_25 ?_
        refine y_iload_n dX7_stockNow_28 2 rfl ?_
        obtain ⟨a7, ea7, hE⟩ := Option.bind_eq_some_iff.mp hE
        refine y_aald ea7 dX7_stockNow_29 ?_
        refine y_iconst (v := (0 : Int32)) dX7_stockNow_30 (by decide) ?_
        obtain ⟨x8, ex8, hE⟩ := Option.bind_eq_some_iff.mp hE
        refine y_iald ex8 dX7_stockNow_31 ?_
        refine y_iconst (v := (5 : Int32)) dX7_stockNow_32 (by decide) ?_
        refine y_icmp_eq (tgt := 44) dX7_stockNow_33 (by decide) (fun hc15 => ?_) (fun hc15 => ?_)
        · rw [if_pos hc15] at hE
          refine y_iconst (v := (0 : Int32)) dX7_stockNow_44 (by decide) ?_
          refine y_iadd dX7_stockNow_45 ?_
          obtain ⟨x9, ex9, hE⟩ := Option.bind_eq_some_iff.mp hE
          refine y_istore_n (ls' := [(1, .int x9), (0, .ref v0), (2, .int v2)]) dX7_stockNow_46 (by decide) (Option.some.inj ex9) rfl ?_
          obtain ⟨x10, ex10, hE⟩ := Option.bind_eq_some_iff.mp hE
          refine y_iinc (ls' := [(2, .int x10), (1, .int x9), (0, .ref v0)]) dX7_stockNow_47 2 rfl (Option.some.inj ex10) (by decide) rfl ?_
          refine y_goto (tgt := 4) dX7_stockNow_50 (by decide) ?_
          refine y_pick [2, 1, 0] rfl ?_
          exact ih _ _ _ hE K
        · rw [if_neg hc15] at hE
          refine y_aload_n dX7_stockNow_36 0 rfl ?_
          refine y_iload_n dX7_stockNow_37 2 rfl ?_
          obtain ⟨u11, eu11, hE⟩ := Option.bind_eq_some_iff.mp hE
          obtain ⟨q12, eq12, hE⟩ := Option.bind_eq_some_iff.mp hE
          refine y_cVi0 (st := [.int v1]) (as := [.int v2]) (c_X7_weightOf eq12) lk_X7_94 in_X7_weightOf se_X7_weightOf rfl eu11 ⟨Nat.le_of_ble_eq_true rfl, Nat.le_of_ble_eq_true rfl⟩ (Nat.le_of_ble_eq_true rfl) dX7_stockNow_38 hm rfl ?_
          refine y_goto (tgt := 45) dX7_stockNow_41 (by decide) ?_
          refine y_iadd dX7_stockNow_45 ?_
          obtain ⟨x13, ex13, hE⟩ := Option.bind_eq_some_iff.mp hE
          refine y_istore_n (ls' := [(1, .int x13), (0, .ref v0), (2, .int v2)]) dX7_stockNow_46 (by decide) (Option.some.inj ex13) rfl ?_
          obtain ⟨x14, ex14, hE⟩ := Option.bind_eq_some_iff.mp hE
          refine y_iinc (ls' := [(2, .int x14), (1, .int x13), (0, .ref v0)]) dX7_stockNow_47 2 rfl (Option.some.inj ex14) (by decide) rfl ?_
          refine y_goto (tgt := 4) dX7_stockNow_50 (by decide) ?_
          refine y_pick [2, 1, 0] rfl ?_
          exact ih _ _ _ hE K
def f_X7_stockNow (n : Nat) (h : xH) (a0 : Nat) : Option (Int32) :=
  (f_X7_stockNow_L4 h a0 n (0 : Int32) (0 : Int32)).bind fun q18 =>
  some q18
set_option maxRecDepth 100000 in
set_option maxHeartbeats 4000000 in
theorem c_X7_stockNow {n : Nat} {h : xH} {a0 : Nat} {r9 : Int32} (hE : f_X7_stockNow n h a0 = some r9) : Ctr M_X7_stockNow [.ref a0] h (some (.int r9)) h 0 0 := by
  refine ctr_of (by decide) (fun _ _ => Nat.le_of_ble_eq_true rfl) (fun S => ?_)
  show Y S M_X7_stockNow h (some (.int r9)) h 0 0 0 [(0, .ref a0)] [] h 0 0
  unfold f_X7_stockNow at hE
  refine y_iconst (v := (0 : Int32)) dX7_stockNow_0 (by decide) ?_
  refine y_istore_n (ls' := [(1, .int (0 : Int32)), (0, .ref a0)]) dX7_stockNow_1 (by decide) rfl rfl ?_
  refine y_iconst (v := (0 : Int32)) dX7_stockNow_2 (by decide) ?_
  refine y_istore_n (ls' := [(2, .int (0 : Int32)), (1, .int (0 : Int32)), (0, .ref a0)]) dX7_stockNow_3 (by decide) rfl rfl ?_
  obtain ⟨q18, eq18, hE⟩ := Option.bind_eq_some_iff.mp hE
  refine y_pick [2, 1, 0] rfl ?_
  refine l_X7_stockNow_4 (S := S) ⟨Nat.le_refl _, Nat.le_refl _⟩ h a0 n (0 : Int32) (0 : Int32) _ eq18 (fun r8 hr8 => ?_)
  subst hr8
  refine y_iload_n dX7_stockNow_53 0 rfl ?_
  obtain rfl := Option.some.inj hE
  exact y_ret dX7_stockNow_54 (Nat.le_refl _) (Nat.le_refl _) ⟨_, rfl, rfl⟩
def f_X7_shut (n : Nat) (h : xH) (a0 : Nat) (p1 : Int32) (p2 : Int32) : Option (Int32 × xH) :=
  (x_ob h a0 7).bind fun u1 =>
  (f_X7_isOne h a0 p1).bind fun q2 =>
  if q2 = 0 then
    (x_ob h a0 7).bind fun u3 =>
    (f_X7_refuse h a0 (-2 : Int32)).bind fun q4 =>
    some (q4.1, q4.2)
  else
    (x_ob h a0 7).bind fun u5 =>
    (f_X7_isDoor h a0 p2).bind fun q6 =>
    if q6 = 0 then
      (x_ob h a0 7).bind fun u7 =>
      (f_X7_refuse h a0 (-2 : Int32)).bind fun q8 =>
      some (q8.1, q8.2)
    else
      (x_gR h a0 7 13).bind fun a9 =>
      (x_ld h a9 p1).bind fun x10 =>
      (x_ob h a0 7).bind fun u11 =>
      (f_X7_mayShut h a0 p2 x10).bind fun q12 =>
      if q12 = 0 then
        (x_ob h a0 7).bind fun u13 =>
        (f_X7_refuse h a0 (-5 : Int32)).bind fun q14 =>
        some (q14.1, q14.2)
      else
        (x_gI h a0 7 11).bind fun x15 =>
        (x_put h a0 7 11 (.int (x15 &&& ((i_shl (1 : Int32) p2) ^^^ (-1 : Int32))))).bind fun h16 =>
        (x_ob h16 a0 7).bind fun u17 =>
        (f_X7_stockNow n h16 a0).bind fun q18 =>
        some (q18, h16)
set_option maxRecDepth 100000 in
set_option maxHeartbeats 4000000 in
theorem c_X7_shut {n : Nat} {h : xH} {a0 : Nat} {p1 : Int32} {p2 : Int32} {r9 : Int32} {hz : xH} (hE : f_X7_shut n h a0 p1 p2 = some (r9, hz)) : Ctr M_X7_shut [.ref a0, .int p1, .int p2] h (some (.int r9)) hz 0 0 := by
  refine ctr_of (by decide) (fun _ _ => Nat.le_of_ble_eq_true rfl) (fun S => ?_)
  show Y S M_X7_shut h (some (.int r9)) hz 0 0 0 [(0, .ref a0), (1, .int p1), (2, .int p2)] [] h 0 0
  unfold f_X7_shut at hE
  refine y_aload_n dX7_shut_0 0 rfl ?_
  refine y_iload_n dX7_shut_1 1 rfl ?_
  obtain ⟨u1, eu1, hE⟩ := Option.bind_eq_some_iff.mp hE
  obtain ⟨q2, eq2, hE⟩ := Option.bind_eq_some_iff.mp hE
  refine y_cVi0 (st := []) (as := [.int p1]) (c_X7_isOne eq2) lk_X7_120 in_X7_isOne se_X7_isOne rfl eu1 ⟨Nat.le_of_ble_eq_true rfl, Nat.le_of_ble_eq_true rfl⟩ (Nat.le_of_ble_eq_true rfl) dX7_shut_2 ⟨Nat.le_refl _, Nat.le_refl _⟩ rfl ?_
  refine y_if_eq (tgt := 16) dX7_shut_5 (by decide) (fun hc21 => ?_) (fun hc21 => ?_)
  · rw [if_pos hc21] at hE
    refine y_aload_n dX7_shut_16 0 rfl ?_
    refine y_bipush (v := (-2 : Int32)) dX7_shut_17 (by decide) ?_
    obtain ⟨u3, eu3, hE⟩ := Option.bind_eq_some_iff.mp hE
    obtain ⟨q4, eq4, hE⟩ := Option.bind_eq_some_iff.mp hE
    refine y_cVi0 (st := []) (as := [.int (-2 : Int32)]) (c_X7_refuse eq4) lk_X7_77 in_X7_refuse se_X7_refuse rfl eu3 ⟨Nat.le_of_ble_eq_true rfl, Nat.le_of_ble_eq_true rfl⟩ (Nat.le_of_ble_eq_true rfl) dX7_shut_19 ⟨Nat.le_refl _, Nat.le_refl _⟩ rfl ?_
    obtain ⟨rfl, rfl⟩ := x_inj2 hE
    exact y_ret dX7_shut_22 (Nat.le_refl _) (Nat.le_refl _) ⟨_, rfl, rfl⟩
  · rw [if_neg hc21] at hE
    refine y_aload_n dX7_shut_8 0 rfl ?_
    refine y_iload_n dX7_shut_9 2 rfl ?_
    obtain ⟨u5, eu5, hE⟩ := Option.bind_eq_some_iff.mp hE
    obtain ⟨q6, eq6, hE⟩ := Option.bind_eq_some_iff.mp hE
    refine y_cVi0 (st := []) (as := [.int p2]) (c_X7_isDoor eq6) lk_X7_88 in_X7_isDoor se_X7_isDoor rfl eu5 ⟨Nat.le_of_ble_eq_true rfl, Nat.le_of_ble_eq_true rfl⟩ (Nat.le_of_ble_eq_true rfl) dX7_shut_10 ⟨Nat.le_refl _, Nat.le_refl _⟩ rfl ?_
    refine y_if_ne (tgt := 23) dX7_shut_13 (by decide) (fun hc20 => ?_) (fun hc20 => ?_)
    · rw [if_pos hc20] at hE
      refine y_aload_n dX7_shut_16 0 rfl ?_
      refine y_bipush (v := (-2 : Int32)) dX7_shut_17 (by decide) ?_
      obtain ⟨u7, eu7, hE⟩ := Option.bind_eq_some_iff.mp hE
      obtain ⟨q8, eq8, hE⟩ := Option.bind_eq_some_iff.mp hE
      refine y_cVi0 (st := []) (as := [.int (-2 : Int32)]) (c_X7_refuse eq8) lk_X7_77 in_X7_refuse se_X7_refuse rfl eu7 ⟨Nat.le_of_ble_eq_true rfl, Nat.le_of_ble_eq_true rfl⟩ (Nat.le_of_ble_eq_true rfl) dX7_shut_19 ⟨Nat.le_refl _, Nat.le_refl _⟩ rfl ?_
      obtain ⟨rfl, rfl⟩ := x_inj2 hE
      exact y_ret dX7_shut_22 (Nat.le_refl _) (Nat.le_refl _) ⟨_, rfl, rfl⟩
    · rw [if_neg hc20] at hE
      refine y_aload_n dX7_shut_23 0 rfl ?_
      refine y_iload_n dX7_shut_24 2 rfl ?_
      refine y_aload_n dX7_shut_25 0 rfl ?_
      obtain ⟨a9, ea9, hE⟩ := Option.bind_eq_some_iff.mp hE
      refine y_getR fl_X7_42 ea9 dX7_shut_26 ?_
      refine y_iload_n dX7_shut_29 1 rfl ?_
      obtain ⟨x10, ex10, hE⟩ := Option.bind_eq_some_iff.mp hE
      refine y_iald ex10 dX7_shut_30 ?_
      obtain ⟨u11, eu11, hE⟩ := Option.bind_eq_some_iff.mp hE
      obtain ⟨q12, eq12, hE⟩ := Option.bind_eq_some_iff.mp hE
      refine y_cVi0 (st := []) (as := [.int p2, .int x10]) (c_X7_mayShut eq12) lk_X7_213 in_X7_mayShut se_X7_mayShut rfl eu11 ⟨Nat.le_of_ble_eq_true rfl, Nat.le_of_ble_eq_true rfl⟩ (Nat.le_of_ble_eq_true rfl) dX7_shut_31 ⟨Nat.le_refl _, Nat.le_refl _⟩ rfl ?_
      refine y_if_ne (tgt := 44) dX7_shut_34 (by decide) (fun hc19 => ?_) (fun hc19 => ?_)
      · rw [if_pos hc19] at hE
        refine y_aload_n dX7_shut_37 0 rfl ?_
        refine y_bipush (v := (-5 : Int32)) dX7_shut_38 (by decide) ?_
        obtain ⟨u13, eu13, hE⟩ := Option.bind_eq_some_iff.mp hE
        obtain ⟨q14, eq14, hE⟩ := Option.bind_eq_some_iff.mp hE
        refine y_cVi0 (st := []) (as := [.int (-5 : Int32)]) (c_X7_refuse eq14) lk_X7_77 in_X7_refuse se_X7_refuse rfl eu13 ⟨Nat.le_of_ble_eq_true rfl, Nat.le_of_ble_eq_true rfl⟩ (Nat.le_of_ble_eq_true rfl) dX7_shut_40 ⟨Nat.le_refl _, Nat.le_refl _⟩ rfl ?_
        obtain ⟨rfl, rfl⟩ := x_inj2 hE
        exact y_ret dX7_shut_43 (Nat.le_refl _) (Nat.le_refl _) ⟨_, rfl, rfl⟩
      · rw [if_neg hc19] at hE
        refine y_aload_n dX7_shut_44 0 rfl ?_
        refine y_dup dX7_shut_45 rfl ?_
        obtain ⟨x15, ex15, hE⟩ := Option.bind_eq_some_iff.mp hE
        refine y_getI fl_X7_108 ex15 dX7_shut_46 ?_
        refine y_iconst (v := (1 : Int32)) dX7_shut_49 (by decide) ?_
        refine y_iload_n dX7_shut_50 2 rfl ?_
        refine y_ishl dX7_shut_51 ?_
        refine y_iconst (v := (-1 : Int32)) dX7_shut_52 (by decide) ?_
        refine y_ixor dX7_shut_53 ?_
        refine y_iand dX7_shut_54 ?_
        obtain ⟨h16, eh16, hE⟩ := Option.bind_eq_some_iff.mp hE
        refine y_putI fp_X7_108 eh16 dX7_shut_55 ?_
        refine y_aload_n dX7_shut_58 0 rfl ?_
        obtain ⟨u17, eu17, hE⟩ := Option.bind_eq_some_iff.mp hE
        obtain ⟨q18, eq18, hE⟩ := Option.bind_eq_some_iff.mp hE
        refine y_cVi0 (st := []) (as := []) (c_X7_stockNow eq18) lk_X7_243 in_X7_stockNow se_X7_stockNow rfl eu17 ⟨Nat.le_of_ble_eq_true rfl, Nat.le_of_ble_eq_true rfl⟩ (Nat.le_of_ble_eq_true rfl) dX7_shut_59 ⟨Nat.le_refl _, Nat.le_refl _⟩ rfl ?_
        obtain ⟨rfl, rfl⟩ := x_inj2 hE
        exact y_ret dX7_shut_62 (Nat.le_refl _) (Nat.le_refl _) ⟨_, rfl, rfl⟩
def f_X7_opens (h : xH) (a0 : Nat) (p1 : Int32) (p2 : Int32) : Option (xH) :=
  (x_gI h a0 7 11).bind fun x1 =>
  (x_put h a0 7 11 (.int ((x1 &&& (p2 ^^^ (-1 : Int32))) ||| (i_shl (1 : Int32) p1)))).bind fun h2 =>
  (x_gI h2 a0 7 16).bind fun x3 =>
  (x_put h2 a0 7 16 (.int (x3 + (1 : Int32)))).bind fun h4 =>
  some h4
set_option maxRecDepth 100000 in
set_option maxHeartbeats 4000000 in
theorem c_X7_opens {h : xH} {a0 : Nat} {p1 : Int32} {p2 : Int32} {hz : xH} (hE : f_X7_opens h a0 p1 p2 = some hz) : Ctr M_X7_opens [.ref a0, .int p1, .int p2] h none hz 0 0 := by
  refine ctr_of (by decide) (fun _ _ => Nat.le_of_ble_eq_true rfl) (fun S => ?_)
  show Y S M_X7_opens h none hz 0 0 0 [(0, .ref a0), (1, .int p1), (2, .int p2)] [] h 0 0
  unfold f_X7_opens at hE
  refine y_aload_n dX7_opens_0 0 rfl ?_
  refine y_aload_n dX7_opens_1 0 rfl ?_
  obtain ⟨x1, ex1, hE⟩ := Option.bind_eq_some_iff.mp hE
  refine y_getI fl_X7_108 ex1 dX7_opens_2 ?_
  refine y_iload_n dX7_opens_5 2 rfl ?_
  refine y_iconst (v := (-1 : Int32)) dX7_opens_6 (by decide) ?_
  refine y_ixor dX7_opens_7 ?_
  refine y_iand dX7_opens_8 ?_
  refine y_iconst (v := (1 : Int32)) dX7_opens_9 (by decide) ?_
  refine y_iload_n dX7_opens_10 1 rfl ?_
  refine y_ishl dX7_opens_11 ?_
  refine y_ior dX7_opens_12 ?_
  obtain ⟨h2, eh2, hE⟩ := Option.bind_eq_some_iff.mp hE
  refine y_putI fp_X7_108 eh2 dX7_opens_13 ?_
  refine y_aload_n dX7_opens_16 0 rfl ?_
  refine y_dup dX7_opens_17 rfl ?_
  obtain ⟨x3, ex3, hE⟩ := Option.bind_eq_some_iff.mp hE
  refine y_getI fl_X7_246 ex3 dX7_opens_18 ?_
  refine y_iconst (v := (1 : Int32)) dX7_opens_21 (by decide) ?_
  refine y_iadd dX7_opens_22 ?_
  obtain ⟨h4, eh4, hE⟩ := Option.bind_eq_some_iff.mp hE
  refine y_putI fp_X7_246 eh4 dX7_opens_23 ?_
  obtain rfl := Option.some.inj hE
  exact y_ret dX7_opens_26 (Nat.le_refl _) (Nat.le_refl _) rfl
def f_X7_open (n : Nat) (h : xH) (a0 : Nat) (p1 : Int32) (p2 : Int32) (p3 : Int32) : Option (Int32 × xH) :=
  (x_ob h a0 7).bind fun u1 =>
  (f_X7_isOne h a0 p1).bind fun q2 =>
  if q2 = 0 then
    (x_ob h a0 7).bind fun u3 =>
    (f_X7_refuse h a0 (-2 : Int32)).bind fun q4 =>
    some (q4.1, q4.2)
  else
    (x_ob h a0 7).bind fun u5 =>
    (f_X7_isDoor h a0 p2).bind fun q6 =>
    if q6 = 0 then
      (x_ob h a0 7).bind fun u7 =>
      (f_X7_refuse h a0 (-2 : Int32)).bind fun q8 =>
      some (q8.1, q8.2)
    else
      (x_ob h a0 7).bind fun u9 =>
      (f_X7_isSet h a0 p3).bind fun q10 =>
      if q10 = 0 then
        (x_ob h a0 7).bind fun u11 =>
        (f_X7_refuse h a0 (-2 : Int32)).bind fun q12 =>
        some (q12.1, q12.2)
      else
        (x_ob h a0 7).bind fun u13 =>
        (f_X7_mayOpenBy n h a0 p1 p2 p3).bind fun q14 =>
        if q14 = 0 then
          (x_ob h a0 7).bind fun u15 =>
          (f_X7_refuse h a0 (-5 : Int32)).bind fun q16 =>
          some (q16.1, q16.2)
        else
          (x_ob h a0 7).bind fun u17 =>
          (f_X7_opens h a0 p2 p3).bind fun q18 =>
          (x_ob q18 a0 7).bind fun u19 =>
          (f_X7_stockNow n q18 a0).bind fun q20 =>
          some (q20, q18)
set_option maxRecDepth 100000 in
set_option maxHeartbeats 4000000 in
theorem c_X7_open {n : Nat} {h : xH} {a0 : Nat} {p1 : Int32} {p2 : Int32} {p3 : Int32} {r9 : Int32} {hz : xH} (hE : f_X7_open n h a0 p1 p2 p3 = some (r9, hz)) : Ctr M_X7_open [.ref a0, .int p1, .int p2, .int p3] h (some (.int r9)) hz 0 0 := by
  refine ctr_of (by decide) (fun _ _ => Nat.le_of_ble_eq_true rfl) (fun S => ?_)
  show Y S M_X7_open h (some (.int r9)) hz 0 0 0 [(0, .ref a0), (1, .int p1), (2, .int p2), (3, .int p3)] [] h 0 0
  unfold f_X7_open at hE
  refine y_aload_n dX7_open_0 0 rfl ?_
  refine y_iload_n dX7_open_1 1 rfl ?_
  obtain ⟨u1, eu1, hE⟩ := Option.bind_eq_some_iff.mp hE
  obtain ⟨q2, eq2, hE⟩ := Option.bind_eq_some_iff.mp hE
  refine y_cVi0 (st := []) (as := [.int p1]) (c_X7_isOne eq2) lk_X7_120 in_X7_isOne se_X7_isOne rfl eu1 ⟨Nat.le_of_ble_eq_true rfl, Nat.le_of_ble_eq_true rfl⟩ (Nat.le_of_ble_eq_true rfl) dX7_open_2 ⟨Nat.le_refl _, Nat.le_refl _⟩ rfl ?_
  refine y_if_eq (tgt := 24) dX7_open_5 (by decide) (fun hc24 => ?_) (fun hc24 => ?_)
  · rw [if_pos hc24] at hE
    refine y_aload_n dX7_open_24 0 rfl ?_
    refine y_bipush (v := (-2 : Int32)) dX7_open_25 (by decide) ?_
    obtain ⟨u3, eu3, hE⟩ := Option.bind_eq_some_iff.mp hE
    obtain ⟨q4, eq4, hE⟩ := Option.bind_eq_some_iff.mp hE
    refine y_cVi0 (st := []) (as := [.int (-2 : Int32)]) (c_X7_refuse eq4) lk_X7_77 in_X7_refuse se_X7_refuse rfl eu3 ⟨Nat.le_of_ble_eq_true rfl, Nat.le_of_ble_eq_true rfl⟩ (Nat.le_of_ble_eq_true rfl) dX7_open_27 ⟨Nat.le_refl _, Nat.le_refl _⟩ rfl ?_
    obtain ⟨rfl, rfl⟩ := x_inj2 hE
    exact y_ret dX7_open_30 (Nat.le_refl _) (Nat.le_refl _) ⟨_, rfl, rfl⟩
  · rw [if_neg hc24] at hE
    refine y_aload_n dX7_open_8 0 rfl ?_
    refine y_iload_n dX7_open_9 2 rfl ?_
    obtain ⟨u5, eu5, hE⟩ := Option.bind_eq_some_iff.mp hE
    obtain ⟨q6, eq6, hE⟩ := Option.bind_eq_some_iff.mp hE
    refine y_cVi0 (st := []) (as := [.int p2]) (c_X7_isDoor eq6) lk_X7_88 in_X7_isDoor se_X7_isDoor rfl eu5 ⟨Nat.le_of_ble_eq_true rfl, Nat.le_of_ble_eq_true rfl⟩ (Nat.le_of_ble_eq_true rfl) dX7_open_10 ⟨Nat.le_refl _, Nat.le_refl _⟩ rfl ?_
    refine y_if_eq (tgt := 24) dX7_open_13 (by decide) (fun hc23 => ?_) (fun hc23 => ?_)
    · rw [if_pos hc23] at hE
      refine y_aload_n dX7_open_24 0 rfl ?_
      refine y_bipush (v := (-2 : Int32)) dX7_open_25 (by decide) ?_
      obtain ⟨u7, eu7, hE⟩ := Option.bind_eq_some_iff.mp hE
      obtain ⟨q8, eq8, hE⟩ := Option.bind_eq_some_iff.mp hE
      refine y_cVi0 (st := []) (as := [.int (-2 : Int32)]) (c_X7_refuse eq8) lk_X7_77 in_X7_refuse se_X7_refuse rfl eu7 ⟨Nat.le_of_ble_eq_true rfl, Nat.le_of_ble_eq_true rfl⟩ (Nat.le_of_ble_eq_true rfl) dX7_open_27 ⟨Nat.le_refl _, Nat.le_refl _⟩ rfl ?_
      obtain ⟨rfl, rfl⟩ := x_inj2 hE
      exact y_ret dX7_open_30 (Nat.le_refl _) (Nat.le_refl _) ⟨_, rfl, rfl⟩
    · rw [if_neg hc23] at hE
      refine y_aload_n dX7_open_16 0 rfl ?_
      refine y_iload_n dX7_open_17 3 rfl ?_
      obtain ⟨u9, eu9, hE⟩ := Option.bind_eq_some_iff.mp hE
      obtain ⟨q10, eq10, hE⟩ := Option.bind_eq_some_iff.mp hE
      refine y_cVi0 (st := []) (as := [.int p3]) (c_X7_isSet eq10) lk_X7_233 in_X7_isSet se_X7_isSet rfl eu9 ⟨Nat.le_of_ble_eq_true rfl, Nat.le_of_ble_eq_true rfl⟩ (Nat.le_of_ble_eq_true rfl) dX7_open_18 ⟨Nat.le_refl _, Nat.le_refl _⟩ rfl ?_
      refine y_if_ne (tgt := 31) dX7_open_21 (by decide) (fun hc22 => ?_) (fun hc22 => ?_)
      · rw [if_pos hc22] at hE
        refine y_aload_n dX7_open_24 0 rfl ?_
        refine y_bipush (v := (-2 : Int32)) dX7_open_25 (by decide) ?_
        obtain ⟨u11, eu11, hE⟩ := Option.bind_eq_some_iff.mp hE
        obtain ⟨q12, eq12, hE⟩ := Option.bind_eq_some_iff.mp hE
        refine y_cVi0 (st := []) (as := [.int (-2 : Int32)]) (c_X7_refuse eq12) lk_X7_77 in_X7_refuse se_X7_refuse rfl eu11 ⟨Nat.le_of_ble_eq_true rfl, Nat.le_of_ble_eq_true rfl⟩ (Nat.le_of_ble_eq_true rfl) dX7_open_27 ⟨Nat.le_refl _, Nat.le_refl _⟩ rfl ?_
        obtain ⟨rfl, rfl⟩ := x_inj2 hE
        exact y_ret dX7_open_30 (Nat.le_refl _) (Nat.le_refl _) ⟨_, rfl, rfl⟩
      · rw [if_neg hc22] at hE
        refine y_aload_n dX7_open_31 0 rfl ?_
        refine y_iload_n dX7_open_32 1 rfl ?_
        refine y_iload_n dX7_open_33 2 rfl ?_
        refine y_iload_n dX7_open_34 3 rfl ?_
        obtain ⟨u13, eu13, hE⟩ := Option.bind_eq_some_iff.mp hE
        obtain ⟨q14, eq14, hE⟩ := Option.bind_eq_some_iff.mp hE
        refine y_cVi0 (st := []) (as := [.int p1, .int p2, .int p3]) (c_X7_mayOpenBy eq14) lk_X7_236 in_X7_mayOpenBy se_X7_mayOpenBy rfl eu13 ⟨Nat.le_of_ble_eq_true rfl, Nat.le_of_ble_eq_true rfl⟩ (Nat.le_of_ble_eq_true rfl) dX7_open_35 ⟨Nat.le_refl _, Nat.le_refl _⟩ rfl ?_
        refine y_if_ne (tgt := 48) dX7_open_38 (by decide) (fun hc21 => ?_) (fun hc21 => ?_)
        · rw [if_pos hc21] at hE
          refine y_aload_n dX7_open_41 0 rfl ?_
          refine y_bipush (v := (-5 : Int32)) dX7_open_42 (by decide) ?_
          obtain ⟨u15, eu15, hE⟩ := Option.bind_eq_some_iff.mp hE
          obtain ⟨q16, eq16, hE⟩ := Option.bind_eq_some_iff.mp hE
          refine y_cVi0 (st := []) (as := [.int (-5 : Int32)]) (c_X7_refuse eq16) lk_X7_77 in_X7_refuse se_X7_refuse rfl eu15 ⟨Nat.le_of_ble_eq_true rfl, Nat.le_of_ble_eq_true rfl⟩ (Nat.le_of_ble_eq_true rfl) dX7_open_44 ⟨Nat.le_refl _, Nat.le_refl _⟩ rfl ?_
          obtain ⟨rfl, rfl⟩ := x_inj2 hE
          exact y_ret dX7_open_47 (Nat.le_refl _) (Nat.le_refl _) ⟨_, rfl, rfl⟩
        · rw [if_neg hc21] at hE
          refine y_aload_n dX7_open_48 0 rfl ?_
          refine y_iload_n dX7_open_49 2 rfl ?_
          refine y_iload_n dX7_open_50 3 rfl ?_
          obtain ⟨u17, eu17, hE⟩ := Option.bind_eq_some_iff.mp hE
          obtain ⟨q18, eq18, hE⟩ := Option.bind_eq_some_iff.mp hE
          refine y_cVv0 (st := []) (as := [.int p2, .int p3]) (c_X7_opens eq18) lk_X7_249 in_X7_opens se_X7_opens rfl eu17 ⟨Nat.le_of_ble_eq_true rfl, Nat.le_of_ble_eq_true rfl⟩ (Nat.le_of_ble_eq_true rfl) dX7_open_51 ⟨Nat.le_refl _, Nat.le_refl _⟩ rfl ?_
          refine y_aload_n dX7_open_54 0 rfl ?_
          obtain ⟨u19, eu19, hE⟩ := Option.bind_eq_some_iff.mp hE
          obtain ⟨q20, eq20, hE⟩ := Option.bind_eq_some_iff.mp hE
          refine y_cVi0 (st := []) (as := []) (c_X7_stockNow eq20) lk_X7_243 in_X7_stockNow se_X7_stockNow rfl eu19 ⟨Nat.le_of_ble_eq_true rfl, Nat.le_of_ble_eq_true rfl⟩ (Nat.le_of_ble_eq_true rfl) dX7_open_55 ⟨Nat.le_refl _, Nat.le_refl _⟩ rfl ?_
          obtain ⟨rfl, rfl⟩ := x_inj2 hE
          exact y_ret dX7_open_58 (Nat.le_refl _) (Nat.le_refl _) ⟨_, rfl, rfl⟩
def f_X7_reachOf_L20 (h : xH) (v0 : Nat) (v3 : Int32) : Nat → Int32 → Int32 → Option (Int32)
  | 0, _, _ => none
  | k + 1, v2, v4 =>
    (x_gI h v0 7 9).bind fun x4 =>
    if x4 ≤ v4 then
      some v2
    else
      (x_gR h v0 7 10).bind fun a5 =>
      (x_ldQ h a5 v4).bind fun a6 =>
      (x_ld h a6 (1 : Int32)).bind fun x7 =>
      (x_gR h v0 7 10).bind fun a8 =>
      (x_ldQ h a8 v4).bind fun a9 =>
      (x_ld h a9 (2 : Int32)).bind fun x10 =>
      (some ((i_shl (1 : Int32) x7) ||| (i_shl (1 : Int32) x10))).bind fun x11 =>
      (x_gI h v0 7 11).bind fun x12 =>
      (f_X7_has h x12 v4).bind fun q13 =>
      (
        if q13 = 0 then
          some (0 : Int32)
        else
          (x_gR h v0 7 10).bind fun a15 =>
          (x_ldQ h a15 v4).bind fun a16 =>
          (x_ld h a16 (0 : Int32)).bind fun x17 =>
          if x17 = (1 : Int32) then
            some (0 : Int32)
          else
            if (v2 &&& x11) = 0 then
              some (0 : Int32)
            else
              some (1 : Int32)
      ).bind fun q14 =>
      if q14 = 0 then
        (some (v2 ||| (0 : Int32))).bind fun x21 =>
        (some (v4 + (1 : Int32))).bind fun x22 =>
        f_X7_reachOf_L20 h v0 v3 k x21 x22
      else
        (some (v2 ||| x11)).bind fun x23 =>
        (some (v4 + (1 : Int32))).bind fun x24 =>
        f_X7_reachOf_L20 h v0 v3 k x23 x24
set_option maxRecDepth 100000 in
set_option maxHeartbeats 4000000 in
theorem l_X7_reachOf_20 {S : Nat × (Nat → Int32)} {rv : Option Value} {h0 h1 : xH} {mc ms : Nat} {cells slots : Nat} (hm : cells ≤ mc ∧ slots ≤ ms) (h : xH) (v0 : Nat) (v3 : Int32) : ∀ (k : Nat) (v2 : Int32) (v4 : Int32) (res : Int32), f_X7_reachOf_L20 h v0 v3 k v2 v4 = some res → (∀ r9, res = r9 → Y S M_X7_reachOf h0 rv h1 mc ms 113 [(0, .ref v0), (2, .int r9), (3, .int v3)] [] h cells slots) → Y S M_X7_reachOf h0 rv h1 mc ms 20 [(0, .ref v0), (2, .int v2), (3, .int v3), (4, .int v4)] [] h cells slots := by
  intro k
  induction k with
  | zero =>
    intro _ _ _ hE
    cases hE
  | succ k ih =>
    intro v2 v4 res hE K
    unfold f_X7_reachOf_L20 at hE
    refine y_iload dX7_reachOf_20 3 rfl ?_
    refine y_aload_n dX7_reachOf_22 0 rfl ?_
    obtain ⟨x4, ex4, hE⟩ := Option.bind_eq_some_iff.mp hE
    refine y_getI fl_X7_61 ex4 dX7_reachOf_23 ?_
    refine y_icmp_ge (tgt := 113) dX7_reachOf_26 (by decide) (fun hc26 => ?_) (fun hc26 => ?_)
    · rw [if_pos hc26] at hE
      obtain rfl := Option.some.inj hE
      exact y_pick [0, 1, 2] rfl (K _ rfl)
    · rw [if_neg hc26] at hE
      refine y_iconst (v := (1 : Int32)) dX7_reachOf_29 (by decide) ?_
      refine y_aload_n dX7_reachOf_30 0 rfl ?_
      obtain ⟨a5, ea5, hE⟩ := Option.bind_eq_some_iff.mp hE
      refine y_getR fl_X7_39 ea5 dX7_reachOf_31 ?_
      refine y_iload dX7_reachOf_34 3 rfl ?_
      obtain ⟨a6, ea6, hE⟩ := Option.bind_eq_some_iff.mp hE
      refine y_aald ea6 dX7_reachOf_36 ?_
      refine y_iconst (v := (1 : Int32)) dX7_reachOf_37 (by decide) ?_
      obtain ⟨x7, ex7, hE⟩ := Option.bind_eq_some_iff.mp hE
      refine y_iald ex7 dX7_reachOf_38 ?_
      refine y_ishl dX7_reachOf_39 ?_
      refine y_iconst (v := (1 : Int32)) dX7_reachOf_40 (by decide) ?_
      refine y_aload_n dX7_reachOf_41 0 rfl ?_
      obtain ⟨a8, ea8, hE⟩ := Option.bind_eq_some_iff.mp hE
      refine y_getR fl_X7_39 ea8 dX7_reachOf_42 ?_
      refine y_iload dX7_reachOf_45 3 rfl ?_
      obtain ⟨a9, ea9, hE⟩ := Option.bind_eq_some_iff.mp hE
      refine y_aald ea9 dX7_reachOf_47 ?_
      refine y_iconst (v := (2 : Int32)) dX7_reachOf_48 (by decide) ?_
      obtain ⟨x10, ex10, hE⟩ := Option.bind_eq_some_iff.mp hE
      refine y_iald ex10 dX7_reachOf_49 ?_
      refine y_ishl dX7_reachOf_50 ?_
      refine y_ior dX7_reachOf_51 ?_
      obtain ⟨x11, ex11, hE⟩ := Option.bind_eq_some_iff.mp hE
      refine y_istore (ls' := [(5, .int x11), (0, .ref v0), (2, .int v2), (3, .int v3), (4, .int v4)]) dX7_reachOf_52 (by decide) (Option.some.inj ex11) rfl ?_
      refine y_aload_n dX7_reachOf_54 1 rfl ?_
      obtain ⟨x12, ex12, hE⟩ := Option.bind_eq_some_iff.mp hE
      refine y_getI fl_X7_108 ex12 dX7_reachOf_55 ?_
      refine y_iload dX7_reachOf_58 4 rfl ?_
      obtain ⟨q13, eq13, hE⟩ := Option.bind_eq_some_iff.mp hE
      refine y_cSi0 (st := []) (as := [.int x12, .int v4]) (c_X7_has eq13) lk_X7_116 st_X7_has ⟨Nat.le_of_ble_eq_true rfl, Nat.le_of_ble_eq_true rfl⟩ (Nat.le_of_ble_eq_true rfl) dX7_reachOf_60 hm rfl ?_
      obtain ⟨q14, eJ, hE⟩ := Option.bind_eq_some_iff.mp hE
      have hJ : Y S M_X7_reachOf h0 rv h1 mc ms 91 [(0, .ref v0), (2, .int v2), (3, .int v3), (4, .int v4), (5, .int x11)] [.int q14] h cells slots := by
        refine y_istore (ls' := [(6, .int q14), (0, .ref v0), (2, .int v2), (3, .int v3), (4, .int v4), (5, .int x11)]) dX7_reachOf_91 (by decide) rfl rfl ?_
        refine y_iload_n dX7_reachOf_93 2 rfl ?_
        refine y_iload dX7_reachOf_94 0 rfl ?_
        refine y_if_eq (tgt := 104) dX7_reachOf_96 (by decide) (fun hc25 => ?_) (fun hc25 => ?_)
        · rw [if_pos hc25] at hE
          refine y_iconst (v := (0 : Int32)) dX7_reachOf_104 (by decide) ?_
          refine y_ior dX7_reachOf_105 ?_
          obtain ⟨x21, ex21, hE⟩ := Option.bind_eq_some_iff.mp hE
          refine y_istore_n (ls' := [(2, .int x21), (6, .int q14), (0, .ref v0), (3, .int v3), (4, .int v4), (5, .int x11)]) dX7_reachOf_106 (by decide) (Option.some.inj ex21) rfl ?_
          obtain ⟨x22, ex22, hE⟩ := Option.bind_eq_some_iff.mp hE
          refine y_iinc (ls' := [(4, .int x22), (2, .int x21), (6, .int q14), (0, .ref v0), (3, .int v3), (5, .int x11)]) dX7_reachOf_107 4 rfl (Option.some.inj ex22) (by decide) rfl ?_
          refine y_goto (tgt := 20) dX7_reachOf_110 (by decide) ?_
          refine y_pick [3, 1, 4, 0] rfl ?_
          exact ih _ _ _ hE K
        · rw [if_neg hc25] at hE
          refine y_iload dX7_reachOf_99 5 rfl ?_
          refine y_goto (tgt := 105) dX7_reachOf_101 (by decide) ?_
          refine y_ior dX7_reachOf_105 ?_
          obtain ⟨x23, ex23, hE⟩ := Option.bind_eq_some_iff.mp hE
          refine y_istore_n (ls' := [(2, .int x23), (6, .int q14), (0, .ref v0), (3, .int v3), (4, .int v4), (5, .int x11)]) dX7_reachOf_106 (by decide) (Option.some.inj ex23) rfl ?_
          obtain ⟨x24, ex24, hE⟩ := Option.bind_eq_some_iff.mp hE
          refine y_iinc (ls' := [(4, .int x24), (2, .int x23), (6, .int q14), (0, .ref v0), (3, .int v3), (5, .int x11)]) dX7_reachOf_107 4 rfl (Option.some.inj ex24) (by decide) rfl ?_
          refine y_goto (tgt := 20) dX7_reachOf_110 (by decide) ?_
          refine y_pick [3, 1, 4, 0] rfl ?_
          exact ih _ _ _ hE K
      clear hE
      have hE := eJ
      clear eJ
      refine y_if_eq (tgt := 90) dX7_reachOf_63 (by decide) (fun hc20 => ?_) (fun hc20 => ?_)
      · rw [if_pos hc20] at hE
        refine y_iconst (v := (0 : Int32)) dX7_reachOf_90 (by decide) ?_
        obtain rfl := Option.some.inj hE
        exact y_pick [1, 2, 3, 4, 0] rfl hJ
      · rw [if_neg hc20] at hE
        refine y_aload_n dX7_reachOf_66 1 rfl ?_
        obtain ⟨a15, ea15, hE⟩ := Option.bind_eq_some_iff.mp hE
        refine y_getR fl_X7_39 ea15 dX7_reachOf_67 ?_
        refine y_iload dX7_reachOf_70 4 rfl ?_
        obtain ⟨a16, ea16, hE⟩ := Option.bind_eq_some_iff.mp hE
        refine y_aald ea16 dX7_reachOf_72 ?_
        refine y_iconst (v := (0 : Int32)) dX7_reachOf_73 (by decide) ?_
        obtain ⟨x17, ex17, hE⟩ := Option.bind_eq_some_iff.mp hE
        refine y_iald ex17 dX7_reachOf_74 ?_
        refine y_iconst (v := (1 : Int32)) dX7_reachOf_75 (by decide) ?_
        refine y_icmp_eq (tgt := 90) dX7_reachOf_76 (by decide) (fun hc19 => ?_) (fun hc19 => ?_)
        · rw [if_pos hc19] at hE
          refine y_iconst (v := (0 : Int32)) dX7_reachOf_90 (by decide) ?_
          obtain rfl := Option.some.inj hE
          exact y_pick [1, 2, 3, 4, 0] rfl hJ
        · rw [if_neg hc19] at hE
          refine y_iload_n dX7_reachOf_79 2 rfl ?_
          refine y_iload dX7_reachOf_80 0 rfl ?_
          refine y_iand dX7_reachOf_82 ?_
          refine y_if_eq (tgt := 90) dX7_reachOf_83 (by decide) (fun hc18 => ?_) (fun hc18 => ?_)
          · rw [if_pos hc18] at hE
            refine y_iconst (v := (0 : Int32)) dX7_reachOf_90 (by decide) ?_
            obtain rfl := Option.some.inj hE
            exact y_pick [1, 2, 3, 4, 0] rfl hJ
          · rw [if_neg hc18] at hE
            refine y_iconst (v := (1 : Int32)) dX7_reachOf_86 (by decide) ?_
            refine y_goto (tgt := 91) dX7_reachOf_87 (by decide) ?_
            obtain rfl := Option.some.inj hE
            exact y_pick [1, 2, 3, 4, 0] rfl hJ
def f_X7_reachOf_L11 (n : Nat) (h : xH) (v0 : Nat) : Nat → Int32 → Int32 → Option (Int32)
  | 0, _, _ => none
  | k + 1, v2, v3 =>
    if (8 : Int32) ≤ v3 then
      some v2
    else
      (f_X7_reachOf_L20 h v0 v3 n v2 (0 : Int32)).bind fun q27 =>
      (some (v3 + (1 : Int32))).bind fun x28 =>
      f_X7_reachOf_L11 n h v0 k q27 x28
set_option maxRecDepth 100000 in
set_option maxHeartbeats 4000000 in
theorem l_X7_reachOf_11 {S : Nat × (Nat → Int32)} {rv : Option Value} {h0 h1 : xH} {mc ms : Nat} {cells slots : Nat} (hm : cells ≤ mc ∧ slots ≤ ms) (n : Nat) (h : xH) (v0 : Nat) : ∀ (k : Nat) (v2 : Int32) (v3 : Int32) (res : Int32), f_X7_reachOf_L11 n h v0 k v2 v3 = some res → (∀ r9, res = r9 → Y S M_X7_reachOf h0 rv h1 mc ms 119 [(2, .int r9)] [] h cells slots) → Y S M_X7_reachOf h0 rv h1 mc ms 11 [(0, .ref v0), (2, .int v2), (3, .int v3)] [] h cells slots := by
  intro k
  induction k with
  | zero =>
    intro _ _ _ hE
    cases hE
  | succ k ih =>
    intro v2 v3 res hE K
    unfold f_X7_reachOf_L11 at hE
    refine y_iload_n dX7_reachOf_11 2 rfl ?_
    refine y_bipush (v := (8 : Int32)) dX7_reachOf_12 (by decide) ?_
    refine y_icmp_ge (tgt := 119) dX7_reachOf_14 (by decide) (fun hc29 => ?_) (fun hc29 => ?_)
    · rw [if_pos hc29] at hE
      obtain rfl := Option.some.inj hE
      exact y_pick [1] rfl (K _ rfl)
    · rw [if_neg hc29] at hE
      refine y_iconst (v := (0 : Int32)) dX7_reachOf_17 (by decide) ?_
      refine y_istore (ls' := [(4, .int (0 : Int32)), (0, .ref v0), (2, .int v2), (3, .int v3)]) dX7_reachOf_18 (by decide) rfl rfl ?_
      obtain ⟨q27, eq27, hE⟩ := Option.bind_eq_some_iff.mp hE
      refine y_pick [1, 2, 3, 0] rfl ?_
      refine l_X7_reachOf_20 (S := S) hm h v0 v3 n v2 (0 : Int32) _ eq27 (fun r8 hr8 => ?_)
      subst hr8
      obtain ⟨x28, ex28, hE⟩ := Option.bind_eq_some_iff.mp hE
      refine y_iinc (ls' := [(3, .int x28), (0, .ref v0), (2, .int q27)]) dX7_reachOf_113 2 rfl (Option.some.inj ex28) (by decide) rfl ?_
      refine y_goto (tgt := 11) dX7_reachOf_116 (by decide) ?_
      refine y_pick [1, 2, 0] rfl ?_
      exact ih _ _ _ hE K
def f_X7_reachOf (n : Nat) (h : xH) (a0 : Nat) (p1 : Int32) : Option (Int32) :=
  (x_gR h a0 7 13).bind fun a1 =>
  (x_ld h a1 p1).bind fun x2 =>
  (some (i_shl (1 : Int32) x2)).bind fun x3 =>
  (f_X7_reachOf_L11 n h a0 n x3 (0 : Int32)).bind fun q30 =>
  some q30
set_option maxRecDepth 100000 in
set_option maxHeartbeats 4000000 in
theorem c_X7_reachOf {n : Nat} {h : xH} {a0 : Nat} {p1 : Int32} {r9 : Int32} (hE : f_X7_reachOf n h a0 p1 = some r9) : Ctr M_X7_reachOf [.ref a0, .int p1] h (some (.int r9)) h 0 0 := by
  refine ctr_of (by decide) (fun _ _ => Nat.le_of_ble_eq_true rfl) (fun S => ?_)
  show Y S M_X7_reachOf h (some (.int r9)) h 0 0 0 [(0, .ref a0), (1, .int p1)] [] h 0 0
  unfold f_X7_reachOf at hE
  refine y_iconst (v := (1 : Int32)) dX7_reachOf_0 (by decide) ?_
  refine y_aload_n dX7_reachOf_1 0 rfl ?_
  obtain ⟨a1, ea1, hE⟩ := Option.bind_eq_some_iff.mp hE
  refine y_getR fl_X7_42 ea1 dX7_reachOf_2 ?_
  refine y_iload_n dX7_reachOf_5 1 rfl ?_
  obtain ⟨x2, ex2, hE⟩ := Option.bind_eq_some_iff.mp hE
  refine y_iald ex2 dX7_reachOf_6 ?_
  refine y_ishl dX7_reachOf_7 ?_
  obtain ⟨x3, ex3, hE⟩ := Option.bind_eq_some_iff.mp hE
  refine y_istore_n (ls' := [(2, .int x3), (0, .ref a0), (1, .int p1)]) dX7_reachOf_8 (by decide) (Option.some.inj ex3) rfl ?_
  refine y_iconst (v := (0 : Int32)) dX7_reachOf_9 (by decide) ?_
  refine y_istore_n (ls' := [(3, .int (0 : Int32)), (2, .int x3), (0, .ref a0), (1, .int p1)]) dX7_reachOf_10 (by decide) rfl rfl ?_
  obtain ⟨q30, eq30, hE⟩ := Option.bind_eq_some_iff.mp hE
  refine y_pick [2, 1, 0] rfl ?_
  refine l_X7_reachOf_11 (S := S) ⟨Nat.le_refl _, Nat.le_refl _⟩ n h a0 n x3 (0 : Int32) _ eq30 (fun r8 hr8 => ?_)
  subst hr8
  refine y_iload_n dX7_reachOf_119 0 rfl ?_
  obtain rfl := Option.some.inj hE
  exact y_ret dX7_reachOf_120 (Nat.le_refl _) (Nat.le_refl _) ⟨_, rfl, rfl⟩
def f_X7_reach (n : Nat) (h : xH) (a0 : Nat) (p1 : Int32) : Option (Int32 × xH) :=
  (x_ob h a0 7).bind fun u1 =>
  (f_X7_isOne h a0 p1).bind fun q2 =>
  if q2 = 0 then
    (x_ob h a0 7).bind fun u3 =>
    (f_X7_refuse h a0 (-2 : Int32)).bind fun q4 =>
    some (q4.1, q4.2)
  else
    (x_ob h a0 7).bind fun u5 =>
    (f_X7_reachOf n h a0 p1).bind fun q6 =>
    some (q6, h)
set_option maxRecDepth 100000 in
set_option maxHeartbeats 4000000 in
theorem c_X7_reach {n : Nat} {h : xH} {a0 : Nat} {p1 : Int32} {r9 : Int32} {hz : xH} (hE : f_X7_reach n h a0 p1 = some (r9, hz)) : Ctr M_X7_reach [.ref a0, .int p1] h (some (.int r9)) hz 0 0 := by
  refine ctr_of (by decide) (fun _ _ => Nat.le_of_ble_eq_true rfl) (fun S => ?_)
  show Y S M_X7_reach h (some (.int r9)) hz 0 0 0 [(0, .ref a0), (1, .int p1)] [] h 0 0
  unfold f_X7_reach at hE
  refine y_aload_n dX7_reach_0 0 rfl ?_
  refine y_iload_n dX7_reach_1 1 rfl ?_
  obtain ⟨u1, eu1, hE⟩ := Option.bind_eq_some_iff.mp hE
  obtain ⟨q2, eq2, hE⟩ := Option.bind_eq_some_iff.mp hE
  refine y_cVi0 (st := []) (as := [.int p1]) (c_X7_isOne eq2) lk_X7_120 in_X7_isOne se_X7_isOne rfl eu1 ⟨Nat.le_of_ble_eq_true rfl, Nat.le_of_ble_eq_true rfl⟩ (Nat.le_of_ble_eq_true rfl) dX7_reach_2 ⟨Nat.le_refl _, Nat.le_refl _⟩ rfl ?_
  refine y_if_eq (tgt := 16) dX7_reach_5 (by decide) (fun hc7 => ?_) (fun hc7 => ?_)
  · rw [if_pos hc7] at hE
    refine y_aload_n dX7_reach_16 0 rfl ?_
    refine y_bipush (v := (-2 : Int32)) dX7_reach_17 (by decide) ?_
    obtain ⟨u3, eu3, hE⟩ := Option.bind_eq_some_iff.mp hE
    obtain ⟨q4, eq4, hE⟩ := Option.bind_eq_some_iff.mp hE
    refine y_cVi0 (st := []) (as := [.int (-2 : Int32)]) (c_X7_refuse eq4) lk_X7_77 in_X7_refuse se_X7_refuse rfl eu3 ⟨Nat.le_of_ble_eq_true rfl, Nat.le_of_ble_eq_true rfl⟩ (Nat.le_of_ble_eq_true rfl) dX7_reach_19 ⟨Nat.le_refl _, Nat.le_refl _⟩ rfl ?_
    obtain ⟨rfl, rfl⟩ := x_inj2 hE
    exact y_ret dX7_reach_22 (Nat.le_refl _) (Nat.le_refl _) ⟨_, rfl, rfl⟩
  · rw [if_neg hc7] at hE
    refine y_aload_n dX7_reach_8 0 rfl ?_
    refine y_iload_n dX7_reach_9 1 rfl ?_
    obtain ⟨u5, eu5, hE⟩ := Option.bind_eq_some_iff.mp hE
    obtain ⟨q6, eq6, hE⟩ := Option.bind_eq_some_iff.mp hE
    refine y_cVi0 (st := []) (as := [.int p1]) (c_X7_reachOf eq6) lk_X7_253 in_X7_reachOf se_X7_reachOf rfl eu5 ⟨Nat.le_of_ble_eq_true rfl, Nat.le_of_ble_eq_true rfl⟩ (Nat.le_of_ble_eq_true rfl) dX7_reach_10 ⟨Nat.le_refl _, Nat.le_refl _⟩ rfl ?_
    refine y_goto (tgt := 22) dX7_reach_13 (by decide) ?_
    obtain ⟨rfl, rfl⟩ := x_inj2 hE
    exact y_ret dX7_reach_22 (Nat.le_refl _) (Nat.le_refl _) ⟨_, rfl, rfl⟩
def f_X7_shutIn_L4 (n : Nat) (h : xH) (v0 : Nat) : Nat → Int32 → Int32 → Option (Int32)
  | 0, _, _ => none
  | k + 1, v1, v2 =>
    (x_gI h v0 7 12).bind fun x1 =>
    if x1 ≤ v2 then
      some v1
    else
      (x_ob h v0 7).bind fun u2 =>
      (f_X7_reachOf n h v0 v2).bind fun q3 =>
      (f_X7_has h q3 (0 : Int32)).bind fun q4 =>
      if q4 = 0 then
        (some (v1 ||| (i_shl (1 : Int32) v2))).bind fun x5 =>
        (some (v2 + (1 : Int32))).bind fun x6 =>
        f_X7_shutIn_L4 n h v0 k x5 x6
      else
        (some (v1 ||| (0 : Int32))).bind fun x7 =>
        (some (v2 + (1 : Int32))).bind fun x8 =>
        f_X7_shutIn_L4 n h v0 k x7 x8
set_option maxRecDepth 100000 in
set_option maxHeartbeats 4000000 in
theorem l_X7_shutIn_4 {S : Nat × (Nat → Int32)} {rv : Option Value} {h0 h1 : xH} {mc ms : Nat} {cells slots : Nat} (hm : cells ≤ mc ∧ slots ≤ ms) (n : Nat) (h : xH) (v0 : Nat) : ∀ (k : Nat) (v1 : Int32) (v2 : Int32) (res : Int32), f_X7_shutIn_L4 n h v0 k v1 v2 = some res → (∀ r9, res = r9 → Y S M_X7_shutIn h0 rv h1 mc ms 40 [(1, .int r9)] [] h cells slots) → Y S M_X7_shutIn h0 rv h1 mc ms 4 [(0, .ref v0), (1, .int v1), (2, .int v2)] [] h cells slots := by
  intro k
  induction k with
  | zero =>
    intro _ _ _ hE
    cases hE
  | succ k ih =>
    intro v1 v2 res hE K
    unfold f_X7_shutIn_L4 at hE
    refine y_iload_n dX7_shutIn_4 2 rfl ?_
    refine y_aload_n dX7_shutIn_5 0 rfl ?_
    obtain ⟨x1, ex1, hE⟩ := Option.bind_eq_some_iff.mp hE
    refine y_getI fl_X7_68 ex1 dX7_shutIn_6 ?_
    refine y_icmp_ge (tgt := 40) dX7_shutIn_9 (by decide) (fun hc10 => ?_) (fun hc10 => ?_)
    · rw [if_pos hc10] at hE
      obtain rfl := Option.some.inj hE
      exact y_pick [1] rfl (K _ rfl)
    · rw [if_neg hc10] at hE
      refine y_iload_n dX7_shutIn_12 1 rfl ?_
      refine y_aload_n dX7_shutIn_13 0 rfl ?_
      refine y_iload_n dX7_shutIn_14 2 rfl ?_
      obtain ⟨u2, eu2, hE⟩ := Option.bind_eq_some_iff.mp hE
      obtain ⟨q3, eq3, hE⟩ := Option.bind_eq_some_iff.mp hE
      refine y_cVi0 (st := [.int v1]) (as := [.int v2]) (c_X7_reachOf eq3) lk_X7_253 in_X7_reachOf se_X7_reachOf rfl eu2 ⟨Nat.le_of_ble_eq_true rfl, Nat.le_of_ble_eq_true rfl⟩ (Nat.le_of_ble_eq_true rfl) dX7_shutIn_15 hm rfl ?_
      refine y_iconst (v := (0 : Int32)) dX7_shutIn_18 (by decide) ?_
      obtain ⟨q4, eq4, hE⟩ := Option.bind_eq_some_iff.mp hE
      refine y_cSi0 (st := [.int v1]) (as := [.int q3, .int (0 : Int32)]) (c_X7_has eq4) lk_X7_116 st_X7_has ⟨Nat.le_of_ble_eq_true rfl, Nat.le_of_ble_eq_true rfl⟩ (Nat.le_of_ble_eq_true rfl) dX7_shutIn_19 hm rfl ?_
      refine y_if_eq (tgt := 29) dX7_shutIn_22 (by decide) (fun hc9 => ?_) (fun hc9 => ?_)
      · rw [if_pos hc9] at hE
        refine y_iconst (v := (1 : Int32)) dX7_shutIn_29 (by decide) ?_
        refine y_iload_n dX7_shutIn_30 2 rfl ?_
        refine y_ishl dX7_shutIn_31 ?_
        refine y_ior dX7_shutIn_32 ?_
        obtain ⟨x5, ex5, hE⟩ := Option.bind_eq_some_iff.mp hE
        refine y_istore_n (ls' := [(1, .int x5), (0, .ref v0), (2, .int v2)]) dX7_shutIn_33 (by decide) (Option.some.inj ex5) rfl ?_
        obtain ⟨x6, ex6, hE⟩ := Option.bind_eq_some_iff.mp hE
        refine y_iinc (ls' := [(2, .int x6), (1, .int x5), (0, .ref v0)]) dX7_shutIn_34 2 rfl (Option.some.inj ex6) (by decide) rfl ?_
        refine y_goto (tgt := 4) dX7_shutIn_37 (by decide) ?_
        refine y_pick [2, 1, 0] rfl ?_
        exact ih _ _ _ hE K
      · rw [if_neg hc9] at hE
        refine y_iconst (v := (0 : Int32)) dX7_shutIn_25 (by decide) ?_
        refine y_goto (tgt := 32) dX7_shutIn_26 (by decide) ?_
        refine y_ior dX7_shutIn_32 ?_
        obtain ⟨x7, ex7, hE⟩ := Option.bind_eq_some_iff.mp hE
        refine y_istore_n (ls' := [(1, .int x7), (0, .ref v0), (2, .int v2)]) dX7_shutIn_33 (by decide) (Option.some.inj ex7) rfl ?_
        obtain ⟨x8, ex8, hE⟩ := Option.bind_eq_some_iff.mp hE
        refine y_iinc (ls' := [(2, .int x8), (1, .int x7), (0, .ref v0)]) dX7_shutIn_34 2 rfl (Option.some.inj ex8) (by decide) rfl ?_
        refine y_goto (tgt := 4) dX7_shutIn_37 (by decide) ?_
        refine y_pick [2, 1, 0] rfl ?_
        exact ih _ _ _ hE K
def f_X7_shutIn (n : Nat) (h : xH) (a0 : Nat) : Option (Int32) :=
  (f_X7_shutIn_L4 n h a0 n (0 : Int32) (0 : Int32)).bind fun q11 =>
  some q11
set_option maxRecDepth 100000 in
set_option maxHeartbeats 4000000 in
theorem c_X7_shutIn {n : Nat} {h : xH} {a0 : Nat} {r9 : Int32} (hE : f_X7_shutIn n h a0 = some r9) : Ctr M_X7_shutIn [.ref a0] h (some (.int r9)) h 0 0 := by
  refine ctr_of (by decide) (fun _ _ => Nat.le_of_ble_eq_true rfl) (fun S => ?_)
  show Y S M_X7_shutIn h (some (.int r9)) h 0 0 0 [(0, .ref a0)] [] h 0 0
  unfold f_X7_shutIn at hE
  refine y_iconst (v := (0 : Int32)) dX7_shutIn_0 (by decide) ?_
  refine y_istore_n (ls' := [(1, .int (0 : Int32)), (0, .ref a0)]) dX7_shutIn_1 (by decide) rfl rfl ?_
  refine y_iconst (v := (0 : Int32)) dX7_shutIn_2 (by decide) ?_
  refine y_istore_n (ls' := [(2, .int (0 : Int32)), (1, .int (0 : Int32)), (0, .ref a0)]) dX7_shutIn_3 (by decide) rfl rfl ?_
  obtain ⟨q11, eq11, hE⟩ := Option.bind_eq_some_iff.mp hE
  refine y_pick [2, 1, 0] rfl ?_
  refine l_X7_shutIn_4 (S := S) ⟨Nat.le_refl _, Nat.le_refl _⟩ n h a0 n (0 : Int32) (0 : Int32) _ eq11 (fun r8 hr8 => ?_)
  subst hr8
  refine y_iload_n dX7_shutIn_40 0 rfl ?_
  obtain rfl := Option.some.inj hE
  exact y_ret dX7_shutIn_41 (Nat.le_refl _) (Nat.le_refl _) ⟨_, rfl, rfl⟩
def f_X7_stateOf_L3 (h : xH) (v0 : Nat) (v2 : Int32) (v3 : Int32) : Nat → Int32 → Option (Int32)
  | 0, _ => none
  | k + 1, v4 =>
    (x_gI h v0 7 30).bind fun x1 =>
    if x1 ≤ v4 then
      some v4
    else
      (x_gR h v0 7 29).bind fun a2 =>
      (x_ld h a2 v4).bind fun x3 =>
      if x3 = v3 then
        (some (v4 + (1 : Int32))).bind fun x4 =>
        f_X7_stateOf_L3 h v0 v2 v3 k x4
      else
        some v4
set_option maxRecDepth 100000 in
set_option maxHeartbeats 4000000 in
theorem l_X7_stateOf_3 {S : Nat × (Nat → Int32)} {rv : Option Value} {h0 h1 : xH} {mc ms : Nat} {cells slots : Nat} (hm : cells ≤ mc ∧ slots ≤ ms) (h : xH) (v0 : Nat) (v2 : Int32) (v3 : Int32) : ∀ (k : Nat) (v4 : Int32) (res : Int32), f_X7_stateOf_L3 h v0 v2 v3 k v4 = some res → (∀ r9, res = r9 → Y S M_X7_stateOf h0 rv h1 mc ms 29 [(2, .int v2), (3, .int v3), (4, .int r9)] [] h cells slots) → Y S M_X7_stateOf h0 rv h1 mc ms 3 [(0, .ref v0), (2, .int v2), (3, .int v3), (4, .int v4)] [] h cells slots := by
  intro k
  induction k with
  | zero =>
    intro _ _ hE
    cases hE
  | succ k ih =>
    intro v4 res hE K
    unfold f_X7_stateOf_L3 at hE
    refine y_iload dX7_stateOf_3 3 rfl ?_
    refine y_aload_n dX7_stateOf_5 0 rfl ?_
    obtain ⟨x1, ex1, hE⟩ := Option.bind_eq_some_iff.mp hE
    refine y_getI fl_X7_256 ex1 dX7_stateOf_6 ?_
    refine y_icmp_ge (tgt := 29) dX7_stateOf_9 (by decide) (fun hc6 => ?_) (fun hc6 => ?_)
    · rw [if_pos hc6] at hE
      obtain rfl := Option.some.inj hE
      exact y_pick [1, 2, 3] rfl (K _ rfl)
    · rw [if_neg hc6] at hE
      refine y_aload_n dX7_stateOf_12 0 rfl ?_
      obtain ⟨a2, ea2, hE⟩ := Option.bind_eq_some_iff.mp hE
      refine y_getR fl_X7_55 ea2 dX7_stateOf_13 ?_
      refine y_iload dX7_stateOf_16 3 rfl ?_
      obtain ⟨x3, ex3, hE⟩ := Option.bind_eq_some_iff.mp hE
      refine y_iald ex3 dX7_stateOf_18 ?_
      refine y_iload_n dX7_stateOf_19 2 rfl ?_
      refine y_icmp_ne (tgt := 29) dX7_stateOf_20 (by decide) (fun hc5 => ?_) (fun hc5 => ?_)
      · rw [if_pos hc5] at hE
        obtain ⟨x4, ex4, hE⟩ := Option.bind_eq_some_iff.mp hE
        refine y_iinc (ls' := [(4, .int x4), (0, .ref v0), (2, .int v2), (3, .int v3)]) dX7_stateOf_23 3 rfl (Option.some.inj ex4) (by decide) rfl ?_
        refine y_goto (tgt := 3) dX7_stateOf_26 (by decide) ?_
        refine y_pick [1, 2, 3, 0] rfl ?_
        exact ih _ _ hE K
      · rw [if_neg hc5] at hE
        obtain rfl := Option.some.inj hE
        exact y_pick [1, 2, 3] rfl (K _ rfl)
def f_X7_stateOf (n : Nat) (h : xH) (a0 : Nat) (p1 : Int32) (p2 : Int32) (p3 : Int32) : Option (Int32) :=
  (f_X7_stateOf_L3 h a0 p2 p3 n p1).bind fun q7 =>
  some ((((q7 * (512 : Int32)) + p2) * (8 : Int32)) + p3)
set_option maxRecDepth 100000 in
set_option maxHeartbeats 4000000 in
theorem c_X7_stateOf {n : Nat} {h : xH} {a0 : Nat} {p1 : Int32} {p2 : Int32} {p3 : Int32} {r9 : Int32} (hE : f_X7_stateOf n h a0 p1 p2 p3 = some r9) : Ctr M_X7_stateOf [.ref a0, .int p1, .int p2, .int p3] h (some (.int r9)) h 0 0 := by
  refine ctr_of (by decide) (fun _ _ => Nat.le_of_ble_eq_true rfl) (fun S => ?_)
  show Y S M_X7_stateOf h (some (.int r9)) h 0 0 0 [(0, .ref a0), (1, .int p1), (2, .int p2), (3, .int p3)] [] h 0 0
  unfold f_X7_stateOf at hE
  refine y_iload_n dX7_stateOf_0 1 rfl ?_
  refine y_istore (ls' := [(4, .int p1), (0, .ref a0), (1, .int p1), (2, .int p2), (3, .int p3)]) dX7_stateOf_1 (by decide) rfl rfl ?_
  obtain ⟨q7, eq7, hE⟩ := Option.bind_eq_some_iff.mp hE
  refine y_pick [1, 3, 4, 0] rfl ?_
  refine l_X7_stateOf_3 (S := S) ⟨Nat.le_refl _, Nat.le_refl _⟩ h a0 p2 p3 n p1 _ eq7 (fun r8 hr8 => ?_)
  subst hr8
  refine y_iload dX7_stateOf_29 2 rfl ?_
  refine y_sipush (v := (512 : Int32)) dX7_stateOf_31 (by decide) ?_
  refine y_imul dX7_stateOf_34 ?_
  refine y_iload_n dX7_stateOf_35 0 rfl ?_
  refine y_iadd dX7_stateOf_36 ?_
  refine y_bipush (v := (8 : Int32)) dX7_stateOf_37 (by decide) ?_
  refine y_imul dX7_stateOf_39 ?_
  refine y_iload_n dX7_stateOf_40 1 rfl ?_
  refine y_iadd dX7_stateOf_41 ?_
  obtain rfl := Option.some.inj hE
  exact y_ret dX7_stateOf_42 (Nat.le_refl _) (Nat.le_refl _) ⟨_, rfl, rfl⟩
def f_X7_comes_J30 (h : xH) (v0 : Nat) (v1 : Int32) (v2 : Int32) (v3 : Int32) : Option (Int32 × xH) :=
  (x_gR h v0 7 27).bind fun a3 =>
  (x_st h a3 v1 v2).bind fun h4 =>
  (x_gR h4 v0 7 28).bind fun a5 =>
  (x_st h4 a5 v1 v3).bind fun h6 =>
  some ((1 : Int32), h6)
set_option maxRecDepth 100000 in
set_option maxHeartbeats 4000000 in
theorem j_X7_comes_30 {S : Nat × (Nat → Int32)} {h0 : xH} {mc ms cells slots : Nat} {h : xH} {v0 : Nat} {v1 : Int32} {v2 : Int32} {v3 : Int32} {r9 : Int32} {hz : xH} (hE : f_X7_comes_J30 h v0 v1 v2 v3 = some (r9, hz)) (hm : cells ≤ mc ∧ slots ≤ ms) : Y S M_X7_comes h0 (some (.int r9)) hz mc ms 30 [(0, .ref v0), (1, .int v1), (2, .int v2), (3, .int v3)] [] h cells slots := by
  unfold f_X7_comes_J30 at hE
  refine y_aload_n dX7_comes_30 0 rfl ?_
  obtain ⟨a3, ea3, hE⟩ := Option.bind_eq_some_iff.mp hE
  refine y_getR fl_X7_259 ea3 dX7_comes_31 ?_
  refine y_iload_n dX7_comes_34 1 rfl ?_
  refine y_iload_n dX7_comes_35 2 rfl ?_
  obtain ⟨h4, eh4, hE⟩ := Option.bind_eq_some_iff.mp hE
  refine y_iast eh4 dX7_comes_36 ?_
  refine y_aload_n dX7_comes_37 0 rfl ?_
  obtain ⟨a5, ea5, hE⟩ := Option.bind_eq_some_iff.mp hE
  refine y_getR fl_X7_262 ea5 dX7_comes_38 ?_
  refine y_iload_n dX7_comes_41 1 rfl ?_
  refine y_iload_n dX7_comes_42 3 rfl ?_
  obtain ⟨h6, eh6, hE⟩ := Option.bind_eq_some_iff.mp hE
  refine y_iast eh6 dX7_comes_43 ?_
  refine y_iconst (v := (1 : Int32)) dX7_comes_44 (by decide) ?_
  obtain ⟨rfl, rfl⟩ := x_inj2 hE
  exact y_ret dX7_comes_45 hm.1 hm.2 ⟨_, rfl, rfl⟩
def f_X7_comes (h : xH) (a0 : Nat) (p1 : Int32) (p2 : Int32) (p3 : Int32) : Option (Int32 × xH) :=
  (x_gR h a0 7 27).bind fun a1 =>
  (x_ld h a1 p1).bind fun x2 =>
  if x2 = (-1 : Int32) then
    f_X7_comes_J30 h a0 p1 p2 p3
  else
    (x_gR h a0 7 27).bind fun a7 =>
    (x_ld h a7 p1).bind fun x8 =>
    if x8 = p2 then
      (x_gR h a0 7 28).bind fun a9 =>
      (x_ld h a9 p1).bind fun x10 =>
      if x10 ≤ p3 then
        some ((0 : Int32), h)
      else
        f_X7_comes_J30 h a0 p1 p2 p3
    else
      some ((0 : Int32), h)
set_option maxRecDepth 100000 in
set_option maxHeartbeats 4000000 in
theorem c_X7_comes {h : xH} {a0 : Nat} {p1 : Int32} {p2 : Int32} {p3 : Int32} {r9 : Int32} {hz : xH} (hE : f_X7_comes h a0 p1 p2 p3 = some (r9, hz)) : Ctr M_X7_comes [.ref a0, .int p1, .int p2, .int p3] h (some (.int r9)) hz 0 0 := by
  refine ctr_of (by decide) (fun _ _ => Nat.le_of_ble_eq_true rfl) (fun S => ?_)
  show Y S M_X7_comes h (some (.int r9)) hz 0 0 0 [(0, .ref a0), (1, .int p1), (2, .int p2), (3, .int p3)] [] h 0 0
  unfold f_X7_comes at hE
  refine y_aload_n dX7_comes_0 0 rfl ?_
  obtain ⟨a1, ea1, hE⟩ := Option.bind_eq_some_iff.mp hE
  refine y_getR fl_X7_259 ea1 dX7_comes_1 ?_
  refine y_iload_n dX7_comes_4 1 rfl ?_
  obtain ⟨x2, ex2, hE⟩ := Option.bind_eq_some_iff.mp hE
  refine y_iald ex2 dX7_comes_5 ?_
  refine y_iconst (v := (-1 : Int32)) dX7_comes_6 (by decide) ?_
  refine y_icmp_eq (tgt := 30) dX7_comes_7 (by decide) (fun hc13 => ?_) (fun hc13 => ?_)
  · rw [if_pos hc13] at hE
    refine y_pick [0, 1, 2, 3] rfl ?_
    exact j_X7_comes_30 hE ⟨Nat.le_refl _, Nat.le_refl _⟩
  · rw [if_neg hc13] at hE
    refine y_aload_n dX7_comes_10 0 rfl ?_
    obtain ⟨a7, ea7, hE⟩ := Option.bind_eq_some_iff.mp hE
    refine y_getR fl_X7_259 ea7 dX7_comes_11 ?_
    refine y_iload_n dX7_comes_14 1 rfl ?_
    obtain ⟨x8, ex8, hE⟩ := Option.bind_eq_some_iff.mp hE
    refine y_iald ex8 dX7_comes_15 ?_
    refine y_iload_n dX7_comes_16 2 rfl ?_
    refine y_icmp_ne (tgt := 46) dX7_comes_17 (by decide) (fun hc12 => ?_) (fun hc12 => ?_)
    · rw [if_pos hc12] at hE
      refine y_iload_n dX7_comes_20 3 rfl ?_
      refine y_aload_n dX7_comes_21 0 rfl ?_
      obtain ⟨a9, ea9, hE⟩ := Option.bind_eq_some_iff.mp hE
      refine y_getR fl_X7_262 ea9 dX7_comes_22 ?_
      refine y_iload_n dX7_comes_25 1 rfl ?_
      obtain ⟨x10, ex10, hE⟩ := Option.bind_eq_some_iff.mp hE
      refine y_iald ex10 dX7_comes_26 ?_
      refine y_icmp_ge (tgt := 46) dX7_comes_27 (by decide) (fun hc11 => ?_) (fun hc11 => ?_)
      · rw [if_pos hc11] at hE
        refine y_iconst (v := (0 : Int32)) dX7_comes_46 (by decide) ?_
        obtain ⟨rfl, rfl⟩ := x_inj2 hE
        exact y_ret dX7_comes_47 (Nat.le_refl _) (Nat.le_refl _) ⟨_, rfl, rfl⟩
      · rw [if_neg hc11] at hE
        refine y_pick [0, 1, 2, 3] rfl ?_
        exact j_X7_comes_30 hE ⟨Nat.le_refl _, Nat.le_refl _⟩
    · rw [if_neg hc12] at hE
      refine y_iconst (v := (0 : Int32)) dX7_comes_46 (by decide) ?_
      obtain ⟨rfl, rfl⟩ := x_inj2 hE
      exact y_ret dX7_comes_47 (Nat.le_refl _) (Nat.le_refl _) ⟨_, rfl, rfl⟩
