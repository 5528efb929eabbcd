theorem dX0_takeTurn_0 : decode cX0_takeTurn 0 = .ok (.aload_n 0, 1) := by decide +kernel
theorem dX0_takeTurn_1 : decode cX0_takeTurn 1 = .ok (.aload_n 0, 1) := by decide +kernel
theorem dX0_takeTurn_2 : decode cX0_takeTurn 2 = .ok (.getfield 34, 3) := by decide +kernel
theorem dX0_takeTurn_5 : decode cX0_takeTurn 5 = .ok (.invokevirtual 123, 3) := by decide +kernel
theorem dX0_takeTurn_8 : decode cX0_takeTurn 8 = .ok (.istore_n 1, 1) := by decide +kernel
theorem dX0_takeTurn_9 : decode cX0_takeTurn 9 = .ok (.aload_n 0, 1) := by decide +kernel
theorem dX0_takeTurn_10 : decode cX0_takeTurn 10 = .ok (.aload_n 0, 1) := by decide +kernel
theorem dX0_takeTurn_11 : decode cX0_takeTurn 11 = .ok (.getfield 31, 3) := by decide +kernel
theorem dX0_takeTurn_14 : decode cX0_takeTurn 14 = .ok (.invokevirtual 123, 3) := by decide +kernel
theorem dX0_takeTurn_17 : decode cX0_takeTurn 17 = .ok (.istore_n 2, 1) := by decide +kernel
theorem dX0_takeTurn_18 : decode cX0_takeTurn 18 = .ok (.aload_n 0, 1) := by decide +kernel
theorem dX0_takeTurn_19 : decode cX0_takeTurn 19 = .ok (.iload_n 1, 1) := by decide +kernel
theorem dX0_takeTurn_20 : decode cX0_takeTurn 20 = .ok (.invokevirtual 96, 3) := by decide +kernel
theorem dX0_takeTurn_23 : decode cX0_takeTurn 23 = .ok (.ifCond .eq 11, 3) := by decide +kernel
theorem dX0_takeTurn_26 : decode cX0_takeTurn 26 = .ok (.aload_n 0, 1) := by decide +kernel
theorem dX0_takeTurn_27 : decode cX0_takeTurn 27 = .ok (.iload_n 2, 1) := by decide +kernel
theorem dX0_takeTurn_28 : decode cX0_takeTurn 28 = .ok (.invokevirtual 99, 3) := by decide +kernel
theorem dX0_takeTurn_31 : decode cX0_takeTurn 31 = .ok (.ifCond .ne 4, 3) := by decide +kernel
theorem dX0_takeTurn_34 : decode cX0_takeTurn 34 = .ok (.return_, 1) := by decide +kernel
theorem dX0_takeTurn_35 : decode cX0_takeTurn 35 = .ok (.aload_n 0, 1) := by decide +kernel
theorem dX0_takeTurn_36 : decode cX0_takeTurn 36 = .ok (.iload_n 1, 1) := by decide +kernel
theorem dX0_takeTurn_37 : decode cX0_takeTurn 37 = .ok (.iload_n 2, 1) := by decide +kernel
theorem dX0_takeTurn_38 : decode cX0_takeTurn 38 = .ok (.invokevirtual 126, 3) := by decide +kernel
theorem dX0_takeTurn_41 : decode cX0_takeTurn 41 = .ok (.istore_n 3, 1) := by decide +kernel
theorem dX0_takeTurn_42 : decode cX0_takeTurn 42 = .ok (.iload_n 3, 1) := by decide +kernel
theorem dX0_takeTurn_43 : decode cX0_takeTurn 43 = .ok (.iconst (-1), 1) := by decide +kernel
theorem dX0_takeTurn_44 : decode cX0_takeTurn 44 = .ok (.if_icmp .eq 12, 3) := by decide +kernel
theorem dX0_takeTurn_47 : decode cX0_takeTurn 47 = .ok (.aload_n 0, 1) := by decide +kernel
theorem dX0_takeTurn_48 : decode cX0_takeTurn 48 = .ok (.iload_n 2, 1) := by decide +kernel
theorem dX0_takeTurn_49 : decode cX0_takeTurn 49 = .ok (.iload_n 3, 1) := by decide +kernel
theorem dX0_takeTurn_50 : decode cX0_takeTurn 50 = .ok (.invokevirtual 116, 3) := by decide +kernel
theorem dX0_takeTurn_53 : decode cX0_takeTurn 53 = .ok (.goto 18, 3) := by decide +kernel
theorem dX0_takeTurn_56 : decode cX0_takeTurn 56 = .ok (.aload_n 0, 1) := by decide +kernel
theorem dX0_takeTurn_57 : decode cX0_takeTurn 57 = .ok (.iload_n 1, 1) := by decide +kernel
theorem dX0_takeTurn_58 : decode cX0_takeTurn 58 = .ok (.iload_n 2, 1) := by decide +kernel
theorem dX0_takeTurn_59 : decode cX0_takeTurn 59 = .ok (.invokevirtual 102, 3) := by decide +kernel
theorem dX0_takeTurn_62 : decode cX0_takeTurn 62 = .ok (.ifCond .eq 9, 3) := by decide +kernel
theorem dX0_takeTurn_65 : decode cX0_takeTurn 65 = .ok (.aload_n 0, 1) := by decide +kernel
theorem dX0_takeTurn_66 : decode cX0_takeTurn 66 = .ok (.iload_n 1, 1) := by decide +kernel
theorem dX0_takeTurn_67 : decode cX0_takeTurn 67 = .ok (.iload_n 2, 1) := by decide +kernel
theorem dX0_takeTurn_68 : decode cX0_takeTurn 68 = .ok (.invokevirtual 105, 3) := by decide +kernel
theorem dX0_takeTurn_71 : decode cX0_takeTurn 71 = .ok (.return_, 1) := by decide +kernel
theorem dX0_blow_0 : decode cX0_blow 0 = .ok (.iconst 0, 1) := by decide +kernel
theorem dX0_blow_1 : decode cX0_blow 1 = .ok (.istore_n 1, 1) := by decide +kernel
theorem dX0_blow_2 : decode cX0_blow 2 = .ok (.iconst 0, 1) := by decide +kernel
theorem dX0_blow_3 : decode cX0_blow 3 = .ok (.istore_n 2, 1) := by decide +kernel
theorem dX0_blow_4 : decode cX0_blow 4 = .ok (.iload_n 2, 1) := by decide +kernel
theorem dX0_blow_5 : decode cX0_blow 5 = .ok (.aload_n 0, 1) := by decide +kernel
theorem dX0_blow_6 : decode cX0_blow 6 = .ok (.getfield 31, 3) := by decide +kernel
theorem dX0_blow_9 : decode cX0_blow 9 = .ok (.if_icmp .ge 45, 3) := by decide +kernel
theorem dX0_blow_12 : decode cX0_blow 12 = .ok (.aload_n 0, 1) := by decide +kernel
theorem dX0_blow_13 : decode cX0_blow 13 = .ok (.iload_n 2, 1) := by decide +kernel
theorem dX0_blow_14 : decode cX0_blow 14 = .ok (.invokevirtual 53, 3) := by decide +kernel
theorem dX0_blow_17 : decode cX0_blow 17 = .ok (.ifCond .ne 31, 3) := by decide +kernel
theorem dX0_blow_20 : decode cX0_blow 20 = .ok (.aload_n 0, 1) := by decide +kernel
theorem dX0_blow_21 : decode cX0_blow 21 = .ok (.bipush 100, 2) := by decide +kernel
theorem dX0_blow_23 : decode cX0_blow 23 = .ok (.invokevirtual 123, 3) := by decide +kernel
theorem dX0_blow_26 : decode cX0_blow 26 = .ok (.aload_n 0, 1) := by decide +kernel
theorem dX0_blow_27 : decode cX0_blow 27 = .ok (.getfield 40, 3) := by decide +kernel
theorem dX0_blow_30 : decode cX0_blow 30 = .ok (.if_icmp .ge 18, 3) := by decide +kernel
theorem dX0_blow_33 : decode cX0_blow 33 = .ok (.aload_n 0, 1) := by decide +kernel
theorem dX0_blow_34 : decode cX0_blow 34 = .ok (.dup, 1) := by decide +kernel
theorem dX0_blow_35 : decode cX0_blow 35 = .ok (.getfield 37, 3) := by decide +kernel
theorem dX0_blow_38 : decode cX0_blow 38 = .ok (.iconst 1, 1) := by decide +kernel
theorem dX0_blow_39 : decode cX0_blow 39 = .ok (.iload_n 2, 1) := by decide +kernel
theorem dX0_blow_40 : decode cX0_blow 40 = .ok (.ishl, 1) := by decide +kernel
theorem dX0_blow_41 : decode cX0_blow 41 = .ok (.ior, 1) := by decide +kernel
theorem dX0_blow_42 : decode cX0_blow 42 = .ok (.putfield 37, 3) := by decide +kernel
theorem dX0_blow_45 : decode cX0_blow 45 = .ok (.iinc 1 1, 3) := by decide +kernel
theorem dX0_blow_48 : decode cX0_blow 48 = .ok (.iinc 2 1, 3) := by decide +kernel
theorem dX0_blow_51 : decode cX0_blow 51 = .ok (.goto (-47), 3) := by decide +kernel
theorem dX0_blow_54 : decode cX0_blow 54 = .ok (.iload_n 1, 1) := by decide +kernel
theorem dX0_blow_55 : decode cX0_blow 55 = .ok (.ireturn, 1) := by decide +kernel
theorem dX1_init_0 : decode cX1_init 0 = .ok (.aload_n 0, 1) := by decide +kernel
theorem dX1_init_1 : decode cX1_init 1 = .ok (.invokespecial 3, 3) := by decide +kernel
theorem dX1_init_4 : decode cX1_init 4 = .ok (.aload_n 0, 1) := by decide +kernel
theorem dX1_init_5 : decode cX1_init 5 = .ok (.sipush 1344, 3) := by decide +kernel
theorem dX1_init_8 : decode cX1_init 8 = .ok (.newarray .int, 2) := by decide +kernel
theorem dX1_init_10 : decode cX1_init 10 = .ok (.putfield 11, 3) := by decide +kernel
theorem dX1_init_13 : decode cX1_init 13 = .ok (.return_, 1) := by decide +kernel
theorem dX1_countDoors_0 : decode cX1_countDoors 0 = .ok (.aload_n 0, 1) := by decide +kernel
theorem dX1_countDoors_1 : decode cX1_countDoors 1 = .ok (.iload_n 3, 1) := by decide +kernel
theorem dX1_countDoors_2 : decode cX1_countDoors 2 = .ok (.putfield 33, 3) := by decide +kernel
theorem dX1_countDoors_5 : decode cX1_countDoors 5 = .ok (.aload_n 0, 1) := by decide +kernel
theorem dX1_countDoors_6 : decode cX1_countDoors 6 = .ok (.iload_n 3, 1) := by decide +kernel
theorem dX1_countDoors_7 : decode cX1_countDoors 7 = .ok (.putfield 23, 3) := by decide +kernel
theorem dX1_countDoors_10 : decode cX1_countDoors 10 = .ok (.aload_n 0, 1) := by decide +kernel
theorem dX1_countDoors_11 : decode cX1_countDoors 11 = .ok (.iconst 0, 1) := by decide +kernel
theorem dX1_countDoors_12 : decode cX1_countDoors 12 = .ok (.putfield 39, 3) := by decide +kernel
theorem dX1_countDoors_15 : decode cX1_countDoors 15 = .ok (.aload_n 0, 1) := by decide +kernel
theorem dX1_countDoors_16 : decode cX1_countDoors 16 = .ok (.iconst 0, 1) := by decide +kernel
theorem dX1_countDoors_17 : decode cX1_countDoors 17 = .ok (.putfield 26, 3) := by decide +kernel
theorem dX1_countDoors_20 : decode cX1_countDoors 20 = .ok (.aload_n 0, 1) := by decide +kernel
theorem dX1_countDoors_21 : decode cX1_countDoors 21 = .ok (.iconst 0, 1) := by decide +kernel
theorem dX1_countDoors_22 : decode cX1_countDoors 22 = .ok (.putfield 36, 3) := by decide +kernel
theorem dX1_countDoors_25 : decode cX1_countDoors 25 = .ok (.iconst 0, 1) := by decide +kernel
theorem dX1_countDoors_26 : decode cX1_countDoors 26 = .ok (.istore 4, 2) := by decide +kernel
theorem dX1_countDoors_28 : decode cX1_countDoors 28 = .ok (.iload 4, 2) := by decide +kernel
theorem dX1_countDoors_30 : decode cX1_countDoors 30 = .ok (.aload_n 1, 1) := by decide +kernel
theorem dX1_countDoors_31 : decode cX1_countDoors 31 = .ok (.getfield 50, 3) := by decide +kernel
theorem dX1_countDoors_34 : decode cX1_countDoors 34 = .ok (.if_icmp .ge 111, 3) := by decide +kernel
theorem dX1_countDoors_37 : decode cX1_countDoors 37 = .ok (.iload_n 2, 1) := by decide +kernel
theorem dX1_countDoors_38 : decode cX1_countDoors 38 = .ok (.iload 4, 2) := by decide +kernel
theorem dX1_countDoors_40 : decode cX1_countDoors 40 = .ok (.ishr, 1) := by decide +kernel
theorem dX1_countDoors_41 : decode cX1_countDoors 41 = .ok (.iconst 1, 1) := by decide +kernel
theorem dX1_countDoors_42 : decode cX1_countDoors 42 = .ok (.iand, 1) := by decide +kernel
theorem dX1_countDoors_43 : decode cX1_countDoors 43 = .ok (.istore 5, 2) := by decide +kernel
theorem dX1_countDoors_45 : decode cX1_countDoors 45 = .ok (.aload_n 1, 1) := by decide +kernel
theorem dX1_countDoors_46 : decode cX1_countDoors 46 = .ok (.getfield 55, 3) := by decide +kernel
theorem dX1_countDoors_49 : decode cX1_countDoors 49 = .ok (.iload 4, 2) := by decide +kernel
theorem dX1_countDoors_51 : decode cX1_countDoors 51 = .ok (.iaload, 1) := by decide +kernel
theorem dX1_countDoors_52 : decode cX1_countDoors 52 = .ok (.iconst 5, 1) := by decide +kernel
theorem dX1_countDoors_53 : decode cX1_countDoors 53 = .ok (.if_icmp .eq 14, 3) := by decide +kernel
theorem dX1_countDoors_56 : decode cX1_countDoors 56 = .ok (.aload_n 1, 1) := by decide +kernel
theorem dX1_countDoors_57 : decode cX1_countDoors 57 = .ok (.getfield 55, 3) := by decide +kernel
theorem dX1_countDoors_60 : decode cX1_countDoors 60 = .ok (.iload 4, 2) := by decide +kernel
theorem dX1_countDoors_62 : decode cX1_countDoors 62 = .ok (.iaload, 1) := by decide +kernel
theorem dX1_countDoors_63 : decode cX1_countDoors 63 = .ok (.iconst 4, 1) := by decide +kernel
theorem dX1_countDoors_64 : decode cX1_countDoors 64 = .ok (.if_icmp .ne 19, 3) := by decide +kernel
theorem dX1_countDoors_67 : decode cX1_countDoors 67 = .ok (.aload_n 0, 1) := by decide +kernel
theorem dX1_countDoors_68 : decode cX1_countDoors 68 = .ok (.dup, 1) := by decide +kernel
theorem dX1_countDoors_69 : decode cX1_countDoors 69 = .ok (.getfield 36, 3) := by decide +kernel
theorem dX1_countDoors_72 : decode cX1_countDoors 72 = .ok (.iconst 1, 1) := by decide +kernel
theorem dX1_countDoors_73 : decode cX1_countDoors 73 = .ok (.iload 5, 2) := by decide +kernel
theorem dX1_countDoors_75 : decode cX1_countDoors 75 = .ok (.isub, 1) := by decide +kernel
theorem dX1_countDoors_76 : decode cX1_countDoors 76 = .ok (.iadd, 1) := by decide +kernel
theorem dX1_countDoors_77 : decode cX1_countDoors 77 = .ok (.putfield 36, 3) := by decide +kernel
theorem dX1_countDoors_80 : decode cX1_countDoors 80 = .ok (.goto 59, 3) := by decide +kernel
theorem dX1_countDoors_83 : decode cX1_countDoors 83 = .ok (.aload_n 1, 1) := by decide +kernel
theorem dX1_countDoors_84 : decode cX1_countDoors 84 = .ok (.getfield 55, 3) := by decide +kernel
theorem dX1_countDoors_87 : decode cX1_countDoors 87 = .ok (.iload 4, 2) := by decide +kernel
theorem dX1_countDoors_89 : decode cX1_countDoors 89 = .ok (.iaload, 1) := by decide +kernel
theorem dX1_countDoors_90 : decode cX1_countDoors 90 = .ok (.iconst 2, 1) := by decide +kernel
theorem dX1_countDoors_91 : decode cX1_countDoors 91 = .ok (.if_icmp .ne 27, 3) := by decide +kernel
theorem dX1_countDoors_94 : decode cX1_countDoors 94 = .ok (.aload_n 0, 1) := by decide +kernel
theorem dX1_countDoors_95 : decode cX1_countDoors 95 = .ok (.dup, 1) := by decide +kernel
theorem dX1_countDoors_96 : decode cX1_countDoors 96 = .ok (.getfield 39, 3) := by decide +kernel
theorem dX1_countDoors_99 : decode cX1_countDoors 99 = .ok (.iconst 1, 1) := by decide +kernel
theorem dX1_countDoors_100 : decode cX1_countDoors 100 = .ok (.iadd, 1) := by decide +kernel
theorem dX1_countDoors_101 : decode cX1_countDoors 101 = .ok (.putfield 39, 3) := by decide +kernel
theorem dX1_countDoors_104 : decode cX1_countDoors 104 = .ok (.aload_n 0, 1) := by decide +kernel
theorem dX1_countDoors_105 : decode cX1_countDoors 105 = .ok (.dup, 1) := by decide +kernel
theorem dX1_countDoors_106 : decode cX1_countDoors 106 = .ok (.getfield 26, 3) := by decide +kernel
theorem dX1_countDoors_109 : decode cX1_countDoors 109 = .ok (.iload 5, 2) := by decide +kernel
theorem dX1_countDoors_111 : decode cX1_countDoors 111 = .ok (.iadd, 1) := by decide +kernel
theorem dX1_countDoors_112 : decode cX1_countDoors 112 = .ok (.putfield 26, 3) := by decide +kernel
theorem dX1_countDoors_115 : decode cX1_countDoors 115 = .ok (.goto 24, 3) := by decide +kernel
theorem dX1_countDoors_118 : decode cX1_countDoors 118 = .ok (.aload_n 0, 1) := by decide +kernel
theorem dX1_countDoors_119 : decode cX1_countDoors 119 = .ok (.dup, 1) := by decide +kernel
theorem dX1_countDoors_120 : decode cX1_countDoors 120 = .ok (.getfield 33, 3) := by decide +kernel
theorem dX1_countDoors_123 : decode cX1_countDoors 123 = .ok (.iconst 1, 1) := by decide +kernel
theorem dX1_countDoors_124 : decode cX1_countDoors 124 = .ok (.iadd, 1) := by decide +kernel
theorem dX1_countDoors_125 : decode cX1_countDoors 125 = .ok (.putfield 33, 3) := by decide +kernel
theorem dX1_countDoors_128 : decode cX1_countDoors 128 = .ok (.aload_n 0, 1) := by decide +kernel
theorem dX1_countDoors_129 : decode cX1_countDoors 129 = .ok (.dup, 1) := by decide +kernel
theorem dX1_countDoors_130 : decode cX1_countDoors 130 = .ok (.getfield 23, 3) := by decide +kernel
theorem dX1_countDoors_133 : decode cX1_countDoors 133 = .ok (.iload 5, 2) := by decide +kernel
theorem dX1_countDoors_135 : decode cX1_countDoors 135 = .ok (.iadd, 1) := by decide +kernel
theorem dX1_countDoors_136 : decode cX1_countDoors 136 = .ok (.putfield 23, 3) := by decide +kernel
theorem dX1_countDoors_139 : decode cX1_countDoors 139 = .ok (.iinc 4 1, 3) := by decide +kernel
theorem dX1_countDoors_142 : decode cX1_countDoors 142 = .ok (.goto (-114), 3) := by decide +kernel
theorem dX1_countDoors_145 : decode cX1_countDoors 145 = .ok (.return_, 1) := by decide +kernel
theorem dX1_changesForever_0 : decode cX1_changesForever 0 = .ok (.aload_n 0, 1) := by decide +kernel
theorem dX1_changesForever_1 : decode cX1_changesForever 1 = .ok (.getfield 15, 3) := by decide +kernel
theorem dX1_changesForever_4 : decode cX1_changesForever 4 = .ok (.iconst 1, 1) := by decide +kernel
theorem dX1_changesForever_5 : decode cX1_changesForever 5 = .ok (.if_icmp .ne 30, 3) := by decide +kernel
theorem dX1_changesForever_8 : decode cX1_changesForever 8 = .ok (.iload_n 1, 1) := by decide +kernel
theorem dX1_changesForever_9 : decode cX1_changesForever 9 = .ok (.iload_n 2, 1) := by decide +kernel
theorem dX1_changesForever_10 : decode cX1_changesForever 10 = .ok (.iadd, 1) := by decide +kernel
theorem dX1_changesForever_11 : decode cX1_changesForever 11 = .ok (.ifCond .le 22, 3) := by decide +kernel
theorem dX1_changesForever_14 : decode cX1_changesForever 14 = .ok (.iload_n 1, 1) := by decide +kernel
theorem dX1_changesForever_15 : decode cX1_changesForever 15 = .ok (.iload_n 2, 1) := by decide +kernel
theorem dX1_changesForever_16 : decode cX1_changesForever 16 = .ok (.iadd, 1) := by decide +kernel
theorem dX1_changesForever_17 : decode cX1_changesForever 17 = .ok (.aload_n 0, 1) := by decide +kernel
theorem dX1_changesForever_18 : decode cX1_changesForever 18 = .ok (.getfield 33, 3) := by decide +kernel
theorem dX1_changesForever_21 : decode cX1_changesForever 21 = .ok (.aload_n 0, 1) := by decide +kernel
theorem dX1_changesForever_22 : decode cX1_changesForever 22 = .ok (.getfield 39, 3) := by decide +kernel
theorem dX1_changesForever_25 : decode cX1_changesForever 25 = .ok (.iadd, 1) := by decide +kernel
theorem dX1_changesForever_26 : decode cX1_changesForever 26 = .ok (.if_icmp .ge 7, 3) := by decide +kernel
theorem dX1_changesForever_29 : decode cX1_changesForever 29 = .ok (.iconst 1, 1) := by decide +kernel
theorem dX1_changesForever_30 : decode cX1_changesForever 30 = .ok (.goto 4, 3) := by decide +kernel
theorem dX1_changesForever_33 : decode cX1_changesForever 33 = .ok (.iconst 0, 1) := by decide +kernel
theorem dX1_changesForever_34 : decode cX1_changesForever 34 = .ok (.ireturn, 1) := by decide +kernel
theorem dX1_changesForever_35 : decode cX1_changesForever 35 = .ok (.aload_n 0, 1) := by decide +kernel
theorem dX1_changesForever_36 : decode cX1_changesForever 36 = .ok (.getfield 15, 3) := by decide +kernel
theorem dX1_changesForever_39 : decode cX1_changesForever 39 = .ok (.iconst 2, 1) := by decide +kernel
theorem dX1_changesForever_40 : decode cX1_changesForever 40 = .ok (.if_icmp .ne 19, 3) := by decide +kernel
theorem dX1_changesForever_43 : decode cX1_changesForever 43 = .ok (.iload_n 2, 1) := by decide +kernel
theorem dX1_changesForever_44 : decode cX1_changesForever 44 = .ok (.ifCond .le 15, 3) := by decide +kernel
theorem dX1_changesForever_47 : decode cX1_changesForever 47 = .ok (.iload_n 2, 1) := by decide +kernel
theorem dX1_changesForever_48 : decode cX1_changesForever 48 = .ok (.aload_n 0, 1) := by decide +kernel
theorem dX1_changesForever_49 : decode cX1_changesForever 49 = .ok (.getfield 39, 3) := by decide +kernel
theorem dX1_changesForever_52 : decode cX1_changesForever 52 = .ok (.if_icmp .ge 7, 3) := by decide +kernel
theorem dX1_changesForever_55 : decode cX1_changesForever 55 = .ok (.iconst 1, 1) := by decide +kernel
theorem dX1_changesForever_56 : decode cX1_changesForever 56 = .ok (.goto 4, 3) := by decide +kernel
theorem dX1_changesForever_59 : decode cX1_changesForever 59 = .ok (.iconst 0, 1) := by decide +kernel
theorem dX1_changesForever_60 : decode cX1_changesForever 60 = .ok (.ireturn, 1) := by decide +kernel
theorem dX1_placeOf_0 : decode cX1_placeOf 0 = .ok (.iload_n 2, 1) := by decide +kernel
theorem dX1_placeOf_1 : decode cX1_placeOf 1 = .ok (.aload_n 0, 1) := by decide +kernel
theorem dX1_placeOf_2 : decode cX1_placeOf 2 = .ok (.getfield 33, 3) := by decide +kernel
theorem dX1_placeOf_5 : decode cX1_placeOf 5 = .ok (.iconst 1, 1) := by decide +kernel
theorem dX1_placeOf_6 : decode cX1_placeOf 6 = .ok (.iadd, 1) := by decide +kernel
theorem dX1_placeOf_7 : decode cX1_placeOf 7 = .ok (.imul, 1) := by decide +kernel
theorem dX1_placeOf_8 : decode cX1_placeOf 8 = .ok (.iload_n 1, 1) := by decide +kernel
theorem dX1_placeOf_9 : decode cX1_placeOf 9 = .ok (.iadd, 1) := by decide +kernel
theorem dX1_placeOf_10 : decode cX1_placeOf 10 = .ok (.aload_n 0, 1) := by decide +kernel
theorem dX1_placeOf_11 : decode cX1_placeOf 11 = .ok (.getfield 36, 3) := by decide +kernel
theorem dX1_placeOf_14 : decode cX1_placeOf 14 = .ok (.iconst 1, 1) := by decide +kernel
theorem dX1_placeOf_15 : decode cX1_placeOf 15 = .ok (.iadd, 1) := by decide +kernel
theorem dX1_placeOf_16 : decode cX1_placeOf 16 = .ok (.imul, 1) := by decide +kernel
theorem dX1_placeOf_17 : decode cX1_placeOf 17 = .ok (.iload_n 3, 1) := by decide +kernel
theorem dX1_placeOf_18 : decode cX1_placeOf 18 = .ok (.iadd, 1) := by decide +kernel
theorem dX1_placeOf_19 : decode cX1_placeOf 19 = .ok (.ireturn, 1) := by decide +kernel
theorem dX1_noted_0 : decode cX1_noted 0 = .ok (.aload_n 0, 1) := by decide +kernel
theorem dX1_noted_1 : decode cX1_noted 1 = .ok (.iload_n 1, 1) := by decide +kernel
theorem dX1_noted_2 : decode cX1_noted 2 = .ok (.iload_n 2, 1) := by decide +kernel
theorem dX1_noted_3 : decode cX1_noted 3 = .ok (.iload_n 3, 1) := by decide +kernel
theorem dX1_noted_4 : decode cX1_noted 4 = .ok (.invokevirtual 58, 3) := by decide +kernel
theorem dX1_noted_7 : decode cX1_noted 7 = .ok (.istore 4, 2) := by decide +kernel
theorem dX1_noted_9 : decode cX1_noted 9 = .ok (.iload 4, 2) := by decide +kernel
theorem dX1_noted_11 : decode cX1_noted 11 = .ok (.ifCond .lt 21, 3) := by decide +kernel
theorem dX1_noted_14 : decode cX1_noted 14 = .ok (.iload 4, 2) := by decide +kernel
theorem dX1_noted_16 : decode cX1_noted 16 = .ok (.sipush 1344, 3) := by decide +kernel
theorem dX1_noted_19 : decode cX1_noted 19 = .ok (.if_icmp .ge 13, 3) := by decide +kernel
theorem dX1_noted_22 : decode cX1_noted 22 = .ok (.aload_n 0, 1) := by decide +kernel
theorem dX1_noted_23 : decode cX1_noted 23 = .ok (.getfield 11, 3) := by decide +kernel
theorem dX1_noted_26 : decode cX1_noted 26 = .ok (.iload 4, 2) := by decide +kernel
theorem dX1_noted_28 : decode cX1_noted 28 = .ok (.iaload, 1) := by decide +kernel
theorem dX1_noted_29 : decode cX1_noted 29 = .ok (.goto 4, 3) := by decide +kernel
theorem dX1_noted_32 : decode cX1_noted 32 = .ok (.iconst 0, 1) := by decide +kernel
theorem dX1_noted_33 : decode cX1_noted 33 = .ok (.ireturn, 1) := by decide +kernel
theorem dX1_mostFrom_0 : decode cX1_mostFrom 0 = .ok (.iconst 0, 1) := by decide +kernel
theorem dX1_mostFrom_1 : decode cX1_mostFrom 1 = .ok (.istore 4, 2) := by decide +kernel
theorem dX1_mostFrom_3 : decode cX1_mostFrom 3 = .ok (.iconst 0, 1) := by decide +kernel
theorem dX1_mostFrom_4 : decode cX1_mostFrom 4 = .ok (.istore 5, 2) := by decide +kernel
theorem dX1_mostFrom_6 : decode cX1_mostFrom 6 = .ok (.iconst 2, 1) := by decide +kernel
theorem dX1_mostFrom_7 : decode cX1_mostFrom 7 = .ok (.iload 5, 2) := by decide +kernel
theorem dX1_mostFrom_9 : decode cX1_mostFrom 9 = .ok (.imul, 1) := by decide +kernel
theorem dX1_mostFrom_10 : decode cX1_mostFrom 10 = .ok (.aload_n 0, 1) := by decide +kernel
theorem dX1_mostFrom_11 : decode cX1_mostFrom 11 = .ok (.getfield 15, 3) := by decide +kernel
theorem dX1_mostFrom_14 : decode cX1_mostFrom 14 = .ok (.iconst 1, 1) := by decide +kernel
theorem dX1_mostFrom_15 : decode cX1_mostFrom 15 = .ok (.iadd, 1) := by decide +kernel
theorem dX1_mostFrom_16 : decode cX1_mostFrom 16 = .ok (.if_icmp .gt 119, 3) := by decide +kernel
theorem dX1_mostFrom_19 : decode cX1_mostFrom 19 = .ok (.iload 5, 2) := by decide +kernel
theorem dX1_mostFrom_21 : decode cX1_mostFrom 21 = .ok (.iload_n 2, 1) := by decide +kernel
theorem dX1_mostFrom_22 : decode cX1_mostFrom 22 = .ok (.if_icmp .gt 113, 3) := by decide +kernel
theorem dX1_mostFrom_25 : decode cX1_mostFrom 25 = .ok (.iload_n 1, 1) := by decide +kernel
theorem dX1_mostFrom_26 : decode cX1_mostFrom 26 = .ok (.aload_n 0, 1) := by decide +kernel
theorem dX1_mostFrom_27 : decode cX1_mostFrom 27 = .ok (.getfield 15, 3) := by decide +kernel
theorem dX1_mostFrom_30 : decode cX1_mostFrom 30 = .ok (.iload 5, 2) := by decide +kernel
theorem dX1_mostFrom_32 : decode cX1_mostFrom 32 = .ok (.invokestatic 64, 3) := by decide +kernel
theorem dX1_mostFrom_35 : decode cX1_mostFrom 35 = .ok (.isub, 1) := by decide +kernel
theorem dX1_mostFrom_36 : decode cX1_mostFrom 36 = .ok (.istore 6, 2) := by decide +kernel
theorem dX1_mostFrom_38 : decode cX1_mostFrom 38 = .ok (.iload_n 2, 1) := by decide +kernel
theorem dX1_mostFrom_39 : decode cX1_mostFrom 39 = .ok (.iload 5, 2) := by decide +kernel
theorem dX1_mostFrom_41 : decode cX1_mostFrom 41 = .ok (.isub, 1) := by decide +kernel
theorem dX1_mostFrom_42 : decode cX1_mostFrom 42 = .ok (.istore 7, 2) := by decide +kernel
theorem dX1_mostFrom_44 : decode cX1_mostFrom 44 = .ok (.iload 6, 2) := by decide +kernel
theorem dX1_mostFrom_46 : decode cX1_mostFrom 46 = .ok (.ifCond .lt 83, 3) := by decide +kernel
theorem dX1_mostFrom_49 : decode cX1_mostFrom 49 = .ok (.iload_n 1, 1) := by decide +kernel
theorem dX1_mostFrom_50 : decode cX1_mostFrom 50 = .ok (.aload_n 0, 1) := by decide +kernel
theorem dX1_mostFrom_51 : decode cX1_mostFrom 51 = .ok (.getfield 33, 3) := by decide +kernel
theorem dX1_mostFrom_54 : decode cX1_mostFrom 54 = .ok (.if_icmp .ge 23, 3) := by decide +kernel
theorem dX1_mostFrom_57 : decode cX1_mostFrom 57 = .ok (.iload 4, 2) := by decide +kernel
theorem dX1_mostFrom_59 : decode cX1_mostFrom 59 = .ok (.iconst 1, 1) := by decide +kernel
theorem dX1_mostFrom_60 : decode cX1_mostFrom 60 = .ok (.aload_n 0, 1) := by decide +kernel
theorem dX1_mostFrom_61 : decode cX1_mostFrom 61 = .ok (.iload 6, 2) := by decide +kernel
theorem dX1_mostFrom_63 : decode cX1_mostFrom 63 = .ok (.iconst 1, 1) := by decide +kernel
theorem dX1_mostFrom_64 : decode cX1_mostFrom 64 = .ok (.iadd, 1) := by decide +kernel
theorem dX1_mostFrom_65 : decode cX1_mostFrom 65 = .ok (.iload 7, 2) := by decide +kernel
theorem dX1_mostFrom_67 : decode cX1_mostFrom 67 = .ok (.iload_n 3, 1) := by decide +kernel
theorem dX1_mostFrom_68 : decode cX1_mostFrom 68 = .ok (.invokevirtual 46, 3) := by decide +kernel
theorem dX1_mostFrom_71 : decode cX1_mostFrom 71 = .ok (.iadd, 1) := by decide +kernel
theorem dX1_mostFrom_72 : decode cX1_mostFrom 72 = .ok (.invokestatic 68, 3) := by decide +kernel
theorem dX1_mostFrom_75 : decode cX1_mostFrom 75 = .ok (.istore 4, 2) := by decide +kernel
theorem dX1_mostFrom_77 : decode cX1_mostFrom 77 = .ok (.iload_n 2, 1) := by decide +kernel
theorem dX1_mostFrom_78 : decode cX1_mostFrom 78 = .ok (.aload_n 0, 1) := by decide +kernel
theorem dX1_mostFrom_79 : decode cX1_mostFrom 79 = .ok (.getfield 39, 3) := by decide +kernel
theorem dX1_mostFrom_82 : decode cX1_mostFrom 82 = .ok (.if_icmp .ge 23, 3) := by decide +kernel
theorem dX1_mostFrom_85 : decode cX1_mostFrom 85 = .ok (.iload 4, 2) := by decide +kernel
theorem dX1_mostFrom_87 : decode cX1_mostFrom 87 = .ok (.iconst 1, 1) := by decide +kernel
theorem dX1_mostFrom_88 : decode cX1_mostFrom 88 = .ok (.aload_n 0, 1) := by decide +kernel
theorem dX1_mostFrom_89 : decode cX1_mostFrom 89 = .ok (.iload 6, 2) := by decide +kernel
theorem dX1_mostFrom_91 : decode cX1_mostFrom 91 = .ok (.iload 7, 2) := by decide +kernel
theorem dX1_mostFrom_93 : decode cX1_mostFrom 93 = .ok (.iconst 1, 1) := by decide +kernel
theorem dX1_mostFrom_94 : decode cX1_mostFrom 94 = .ok (.iadd, 1) := by decide +kernel
theorem dX1_mostFrom_95 : decode cX1_mostFrom 95 = .ok (.iload_n 3, 1) := by decide +kernel
theorem dX1_mostFrom_96 : decode cX1_mostFrom 96 = .ok (.invokevirtual 46, 3) := by decide +kernel
theorem dX1_mostFrom_99 : decode cX1_mostFrom 99 = .ok (.iadd, 1) := by decide +kernel
theorem dX1_mostFrom_100 : decode cX1_mostFrom 100 = .ok (.invokestatic 68, 3) := by decide +kernel
theorem dX1_mostFrom_103 : decode cX1_mostFrom 103 = .ok (.istore 4, 2) := by decide +kernel
theorem dX1_mostFrom_105 : decode cX1_mostFrom 105 = .ok (.iload_n 3, 1) := by decide +kernel
theorem dX1_mostFrom_106 : decode cX1_mostFrom 106 = .ok (.ifCond .le 23, 3) := by decide +kernel
theorem dX1_mostFrom_109 : decode cX1_mostFrom 109 = .ok (.iload 4, 2) := by decide +kernel
theorem dX1_mostFrom_111 : decode cX1_mostFrom 111 = .ok (.iconst 1, 1) := by decide +kernel
theorem dX1_mostFrom_112 : decode cX1_mostFrom 112 = .ok (.aload_n 0, 1) := by decide +kernel
theorem dX1_mostFrom_113 : decode cX1_mostFrom 113 = .ok (.iload 6, 2) := by decide +kernel
theorem dX1_mostFrom_115 : decode cX1_mostFrom 115 = .ok (.iload 7, 2) := by decide +kernel
theorem dX1_mostFrom_117 : decode cX1_mostFrom 117 = .ok (.iload_n 3, 1) := by decide +kernel
theorem dX1_mostFrom_118 : decode cX1_mostFrom 118 = .ok (.iconst 1, 1) := by decide +kernel
theorem dX1_mostFrom_119 : decode cX1_mostFrom 119 = .ok (.isub, 1) := by decide +kernel
theorem dX1_mostFrom_120 : decode cX1_mostFrom 120 = .ok (.invokevirtual 46, 3) := by decide +kernel
theorem dX1_mostFrom_123 : decode cX1_mostFrom 123 = .ok (.iadd, 1) := by decide +kernel
theorem dX1_mostFrom_124 : decode cX1_mostFrom 124 = .ok (.invokestatic 68, 3) := by decide +kernel
theorem dX1_mostFrom_127 : decode cX1_mostFrom 127 = .ok (.istore 4, 2) := by decide +kernel
theorem dX1_mostFrom_129 : decode cX1_mostFrom 129 = .ok (.iinc 5 1, 3) := by decide +kernel
theorem dX1_mostFrom_132 : decode cX1_mostFrom 132 = .ok (.goto (-126), 3) := by decide +kernel
theorem dX1_mostFrom_135 : decode cX1_mostFrom 135 = .ok (.iload 4, 2) := by decide +kernel
theorem dX1_mostFrom_137 : decode cX1_mostFrom 137 = .ok (.bipush 99, 2) := by decide +kernel
theorem dX1_mostFrom_139 : decode cX1_mostFrom 139 = .ok (.invokestatic 73, 3) := by decide +kernel
theorem dX1_mostFrom_142 : decode cX1_mostFrom 142 = .ok (.ireturn, 1) := by decide +kernel
theorem dX1_note_0 : decode cX1_note 0 = .ok (.aload_n 0, 1) := by decide +kernel
theorem dX1_note_1 : decode cX1_note 1 = .ok (.iload_n 1, 1) := by decide +kernel
theorem dX1_note_2 : decode cX1_note 2 = .ok (.iload_n 2, 1) := by decide +kernel
theorem dX1_note_3 : decode cX1_note 3 = .ok (.iload_n 3, 1) := by decide +kernel
theorem dX1_note_4 : decode cX1_note 4 = .ok (.invokevirtual 58, 3) := by decide +kernel
theorem dX1_note_7 : decode cX1_note 7 = .ok (.istore 4, 2) := by decide +kernel
theorem dX1_note_9 : decode cX1_note 9 = .ok (.iload 4, 2) := by decide +kernel
theorem dX1_note_11 : decode cX1_note 11 = .ok (.ifCond .lt 39, 3) := by decide +kernel
theorem dX1_note_14 : decode cX1_note 14 = .ok (.iload 4, 2) := by decide +kernel
theorem dX1_note_16 : decode cX1_note 16 = .ok (.sipush 1344, 3) := by decide +kernel
theorem dX1_note_19 : decode cX1_note 19 = .ok (.if_icmp .ge 31, 3) := by decide +kernel
theorem dX1_note_22 : decode cX1_note 22 = .ok (.aload_n 0, 1) := by decide +kernel
theorem dX1_note_23 : decode cX1_note 23 = .ok (.getfield 11, 3) := by decide +kernel
theorem dX1_note_26 : decode cX1_note 26 = .ok (.iload 4, 2) := by decide +kernel
theorem dX1_note_28 : decode cX1_note 28 = .ok (.aload_n 0, 1) := by decide +kernel
theorem dX1_note_29 : decode cX1_note 29 = .ok (.iload_n 1, 1) := by decide +kernel
theorem dX1_note_30 : decode cX1_note 30 = .ok (.iload_n 2, 1) := by decide +kernel
theorem dX1_note_31 : decode cX1_note 31 = .ok (.invokevirtual 29, 3) := by decide +kernel
theorem dX1_note_34 : decode cX1_note 34 = .ok (.ifCond .eq 8, 3) := by decide +kernel
theorem dX1_note_37 : decode cX1_note 37 = .ok (.bipush 99, 2) := by decide +kernel
theorem dX1_note_39 : decode cX1_note 39 = .ok (.goto 10, 3) := by decide +kernel
theorem dX1_note_42 : decode cX1_note 42 = .ok (.aload_n 0, 1) := by decide +kernel
theorem dX1_note_43 : decode cX1_note 43 = .ok (.iload_n 1, 1) := by decide +kernel
theorem dX1_note_44 : decode cX1_note 44 = .ok (.iload_n 2, 1) := by decide +kernel
theorem dX1_note_45 : decode cX1_note 45 = .ok (.iload_n 3, 1) := by decide +kernel
theorem dX1_note_46 : decode cX1_note 46 = .ok (.invokevirtual 61, 3) := by decide +kernel
theorem dX1_note_49 : decode cX1_note 49 = .ok (.iastore, 1) := by decide +kernel
theorem dX1_note_50 : decode cX1_note 50 = .ok (.return_, 1) := by decide +kernel
theorem dX1_most_0 : decode cX1_most 0 = .ok (.aload_n 0, 1) := by decide +kernel
theorem dX1_most_1 : decode cX1_most 1 = .ok (.iload_n 2, 1) := by decide +kernel
theorem dX1_most_2 : decode cX1_most 2 = .ok (.putfield 15, 3) := by decide +kernel
theorem dX1_most_5 : decode cX1_most 5 = .ok (.aload_n 0, 1) := by decide +kernel
theorem dX1_most_6 : decode cX1_most 6 = .ok (.aload_n 1, 1) := by decide +kernel
theorem dX1_most_7 : decode cX1_most 7 = .ok (.iload_n 3, 1) := by decide +kernel
theorem dX1_most_8 : decode cX1_most 8 = .ok (.iload 4, 2) := by decide +kernel
theorem dX1_most_10 : decode cX1_most 10 = .ok (.invokevirtual 19, 3) := by decide +kernel
theorem dX1_most_13 : decode cX1_most 13 = .ok (.aload_n 0, 1) := by decide +kernel
theorem dX1_most_14 : decode cX1_most 14 = .ok (.aload_n 0, 1) := by decide +kernel
theorem dX1_most_15 : decode cX1_most 15 = .ok (.getfield 23, 3) := by decide +kernel
theorem dX1_most_18 : decode cX1_most 18 = .ok (.aload_n 0, 1) := by decide +kernel
theorem dX1_most_19 : decode cX1_most 19 = .ok (.getfield 26, 3) := by decide +kernel
theorem dX1_most_22 : decode cX1_most 22 = .ok (.invokevirtual 29, 3) := by decide +kernel
theorem dX1_most_25 : decode cX1_most 25 = .ok (.ifCond .eq 6, 3) := by decide +kernel
theorem dX1_most_28 : decode cX1_most 28 = .ok (.bipush 99, 2) := by decide +kernel
theorem dX1_most_30 : decode cX1_most 30 = .ok (.ireturn, 1) := by decide +kernel
theorem dX1_most_31 : decode cX1_most 31 = .ok (.aload_n 0, 1) := by decide +kernel
theorem dX1_most_32 : decode cX1_most 32 = .ok (.getfield 23, 3) := by decide +kernel
theorem dX1_most_35 : decode cX1_most 35 = .ok (.iconst 2, 1) := by decide +kernel
theorem dX1_most_36 : decode cX1_most 36 = .ok (.aload_n 0, 1) := by decide +kernel
theorem dX1_most_37 : decode cX1_most 37 = .ok (.getfield 26, 3) := by decide +kernel
theorem dX1_most_40 : decode cX1_most 40 = .ok (.imul, 1) := by decide +kernel
theorem dX1_most_41 : decode cX1_most 41 = .ok (.iadd, 1) := by decide +kernel
theorem dX1_most_42 : decode cX1_most 42 = .ok (.istore 5, 2) := by decide +kernel
theorem dX1_most_44 : decode cX1_most 44 = .ok (.iconst 0, 1) := by decide +kernel
theorem dX1_most_45 : decode cX1_most 45 = .ok (.istore 6, 2) := by decide +kernel
theorem dX1_most_47 : decode cX1_most 47 = .ok (.iload 6, 2) := by decide +kernel
theorem dX1_most_49 : decode cX1_most 49 = .ok (.iload 5, 2) := by decide +kernel
theorem dX1_most_51 : decode cX1_most 51 = .ok (.if_icmp .gt 83, 3) := by decide +kernel
theorem dX1_most_54 : decode cX1_most 54 = .ok (.iload 6, 2) := by decide +kernel
theorem dX1_most_56 : decode cX1_most 56 = .ok (.iconst 1, 1) := by decide +kernel
theorem dX1_most_57 : decode cX1_most 57 = .ok (.iand, 1) := by decide +kernel
theorem dX1_most_58 : decode cX1_most 58 = .ok (.istore 7, 2) := by decide +kernel
theorem dX1_most_60 : decode cX1_most 60 = .ok (.iload 7, 2) := by decide +kernel
theorem dX1_most_62 : decode cX1_most 62 = .ok (.iload 6, 2) := by decide +kernel
theorem dX1_most_64 : decode cX1_most 64 = .ok (.if_icmp .gt 64, 3) := by decide +kernel
theorem dX1_most_67 : decode cX1_most 67 = .ok (.iload 7, 2) := by decide +kernel
theorem dX1_most_69 : decode cX1_most 69 = .ok (.aload_n 0, 1) := by decide +kernel
theorem dX1_most_70 : decode cX1_most 70 = .ok (.getfield 33, 3) := by decide +kernel
theorem dX1_most_73 : decode cX1_most 73 = .ok (.if_icmp .gt 55, 3) := by decide +kernel
theorem dX1_most_76 : decode cX1_most 76 = .ok (.iload 6, 2) := by decide +kernel
theorem dX1_most_78 : decode cX1_most 78 = .ok (.iload 7, 2) := by decide +kernel
theorem dX1_most_80 : decode cX1_most 80 = .ok (.isub, 1) := by decide +kernel
theorem dX1_most_81 : decode cX1_most 81 = .ok (.iconst 2, 1) := by decide +kernel
theorem dX1_most_82 : decode cX1_most 82 = .ok (.idiv, 1) := by decide +kernel
theorem dX1_most_83 : decode cX1_most 83 = .ok (.istore 8, 2) := by decide +kernel
theorem dX1_most_85 : decode cX1_most 85 = .ok (.iconst 0, 1) := by decide +kernel
theorem dX1_most_86 : decode cX1_most 86 = .ok (.istore 9, 2) := by decide +kernel
theorem dX1_most_88 : decode cX1_most 88 = .ok (.iload 9, 2) := by decide +kernel
theorem dX1_most_90 : decode cX1_most 90 = .ok (.aload_n 0, 1) := by decide +kernel
theorem dX1_most_91 : decode cX1_most 91 = .ok (.getfield 36, 3) := by decide +kernel
theorem dX1_most_94 : decode cX1_most 94 = .ok (.if_icmp .gt 28, 3) := by decide +kernel
theorem dX1_most_97 : decode cX1_most 97 = .ok (.iload 8, 2) := by decide +kernel
theorem dX1_most_99 : decode cX1_most 99 = .ok (.aload_n 0, 1) := by decide +kernel
theorem dX1_most_100 : decode cX1_most 100 = .ok (.getfield 39, 3) := by decide +kernel
theorem dX1_most_103 : decode cX1_most 103 = .ok (.if_icmp .gt 19, 3) := by decide +kernel
theorem dX1_most_106 : decode cX1_most 106 = .ok (.aload_n 0, 1) := by decide +kernel
theorem dX1_most_107 : decode cX1_most 107 = .ok (.iload 7, 2) := by decide +kernel
theorem dX1_most_109 : decode cX1_most 109 = .ok (.iload 8, 2) := by decide +kernel
theorem dX1_most_111 : decode cX1_most 111 = .ok (.iload 9, 2) := by decide +kernel
theorem dX1_most_113 : decode cX1_most 113 = .ok (.invokevirtual 42, 3) := by decide +kernel
theorem dX1_most_116 : decode cX1_most 116 = .ok (.iinc 9 1, 3) := by decide +kernel
theorem dX1_most_119 : decode cX1_most 119 = .ok (.goto (-31), 3) := by decide +kernel
theorem dX1_most_122 : decode cX1_most 122 = .ok (.iinc 7 2, 3) := by decide +kernel
theorem dX1_most_125 : decode cX1_most 125 = .ok (.goto (-65), 3) := by decide +kernel
theorem dX1_most_128 : decode cX1_most 128 = .ok (.iinc 6 1, 3) := by decide +kernel
theorem dX1_most_131 : decode cX1_most 131 = .ok (.goto (-84), 3) := by decide +kernel
theorem dX1_most_134 : decode cX1_most 134 = .ok (.aload_n 0, 1) := by decide +kernel
theorem dX1_most_135 : decode cX1_most 135 = .ok (.aload_n 0, 1) := by decide +kernel
theorem dX1_most_136 : decode cX1_most 136 = .ok (.getfield 23, 3) := by decide +kernel
theorem dX1_most_139 : decode cX1_most 139 = .ok (.aload_n 0, 1) := by decide +kernel
theorem dX1_most_140 : decode cX1_most 140 = .ok (.getfield 26, 3) := by decide +kernel
theorem dX1_most_143 : decode cX1_most 143 = .ok (.aload_n 0, 1) := by decide +kernel
theorem dX1_most_144 : decode cX1_most 144 = .ok (.getfield 36, 3) := by decide +kernel
theorem dX1_most_147 : decode cX1_most 147 = .ok (.invokevirtual 46, 3) := by decide +kernel
theorem dX1_most_150 : decode cX1_most 150 = .ok (.ireturn, 1) := by decide +kernel
theorem dX2_init_0 : decode cX2_init 0 = .ok (.aload_n 0, 1) := by decide +kernel
theorem dX2_init_1 : decode cX2_init 1 = .ok (.invokespecial 3, 3) := by decide +kernel
theorem dX2_init_4 : decode cX2_init 4 = .ok (.aload_n 0, 1) := by decide +kernel
theorem dX2_init_5 : decode cX2_init 5 = .ok (.bipush 9, 2) := by decide +kernel
theorem dX2_init_7 : decode cX2_init 7 = .ok (.newarray .int, 2) := by decide +kernel
theorem dX2_init_9 : decode cX2_init 9 = .ok (.putfield 9, 3) := by decide +kernel
theorem dX2_init_12 : decode cX2_init 12 = .ok (.aload_n 0, 1) := by decide +kernel
theorem dX2_init_13 : decode cX2_init 13 = .ok (.bipush 8, 2) := by decide +kernel
theorem dX2_init_15 : decode cX2_init 15 = .ok (.newarray .int, 2) := by decide +kernel
theorem dX2_init_17 : decode cX2_init 17 = .ok (.putfield 15, 3) := by decide +kernel
theorem dX2_init_20 : decode cX2_init 20 = .ok (.aload_n 0, 1) := by decide +kernel
theorem dX2_init_21 : decode cX2_init 21 = .ok (.bipush 8, 2) := by decide +kernel
theorem dX2_init_23 : decode cX2_init 23 = .ok (.newarray .int, 2) := by decide +kernel
theorem dX2_init_25 : decode cX2_init 25 = .ok (.putfield 18, 3) := by decide +kernel
theorem dX2_init_28 : decode cX2_init 28 = .ok (.aload_n 0, 1) := by decide +kernel
theorem dX2_init_29 : decode cX2_init 29 = .ok (.bipush 126, 2) := by decide +kernel
theorem dX2_init_31 : decode cX2_init 31 = .ok (.newarray .int, 2) := by decide +kernel
theorem dX2_init_33 : decode cX2_init 33 = .ok (.putfield 21, 3) := by decide +kernel
theorem dX2_init_36 : decode cX2_init 36 = .ok (.aload_n 0, 1) := by decide +kernel
theorem dX2_init_37 : decode cX2_init 37 = .ok (.iconst 0, 1) := by decide +kernel
theorem dX2_init_38 : decode cX2_init 38 = .ok (.newarray .int, 2) := by decide +kernel
theorem dX2_init_40 : decode cX2_init 40 = .ok (.putfield 24, 3) := by decide +kernel
theorem dX2_init_43 : decode cX2_init 43 = .ok (.return_, 1) := by decide +kernel
theorem dX2_sortDoors_0 : decode cX2_sortDoors 0 = .ok (.aload_n 0, 1) := by decide +kernel
theorem dX2_sortDoors_1 : decode cX2_sortDoors 1 = .ok (.iconst 0, 1) := by decide +kernel
theorem dX2_sortDoors_2 : decode cX2_sortDoors 2 = .ok (.putfield 69, 3) := by decide +kernel
theorem dX2_sortDoors_5 : decode cX2_sortDoors 5 = .ok (.aload_n 0, 1) := by decide +kernel
theorem dX2_sortDoors_6 : decode cX2_sortDoors 6 = .ok (.iconst 0, 1) := by decide +kernel
theorem dX2_sortDoors_7 : decode cX2_sortDoors 7 = .ok (.putfield 72, 3) := by decide +kernel
theorem dX2_sortDoors_10 : decode cX2_sortDoors 10 = .ok (.iconst 0, 1) := by decide +kernel
theorem dX2_sortDoors_11 : decode cX2_sortDoors 11 = .ok (.istore_n 2, 1) := by decide +kernel
theorem dX2_sortDoors_12 : decode cX2_sortDoors 12 = .ok (.iload_n 2, 1) := by decide +kernel
theorem dX2_sortDoors_13 : decode cX2_sortDoors 13 = .ok (.aload_n 0, 1) := by decide +kernel
theorem dX2_sortDoors_14 : decode cX2_sortDoors 14 = .ok (.getfield 39, 3) := by decide +kernel
theorem dX2_sortDoors_17 : decode cX2_sortDoors 17 = .ok (.if_icmp .ge 78, 3) := by decide +kernel
theorem dX2_sortDoors_20 : decode cX2_sortDoors 20 = .ok (.aload_n 0, 1) := by decide +kernel
theorem dX2_sortDoors_21 : decode cX2_sortDoors 21 = .ok (.getfield 9, 3) := by decide +kernel
theorem dX2_sortDoors_24 : decode cX2_sortDoors 24 = .ok (.iload_n 2, 1) := by decide +kernel
theorem dX2_sortDoors_25 : decode cX2_sortDoors 25 = .ok (.iconst 1, 1) := by decide +kernel
theorem dX2_sortDoors_26 : decode cX2_sortDoors 26 = .ok (.aload_n 1, 1) := by decide +kernel
theorem dX2_sortDoors_27 : decode cX2_sortDoors 27 = .ok (.getfield 75, 3) := by decide +kernel
theorem dX2_sortDoors_30 : decode cX2_sortDoors 30 = .ok (.iload_n 2, 1) := by decide +kernel
theorem dX2_sortDoors_31 : decode cX2_sortDoors 31 = .ok (.iaload, 1) := by decide +kernel
theorem dX2_sortDoors_32 : decode cX2_sortDoors 32 = .ok (.ishl, 1) := by decide +kernel
theorem dX2_sortDoors_33 : decode cX2_sortDoors 33 = .ok (.iconst 1, 1) := by decide +kernel
theorem dX2_sortDoors_34 : decode cX2_sortDoors 34 = .ok (.aload_n 1, 1) := by decide +kernel
theorem dX2_sortDoors_35 : decode cX2_sortDoors 35 = .ok (.getfield 78, 3) := by decide +kernel
theorem dX2_sortDoors_38 : decode cX2_sortDoors 38 = .ok (.iload_n 2, 1) := by decide +kernel
theorem dX2_sortDoors_39 : decode cX2_sortDoors 39 = .ok (.iaload, 1) := by decide +kernel
theorem dX2_sortDoors_40 : decode cX2_sortDoors 40 = .ok (.ishl, 1) := by decide +kernel
theorem dX2_sortDoors_41 : decode cX2_sortDoors 41 = .ok (.ior, 1) := by decide +kernel
theorem dX2_sortDoors_42 : decode cX2_sortDoors 42 = .ok (.iastore, 1) := by decide +kernel
theorem dX2_sortDoors_43 : decode cX2_sortDoors 43 = .ok (.aload_n 1, 1) := by decide +kernel
theorem dX2_sortDoors_44 : decode cX2_sortDoors 44 = .ok (.getfield 81, 3) := by decide +kernel
theorem dX2_sortDoors_47 : decode cX2_sortDoors 47 = .ok (.iload_n 2, 1) := by decide +kernel
theorem dX2_sortDoors_48 : decode cX2_sortDoors 48 = .ok (.iaload, 1) := by decide +kernel
theorem dX2_sortDoors_49 : decode cX2_sortDoors 49 = .ok (.iconst 2, 1) := by decide +kernel
theorem dX2_sortDoors_50 : decode cX2_sortDoors 50 = .ok (.if_icmp .ne 18, 3) := by decide +kernel
theorem dX2_sortDoors_53 : decode cX2_sortDoors 53 = .ok (.aload_n 0, 1) := by decide +kernel
theorem dX2_sortDoors_54 : decode cX2_sortDoors 54 = .ok (.dup, 1) := by decide +kernel
theorem dX2_sortDoors_55 : decode cX2_sortDoors 55 = .ok (.getfield 72, 3) := by decide +kernel
theorem dX2_sortDoors_58 : decode cX2_sortDoors 58 = .ok (.iconst 1, 1) := by decide +kernel
theorem dX2_sortDoors_59 : decode cX2_sortDoors 59 = .ok (.iload_n 2, 1) := by decide +kernel
theorem dX2_sortDoors_60 : decode cX2_sortDoors 60 = .ok (.ishl, 1) := by decide +kernel
theorem dX2_sortDoors_61 : decode cX2_sortDoors 61 = .ok (.ior, 1) := by decide +kernel
theorem dX2_sortDoors_62 : decode cX2_sortDoors 62 = .ok (.putfield 72, 3) := by decide +kernel
theorem dX2_sortDoors_65 : decode cX2_sortDoors 65 = .ok (.goto 24, 3) := by decide +kernel
theorem dX2_sortDoors_68 : decode cX2_sortDoors 68 = .ok (.aload_n 1, 1) := by decide +kernel
theorem dX2_sortDoors_69 : decode cX2_sortDoors 69 = .ok (.iload_n 2, 1) := by decide +kernel
theorem dX2_sortDoors_70 : decode cX2_sortDoors 70 = .ok (.invokevirtual 84, 3) := by decide +kernel
theorem dX2_sortDoors_73 : decode cX2_sortDoors 73 = .ok (.iconst 1, 1) := by decide +kernel
theorem dX2_sortDoors_74 : decode cX2_sortDoors 74 = .ok (.if_icmp .ne 15, 3) := by decide +kernel
theorem dX2_sortDoors_77 : decode cX2_sortDoors 77 = .ok (.aload_n 0, 1) := by decide +kernel
theorem dX2_sortDoors_78 : decode cX2_sortDoors 78 = .ok (.dup, 1) := by decide +kernel
theorem dX2_sortDoors_79 : decode cX2_sortDoors 79 = .ok (.getfield 69, 3) := by decide +kernel
theorem dX2_sortDoors_82 : decode cX2_sortDoors 82 = .ok (.iconst 1, 1) := by decide +kernel
theorem dX2_sortDoors_83 : decode cX2_sortDoors 83 = .ok (.iload_n 2, 1) := by decide +kernel
theorem dX2_sortDoors_84 : decode cX2_sortDoors 84 = .ok (.ishl, 1) := by decide +kernel
theorem dX2_sortDoors_85 : decode cX2_sortDoors 85 = .ok (.ior, 1) := by decide +kernel
theorem dX2_sortDoors_86 : decode cX2_sortDoors 86 = .ok (.putfield 69, 3) := by decide +kernel
theorem dX2_sortDoors_89 : decode cX2_sortDoors 89 = .ok (.iinc 2 1, 3) := by decide +kernel
theorem dX2_sortDoors_92 : decode cX2_sortDoors 92 = .ok (.goto (-80), 3) := by decide +kernel
theorem dX2_sortDoors_95 : decode cX2_sortDoors 95 = .ok (.return_, 1) := by decide +kernel
def f_X0_takeTurn (n : Nat) (h : xH) (a0 : Nat) : Option (xH) :=
  (x_gI h a0 0 6).bind fun x1 =>
  (x_ob h a0 0).bind fun u2 =>
  (f_X0_draw h a0 x1).bind fun q3 =>
  (x_gI q3.2 a0 0 4).bind fun x4 =>
  (x_ob q3.2 a0 0).bind fun u5 =>
  (f_X0_draw q3.2 a0 x4).bind fun q6 =>
  (x_ob q6.2 a0 0).bind fun u7 =>
  (f_X0_hasOne q6.2 a0 q3.1).bind fun q8 =>
  if q8 = 0 then
    some q6.2
  else
    (x_ob q6.2 a0 0).bind fun u9 =>
    (f_X0_hasDoor q6.2 a0 q6.1).bind fun q10 =>
    if q10 = 0 then
      some q6.2
    else
      (x_ob q6.2 a0 0).bind fun u11 =>
      (f_X0_leastSet n q6.2 a0 q3.1 q6.1).bind fun q12 =>
      if q12 = (-1 : Int32) then
        (x_ob q6.2 a0 0).bind fun u13 =>
        (f_X0_mayWalk q6.2 a0 q3.1 q6.1).bind fun q14 =>
        if q14 = 0 then
          some q6.2
        else
          (x_ob q6.2 a0 0).bind fun u15 =>
          (f_X0_goThrough q6.2 a0 q3.1 q6.1).bind fun q16 =>
          some q16
      else
        (x_ob q6.2 a0 0).bind fun u18 =>
        (f_X0_openFor q6.2 a0 q6.1 q12).bind fun q19 =>
        some q19
set_option maxRecDepth 100000 in
set_option maxHeartbeats 4000000 in
theorem c_X0_takeTurn {n : Nat} {h : xH} {a0 : Nat} {hz : xH} (hE : f_X0_takeTurn n h a0 = some hz) : Ctr M_X0_takeTurn [.ref a0] h none hz 0 0 := by
  refine ctr_of (by decide) (fun _ _ => Nat.le_of_ble_eq_true rfl) (fun S => ?_)
  show Y S M_X0_takeTurn h none hz 0 0 0 [(0, .ref a0)] [] h 0 0
  unfold f_X0_takeTurn at hE
  refine y_aload_n dX0_takeTurn_0 0 rfl ?_
  refine y_aload_n dX0_takeTurn_1 0 rfl ?_
  obtain ⟨x1, ex1, hE⟩ := Option.bind_eq_some_iff.mp hE
  refine y_getI fl_X0_34 ex1 dX0_takeTurn_2 ?_
  obtain ⟨u2, eu2, hE⟩ := Option.bind_eq_some_iff.mp hE
  obtain ⟨q3, eq3, hE⟩ := Option.bind_eq_some_iff.mp hE
  refine y_cVi0 (st := []) (as := [.int x1]) (c_X0_draw eq3) lk_X0_123 in_X0_draw se_X0_draw rfl eu2 ⟨Nat.le_of_ble_eq_true rfl, Nat.le_of_ble_eq_true rfl⟩ (Nat.le_of_ble_eq_true rfl) dX0_takeTurn_5 ⟨Nat.le_refl _, Nat.le_refl _⟩ rfl ?_
  refine y_istore_n (ls' := [(1, .int q3.1), (0, .ref a0)]) dX0_takeTurn_8 (by decide) rfl rfl ?_
  refine y_aload_n dX0_takeTurn_9 1 rfl ?_
  refine y_aload_n dX0_takeTurn_10 1 rfl ?_
  obtain ⟨x4, ex4, hE⟩ := Option.bind_eq_some_iff.mp hE
  refine y_getI fl_X0_31 ex4 dX0_takeTurn_11 ?_
  obtain ⟨u5, eu5, hE⟩ := Option.bind_eq_some_iff.mp hE
  obtain ⟨q6, eq6, hE⟩ := Option.bind_eq_some_iff.mp hE
  refine y_cVi0 (st := []) (as := [.int x4]) (c_X0_draw eq6) lk_X0_123 in_X0_draw se_X0_draw rfl eu5 ⟨Nat.le_of_ble_eq_true rfl, Nat.le_of_ble_eq_true rfl⟩ (Nat.le_of_ble_eq_true rfl) dX0_takeTurn_14 ⟨Nat.le_refl _, Nat.le_refl _⟩ rfl ?_
  refine y_istore_n (ls' := [(2, .int q6.1), (1, .int q3.1), (0, .ref a0)]) dX0_takeTurn_17 (by decide) rfl rfl ?_
  refine y_aload_n dX0_takeTurn_18 2 rfl ?_
  refine y_iload_n dX0_takeTurn_19 1 rfl ?_
  obtain ⟨u7, eu7, hE⟩ := Option.bind_eq_some_iff.mp hE
  obtain ⟨q8, eq8, hE⟩ := Option.bind_eq_some_iff.mp hE
  refine y_cVi0 (st := []) (as := [.int q3.1]) (c_X0_hasOne eq8) lk_X0_96 in_X0_hasOne se_X0_hasOne rfl eu7 ⟨Nat.le_of_ble_eq_true rfl, Nat.le_of_ble_eq_true rfl⟩ (Nat.le_of_ble_eq_true rfl) dX0_takeTurn_20 ⟨Nat.le_refl _, Nat.le_refl _⟩ rfl ?_
  refine y_if_eq (tgt := 34) dX0_takeTurn_23 (by decide) (fun hc22 => ?_) (fun hc22 => ?_)
  · rw [if_pos hc22] at hE
    obtain rfl := Option.some.inj hE
    exact y_ret dX0_takeTurn_34 (Nat.le_refl _) (Nat.le_refl _) rfl
  · rw [if_neg hc22] at hE
    refine y_aload_n dX0_takeTurn_26 2 rfl ?_
    refine y_iload_n dX0_takeTurn_27 0 rfl ?_
    obtain ⟨u9, eu9, hE⟩ := Option.bind_eq_some_iff.mp hE
    obtain ⟨q10, eq10, hE⟩ := Option.bind_eq_some_iff.mp hE
    refine y_cVi0 (st := []) (as := [.int q6.1]) (c_X0_hasDoor eq10) lk_X0_99 in_X0_hasDoor se_X0_hasDoor rfl eu9 ⟨Nat.le_of_ble_eq_true rfl, Nat.le_of_ble_eq_true rfl⟩ (Nat.le_of_ble_eq_true rfl) dX0_takeTurn_28 ⟨Nat.le_refl _, Nat.le_refl _⟩ rfl ?_
    refine y_if_ne (tgt := 35) dX0_takeTurn_31 (by decide) (fun hc21 => ?_) (fun hc21 => ?_)
    · rw [if_pos hc21] at hE
      obtain rfl := Option.some.inj hE
      exact y_ret dX0_takeTurn_34 (Nat.le_refl _) (Nat.le_refl _) rfl
    · rw [if_neg hc21] at hE
      refine y_aload_n dX0_takeTurn_35 2 rfl ?_
      refine y_iload_n dX0_takeTurn_36 1 rfl ?_
      refine y_iload_n dX0_takeTurn_37 0 rfl ?_
      obtain ⟨u11, eu11, hE⟩ := Option.bind_eq_some_iff.mp hE
      obtain ⟨q12, eq12, hE⟩ := Option.bind_eq_some_iff.mp hE
      refine y_cVi0 (st := []) (as := [.int q3.1, .int q6.1]) (c_X0_leastSet eq12) lk_X0_126 in_X0_leastSet se_X0_leastSet rfl eu11 ⟨Nat.le_of_ble_eq_true rfl, Nat.le_of_ble_eq_true rfl⟩ (Nat.le_of_ble_eq_true rfl) dX0_takeTurn_38 ⟨Nat.le_refl _, Nat.le_refl _⟩ rfl ?_
      refine y_istore_n (ls' := [(3, .int q12), (2, .int q6.1), (1, .int q3.1), (0, .ref a0)]) dX0_takeTurn_41 (by decide) rfl rfl ?_
      refine y_iload_n dX0_takeTurn_42 0 rfl ?_
      refine y_iconst (v := (-1 : Int32)) dX0_takeTurn_43 (by decide) ?_
      refine y_icmp_eq (tgt := 56) dX0_takeTurn_44 (by decide) (fun hc20 => ?_) (fun hc20 => ?_)
      · rw [if_pos hc20] at hE
        refine y_aload_n dX0_takeTurn_56 3 rfl ?_
        refine y_iload_n dX0_takeTurn_57 2 rfl ?_
        refine y_iload_n dX0_takeTurn_58 1 rfl ?_
        obtain ⟨u13, eu13, hE⟩ := Option.bind_eq_some_iff.mp hE
        obtain ⟨q14, eq14, hE⟩ := Option.bind_eq_some_iff.mp hE
        refine y_cVi0 (st := []) (as := [.int q3.1, .int q6.1]) (c_X0_mayWalk eq14) lk_X0_102 in_X0_mayWalk se_X0_mayWalk rfl eu13 ⟨Nat.le_of_ble_eq_true rfl, Nat.le_of_ble_eq_true rfl⟩ (Nat.le_of_ble_eq_true rfl) dX0_takeTurn_59 ⟨Nat.le_refl _, Nat.le_refl _⟩ rfl ?_
        refine y_if_eq (tgt := 71) dX0_takeTurn_62 (by decide) (fun hc17 => ?_) (fun hc17 => ?_)
        · rw [if_pos hc17] at hE
          obtain rfl := Option.some.inj hE
          exact y_ret dX0_takeTurn_71 (Nat.le_refl _) (Nat.le_refl _) rfl
        · rw [if_neg hc17] at hE
          refine y_aload_n dX0_takeTurn_65 3 rfl ?_
          refine y_iload_n dX0_takeTurn_66 2 rfl ?_
          refine y_iload_n dX0_takeTurn_67 1 rfl ?_
          obtain ⟨u15, eu15, hE⟩ := Option.bind_eq_some_iff.mp hE
          obtain ⟨q16, eq16, hE⟩ := Option.bind_eq_some_iff.mp hE
          refine y_cVv0 (st := []) (as := [.int q3.1, .int q6.1]) (c_X0_goThrough eq16) lk_X0_105 in_X0_goThrough se_X0_goThrough rfl eu15 ⟨Nat.le_of_ble_eq_true rfl, Nat.le_of_ble_eq_true rfl⟩ (Nat.le_of_ble_eq_true rfl) dX0_takeTurn_68 ⟨Nat.le_refl _, Nat.le_refl _⟩ rfl ?_
          obtain rfl := Option.some.inj hE
          exact y_ret dX0_takeTurn_71 (Nat.le_refl _) (Nat.le_refl _) rfl
      · rw [if_neg hc20] at hE
        refine y_aload_n dX0_takeTurn_47 3 rfl ?_
        refine y_iload_n dX0_takeTurn_48 1 rfl ?_
        refine y_iload_n dX0_takeTurn_49 0 rfl ?_
        obtain ⟨u18, eu18, hE⟩ := Option.bind_eq_some_iff.mp hE
        obtain ⟨q19, eq19, hE⟩ := Option.bind_eq_some_iff.mp hE
        refine y_cVv0 (st := []) (as := [.int q6.1, .int q12]) (c_X0_openFor eq19) lk_X0_116 in_X0_openFor se_X0_openFor rfl eu18 ⟨Nat.le_of_ble_eq_true rfl, Nat.le_of_ble_eq_true rfl⟩ (Nat.le_of_ble_eq_true rfl) dX0_takeTurn_50 ⟨Nat.le_refl _, Nat.le_refl _⟩ rfl ?_
        refine y_goto (tgt := 71) dX0_takeTurn_53 (by decide) ?_
        obtain rfl := Option.some.inj hE
        exact y_ret dX0_takeTurn_71 (Nat.le_refl _) (Nat.le_refl _) rfl
def f_X0_blow_L4 (v0 : Nat) : Nat → Int32 → Int32 → xH → Option (Int32 × xH)
  | 0, _, _, _ => none
  | k + 1, v1, v2, h =>
    (x_gI h v0 0 4).bind fun x1 =>
    if x1 ≤ v2 then
      some (v1, h)
    else
      (x_ob h v0 0).bind fun u2 =>
      (f_X0_isOpen h v0 v2).bind fun q3 =>
      if q3 = 0 then
        (x_ob h v0 0).bind fun u4 =>
        (f_X0_draw h v0 (100 : Int32)).bind fun q5 =>
        (x_gI q5.2 v0 0 8).bind fun x6 =>
        if x6 ≤ q5.1 then
          (some (v2 + (1 : Int32))).bind fun x7 =>
          f_X0_blow_L4 v0 k v1 x7 q5.2
        else
          (x_gI q5.2 v0 0 5).bind fun x8 =>
          (x_put q5.2 v0 0 5 (.int (x8 ||| (i_shl (1 : Int32) v2)))).bind fun h9 =>
          (some (v1 + (1 : Int32))).bind fun x10 =>
          (some (v2 + (1 : Int32))).bind fun x11 =>
          f_X0_blow_L4 v0 k x10 x11 h9
      else
        (some (v2 + (1 : Int32))).bind fun x13 =>
        f_X0_blow_L4 v0 k v1 x13 h
set_option maxRecDepth 100000 in
set_option maxHeartbeats 4000000 in
theorem l_X0_blow_4 {S : Nat × (Nat → Int32)} {rv : Option Value} {h0 h1 : xH} {mc ms : Nat} {cells slots : Nat} (hm : cells ≤ mc ∧ slots ≤ ms) (v0 : Nat) : ∀ (k : Nat) (v1 : Int32) (v2 : Int32) (h : xH) (res : Int32 × xH), f_X0_blow_L4 v0 k v1 v2 h = some res → (∀ r9, res = r9 → Y S M_X0_blow h0 rv h1 mc ms 54 [(1, .int r9.1)] [] r9.2 cells slots) → Y S M_X0_blow h0 rv h1 mc ms 4 [(0, .ref v0), (1, .int v1), (2, .int v2)] [] h cells slots := by
  intro k
  induction k with
  | zero =>
    intro _ _ _ _ hE
    cases hE
  | succ k ih =>
    intro v1 v2 h res hE K
    unfold f_X0_blow_L4 at hE
    refine y_iload_n dX0_blow_4 2 rfl ?_
    refine y_aload_n dX0_blow_5 0 rfl ?_
    obtain ⟨x1, ex1, hE⟩ := Option.bind_eq_some_iff.mp hE
    refine y_getI fl_X0_31 ex1 dX0_blow_6 ?_
    refine y_icmp_ge (tgt := 54) dX0_blow_9 (by decide) (fun hc15 => ?_) (fun hc15 => ?_)
    · rw [if_pos hc15] at hE
      obtain rfl := Option.some.inj hE
      exact y_pick [1] rfl (K _ rfl)
    · rw [if_neg hc15] at hE
      refine y_aload_n dX0_blow_12 0 rfl ?_
      refine y_iload_n dX0_blow_13 2 rfl ?_
      obtain ⟨u2, eu2, hE⟩ := Option.bind_eq_some_iff.mp hE
      obtain ⟨q3, eq3, hE⟩ := Option.bind_eq_some_iff.mp hE
      refine y_cVi0 (st := []) (as := [.int v2]) (c_X0_isOpen eq3) lk_X0_53 in_X0_isOpen se_X0_isOpen rfl eu2 ⟨Nat.le_of_ble_eq_true rfl, Nat.le_of_ble_eq_true rfl⟩ (Nat.le_of_ble_eq_true rfl) dX0_blow_14 hm rfl ?_
      refine y_if_ne (tgt := 48) dX0_blow_17 (by decide) (fun hc14 => ?_) (fun hc14 => ?_)
      · rw [if_pos hc14] at hE
        refine y_aload_n dX0_blow_20 0 rfl ?_
        refine y_bipush (v := (100 : Int32)) dX0_blow_21 (by decide) ?_
        obtain ⟨u4, eu4, hE⟩ := Option.bind_eq_some_iff.mp hE
        obtain ⟨q5, eq5, hE⟩ := Option.bind_eq_some_iff.mp hE
        refine y_cVi0 (st := []) (as := [.int (100 : Int32)]) (c_X0_draw eq5) lk_X0_123 in_X0_draw se_X0_draw rfl eu4 ⟨Nat.le_of_ble_eq_true rfl, Nat.le_of_ble_eq_true rfl⟩ (Nat.le_of_ble_eq_true rfl) dX0_blow_23 hm rfl ?_
        refine y_aload_n dX0_blow_26 0 rfl ?_
        obtain ⟨x6, ex6, hE⟩ := Option.bind_eq_some_iff.mp hE
        refine y_getI fl_X0_40 ex6 dX0_blow_27 ?_
        refine y_icmp_ge (tgt := 48) dX0_blow_30 (by decide) (fun hc12 => ?_) (fun hc12 => ?_)
        · rw [if_pos hc12] at hE
          obtain ⟨x7, ex7, hE⟩ := Option.bind_eq_some_iff.mp hE
          refine y_iinc (ls' := [(2, .int x7), (0, .ref v0), (1, .int v1)]) dX0_blow_48 2 rfl (Option.some.inj ex7) (by decide) rfl ?_
          refine y_goto (tgt := 4) dX0_blow_51 (by decide) ?_
          refine y_pick [1, 2, 0] rfl ?_
          exact ih _ _ _ _ hE K
        · rw [if_neg hc12] at hE
          refine y_aload_n dX0_blow_33 0 rfl ?_
          refine y_dup dX0_blow_34 rfl ?_
          obtain ⟨x8, ex8, hE⟩ := Option.bind_eq_some_iff.mp hE
          refine y_getI fl_X0_37 ex8 dX0_blow_35 ?_
          refine y_iconst (v := (1 : Int32)) dX0_blow_38 (by decide) ?_
          refine y_iload_n dX0_blow_39 2 rfl ?_
          refine y_ishl dX0_blow_40 ?_
          refine y_ior dX0_blow_41 ?_
          obtain ⟨h9, eh9, hE⟩ := Option.bind_eq_some_iff.mp hE
          refine y_putI fp_X0_37 eh9 dX0_blow_42 ?_
          obtain ⟨x10, ex10, hE⟩ := Option.bind_eq_some_iff.mp hE
          refine y_iinc (ls' := [(1, .int x10), (0, .ref v0), (2, .int v2)]) dX0_blow_45 1 rfl (Option.some.inj ex10) (by decide) rfl ?_
          obtain ⟨x11, ex11, hE⟩ := Option.bind_eq_some_iff.mp hE
          refine y_iinc (ls' := [(2, .int x11), (1, .int x10), (0, .ref v0)]) dX0_blow_48 2 rfl (Option.some.inj ex11) (by decide) rfl ?_
          refine y_goto (tgt := 4) dX0_blow_51 (by decide) ?_
          refine y_pick [2, 1, 0] rfl ?_
          exact ih _ _ _ _ hE K
      · rw [if_neg hc14] at hE
        obtain ⟨x13, ex13, hE⟩ := Option.bind_eq_some_iff.mp hE
        refine y_iinc (ls' := [(2, .int x13), (0, .ref v0), (1, .int v1)]) dX0_blow_48 2 rfl (Option.some.inj ex13) (by decide) rfl ?_
        refine y_goto (tgt := 4) dX0_blow_51 (by decide) ?_
        refine y_pick [1, 2, 0] rfl ?_
        exact ih _ _ _ _ hE K
def f_X0_blow (n : Nat) (h : xH) (a0 : Nat) : Option (Int32 × xH) :=
  (f_X0_blow_L4 a0 n (0 : Int32) (0 : Int32) h).bind fun q16 =>
  some (q16.1, q16.2)
set_option maxRecDepth 100000 in
set_option maxHeartbeats 4000000 in
theorem c_X0_blow {n : Nat} {h : xH} {a0 : Nat} {r9 : Int32} {hz : xH} (hE : f_X0_blow n h a0 = some (r9, hz)) : Ctr M_X0_blow [.ref a0] h (some (.int r9)) hz 0 0 := by
  refine ctr_of (by decide) (fun _ _ => Nat.le_of_ble_eq_true rfl) (fun S => ?_)
  show Y S M_X0_blow h (some (.int r9)) hz 0 0 0 [(0, .ref a0)] [] h 0 0
  unfold f_X0_blow at hE
  refine y_iconst (v := (0 : Int32)) dX0_blow_0 (by decide) ?_
  refine y_istore_n (ls' := [(1, .int (0 : Int32)), (0, .ref a0)]) dX0_blow_1 (by decide) rfl rfl ?_
  refine y_iconst (v := (0 : Int32)) dX0_blow_2 (by decide) ?_
  refine y_istore_n (ls' := [(2, .int (0 : Int32)), (1, .int (0 : Int32)), (0, .ref a0)]) dX0_blow_3 (by decide) rfl rfl ?_
  obtain ⟨q16, eq16, hE⟩ := Option.bind_eq_some_iff.mp hE
  refine y_pick [2, 1, 0] rfl ?_
  refine l_X0_blow_4 (S := S) ⟨Nat.le_refl _, Nat.le_refl _⟩ a0 n (0 : Int32) (0 : Int32) h _ eq16 (fun r8 hr8 => ?_)
  subst hr8
  refine y_iload_n dX0_blow_54 0 rfl ?_
  obtain ⟨rfl, rfl⟩ := x_inj2 hE
  exact y_ret dX0_blow_55 (Nat.le_refl _) (Nat.le_refl _) ⟨_, rfl, rfl⟩
def f_X1_init (h : xH) (a0 : Nat) : Option ((xH) × Nat × Nat) :=
  x_add 1 1344 <|
  (x_put (h ++ [.inl (.int, 1344, .inl (fun _ => 0))]) a0 1 0 (.ref (h.length + 16))).bind fun h3 =>
  some (h3, 0, 0)
set_option maxRecDepth 100000 in
set_option maxHeartbeats 4000000 in
theorem c_X1_init {h : xH} {a0 : Nat} {hz : xH} {c9 s9 : Nat} (hE : f_X1_init h a0 = some (hz, c9, s9)) : Ctr M_X1_init [.ref a0] h none hz c9 s9 := by
  refine ctr_of (by decide) (fun _ _ => Nat.le_of_ble_eq_true rfl) (fun S => ?_)
  show Y S M_X1_init h none hz c9 s9 0 [(0, .ref a0)] [] h 0 0
  unfold f_X1_init at hE
  refine y_aload_n dX1_init_0 0 rfl ?_
  refine y_objInit (x_wt (tb 213 (by decide +kernel)) rfl) (x_wt (tb 22 (by decide +kernel)) rfl) (x_wt (tb 23 (by decide +kernel)) rfl) (by decide) (Nat.le_of_ble_eq_true rfl) dX1_init_1 ?_
  refine y_aload_n dX1_init_4 0 rfl ?_
  refine y_sipush (v := (1344 : Int32)) dX1_init_5 (by decide) ?_
  obtain ⟨c1, s2, hN, ecc1, ess2⟩ := x_add.spec hE
  clear hE; have hE := hN; clear hN
  refine y_newI (N := 1344) (x_wt (tb 92 (by decide +kernel)) rfl) (by decide) (by decide) (by decide) ⟨by omega, by omega⟩ dX1_init_8 ?_
  obtain ⟨h3, eh3, hE⟩ := Option.bind_eq_some_iff.mp hE
  refine y_putR fp_X1_11 (fun q => by first | rfl | cases q) (fun _ => rfl) (fun _ => rfl) eh3 dX1_init_10 ?_
  obtain ⟨rfl, rfl, rfl⟩ := x_inj3 hE
  exact y_ret dX1_init_13 (by omega) (by omega) rfl
def f_X1_countDoors_L28 (v0 : Nat) (v1 : Nat) (v2 : Int32) : Nat → Int32 → xH → Option (xH)
  | 0, _, _ => none
  | k + 1, v4, h =>
    (x_gI h v1 0 4).bind fun x6 =>
    if x6 ≤ v4 then
      some h
    else
      (some ((i_shr v2 v4) &&& (1 : Int32))).bind fun x7 =>
      (x_gR h v1 0 0).bind fun a8 =>
      (x_ld h a8 v4).bind fun x9 =>
      if x9 = (5 : Int32) then
        (x_gI h v0 1 4).bind fun x10 =>
        (x_put h v0 1 4 (.int (x10 + ((1 : Int32) - x7)))).bind fun h11 =>
        (some (v4 + (1 : Int32))).bind fun x12 =>
        f_X1_countDoors_L28 v0 v1 v2 k x12 h11
      else
        (x_gR h v1 0 0).bind fun a13 =>
        (x_ld h a13 v4).bind fun x14 =>
        if x14 = (4 : Int32) then
          (x_gI h v0 1 4).bind fun x15 =>
          (x_put h v0 1 4 (.int (x15 + ((1 : Int32) - x7)))).bind fun h16 =>
          (some (v4 + (1 : Int32))).bind fun x17 =>
          f_X1_countDoors_L28 v0 v1 v2 k x17 h16
        else
          (x_gR h v1 0 0).bind fun a18 =>
          (x_ld h a18 v4).bind fun x19 =>
          if x19 = (2 : Int32) then
            (x_gI h v0 1 3).bind fun x20 =>
            (x_put h v0 1 3 (.int (x20 + (1 : Int32)))).bind fun h21 =>
            (x_gI h21 v0 1 6).bind fun x22 =>
            (x_put h21 v0 1 6 (.int (x22 + x7))).bind fun h23 =>
            (some (v4 + (1 : Int32))).bind fun x24 =>
            f_X1_countDoors_L28 v0 v1 v2 k x24 h23
          else
            (x_gI h v0 1 2).bind fun x25 =>
            (x_put h v0 1 2 (.int (x25 + (1 : Int32)))).bind fun h26 =>
            (x_gI h26 v0 1 5).bind fun x27 =>
            (x_put h26 v0 1 5 (.int (x27 + x7))).bind fun h28 =>
            (some (v4 + (1 : Int32))).bind fun x29 =>
            f_X1_countDoors_L28 v0 v1 v2 k x29 h28
set_option maxRecDepth 100000 in
set_option maxHeartbeats 4000000 in
theorem l_X1_countDoors_28 {S : Nat × (Nat → Int32)} {rv : Option Value} {h0 h1 : xH} {mc ms : Nat} {cells slots : Nat} (hm : cells ≤ mc ∧ slots ≤ ms) (v0 : Nat) (v1 : Nat) (v2 : Int32) : ∀ (k : Nat) (v4 : Int32) (h : xH) (res : xH), f_X1_countDoors_L28 v0 v1 v2 k v4 h = some res → (∀ r9, res = r9 → Y S M_X1_countDoors h0 rv h1 mc ms 145 [] [] r9 cells slots) → Y S M_X1_countDoors h0 rv h1 mc ms 28 [(0, .ref v0), (1, .ref v1), (2, .int v2), (4, .int v4)] [] h cells slots := by
  intro k
  induction k with
  | zero =>
    intro _ _ _ hE
    cases hE
  | succ k ih =>
    intro v4 h res hE K
    unfold f_X1_countDoors_L28 at hE
    refine y_iload dX1_countDoors_28 3 rfl ?_
    refine y_aload_n dX1_countDoors_30 1 rfl ?_
    obtain ⟨x6, ex6, hE⟩ := Option.bind_eq_some_iff.mp hE
    refine y_getI fl_X1_50 ex6 dX1_countDoors_31 ?_
    refine y_icmp_ge (tgt := 145) dX1_countDoors_34 (by decide) (fun hc33 => ?_) (fun hc33 => ?_)
    · rw [if_pos hc33] at hE
      obtain rfl := Option.some.inj hE
      exact y_pick [] rfl (K _ rfl)
    · rw [if_neg hc33] at hE
      refine y_iload_n dX1_countDoors_37 2 rfl ?_
      refine y_iload dX1_countDoors_38 3 rfl ?_
      refine y_ishr dX1_countDoors_40 ?_
      refine y_iconst (v := (1 : Int32)) dX1_countDoors_41 (by decide) ?_
      refine y_iand dX1_countDoors_42 ?_
      obtain ⟨x7, ex7, hE⟩ := Option.bind_eq_some_iff.mp hE
      refine y_istore (ls' := [(5, .int x7), (0, .ref v0), (1, .ref v1), (2, .int v2), (4, .int v4)]) dX1_countDoors_43 (by decide) (Option.some.inj ex7) rfl ?_
      refine y_aload_n dX1_countDoors_45 2 rfl ?_
      obtain ⟨a8, ea8, hE⟩ := Option.bind_eq_some_iff.mp hE
      refine y_getR fl_X1_55 ea8 dX1_countDoors_46 ?_
      refine y_iload dX1_countDoors_49 4 rfl ?_
      obtain ⟨x9, ex9, hE⟩ := Option.bind_eq_some_iff.mp hE
      refine y_iald ex9 dX1_countDoors_51 ?_
      refine y_iconst (v := (5 : Int32)) dX1_countDoors_52 (by decide) ?_
      refine y_icmp_eq (tgt := 67) dX1_countDoors_53 (by decide) (fun hc32 => ?_) (fun hc32 => ?_)
      · rw [if_pos hc32] at hE
        refine y_aload_n dX1_countDoors_67 1 rfl ?_
        refine y_dup dX1_countDoors_68 rfl ?_
        obtain ⟨x10, ex10, hE⟩ := Option.bind_eq_some_iff.mp hE
        refine y_getI fl_X1_36 ex10 dX1_countDoors_69 ?_
        refine y_iconst (v := (1 : Int32)) dX1_countDoors_72 (by decide) ?_
        refine y_iload dX1_countDoors_73 0 rfl ?_
        refine y_isub dX1_countDoors_75 ?_
        refine y_iadd dX1_countDoors_76 ?_
        obtain ⟨h11, eh11, hE⟩ := Option.bind_eq_some_iff.mp hE
        refine y_putI fp_X1_36 eh11 dX1_countDoors_77 ?_
        refine y_goto (tgt := 139) dX1_countDoors_80 (by decide) ?_
        obtain ⟨x12, ex12, hE⟩ := Option.bind_eq_some_iff.mp hE
        refine y_iinc (ls' := [(4, .int x12), (5, .int x7), (0, .ref v0), (1, .ref v1), (2, .int v2)]) dX1_countDoors_139 4 rfl (Option.some.inj ex12) (by decide) rfl ?_
        refine y_goto (tgt := 28) dX1_countDoors_142 (by decide) ?_
        refine y_pick [2, 3, 4, 0] rfl ?_
        exact ih _ _ _ hE K
      · rw [if_neg hc32] at hE
        refine y_aload_n dX1_countDoors_56 2 rfl ?_
        obtain ⟨a13, ea13, hE⟩ := Option.bind_eq_some_iff.mp hE
        refine y_getR fl_X1_55 ea13 dX1_countDoors_57 ?_
        refine y_iload dX1_countDoors_60 4 rfl ?_
        obtain ⟨x14, ex14, hE⟩ := Option.bind_eq_some_iff.mp hE
        refine y_iald ex14 dX1_countDoors_62 ?_
        refine y_iconst (v := (4 : Int32)) dX1_countDoors_63 (by decide) ?_
        refine y_icmp_ne (tgt := 83) dX1_countDoors_64 (by decide) (fun hc31 => ?_) (fun hc31 => ?_)
        · rw [if_pos hc31] at hE
          refine y_aload_n dX1_countDoors_67 1 rfl ?_
          refine y_dup dX1_countDoors_68 rfl ?_
          obtain ⟨x15, ex15, hE⟩ := Option.bind_eq_some_iff.mp hE
          refine y_getI fl_X1_36 ex15 dX1_countDoors_69 ?_
          refine y_iconst (v := (1 : Int32)) dX1_countDoors_72 (by decide) ?_
          refine y_iload dX1_countDoors_73 0 rfl ?_
          refine y_isub dX1_countDoors_75 ?_
          refine y_iadd dX1_countDoors_76 ?_
          obtain ⟨h16, eh16, hE⟩ := Option.bind_eq_some_iff.mp hE
          refine y_putI fp_X1_36 eh16 dX1_countDoors_77 ?_
          refine y_goto (tgt := 139) dX1_countDoors_80 (by decide) ?_
          obtain ⟨x17, ex17, hE⟩ := Option.bind_eq_some_iff.mp hE
          refine y_iinc (ls' := [(4, .int x17), (5, .int x7), (0, .ref v0), (1, .ref v1), (2, .int v2)]) dX1_countDoors_139 4 rfl (Option.some.inj ex17) (by decide) rfl ?_
          refine y_goto (tgt := 28) dX1_countDoors_142 (by decide) ?_
          refine y_pick [2, 3, 4, 0] rfl ?_
          exact ih _ _ _ hE K
        · rw [if_neg hc31] at hE
          refine y_aload_n dX1_countDoors_83 2 rfl ?_
          obtain ⟨a18, ea18, hE⟩ := Option.bind_eq_some_iff.mp hE
          refine y_getR fl_X1_55 ea18 dX1_countDoors_84 ?_
          refine y_iload dX1_countDoors_87 4 rfl ?_
          obtain ⟨x19, ex19, hE⟩ := Option.bind_eq_some_iff.mp hE
          refine y_iald ex19 dX1_countDoors_89 ?_
          refine y_iconst (v := (2 : Int32)) dX1_countDoors_90 (by decide) ?_
          refine y_icmp_ne (tgt := 118) dX1_countDoors_91 (by decide) (fun hc30 => ?_) (fun hc30 => ?_)
          · rw [if_pos hc30] at hE
            refine y_aload_n dX1_countDoors_94 1 rfl ?_
            refine y_dup dX1_countDoors_95 rfl ?_
            obtain ⟨x20, ex20, hE⟩ := Option.bind_eq_some_iff.mp hE
            refine y_getI fl_X1_39 ex20 dX1_countDoors_96 ?_
            refine y_iconst (v := (1 : Int32)) dX1_countDoors_99 (by decide) ?_
            refine y_iadd dX1_countDoors_100 ?_
            obtain ⟨h21, eh21, hE⟩ := Option.bind_eq_some_iff.mp hE
            refine y_putI fp_X1_39 eh21 dX1_countDoors_101 ?_
            refine y_aload_n dX1_countDoors_104 1 rfl ?_
            refine y_dup dX1_countDoors_105 rfl ?_
            obtain ⟨x22, ex22, hE⟩ := Option.bind_eq_some_iff.mp hE
            refine y_getI fl_X1_26 ex22 dX1_countDoors_106 ?_
            refine y_iload dX1_countDoors_109 0 rfl ?_
            refine y_iadd dX1_countDoors_111 ?_
            obtain ⟨h23, eh23, hE⟩ := Option.bind_eq_some_iff.mp hE
            refine y_putI fp_X1_26 eh23 dX1_countDoors_112 ?_
            refine y_goto (tgt := 139) dX1_countDoors_115 (by decide) ?_
            obtain ⟨x24, ex24, hE⟩ := Option.bind_eq_some_iff.mp hE
            refine y_iinc (ls' := [(4, .int x24), (5, .int x7), (0, .ref v0), (1, .ref v1), (2, .int v2)]) dX1_countDoors_139 4 rfl (Option.some.inj ex24) (by decide) rfl ?_
            refine y_goto (tgt := 28) dX1_countDoors_142 (by decide) ?_
            refine y_pick [2, 3, 4, 0] rfl ?_
            exact ih _ _ _ hE K
          · rw [if_neg hc30] at hE
            refine y_aload_n dX1_countDoors_118 1 rfl ?_
            refine y_dup dX1_countDoors_119 rfl ?_
            obtain ⟨x25, ex25, hE⟩ := Option.bind_eq_some_iff.mp hE
            refine y_getI fl_X1_33 ex25 dX1_countDoors_120 ?_
            refine y_iconst (v := (1 : Int32)) dX1_countDoors_123 (by decide) ?_
            refine y_iadd dX1_countDoors_124 ?_
            obtain ⟨h26, eh26, hE⟩ := Option.bind_eq_some_iff.mp hE
            refine y_putI fp_X1_33 eh26 dX1_countDoors_125 ?_
            refine y_aload_n dX1_countDoors_128 1 rfl ?_
            refine y_dup dX1_countDoors_129 rfl ?_
            obtain ⟨x27, ex27, hE⟩ := Option.bind_eq_some_iff.mp hE
            refine y_getI fl_X1_23 ex27 dX1_countDoors_130 ?_
            refine y_iload dX1_countDoors_133 0 rfl ?_
            refine y_iadd dX1_countDoors_135 ?_
            obtain ⟨h28, eh28, hE⟩ := Option.bind_eq_some_iff.mp hE
            refine y_putI fp_X1_23 eh28 dX1_countDoors_136 ?_
            obtain ⟨x29, ex29, hE⟩ := Option.bind_eq_some_iff.mp hE
            refine y_iinc (ls' := [(4, .int x29), (5, .int x7), (0, .ref v0), (1, .ref v1), (2, .int v2)]) dX1_countDoors_139 4 rfl (Option.some.inj ex29) (by decide) rfl ?_
            refine y_goto (tgt := 28) dX1_countDoors_142 (by decide) ?_
            refine y_pick [2, 3, 4, 0] rfl ?_
            exact ih _ _ _ hE K
def f_X1_countDoors (n : Nat) (h : xH) (a0 : Nat) (o1 : Nat) (p2 : Int32) (p3 : Int32) : Option (xH) :=
  (x_put h a0 1 2 (.int p3)).bind fun h1 =>
  (x_put h1 a0 1 5 (.int p3)).bind fun h2 =>
  (x_put h2 a0 1 3 (.int (0 : Int32))).bind fun h3 =>
  (x_put h3 a0 1 6 (.int (0 : Int32))).bind fun h4 =>
  (x_put h4 a0 1 4 (.int (0 : Int32))).bind fun h5 =>
  (f_X1_countDoors_L28 a0 o1 p2 n (0 : Int32) h5).bind fun q34 =>
  some q34
set_option maxRecDepth 100000 in
set_option maxHeartbeats 4000000 in
theorem c_X1_countDoors {n : Nat} {h : xH} {a0 : Nat} {o1 : Nat} {p2 : Int32} {p3 : Int32} {hz : xH} (hE : f_X1_countDoors n h a0 o1 p2 p3 = some hz) : Ctr M_X1_countDoors [.ref a0, .ref o1, .int p2, .int p3] h none hz 0 0 := by
  refine ctr_of (by decide) (fun _ _ => Nat.le_of_ble_eq_true rfl) (fun S => ?_)
  show Y S M_X1_countDoors h none hz 0 0 0 [(0, .ref a0), (1, .ref o1), (2, .int p2), (3, .int p3)] [] h 0 0
  unfold f_X1_countDoors at hE
  refine y_aload_n dX1_countDoors_0 0 rfl ?_
  refine y_iload_n dX1_countDoors_1 3 rfl ?_
  obtain ⟨h1, eh1, hE⟩ := Option.bind_eq_some_iff.mp hE
  refine y_putI fp_X1_33 eh1 dX1_countDoors_2 ?_
  refine y_aload_n dX1_countDoors_5 0 rfl ?_
  refine y_iload_n dX1_countDoors_6 3 rfl ?_
  obtain ⟨h2, eh2, hE⟩ := Option.bind_eq_some_iff.mp hE
  refine y_putI fp_X1_23 eh2 dX1_countDoors_7 ?_
  refine y_aload_n dX1_countDoors_10 0 rfl ?_
  refine y_iconst (v := (0 : Int32)) dX1_countDoors_11 (by decide) ?_
  obtain ⟨h3, eh3, hE⟩ := Option.bind_eq_some_iff.mp hE
  refine y_putI fp_X1_39 eh3 dX1_countDoors_12 ?_
  refine y_aload_n dX1_countDoors_15 0 rfl ?_
  refine y_iconst (v := (0 : Int32)) dX1_countDoors_16 (by decide) ?_
  obtain ⟨h4, eh4, hE⟩ := Option.bind_eq_some_iff.mp hE
  refine y_putI fp_X1_26 eh4 dX1_countDoors_17 ?_
  refine y_aload_n dX1_countDoors_20 0 rfl ?_
  refine y_iconst (v := (0 : Int32)) dX1_countDoors_21 (by decide) ?_
  obtain ⟨h5, eh5, hE⟩ := Option.bind_eq_some_iff.mp hE
  refine y_putI fp_X1_36 eh5 dX1_countDoors_22 ?_
  refine y_iconst (v := (0 : Int32)) dX1_countDoors_25 (by decide) ?_
  refine y_istore (ls' := [(4, .int (0 : Int32)), (0, .ref a0), (1, .ref o1), (2, .int p2), (3, .int p3)]) dX1_countDoors_26 (by decide) rfl rfl ?_
  obtain ⟨q34, eq34, hE⟩ := Option.bind_eq_some_iff.mp hE
  refine y_pick [1, 2, 3, 0] rfl ?_
  refine l_X1_countDoors_28 (S := S) ⟨Nat.le_refl _, Nat.le_refl _⟩ a0 o1 p2 n (0 : Int32) h5 _ eq34 (fun r8 hr8 => ?_)
  subst hr8
  obtain rfl := Option.some.inj hE
  exact y_ret dX1_countDoors_145 (Nat.le_refl _) (Nat.le_refl _) rfl
def f_X1_changesForever (h : xH) (a0 : Nat) (p1 : Int32) (p2 : Int32) : Option (Int32) :=
  (x_gI h a0 1 1).bind fun x1 =>
  if x1 = (1 : Int32) then
    if (p1 + p2) ≤ 0 then
      some (0 : Int32)
    else
      (x_gI h a0 1 2).bind fun x2 =>
      (x_gI h a0 1 3).bind fun x3 =>
      if (x2 + x3) ≤ (p1 + p2) then
        some (0 : Int32)
      else
        some (1 : Int32)
  else
    (x_gI h a0 1 1).bind fun x6 =>
    if x6 = (2 : Int32) then
      if p2 ≤ 0 then
        some (0 : Int32)
      else
        (x_gI h a0 1 3).bind fun x7 =>
        if x7 ≤ p2 then
          some (0 : Int32)
        else
          some (1 : Int32)
    else
      some (0 : Int32)
set_option maxRecDepth 100000 in
set_option maxHeartbeats 4000000 in
theorem c_X1_changesForever {h : xH} {a0 : Nat} {p1 : Int32} {p2 : Int32} {r9 : Int32} (hE : f_X1_changesForever h a0 p1 p2 = some r9) : Ctr M_X1_changesForever [.ref a0, .int p1, .int p2] h (some (.int r9)) h 0 0 := by
  refine ctr_of (by decide) (fun _ _ => Nat.le_of_ble_eq_true rfl) (fun S => ?_)
  show Y S M_X1_changesForever h (some (.int r9)) h 0 0 0 [(0, .ref a0), (1, .int p1), (2, .int p2)] [] h 0 0
  unfold f_X1_changesForever at hE
  refine y_aload_n dX1_changesForever_0 0 rfl ?_
  obtain ⟨x1, ex1, hE⟩ := Option.bind_eq_some_iff.mp hE
  refine y_getI fl_X1_15 ex1 dX1_changesForever_1 ?_
  refine y_iconst (v := (1 : Int32)) dX1_changesForever_4 (by decide) ?_
  refine y_icmp_ne (tgt := 35) dX1_changesForever_5 (by decide) (fun hc11 => ?_) (fun hc11 => ?_)
  · rw [if_pos hc11] at hE
    refine y_iload_n dX1_changesForever_8 1 rfl ?_
    refine y_iload_n dX1_changesForever_9 2 rfl ?_
    refine y_iadd dX1_changesForever_10 ?_
    refine y_if_le (tgt := 33) dX1_changesForever_11 (by decide) (fun hc5 => ?_) (fun hc5 => ?_)
    · rw [if_pos hc5] at hE
      refine y_iconst (v := (0 : Int32)) dX1_changesForever_33 (by decide) ?_
      obtain rfl := Option.some.inj hE
      exact y_ret dX1_changesForever_34 (Nat.le_refl _) (Nat.le_refl _) ⟨_, rfl, rfl⟩
    · rw [if_neg hc5] at hE
      refine y_iload_n dX1_changesForever_14 1 rfl ?_
      refine y_iload_n dX1_changesForever_15 2 rfl ?_
      refine y_iadd dX1_changesForever_16 ?_
      refine y_aload_n dX1_changesForever_17 0 rfl ?_
      obtain ⟨x2, ex2, hE⟩ := Option.bind_eq_some_iff.mp hE
      refine y_getI fl_X1_33 ex2 dX1_changesForever_18 ?_
      refine y_aload_n dX1_changesForever_21 0 rfl ?_
      obtain ⟨x3, ex3, hE⟩ := Option.bind_eq_some_iff.mp hE
      refine y_getI fl_X1_39 ex3 dX1_changesForever_22 ?_
      refine y_iadd dX1_changesForever_25 ?_
      refine y_icmp_ge (tgt := 33) dX1_changesForever_26 (by decide) (fun hc4 => ?_) (fun hc4 => ?_)
      · rw [if_pos hc4] at hE
        refine y_iconst (v := (0 : Int32)) dX1_changesForever_33 (by decide) ?_
        obtain rfl := Option.some.inj hE
        exact y_ret dX1_changesForever_34 (Nat.le_refl _) (Nat.le_refl _) ⟨_, rfl, rfl⟩
      · rw [if_neg hc4] at hE
        refine y_iconst (v := (1 : Int32)) dX1_changesForever_29 (by decide) ?_
        refine y_goto (tgt := 34) dX1_changesForever_30 (by decide) ?_
        obtain rfl := Option.some.inj hE
        exact y_ret dX1_changesForever_34 (Nat.le_refl _) (Nat.le_refl _) ⟨_, rfl, rfl⟩
  · rw [if_neg hc11] at hE
    refine y_aload_n dX1_changesForever_35 0 rfl ?_
    obtain ⟨x6, ex6, hE⟩ := Option.bind_eq_some_iff.mp hE
    refine y_getI fl_X1_15 ex6 dX1_changesForever_36 ?_
    refine y_iconst (v := (2 : Int32)) dX1_changesForever_39 (by decide) ?_
    refine y_icmp_ne (tgt := 59) dX1_changesForever_40 (by decide) (fun hc10 => ?_) (fun hc10 => ?_)
    · rw [if_pos hc10] at hE
      refine y_iload_n dX1_changesForever_43 2 rfl ?_
      refine y_if_le (tgt := 59) dX1_changesForever_44 (by decide) (fun hc9 => ?_) (fun hc9 => ?_)
      · rw [if_pos hc9] at hE
        refine y_iconst (v := (0 : Int32)) dX1_changesForever_59 (by decide) ?_
        obtain rfl := Option.some.inj hE
        exact y_ret dX1_changesForever_60 (Nat.le_refl _) (Nat.le_refl _) ⟨_, rfl, rfl⟩
      · rw [if_neg hc9] at hE
        refine y_iload_n dX1_changesForever_47 2 rfl ?_
        refine y_aload_n dX1_changesForever_48 0 rfl ?_
        obtain ⟨x7, ex7, hE⟩ := Option.bind_eq_some_iff.mp hE
        refine y_getI fl_X1_39 ex7 dX1_changesForever_49 ?_
        refine y_icmp_ge (tgt := 59) dX1_changesForever_52 (by decide) (fun hc8 => ?_) (fun hc8 => ?_)
        · rw [if_pos hc8] at hE
          refine y_iconst (v := (0 : Int32)) dX1_changesForever_59 (by decide) ?_
          obtain rfl := Option.some.inj hE
          exact y_ret dX1_changesForever_60 (Nat.le_refl _) (Nat.le_refl _) ⟨_, rfl, rfl⟩
        · rw [if_neg hc8] at hE
          refine y_iconst (v := (1 : Int32)) dX1_changesForever_55 (by decide) ?_
          refine y_goto (tgt := 60) dX1_changesForever_56 (by decide) ?_
          obtain rfl := Option.some.inj hE
          exact y_ret dX1_changesForever_60 (Nat.le_refl _) (Nat.le_refl _) ⟨_, rfl, rfl⟩
    · rw [if_neg hc10] at hE
      refine y_iconst (v := (0 : Int32)) dX1_changesForever_59 (by decide) ?_
      obtain rfl := Option.some.inj hE
      exact y_ret dX1_changesForever_60 (Nat.le_refl _) (Nat.le_refl _) ⟨_, rfl, rfl⟩
def f_X1_placeOf (h : xH) (a0 : Nat) (p1 : Int32) (p2 : Int32) (p3 : Int32) : Option (Int32) :=
  (x_gI h a0 1 2).bind fun x1 =>
  (x_gI h a0 1 4).bind fun x2 =>
  some ((((p2 * (x1 + (1 : Int32))) + p1) * (x2 + (1 : Int32))) + p3)
set_option maxRecDepth 100000 in
set_option maxHeartbeats 4000000 in
theorem c_X1_placeOf {h : xH} {a0 : Nat} {p1 : Int32} {p2 : Int32} {p3 : Int32} {r9 : Int32} (hE : f_X1_placeOf h a0 p1 p2 p3 = some r9) : Ctr M_X1_placeOf [.ref a0, .int p1, .int p2, .int p3] h (some (.int r9)) h 0 0 := by
  refine ctr_of (by decide) (fun _ _ => Nat.le_of_ble_eq_true rfl) (fun S => ?_)
  show Y S M_X1_placeOf h (some (.int r9)) h 0 0 0 [(0, .ref a0), (1, .int p1), (2, .int p2), (3, .int p3)] [] h 0 0
  unfold f_X1_placeOf at hE
  refine y_iload_n dX1_placeOf_0 2 rfl ?_
  refine y_aload_n dX1_placeOf_1 0 rfl ?_
  obtain ⟨x1, ex1, hE⟩ := Option.bind_eq_some_iff.mp hE
  refine y_getI fl_X1_33 ex1 dX1_placeOf_2 ?_
  refine y_iconst (v := (1 : Int32)) dX1_placeOf_5 (by decide) ?_
  refine y_iadd dX1_placeOf_6 ?_
  refine y_imul dX1_placeOf_7 ?_
  refine y_iload_n dX1_placeOf_8 1 rfl ?_
  refine y_iadd dX1_placeOf_9 ?_
  refine y_aload_n dX1_placeOf_10 0 rfl ?_
  obtain ⟨x2, ex2, hE⟩ := Option.bind_eq_some_iff.mp hE
  refine y_getI fl_X1_36 ex2 dX1_placeOf_11 ?_
  refine y_iconst (v := (1 : Int32)) dX1_placeOf_14 (by decide) ?_
  refine y_iadd dX1_placeOf_15 ?_
  refine y_imul dX1_placeOf_16 ?_
  refine y_iload_n dX1_placeOf_17 3 rfl ?_
  refine y_iadd dX1_placeOf_18 ?_
  obtain rfl := Option.some.inj hE
  exact y_ret dX1_placeOf_19 (Nat.le_refl _) (Nat.le_refl _) ⟨_, rfl, rfl⟩
def f_X1_noted (h : xH) (a0 : Nat) (p1 : Int32) (p2 : Int32) (p3 : Int32) : Option (Int32) :=
  (x_ob h a0 1).bind fun u1 =>
  (f_X1_placeOf h a0 p1 p2 p3).bind fun q2 =>
  if q2 < 0 then
    some (0 : Int32)
  else
    if (1344 : Int32) ≤ q2 then
      some (0 : Int32)
    else
      (x_gR h a0 1 0).bind fun a3 =>
      (x_ld h a3 q2).bind fun x4 =>
      some x4
set_option maxRecDepth 100000 in
set_option maxHeartbeats 4000000 in
theorem c_X1_noted {h : xH} {a0 : Nat} {p1 : Int32} {p2 : Int32} {p3 : Int32} {r9 : Int32} (hE : f_X1_noted h a0 p1 p2 p3 = some r9) : Ctr M_X1_noted [.ref a0, .int p1, .int p2, .int p3] h (some (.int r9)) h 0 0 := by
  refine ctr_of (by decide) (fun _ _ => Nat.le_of_ble_eq_true rfl) (fun S => ?_)
  show Y S M_X1_noted h (some (.int r9)) h 0 0 0 [(0, .ref a0), (1, .int p1), (2, .int p2), (3, .int p3)] [] h 0 0
  unfold f_X1_noted at hE
  refine y_aload_n dX1_noted_0 0 rfl ?_
  refine y_iload_n dX1_noted_1 1 rfl ?_
  refine y_iload_n dX1_noted_2 2 rfl ?_
  refine y_iload_n dX1_noted_3 3 rfl ?_
  obtain ⟨u1, eu1, hE⟩ := Option.bind_eq_some_iff.mp hE
  obtain ⟨q2, eq2, hE⟩ := Option.bind_eq_some_iff.mp hE
  refine y_cVi0 (st := []) (as := [.int p1, .int p2, .int p3]) (c_X1_placeOf eq2) lk_X1_58 in_X1_placeOf se_X1_placeOf rfl eu1 ⟨Nat.le_of_ble_eq_true rfl, Nat.le_of_ble_eq_true rfl⟩ (Nat.le_of_ble_eq_true rfl) dX1_noted_4 ⟨Nat.le_refl _, Nat.le_refl _⟩ rfl ?_
  refine y_istore (ls' := [(4, .int q2), (0, .ref a0), (1, .int p1), (2, .int p2), (3, .int p3)]) dX1_noted_7 (by decide) rfl rfl ?_
  refine y_iload dX1_noted_9 0 rfl ?_
  refine y_if_lt (tgt := 32) dX1_noted_11 (by decide) (fun hc6 => ?_) (fun hc6 => ?_)
  · rw [if_pos hc6] at hE
    refine y_iconst (v := (0 : Int32)) dX1_noted_32 (by decide) ?_
    obtain rfl := Option.some.inj hE
    exact y_ret dX1_noted_33 (Nat.le_refl _) (Nat.le_refl _) ⟨_, rfl, rfl⟩
  · rw [if_neg hc6] at hE
    refine y_iload dX1_noted_14 0 rfl ?_
    refine y_sipush (v := (1344 : Int32)) dX1_noted_16 (by decide) ?_
    refine y_icmp_ge (tgt := 32) dX1_noted_19 (by decide) (fun hc5 => ?_) (fun hc5 => ?_)
    · rw [if_pos hc5] at hE
      refine y_iconst (v := (0 : Int32)) dX1_noted_32 (by decide) ?_
      obtain rfl := Option.some.inj hE
      exact y_ret dX1_noted_33 (Nat.le_refl _) (Nat.le_refl _) ⟨_, rfl, rfl⟩
    · rw [if_neg hc5] at hE
      refine y_aload_n dX1_noted_22 1 rfl ?_
      obtain ⟨a3, ea3, hE⟩ := Option.bind_eq_some_iff.mp hE
      refine y_getR fl_X1_11 ea3 dX1_noted_23 ?_
      refine y_iload dX1_noted_26 0 rfl ?_
      obtain ⟨x4, ex4, hE⟩ := Option.bind_eq_some_iff.mp hE
      refine y_iald ex4 dX1_noted_28 ?_
      refine y_goto (tgt := 33) dX1_noted_29 (by decide) ?_
      obtain rfl := Option.some.inj hE
      exact y_ret dX1_noted_33 (Nat.le_refl _) (Nat.le_refl _) ⟨_, rfl, rfl⟩
def f_X1_mostFrom_L6 (h : xH) (v0 : Nat) (v1 : Int32) (v2 : Int32) (v3 : Int32) : Nat → Int32 → Int32 → Option (Int32)
  | 0, _, _ => none
  | k + 1, v4, v5 =>
    (x_gI h v0 1 1).bind fun x1 =>
    if (x1 + (1 : Int32)) < ((2 : Int32) * v5) then
      some v4
    else
      if v2 < v5 then
        some v4
      else
        (x_gI h v0 1 1).bind fun x2 =>
        (f_X6_singlesBeside h x2 v5).bind fun q3 =>
        (some (v1 - q3)).bind fun x4 =>
        (some (v2 - v5)).bind fun x5 =>
        if x4 < 0 then
          (some (v5 + (1 : Int32))).bind fun x6 =>
          f_X1_mostFrom_L6 h v0 v1 v2 v3 k v4 x6
        else
          (x_gI h v0 1 2).bind fun x7 =>
          (
            if x7 ≤ v1 then
              some v4
            else
              (x_ob h v0 1).bind fun u9 =>
              (f_X1_noted h v0 (x4 + (1 : Int32)) x5 v3).bind fun q10 =>
              (some (x_max v4 ((1 : Int32) + q10))).bind fun x11 =>
              some x11
          ).bind fun q8 =>
          (x_gI h v0 1 3).bind fun x13 =>
          (
            if x13 ≤ v2 then
              some q8
            else
              (x_ob h v0 1).bind fun u15 =>
              (f_X1_noted h v0 x4 (x5 + (1 : Int32)) v3).bind fun q16 =>
              (some (x_max q8 ((1 : Int32) + q16))).bind fun x17 =>
              some x17
          ).bind fun q14 =>
          if v3 ≤ 0 then
            (some (v5 + (1 : Int32))).bind fun x19 =>
            f_X1_mostFrom_L6 h v0 v1 v2 v3 k q14 x19
          else
            (x_ob h v0 1).bind fun u20 =>
            (f_X1_noted h v0 x4 x5 (v3 - (1 : Int32))).bind fun q21 =>
            (some (x_max q14 ((1 : Int32) + q21))).bind fun x22 =>
            (some (v5 + (1 : Int32))).bind fun x23 =>
            f_X1_mostFrom_L6 h v0 v1 v2 v3 k x22 x23
set_option maxRecDepth 100000 in
set_option maxHeartbeats 4000000 in
theorem l_X1_mostFrom_6 {S : Nat × (Nat → Int32)} {rv : Option Value} {h0 h1 : xH} {mc ms : Nat} {cells slots : Nat} (hm : cells ≤ mc ∧ slots ≤ ms) (h : xH) (v0 : Nat) (v1 : Int32) (v2 : Int32) (v3 : Int32) : ∀ (k : Nat) (v4 : Int32) (v5 : Int32) (res : Int32), f_X1_mostFrom_L6 h v0 v1 v2 v3 k v4 v5 = some res → (∀ r9, res = r9 → Y S M_X1_mostFrom h0 rv h1 mc ms 135 [(4, .int r9)] [] h cells slots) → Y S M_X1_mostFrom h0 rv h1 mc ms 6 [(0, .ref v0), (1, .int v1), (2, .int v2), (3, .int v3), (4, .int v4), (5, .int v5)] [] h cells slots := by
  intro k
  induction k with
  | zero =>
    intro _ _ _ hE
    cases hE
  | succ k ih =>
    intro v4 v5 res hE K
    unfold f_X1_mostFrom_L6 at hE
    refine y_iconst (v := (2 : Int32)) dX1_mostFrom_6 (by decide) ?_
    refine y_iload dX1_mostFrom_7 5 rfl ?_
    refine y_imul dX1_mostFrom_9 ?_
    refine y_aload_n dX1_mostFrom_10 0 rfl ?_
    obtain ⟨x1, ex1, hE⟩ := Option.bind_eq_some_iff.mp hE
    refine y_getI fl_X1_15 ex1 dX1_mostFrom_11 ?_
    refine y_iconst (v := (1 : Int32)) dX1_mostFrom_14 (by decide) ?_
    refine y_iadd dX1_mostFrom_15 ?_
    refine y_icmp_gt (tgt := 135) dX1_mostFrom_16 (by decide) (fun hc27 => ?_) (fun hc27 => ?_)
    · rw [if_pos hc27] at hE
      obtain rfl := Option.some.inj hE
      exact y_pick [4] rfl (K _ rfl)
    · rw [if_neg hc27] at hE
      refine y_iload dX1_mostFrom_19 5 rfl ?_
      refine y_iload_n dX1_mostFrom_21 2 rfl ?_
      refine y_icmp_gt (tgt := 135) dX1_mostFrom_22 (by decide) (fun hc26 => ?_) (fun hc26 => ?_)
      · rw [if_pos hc26] at hE
        obtain rfl := Option.some.inj hE
        exact y_pick [4] rfl (K _ rfl)
      · rw [if_neg hc26] at hE
        refine y_iload_n dX1_mostFrom_25 1 rfl ?_
        refine y_aload_n dX1_mostFrom_26 0 rfl ?_
        obtain ⟨x2, ex2, hE⟩ := Option.bind_eq_some_iff.mp hE
        refine y_getI fl_X1_15 ex2 dX1_mostFrom_27 ?_
        refine y_iload dX1_mostFrom_30 5 rfl ?_
        obtain ⟨q3, eq3, hE⟩ := Option.bind_eq_some_iff.mp hE
        refine y_cSi0 (st := [.int v1]) (as := [.int x2, .int v5]) (c_X6_singlesBeside eq3) lk_X1_64 st_X6_singlesBeside ⟨Nat.le_of_ble_eq_true rfl, Nat.le_of_ble_eq_true rfl⟩ (Nat.le_of_ble_eq_true rfl) dX1_mostFrom_32 hm rfl ?_
        refine y_isub dX1_mostFrom_35 ?_
        obtain ⟨x4, ex4, hE⟩ := Option.bind_eq_some_iff.mp hE
        refine y_istore (ls' := [(6, .int x4), (0, .ref v0), (1, .int v1), (2, .int v2), (3, .int v3), (4, .int v4), (5, .int v5)]) dX1_mostFrom_36 (by decide) (Option.some.inj ex4) rfl ?_
        refine y_iload_n dX1_mostFrom_38 3 rfl ?_
        refine y_iload dX1_mostFrom_39 6 rfl ?_
        refine y_isub dX1_mostFrom_41 ?_
        obtain ⟨x5, ex5, hE⟩ := Option.bind_eq_some_iff.mp hE
        refine y_istore (ls' := [(7, .int x5), (6, .int x4), (0, .ref v0), (1, .int v1), (2, .int v2), (3, .int v3), (4, .int v4), (5, .int v5)]) dX1_mostFrom_42 (by decide) (Option.some.inj ex5) rfl ?_
        refine y_iload dX1_mostFrom_44 1 rfl ?_
        refine y_if_lt (tgt := 129) dX1_mostFrom_46 (by decide) (fun hc25 => ?_) (fun hc25 => ?_)
        · rw [if_pos hc25] at hE
          obtain ⟨x6, ex6, hE⟩ := Option.bind_eq_some_iff.mp hE
          refine y_iinc (ls' := [(5, .int x6), (7, .int x5), (6, .int x4), (0, .ref v0), (1, .int v1), (2, .int v2), (3, .int v3), (4, .int v4)]) dX1_mostFrom_129 7 rfl (Option.some.inj ex6) (by decide) rfl ?_
          refine y_goto (tgt := 6) dX1_mostFrom_132 (by decide) ?_
          refine y_pick [3, 4, 5, 6, 7, 0] rfl ?_
          exact ih _ _ _ hE K
        · rw [if_neg hc25] at hE
          refine y_iload_n dX1_mostFrom_49 3 rfl ?_
          refine y_aload_n dX1_mostFrom_50 2 rfl ?_
          obtain ⟨x7, ex7, hE⟩ := Option.bind_eq_some_iff.mp hE
          refine y_getI fl_X1_33 ex7 dX1_mostFrom_51 ?_
          obtain ⟨q8, eJ, hE⟩ := Option.bind_eq_some_iff.mp hE
          have hJ : Y S M_X1_mostFrom h0 rv h1 mc ms 77 [(0, .ref v0), (1, .int v1), (2, .int v2), (3, .int v3), (4, .int q8), (5, .int v5), (6, .int x4), (7, .int x5)] [] h cells slots := by
            refine y_iload_n dX1_mostFrom_77 2 rfl ?_
            refine y_aload_n dX1_mostFrom_78 0 rfl ?_
            obtain ⟨x13, ex13, hE⟩ := Option.bind_eq_some_iff.mp hE
            refine y_getI fl_X1_39 ex13 dX1_mostFrom_79 ?_
            obtain ⟨q14, eJ, hE⟩ := Option.bind_eq_some_iff.mp hE
            have hJ : Y S M_X1_mostFrom h0 rv h1 mc ms 105 [(0, .ref v0), (1, .int v1), (2, .int v2), (3, .int v3), (4, .int q14), (5, .int v5), (6, .int x4), (7, .int x5)] [] h cells slots := by
              refine y_iload_n dX1_mostFrom_105 3 rfl ?_
              refine y_if_le (tgt := 129) dX1_mostFrom_106 (by decide) (fun hc24 => ?_) (fun hc24 => ?_)
              · rw [if_pos hc24] at hE
                obtain ⟨x19, ex19, hE⟩ := Option.bind_eq_some_iff.mp hE
                refine y_iinc (ls' := [(5, .int x19), (0, .ref v0), (1, .int v1), (2, .int v2), (3, .int v3), (4, .int q14), (6, .int x4), (7, .int x5)]) dX1_mostFrom_129 5 rfl (Option.some.inj ex19) (by decide) rfl ?_
                refine y_goto (tgt := 6) dX1_mostFrom_132 (by decide) ?_
                refine y_pick [1, 2, 3, 4, 5, 0] rfl ?_
                exact ih _ _ _ hE K
              · rw [if_neg hc24] at hE
                refine y_iload dX1_mostFrom_109 4 rfl ?_
                refine y_iconst (v := (1 : Int32)) dX1_mostFrom_111 (by decide) ?_
                refine y_aload_n dX1_mostFrom_112 0 rfl ?_
                refine y_iload dX1_mostFrom_113 6 rfl ?_
                refine y_iload dX1_mostFrom_115 7 rfl ?_
                refine y_iload_n dX1_mostFrom_117 3 rfl ?_
                refine y_iconst (v := (1 : Int32)) dX1_mostFrom_118 (by decide) ?_
                refine y_isub dX1_mostFrom_119 ?_
                obtain ⟨u20, eu20, hE⟩ := Option.bind_eq_some_iff.mp hE
                obtain ⟨q21, eq21, hE⟩ := Option.bind_eq_some_iff.mp hE
                refine y_cVi0 (st := [.int (1 : Int32), .int q14]) (as := [.int x4, .int x5, .int (v3 - (1 : Int32))]) (c_X1_noted eq21) lk_X1_46 in_X1_noted se_X1_noted rfl eu20 ⟨Nat.le_of_ble_eq_true rfl, Nat.le_of_ble_eq_true rfl⟩ (Nat.le_of_ble_eq_true rfl) dX1_mostFrom_120 hm rfl ?_
                refine y_iadd dX1_mostFrom_123 ?_
                refine y_max (x_wt (tb 827 (by decide +kernel)) rfl) (by decide) (by decide) (Nat.le_of_ble_eq_true rfl) hm dX1_mostFrom_124 ?_
                obtain ⟨x22, ex22, hE⟩ := Option.bind_eq_some_iff.mp hE
                refine y_istore (ls' := [(4, .int x22), (0, .ref v0), (1, .int v1), (2, .int v2), (3, .int v3), (5, .int v5), (6, .int x4), (7, .int x5)]) dX1_mostFrom_127 (by decide) (Option.some.inj ex22) rfl ?_
                obtain ⟨x23, ex23, hE⟩ := Option.bind_eq_some_iff.mp hE
                refine y_iinc (ls' := [(5, .int x23), (4, .int x22), (0, .ref v0), (1, .int v1), (2, .int v2), (3, .int v3), (6, .int x4), (7, .int x5)]) dX1_mostFrom_129 5 rfl (Option.some.inj ex23) (by decide) rfl ?_
                refine y_goto (tgt := 6) dX1_mostFrom_132 (by decide) ?_
                refine y_pick [2, 3, 4, 5, 1, 0] rfl ?_
                exact ih _ _ _ hE K
            clear hE
            have hE := eJ
            clear eJ
            refine y_icmp_ge (tgt := 105) dX1_mostFrom_82 (by decide) (fun hc18 => ?_) (fun hc18 => ?_)
            · rw [if_pos hc18] at hE
              obtain rfl := Option.some.inj hE
              exact y_pick [0, 1, 2, 3, 4, 5, 6, 7] rfl hJ
            · rw [if_neg hc18] at hE
              refine y_iload dX1_mostFrom_85 4 rfl ?_
              refine y_iconst (v := (1 : Int32)) dX1_mostFrom_87 (by decide) ?_
              refine y_aload_n dX1_mostFrom_88 0 rfl ?_
              refine y_iload dX1_mostFrom_89 6 rfl ?_
              refine y_iload dX1_mostFrom_91 7 rfl ?_
              refine y_iconst (v := (1 : Int32)) dX1_mostFrom_93 (by decide) ?_
              refine y_iadd dX1_mostFrom_94 ?_
              refine y_iload_n dX1_mostFrom_95 3 rfl ?_
              obtain ⟨u15, eu15, hE⟩ := Option.bind_eq_some_iff.mp hE
              obtain ⟨q16, eq16, hE⟩ := Option.bind_eq_some_iff.mp hE
              refine y_cVi0 (st := [.int (1 : Int32), .int q8]) (as := [.int x4, .int (x5 + (1 : Int32)), .int v3]) (c_X1_noted eq16) lk_X1_46 in_X1_noted se_X1_noted rfl eu15 ⟨Nat.le_of_ble_eq_true rfl, Nat.le_of_ble_eq_true rfl⟩ (Nat.le_of_ble_eq_true rfl) dX1_mostFrom_96 hm rfl ?_
              refine y_iadd dX1_mostFrom_99 ?_
              refine y_max (x_wt (tb 827 (by decide +kernel)) rfl) (by decide) (by decide) (Nat.le_of_ble_eq_true rfl) hm dX1_mostFrom_100 ?_
              obtain ⟨x17, ex17, hE⟩ := Option.bind_eq_some_iff.mp hE
              refine y_istore (ls' := [(4, .int x17), (0, .ref v0), (1, .int v1), (2, .int v2), (3, .int v3), (5, .int v5), (6, .int x4), (7, .int x5)]) dX1_mostFrom_103 (by decide) (Option.some.inj ex17) rfl ?_
              obtain rfl := Option.some.inj hE
              exact y_pick [1, 2, 3, 4, 0, 5, 6, 7] rfl hJ
          clear hE
          have hE := eJ
          clear eJ
          refine y_icmp_ge (tgt := 77) dX1_mostFrom_54 (by decide) (fun hc12 => ?_) (fun hc12 => ?_)
          · rw [if_pos hc12] at hE
            obtain rfl := Option.some.inj hE
            exact y_pick [2, 3, 4, 5, 6, 7, 1, 0] rfl hJ
          · rw [if_neg hc12] at hE
            refine y_iload dX1_mostFrom_57 6 rfl ?_
            refine y_iconst (v := (1 : Int32)) dX1_mostFrom_59 (by decide) ?_
            refine y_aload_n dX1_mostFrom_60 2 rfl ?_
            refine y_iload dX1_mostFrom_61 1 rfl ?_
            refine y_iconst (v := (1 : Int32)) dX1_mostFrom_63 (by decide) ?_
            refine y_iadd dX1_mostFrom_64 ?_
            refine y_iload dX1_mostFrom_65 0 rfl ?_
            refine y_iload_n dX1_mostFrom_67 5 rfl ?_
            obtain ⟨u9, eu9, hE⟩ := Option.bind_eq_some_iff.mp hE
            obtain ⟨q10, eq10, hE⟩ := Option.bind_eq_some_iff.mp hE
            refine y_cVi0 (st := [.int (1 : Int32), .int v4]) (as := [.int (x4 + (1 : Int32)), .int x5, .int v3]) (c_X1_noted eq10) lk_X1_46 in_X1_noted se_X1_noted rfl eu9 ⟨Nat.le_of_ble_eq_true rfl, Nat.le_of_ble_eq_true rfl⟩ (Nat.le_of_ble_eq_true rfl) dX1_mostFrom_68 hm rfl ?_
            refine y_iadd dX1_mostFrom_71 ?_
            refine y_max (x_wt (tb 827 (by decide +kernel)) rfl) (by decide) (by decide) (Nat.le_of_ble_eq_true rfl) hm dX1_mostFrom_72 ?_
            obtain ⟨x11, ex11, hE⟩ := Option.bind_eq_some_iff.mp hE
            refine y_istore (ls' := [(4, .int x11), (7, .int x5), (6, .int x4), (0, .ref v0), (1, .int v1), (2, .int v2), (3, .int v3), (5, .int v5)]) dX1_mostFrom_75 (by decide) (Option.some.inj ex11) rfl ?_
            obtain rfl := Option.some.inj hE
            exact y_pick [3, 4, 5, 6, 0, 7, 2, 1] rfl hJ
def f_X1_mostFrom (n : Nat) (h : xH) (a0 : Nat) (p1 : Int32) (p2 : Int32) (p3 : Int32) : Option (Int32) :=
  (f_X1_mostFrom_L6 h a0 p1 p2 p3 n (0 : Int32) (0 : Int32)).bind fun q28 =>
  some (x_min q28 (99 : Int32))
set_option maxRecDepth 100000 in
set_option maxHeartbeats 4000000 in
theorem c_X1_mostFrom {n : Nat} {h : xH} {a0 : Nat} {p1 : Int32} {p2 : Int32} {p3 : Int32} {r9 : Int32} (hE : f_X1_mostFrom n h a0 p1 p2 p3 = some r9) : Ctr M_X1_mostFrom [.ref a0, .int p1, .int p2, .int p3] h (some (.int r9)) h 0 0 := by
  refine ctr_of (by decide) (fun _ _ => Nat.le_of_ble_eq_true rfl) (fun S => ?_)
  show Y S M_X1_mostFrom h (some (.int r9)) h 0 0 0 [(0, .ref a0), (1, .int p1), (2, .int p2), (3, .int p3)] [] h 0 0
  unfold f_X1_mostFrom at hE
  refine y_iconst (v := (0 : Int32)) dX1_mostFrom_0 (by decide) ?_
  refine y_istore (ls' := [(4, .int (0 : Int32)), (0, .ref a0), (1, .int p1), (2, .int p2), (3, .int p3)]) dX1_mostFrom_1 (by decide) rfl rfl ?_
  refine y_iconst (v := (0 : Int32)) dX1_mostFrom_3 (by decide) ?_
  refine y_istore (ls' := [(5, .int (0 : Int32)), (4, .int (0 : Int32)), (0, .ref a0), (1, .int p1), (2, .int p2), (3, .int p3)]) dX1_mostFrom_4 (by decide) rfl rfl ?_
  obtain ⟨q28, eq28, hE⟩ := Option.bind_eq_some_iff.mp hE
  refine y_pick [2, 3, 4, 5, 1, 0] rfl ?_
  refine l_X1_mostFrom_6 (S := S) ⟨Nat.le_refl _, Nat.le_refl _⟩ h a0 p1 p2 p3 n (0 : Int32) (0 : Int32) _ eq28 (fun r8 hr8 => ?_)
  subst hr8
  refine y_iload dX1_mostFrom_135 0 rfl ?_
  refine y_bipush (v := (99 : Int32)) dX1_mostFrom_137 (by decide) ?_
  refine y_min (x_wt (tb 828 (by decide +kernel)) rfl) (by decide) (by decide) (Nat.le_of_ble_eq_true rfl) ⟨Nat.le_refl _, Nat.le_refl _⟩ dX1_mostFrom_139 ?_
  obtain rfl := Option.some.inj hE
  exact y_ret dX1_mostFrom_142 (Nat.le_refl _) (Nat.le_refl _) ⟨_, rfl, rfl⟩
def f_X1_note (n : Nat) (h : xH) (a0 : Nat) (p1 : Int32) (p2 : Int32) (p3 : Int32) : Option (xH) :=
  (x_ob h a0 1).bind fun u1 =>
  (f_X1_placeOf h a0 p1 p2 p3).bind fun q2 =>
  if q2 < 0 then
    some h
  else
    if (1344 : Int32) ≤ q2 then
      some h
    else
      (x_gR h a0 1 0).bind fun a3 =>
      (x_ob h a0 1).bind fun u4 =>
      (f_X1_changesForever h a0 p1 p2).bind fun q5 =>
      if q5 = 0 then
        (x_ob h a0 1).bind fun u6 =>
        (f_X1_mostFrom n h a0 p1 p2 p3).bind fun q7 =>
        (x_st h a3 q2 q7).bind fun h8 =>
        some h8
      else
        (x_st h a3 q2 (99 : Int32)).bind fun h9 =>
        some h9
set_option maxRecDepth 100000 in
set_option maxHeartbeats 4000000 in
theorem c_X1_note {n : Nat} {h : xH} {a0 : Nat} {p1 : Int32} {p2 : Int32} {p3 : Int32} {hz : xH} (hE : f_X1_note n h a0 p1 p2 p3 = some hz) : Ctr M_X1_note [.ref a0, .int p1, .int p2, .int p3] h none hz 0 0 := by
  refine ctr_of (by decide) (fun _ _ => Nat.le_of_ble_eq_true rfl) (fun S => ?_)
  show Y S M_X1_note h none hz 0 0 0 [(0, .ref a0), (1, .int p1), (2, .int p2), (3, .int p3)] [] h 0 0
  unfold f_X1_note at hE
  refine y_aload_n dX1_note_0 0 rfl ?_
  refine y_iload_n dX1_note_1 1 rfl ?_
  refine y_iload_n dX1_note_2 2 rfl ?_
  refine y_iload_n dX1_note_3 3 rfl ?_
  obtain ⟨u1, eu1, hE⟩ := Option.bind_eq_some_iff.mp hE
  obtain ⟨q2, eq2, hE⟩ := Option.bind_eq_some_iff.mp hE
  refine y_cVi0 (st := []) (as := [.int p1, .int p2, .int p3]) (c_X1_placeOf eq2) lk_X1_58 in_X1_placeOf se_X1_placeOf rfl eu1 ⟨Nat.le_of_ble_eq_true rfl, Nat.le_of_ble_eq_true rfl⟩ (Nat.le_of_ble_eq_true rfl) dX1_note_4 ⟨Nat.le_refl _, Nat.le_refl _⟩ rfl ?_
  refine y_istore (ls' := [(4, .int q2), (0, .ref a0), (1, .int p1), (2, .int p2), (3, .int p3)]) dX1_note_7 (by decide) rfl rfl ?_
  refine y_iload dX1_note_9 0 rfl ?_
  refine y_if_lt (tgt := 50) dX1_note_11 (by decide) (fun hc12 => ?_) (fun hc12 => ?_)
  · rw [if_pos hc12] at hE
    obtain rfl := Option.some.inj hE
    exact y_ret dX1_note_50 (Nat.le_refl _) (Nat.le_refl _) rfl
  · rw [if_neg hc12] at hE
    refine y_iload dX1_note_14 0 rfl ?_
    refine y_sipush (v := (1344 : Int32)) dX1_note_16 (by decide) ?_
    refine y_icmp_ge (tgt := 50) dX1_note_19 (by decide) (fun hc11 => ?_) (fun hc11 => ?_)
    · rw [if_pos hc11] at hE
      obtain rfl := Option.some.inj hE
      exact y_ret dX1_note_50 (Nat.le_refl _) (Nat.le_refl _) rfl
    · rw [if_neg hc11] at hE
      refine y_aload_n dX1_note_22 1 rfl ?_
      obtain ⟨a3, ea3, hE⟩ := Option.bind_eq_some_iff.mp hE
      refine y_getR fl_X1_11 ea3 dX1_note_23 ?_
      refine y_iload dX1_note_26 0 rfl ?_
      refine y_aload_n dX1_note_28 1 rfl ?_
      refine y_iload_n dX1_note_29 2 rfl ?_
      refine y_iload_n dX1_note_30 3 rfl ?_
      obtain ⟨u4, eu4, hE⟩ := Option.bind_eq_some_iff.mp hE
      obtain ⟨q5, eq5, hE⟩ := Option.bind_eq_some_iff.mp hE
      refine y_cVi0 (st := [.int q2, .ref a3]) (as := [.int p1, .int p2]) (c_X1_changesForever eq5) lk_X1_29 in_X1_changesForever se_X1_changesForever rfl eu4 ⟨Nat.le_of_ble_eq_true rfl, Nat.le_of_ble_eq_true rfl⟩ (Nat.le_of_ble_eq_true rfl) dX1_note_31 ⟨Nat.le_refl _, Nat.le_refl _⟩ rfl ?_
      refine y_if_eq (tgt := 42) dX1_note_34 (by decide) (fun hc10 => ?_) (fun hc10 => ?_)
      · rw [if_pos hc10] at hE
        refine y_aload_n dX1_note_42 1 rfl ?_
        refine y_iload_n dX1_note_43 2 rfl ?_
        refine y_iload_n dX1_note_44 3 rfl ?_
        refine y_iload_n dX1_note_45 4 rfl ?_
        obtain ⟨u6, eu6, hE⟩ := Option.bind_eq_some_iff.mp hE
        obtain ⟨q7, eq7, hE⟩ := Option.bind_eq_some_iff.mp hE
        refine y_cVi0 (st := [.int q2, .ref a3]) (as := [.int p1, .int p2, .int p3]) (c_X1_mostFrom eq7) lk_X1_61 in_X1_mostFrom se_X1_mostFrom rfl eu6 ⟨Nat.le_of_ble_eq_true rfl, Nat.le_of_ble_eq_true rfl⟩ (Nat.le_of_ble_eq_true rfl) dX1_note_46 ⟨Nat.le_refl _, Nat.le_refl _⟩ rfl ?_
        obtain ⟨h8, eh8, hE⟩ := Option.bind_eq_some_iff.mp hE
        refine y_iast eh8 dX1_note_49 ?_
        obtain rfl := Option.some.inj hE
        exact y_ret dX1_note_50 (Nat.le_refl _) (Nat.le_refl _) rfl
      · rw [if_neg hc10] at hE
        refine y_bipush (v := (99 : Int32)) dX1_note_37 (by decide) ?_
        refine y_goto (tgt := 49) dX1_note_39 (by decide) ?_
        obtain ⟨h9, eh9, hE⟩ := Option.bind_eq_some_iff.mp hE
        refine y_iast eh9 dX1_note_49 ?_
        obtain rfl := Option.some.inj hE
        exact y_ret dX1_note_50 (Nat.le_refl _) (Nat.le_refl _) rfl
def f_X1_most_L88 (n : Nat) (v0 : Nat) (v5 : Int32) (v6 : Int32) (v7 : Int32) (v8 : Int32) : Nat → Int32 → xH → Option (xH)
  | 0, _, _ => none
  | k + 1, v9, h =>
    (x_gI h v0 1 4).bind fun x14 =>
    if x14 < v9 then
      some h
    else
      (x_gI h v0 1 3).bind fun x15 =>
      if x15 < v8 then
        some h
      else
        (x_ob h v0 1).bind fun u16 =>
        (f_X1_note n h v0 v7 v8 v9).bind fun q17 =>
        (some (v9 + (1 : Int32))).bind fun x18 =>
        f_X1_most_L88 n v0 v5 v6 v7 v8 k x18 q17
set_option maxRecDepth 100000 in
set_option maxHeartbeats 4000000 in
theorem l_X1_most_88 {S : Nat × (Nat → Int32)} {rv : Option Value} {h0 h1 : xH} {mc ms : Nat} {cells slots : Nat} (hm : cells ≤ mc ∧ slots ≤ ms) (n : Nat) (v0 : Nat) (v5 : Int32) (v6 : Int32) (v7 : Int32) (v8 : Int32) : ∀ (k : Nat) (v9 : Int32) (h : xH) (res : xH), f_X1_most_L88 n v0 v5 v6 v7 v8 k v9 h = some res → (∀ r9, res = r9 → Y S M_X1_most h0 rv h1 mc ms 122 [(0, .ref v0), (5, .int v5), (6, .int v6), (7, .int v7)] [] r9 cells slots) → Y S M_X1_most h0 rv h1 mc ms 88 [(0, .ref v0), (5, .int v5), (6, .int v6), (7, .int v7), (8, .int v8), (9, .int v9)] [] h cells slots := by
  intro k
  induction k with
  | zero =>
    intro _ _ _ hE
    cases hE
  | succ k ih =>
    intro v9 h res hE K
    unfold f_X1_most_L88 at hE
    refine y_iload dX1_most_88 5 rfl ?_
    refine y_aload_n dX1_most_90 0 rfl ?_
    obtain ⟨x14, ex14, hE⟩ := Option.bind_eq_some_iff.mp hE
    refine y_getI fl_X1_36 ex14 dX1_most_91 ?_
    refine y_icmp_gt (tgt := 122) dX1_most_94 (by decide) (fun hc20 => ?_) (fun hc20 => ?_)
    · rw [if_pos hc20] at hE
      obtain rfl := Option.some.inj hE
      exact y_pick [0, 1, 2, 3] rfl (K _ rfl)
    · rw [if_neg hc20] at hE
      refine y_iload dX1_most_97 4 rfl ?_
      refine y_aload_n dX1_most_99 0 rfl ?_
      obtain ⟨x15, ex15, hE⟩ := Option.bind_eq_some_iff.mp hE
      refine y_getI fl_X1_39 ex15 dX1_most_100 ?_
      refine y_icmp_gt (tgt := 122) dX1_most_103 (by decide) (fun hc19 => ?_) (fun hc19 => ?_)
      · rw [if_pos hc19] at hE
        obtain rfl := Option.some.inj hE
        exact y_pick [0, 1, 2, 3] rfl (K _ rfl)
      · rw [if_neg hc19] at hE
        refine y_aload_n dX1_most_106 0 rfl ?_
        refine y_iload dX1_most_107 3 rfl ?_
        refine y_iload dX1_most_109 4 rfl ?_
        refine y_iload dX1_most_111 5 rfl ?_
        obtain ⟨u16, eu16, hE⟩ := Option.bind_eq_some_iff.mp hE
        obtain ⟨q17, eq17, hE⟩ := Option.bind_eq_some_iff.mp hE
        refine y_cVv0 (st := []) (as := [.int v7, .int v8, .int v9]) (c_X1_note eq17) lk_X1_42 in_X1_note se_X1_note rfl eu16 ⟨Nat.le_of_ble_eq_true rfl, Nat.le_of_ble_eq_true rfl⟩ (Nat.le_of_ble_eq_true rfl) dX1_most_113 hm rfl ?_
        obtain ⟨x18, ex18, hE⟩ := Option.bind_eq_some_iff.mp hE
        refine y_iinc (ls' := [(9, .int x18), (0, .ref v0), (5, .int v5), (6, .int v6), (7, .int v7), (8, .int v8)]) dX1_most_116 5 rfl (Option.some.inj ex18) (by decide) rfl ?_
        refine y_goto (tgt := 88) dX1_most_119 (by decide) ?_
        refine y_pick [1, 2, 3, 4, 5, 0] rfl ?_
        exact ih _ _ _ hE K
def f_X1_most_L60 (n : Nat) (v0 : Nat) (v5 : Int32) (v6 : Int32) : Nat → Int32 → xH → Option (xH)
  | 0, _, _ => none
  | k + 1, v7, h =>
    if v6 < v7 then
      some h
    else
      (x_gI h v0 1 2).bind fun x12 =>
      if x12 < v7 then
        some h
      else
        (x_idiv (v6 - v7) (2 : Int32)).bind fun x13 =>
        (f_X1_most_L88 n v0 v5 v6 v7 x13 n (0 : Int32) h).bind fun q21 =>
        (some (v7 + (2 : Int32))).bind fun x22 =>
        f_X1_most_L60 n v0 v5 v6 k x22 q21
set_option maxRecDepth 100000 in
set_option maxHeartbeats 4000000 in
theorem l_X1_most_60 {S : Nat × (Nat → Int32)} {rv : Option Value} {h0 h1 : xH} {mc ms : Nat} {cells slots : Nat} (hm : cells ≤ mc ∧ slots ≤ ms) (n : Nat) (v0 : Nat) (v5 : Int32) (v6 : Int32) : ∀ (k : Nat) (v7 : Int32) (h : xH) (res : xH), f_X1_most_L60 n v0 v5 v6 k v7 h = some res → (∀ r9, res = r9 → Y S M_X1_most h0 rv h1 mc ms 128 [(0, .ref v0), (5, .int v5), (6, .int v6)] [] r9 cells slots) → Y S M_X1_most h0 rv h1 mc ms 60 [(0, .ref v0), (5, .int v5), (6, .int v6), (7, .int v7)] [] h cells slots := by
  intro k
  induction k with
  | zero =>
    intro _ _ _ hE
    cases hE
  | succ k ih =>
    intro v7 h res hE K
    unfold f_X1_most_L60 at hE
    refine y_iload dX1_most_60 3 rfl ?_
    refine y_iload dX1_most_62 2 rfl ?_
    refine y_icmp_gt (tgt := 128) dX1_most_64 (by decide) (fun hc24 => ?_) (fun hc24 => ?_)
    · rw [if_pos hc24] at hE
      obtain rfl := Option.some.inj hE
      exact y_pick [0, 1, 2] rfl (K _ rfl)
    · rw [if_neg hc24] at hE
      refine y_iload dX1_most_67 3 rfl ?_
      refine y_aload_n dX1_most_69 0 rfl ?_
      obtain ⟨x12, ex12, hE⟩ := Option.bind_eq_some_iff.mp hE
      refine y_getI fl_X1_33 ex12 dX1_most_70 ?_
      refine y_icmp_gt (tgt := 128) dX1_most_73 (by decide) (fun hc23 => ?_) (fun hc23 => ?_)
      · rw [if_pos hc23] at hE
        obtain rfl := Option.some.inj hE
        exact y_pick [0, 1, 2] rfl (K _ rfl)
      · rw [if_neg hc23] at hE
        refine y_iload dX1_most_76 2 rfl ?_
        refine y_iload dX1_most_78 3 rfl ?_
        refine y_isub dX1_most_80 ?_
        refine y_iconst (v := (2 : Int32)) dX1_most_81 (by decide) ?_
        obtain ⟨x13, ex13, hE⟩ := Option.bind_eq_some_iff.mp hE
        refine y_div ex13 dX1_most_82 ?_
        refine y_istore (ls' := [(8, .int x13), (0, .ref v0), (5, .int v5), (6, .int v6), (7, .int v7)]) dX1_most_83 (by decide) rfl rfl ?_
        refine y_iconst (v := (0 : Int32)) dX1_most_85 (by decide) ?_
        refine y_istore (ls' := [(9, .int (0 : Int32)), (8, .int x13), (0, .ref v0), (5, .int v5), (6, .int v6), (7, .int v7)]) dX1_most_86 (by decide) rfl rfl ?_
        obtain ⟨q21, eq21, hE⟩ := Option.bind_eq_some_iff.mp hE
        refine y_pick [2, 3, 4, 5, 1, 0] rfl ?_
        refine l_X1_most_88 (S := S) hm n v0 v5 v6 v7 x13 n (0 : Int32) h _ eq21 (fun r8 hr8 => ?_)
        subst hr8
        obtain ⟨x22, ex22, hE⟩ := Option.bind_eq_some_iff.mp hE
        refine y_iinc (ls' := [(7, .int x22), (0, .ref v0), (5, .int v5), (6, .int v6)]) dX1_most_122 3 rfl (Option.some.inj ex22) (by decide) rfl ?_
        refine y_goto (tgt := 60) dX1_most_125 (by decide) ?_
        refine y_pick [1, 2, 3, 0] rfl ?_
        exact ih _ _ _ hE K
def f_X1_most_L47 (n : Nat) (v0 : Nat) (v5 : Int32) : Nat → Int32 → xH → Option (xH)
  | 0, _, _ => none
  | k + 1, v6, h =>
    if v5 < v6 then
      some h
    else
      (some (v6 &&& (1 : Int32))).bind fun x11 =>
      (f_X1_most_L60 n v0 v5 v6 n x11 h).bind fun q25 =>
      (some (v6 + (1 : Int32))).bind fun x26 =>
      f_X1_most_L47 n v0 v5 k x26 q25
set_option maxRecDepth 100000 in
set_option maxHeartbeats 4000000 in
theorem l_X1_most_47 {S : Nat × (Nat → Int32)} {rv : Option Value} {h0 h1 : xH} {mc ms : Nat} {cells slots : Nat} (hm : cells ≤ mc ∧ slots ≤ ms) (n : Nat) (v0 : Nat) (v5 : Int32) : ∀ (k : Nat) (v6 : Int32) (h : xH) (res : xH), f_X1_most_L47 n v0 v5 k v6 h = some res → (∀ r9, res = r9 → Y S M_X1_most h0 rv h1 mc ms 134 [(0, .ref v0)] [] r9 cells slots) → Y S M_X1_most h0 rv h1 mc ms 47 [(0, .ref v0), (5, .int v5), (6, .int v6)] [] h cells slots := by
  intro k
  induction k with
  | zero =>
    intro _ _ _ hE
    cases hE
  | succ k ih =>
    intro v6 h res hE K
    unfold f_X1_most_L47 at hE
    refine y_iload dX1_most_47 2 rfl ?_
    refine y_iload dX1_most_49 1 rfl ?_
    refine y_icmp_gt (tgt := 134) dX1_most_51 (by decide) (fun hc27 => ?_) (fun hc27 => ?_)
    · rw [if_pos hc27] at hE
      obtain rfl := Option.some.inj hE
      exact y_pick [0] rfl (K _ rfl)
    · rw [if_neg hc27] at hE
      refine y_iload dX1_most_54 2 rfl ?_
      refine y_iconst (v := (1 : Int32)) dX1_most_56 (by decide) ?_
      refine y_iand dX1_most_57 ?_
      obtain ⟨x11, ex11, hE⟩ := Option.bind_eq_some_iff.mp hE
      refine y_istore (ls' := [(7, .int x11), (0, .ref v0), (5, .int v5), (6, .int v6)]) dX1_most_58 (by decide) (Option.some.inj ex11) rfl ?_
      obtain ⟨q25, eq25, hE⟩ := Option.bind_eq_some_iff.mp hE
      refine y_pick [1, 2, 3, 0] rfl ?_
      refine l_X1_most_60 (S := S) hm n v0 v5 v6 n x11 h _ eq25 (fun r8 hr8 => ?_)
      subst hr8
      obtain ⟨x26, ex26, hE⟩ := Option.bind_eq_some_iff.mp hE
      refine y_iinc (ls' := [(6, .int x26), (0, .ref v0), (5, .int v5)]) dX1_most_128 2 rfl (Option.some.inj ex26) (by decide) rfl ?_
      refine y_goto (tgt := 47) dX1_most_131 (by decide) ?_
      refine y_pick [1, 2, 0] rfl ?_
      exact ih _ _ _ hE K
def f_X1_most (n : Nat) (h : xH) (a0 : Nat) (o1 : Nat) (p2 : Int32) (p3 : Int32) (p4 : Int32) : Option (Int32 × xH) :=
  (x_put h a0 1 1 (.int p2)).bind fun h1 =>
  (x_ob h1 a0 1).bind fun u2 =>
  (f_X1_countDoors n h1 a0 o1 p3 p4).bind fun q3 =>
  (x_gI q3 a0 1 5).bind fun x4 =>
  (x_gI q3 a0 1 6).bind fun x5 =>
  (x_ob q3 a0 1).bind fun u6 =>
  (f_X1_changesForever q3 a0 x4 x5).bind fun q7 =>
  if q7 = 0 then
    (x_gI q3 a0 1 5).bind fun x8 =>
    (x_gI q3 a0 1 6).bind fun x9 =>
    (some (x8 + ((2 : Int32) * x9))).bind fun x10 =>
    (f_X1_most_L47 n a0 x10 n (0 : Int32) q3).bind fun q28 =>
    (x_gI q28 a0 1 5).bind fun x29 =>
    (x_gI q28 a0 1 6).bind fun x30 =>
    (x_gI q28 a0 1 4).bind fun x31 =>
    (x_ob q28 a0 1).bind fun u32 =>
    (f_X1_noted q28 a0 x29 x30 x31).bind fun q33 =>
    some (q33, q28)
  else
    some ((99 : Int32), q3)
set_option maxRecDepth 100000 in
set_option maxHeartbeats 4000000 in
theorem c_X1_most {n : Nat} {h : xH} {a0 : Nat} {o1 : Nat} {p2 : Int32} {p3 : Int32} {p4 : Int32} {r9 : Int32} {hz : xH} (hE : f_X1_most n h a0 o1 p2 p3 p4 = some (r9, hz)) : Ctr M_X1_most [.ref a0, .ref o1, .int p2, .int p3, .int p4] h (some (.int r9)) hz 0 0 := by
  refine ctr_of (by decide) (fun _ _ => Nat.le_of_ble_eq_true rfl) (fun S => ?_)
  show Y S M_X1_most h (some (.int r9)) hz 0 0 0 [(0, .ref a0), (1, .ref o1), (2, .int p2), (3, .int p3), (4, .int p4)] [] h 0 0
  unfold f_X1_most at hE
  refine y_aload_n dX1_most_0 0 rfl ?_
  refine y_iload_n dX1_most_1 2 rfl ?_
  obtain ⟨h1, eh1, hE⟩ := Option.bind_eq_some_iff.mp hE
  refine y_putI fp_X1_15 eh1 dX1_most_2 ?_
  refine y_aload_n dX1_most_5 0 rfl ?_
  refine y_aload_n dX1_most_6 1 rfl ?_
  refine y_iload_n dX1_most_7 3 rfl ?_
  refine y_iload dX1_most_8 4 rfl ?_
  obtain ⟨u2, eu2, hE⟩ := Option.bind_eq_some_iff.mp hE
  obtain ⟨q3, eq3, hE⟩ := Option.bind_eq_some_iff.mp hE
  refine y_cVv0 (st := []) (as := [.ref o1, .int p3, .int p4]) (c_X1_countDoors eq3) lk_X1_19 in_X1_countDoors se_X1_countDoors rfl eu2 ⟨Nat.le_of_ble_eq_true rfl, Nat.le_of_ble_eq_true rfl⟩ (Nat.le_of_ble_eq_true rfl) dX1_most_10 ⟨Nat.le_refl _, Nat.le_refl _⟩ rfl ?_
  refine y_aload_n dX1_most_13 0 rfl ?_
  refine y_aload_n dX1_most_14 0 rfl ?_
  obtain ⟨x4, ex4, hE⟩ := Option.bind_eq_some_iff.mp hE
  refine y_getI fl_X1_23 ex4 dX1_most_15 ?_
  refine y_aload_n dX1_most_18 0 rfl ?_
  obtain ⟨x5, ex5, hE⟩ := Option.bind_eq_some_iff.mp hE
  refine y_getI fl_X1_26 ex5 dX1_most_19 ?_
  obtain ⟨u6, eu6, hE⟩ := Option.bind_eq_some_iff.mp hE
  obtain ⟨q7, eq7, hE⟩ := Option.bind_eq_some_iff.mp hE
  refine y_cVi0 (st := []) (as := [.int x4, .int x5]) (c_X1_changesForever eq7) lk_X1_29 in_X1_changesForever se_X1_changesForever rfl eu6 ⟨Nat.le_of_ble_eq_true rfl, Nat.le_of_ble_eq_true rfl⟩ (Nat.le_of_ble_eq_true rfl) dX1_most_22 ⟨Nat.le_refl _, Nat.le_refl _⟩ rfl ?_
  refine y_if_eq (tgt := 31) dX1_most_25 (by decide) (fun hc34 => ?_) (fun hc34 => ?_)
  · rw [if_pos hc34] at hE
    refine y_aload_n dX1_most_31 0 rfl ?_
    obtain ⟨x8, ex8, hE⟩ := Option.bind_eq_some_iff.mp hE
    refine y_getI fl_X1_23 ex8 dX1_most_32 ?_
    refine y_iconst (v := (2 : Int32)) dX1_most_35 (by decide) ?_
    refine y_aload_n dX1_most_36 0 rfl ?_
    obtain ⟨x9, ex9, hE⟩ := Option.bind_eq_some_iff.mp hE
    refine y_getI fl_X1_26 ex9 dX1_most_37 ?_
    refine y_imul dX1_most_40 ?_
    refine y_iadd dX1_most_41 ?_
    obtain ⟨x10, ex10, hE⟩ := Option.bind_eq_some_iff.mp hE
    refine y_istore (ls' := [(5, .int x10), (0, .ref a0), (1, .ref o1), (2, .int p2), (3, .int p3), (4, .int p4)]) dX1_most_42 (by decide) (Option.some.inj ex10) rfl ?_
    refine y_iconst (v := (0 : Int32)) dX1_most_44 (by decide) ?_
    refine y_istore (ls' := [(6, .int (0 : Int32)), (5, .int x10), (0, .ref a0), (1, .ref o1), (2, .int p2), (3, .int p3), (4, .int p4)]) dX1_most_45 (by decide) rfl rfl ?_
    obtain ⟨q28, eq28, hE⟩ := Option.bind_eq_some_iff.mp hE
    refine y_pick [2, 1, 0] rfl ?_
    refine l_X1_most_47 (S := S) ⟨Nat.le_refl _, Nat.le_refl _⟩ n a0 x10 n (0 : Int32) q3 _ eq28 (fun r8 hr8 => ?_)
    subst hr8
    refine y_aload_n dX1_most_134 0 rfl ?_
    refine y_aload_n dX1_most_135 0 rfl ?_
    obtain ⟨x29, ex29, hE⟩ := Option.bind_eq_some_iff.mp hE
    refine y_getI fl_X1_23 ex29 dX1_most_136 ?_
    refine y_aload_n dX1_most_139 0 rfl ?_
    obtain ⟨x30, ex30, hE⟩ := Option.bind_eq_some_iff.mp hE
    refine y_getI fl_X1_26 ex30 dX1_most_140 ?_
    refine y_aload_n dX1_most_143 0 rfl ?_
    obtain ⟨x31, ex31, hE⟩ := Option.bind_eq_some_iff.mp hE
    refine y_getI fl_X1_36 ex31 dX1_most_144 ?_
    obtain ⟨u32, eu32, hE⟩ := Option.bind_eq_some_iff.mp hE
    obtain ⟨q33, eq33, hE⟩ := Option.bind_eq_some_iff.mp hE
    refine y_cVi0 (st := []) (as := [.int x29, .int x30, .int x31]) (c_X1_noted eq33) lk_X1_46 in_X1_noted se_X1_noted rfl eu32 ⟨Nat.le_of_ble_eq_true rfl, Nat.le_of_ble_eq_true rfl⟩ (Nat.le_of_ble_eq_true rfl) dX1_most_147 ⟨Nat.le_refl _, Nat.le_refl _⟩ rfl ?_
    obtain ⟨rfl, rfl⟩ := x_inj2 hE
    exact y_ret dX1_most_150 (Nat.le_refl _) (Nat.le_refl _) ⟨_, rfl, rfl⟩
  · rw [if_neg hc34] at hE
    refine y_bipush (v := (99 : Int32)) dX1_most_28 (by decide) ?_
    obtain ⟨rfl, rfl⟩ := x_inj2 hE
    exact y_ret dX1_most_30 (Nat.le_refl _) (Nat.le_refl _) ⟨_, rfl, rfl⟩
def f_X2_init (h : xH) (a0 : Nat) : Option ((xH) × Nat × Nat) :=
  x_add 1 9 <|
  (x_put (h ++ [.inl (.int, 9, .inl (fun _ => 0))]) a0 2 0 (.ref (h.length + 16))).bind fun h3 =>
  x_add 1 8 <|
  (x_put (h3 ++ [.inl (.int, 8, .inl (fun _ => 0))]) a0 2 1 (.ref (h3.length + 16))).bind fun h6 =>
  x_add 1 8 <|
  (x_put (h6 ++ [.inl (.int, 8, .inl (fun _ => 0))]) a0 2 2 (.ref (h6.length + 16))).bind fun h9 =>
  x_add 1 126 <|
  (x_put (h9 ++ [.inl (.int, 126, .inl (fun _ => 0))]) a0 2 3 (.ref (h9.length + 16))).bind fun h12 =>
  x_add 1 0 <|
  (x_put (h12 ++ [.inl (.int, 0, .inl (fun _ => 0))]) a0 2 4 (.ref (h12.length + 16))).bind fun h15 =>
  some (h15, 0, 0)
set_option maxRecDepth 100000 in
set_option maxHeartbeats 4000000 in
theorem c_X2_init {h : xH} {a0 : Nat} {hz : xH} {c9 s9 : Nat} (hE : f_X2_init h a0 = some (hz, c9, s9)) : Ctr M_X2_init [.ref a0] h none hz c9 s9 := by
  refine ctr_of (by decide) (fun _ _ => Nat.le_of_ble_eq_true rfl) (fun S => ?_)
  show Y S M_X2_init h none hz c9 s9 0 [(0, .ref a0)] [] h 0 0
  unfold f_X2_init at hE
  refine y_aload_n dX2_init_0 0 rfl ?_
  refine y_objInit (x_wt (tb 129 (by decide +kernel)) rfl) (x_wt (tb 22 (by decide +kernel)) rfl) (x_wt (tb 23 (by decide +kernel)) rfl) (by decide) (Nat.le_of_ble_eq_true rfl) dX2_init_1 ?_
  refine y_aload_n dX2_init_4 0 rfl ?_
  refine y_bipush (v := (9 : Int32)) dX2_init_5 (by decide) ?_
  obtain ⟨c1, s2, hN, ecc1, ess2⟩ := x_add.spec hE
  clear hE; have hE := hN; clear hN
  refine y_newI (N := 9) (x_wt (tb 92 (by decide +kernel)) rfl) (by decide) (by decide) (by decide) ⟨by omega, by omega⟩ dX2_init_7 ?_
  obtain ⟨h3, eh3, hE⟩ := Option.bind_eq_some_iff.mp hE
  refine y_putR fp_X2_9 (fun q => by first | rfl | cases q) (fun _ => rfl) (fun _ => rfl) eh3 dX2_init_9 ?_
  refine y_aload_n dX2_init_12 0 rfl ?_
  refine y_bipush (v := (8 : Int32)) dX2_init_13 (by decide) ?_
  obtain ⟨c4, s5, hN, ecc4, ess5⟩ := x_add.spec hE
  clear hE; have hE := hN; clear hN
  refine y_newI (N := 8) (x_wt (tb 92 (by decide +kernel)) rfl) (by decide) (by decide) (by decide) ⟨by omega, by omega⟩ dX2_init_15 ?_
  obtain ⟨h6, eh6, hE⟩ := Option.bind_eq_some_iff.mp hE
  refine y_putR fp_X2_15 (fun q => by first | rfl | cases q) (fun _ => rfl) (fun _ => rfl) eh6 dX2_init_17 ?_
  refine y_aload_n dX2_init_20 0 rfl ?_
  refine y_bipush (v := (8 : Int32)) dX2_init_21 (by decide) ?_
  obtain ⟨c7, s8, hN, ecc7, ess8⟩ := x_add.spec hE
  clear hE; have hE := hN; clear hN
  refine y_newI (N := 8) (x_wt (tb 92 (by decide +kernel)) rfl) (by decide) (by decide) (by decide) ⟨by omega, by omega⟩ dX2_init_23 ?_
  obtain ⟨h9, eh9, hE⟩ := Option.bind_eq_some_iff.mp hE
  refine y_putR fp_X2_18 (fun q => by first | rfl | cases q) (fun _ => rfl) (fun _ => rfl) eh9 dX2_init_25 ?_
  refine y_aload_n dX2_init_28 0 rfl ?_
  refine y_bipush (v := (126 : Int32)) dX2_init_29 (by decide) ?_
  obtain ⟨c10, s11, hN, ecc10, ess11⟩ := x_add.spec hE
  clear hE; have hE := hN; clear hN
  refine y_newI (N := 126) (x_wt (tb 92 (by decide +kernel)) rfl) (by decide) (by decide) (by decide) ⟨by omega, by omega⟩ dX2_init_31 ?_
  obtain ⟨h12, eh12, hE⟩ := Option.bind_eq_some_iff.mp hE
  refine y_putR fp_X2_21 (fun q => by first | rfl | cases q) (fun _ => rfl) (fun _ => rfl) eh12 dX2_init_33 ?_
  refine y_aload_n dX2_init_36 0 rfl ?_
  refine y_iconst (v := (0 : Int32)) dX2_init_37 (by decide) ?_
  obtain ⟨c13, s14, hN, ecc13, ess14⟩ := x_add.spec hE
  clear hE; have hE := hN; clear hN
  refine y_newI (N := 0) (x_wt (tb 92 (by decide +kernel)) rfl) (by decide) (by decide) (by decide) ⟨by omega, by omega⟩ dX2_init_38 ?_
  obtain ⟨h15, eh15, hE⟩ := Option.bind_eq_some_iff.mp hE
  refine y_putR fp_X2_24 (fun q => by first | rfl | cases q) (fun _ => rfl) (fun _ => rfl) eh15 dX2_init_40 ?_
  obtain ⟨rfl, rfl, rfl⟩ := x_inj3 hE
  exact y_ret dX2_init_43 (by omega) (by omega) rfl
def f_X2_sortDoors_L12 (v0 : Nat) (v1 : Nat) : Nat → Int32 → xH → Option (xH)
  | 0, _, _ => none
  | k + 1, v2, h =>
    (x_gI h v0 2 6).bind fun x3 =>
    if x3 ≤ v2 then
      some h
    else
      (x_gR h v0 2 0).bind fun a4 =>
      (x_gR h v1 0 1).bind fun a5 =>
      (x_ld h a5 v2).bind fun x6 =>
      (x_gR h v1 0 2).bind fun a7 =>
      (x_ld h a7 v2).bind fun x8 =>
      (x_st h a4 v2 ((i_shl (1 : Int32) x6) ||| (i_shl (1 : Int32) x8))).bind fun h9 =>
      (x_gR h9 v1 0 0).bind fun a10 =>
      (x_ld h9 a10 v2).bind fun x11 =>
      if x11 = (2 : Int32) then
        (x_gI h9 v0 2 9).bind fun x12 =>
        (x_put h9 v0 2 9 (.int (x12 ||| (i_shl (1 : Int32) v2)))).bind fun h13 =>
        (some (v2 + (1 : Int32))).bind fun x14 =>
        f_X2_sortDoors_L12 v0 v1 k x14 h13
      else
        (x_ob h9 v1 0).bind fun u15 =>
        (f_X0_weightOf h9 v1 v2).bind fun q16 =>
        if q16 = (1 : Int32) then
          (x_gI h9 v0 2 8).bind fun x17 =>
          (x_put h9 v0 2 8 (.int (x17 ||| (i_shl (1 : Int32) v2)))).bind fun h18 =>
          (some (v2 + (1 : Int32))).bind fun x19 =>
          f_X2_sortDoors_L12 v0 v1 k x19 h18
        else
          (some (v2 + (1 : Int32))).bind fun x20 =>
          f_X2_sortDoors_L12 v0 v1 k x20 h9
set_option maxRecDepth 100000 in
set_option maxHeartbeats 4000000 in
theorem l_X2_sortDoors_12 {S : Nat × (Nat → Int32)} {rv : Option Value} {h0 h1 : xH} {mc ms : Nat} {cells slots : Nat} (hm : cells ≤ mc ∧ slots ≤ ms) (v0 : Nat) (v1 : Nat) : ∀ (k : Nat) (v2 : Int32) (h : xH) (res : xH), f_X2_sortDoors_L12 v0 v1 k v2 h = some res → (∀ r9, res = r9 → Y S M_X2_sortDoors h0 rv h1 mc ms 95 [] [] r9 cells slots) → Y S M_X2_sortDoors h0 rv h1 mc ms 12 [(0, .ref v0), (1, .ref v1), (2, .int v2)] [] h cells slots := by
  intro k
  induction k with
  | zero =>
    intro _ _ _ hE
    cases hE
  | succ k ih =>
    intro v2 h res hE K
    unfold f_X2_sortDoors_L12 at hE
    refine y_iload_n dX2_sortDoors_12 2 rfl ?_
    refine y_aload_n dX2_sortDoors_13 0 rfl ?_
    obtain ⟨x3, ex3, hE⟩ := Option.bind_eq_some_iff.mp hE
    refine y_getI fl_X2_39 ex3 dX2_sortDoors_14 ?_
    refine y_icmp_ge (tgt := 95) dX2_sortDoors_17 (by decide) (fun hc23 => ?_) (fun hc23 => ?_)
    · rw [if_pos hc23] at hE
      obtain rfl := Option.some.inj hE
      exact y_pick [] rfl (K _ rfl)
    · rw [if_neg hc23] at hE
      refine y_aload_n dX2_sortDoors_20 0 rfl ?_
      obtain ⟨a4, ea4, hE⟩ := Option.bind_eq_some_iff.mp hE
      refine y_getR fl_X2_9 ea4 dX2_sortDoors_21 ?_
      refine y_iload_n dX2_sortDoors_24 2 rfl ?_
      refine y_iconst (v := (1 : Int32)) dX2_sortDoors_25 (by decide) ?_
      refine y_aload_n dX2_sortDoors_26 1 rfl ?_
      obtain ⟨a5, ea5, hE⟩ := Option.bind_eq_some_iff.mp hE
      refine y_getR fl_X2_75 ea5 dX2_sortDoors_27 ?_
      refine y_iload_n dX2_sortDoors_30 2 rfl ?_
      obtain ⟨x6, ex6, hE⟩ := Option.bind_eq_some_iff.mp hE
      refine y_iald ex6 dX2_sortDoors_31 ?_
      refine y_ishl dX2_sortDoors_32 ?_
      refine y_iconst (v := (1 : Int32)) dX2_sortDoors_33 (by decide) ?_
      refine y_aload_n dX2_sortDoors_34 1 rfl ?_
      obtain ⟨a7, ea7, hE⟩ := Option.bind_eq_some_iff.mp hE
      refine y_getR fl_X2_78 ea7 dX2_sortDoors_35 ?_
      refine y_iload_n dX2_sortDoors_38 2 rfl ?_
      obtain ⟨x8, ex8, hE⟩ := Option.bind_eq_some_iff.mp hE
      refine y_iald ex8 dX2_sortDoors_39 ?_
      refine y_ishl dX2_sortDoors_40 ?_
      refine y_ior dX2_sortDoors_41 ?_
      obtain ⟨h9, eh9, hE⟩ := Option.bind_eq_some_iff.mp hE
      refine y_iast eh9 dX2_sortDoors_42 ?_
      refine y_aload_n dX2_sortDoors_43 1 rfl ?_
      obtain ⟨a10, ea10, hE⟩ := Option.bind_eq_some_iff.mp hE
      refine y_getR fl_X2_81 ea10 dX2_sortDoors_44 ?_
      refine y_iload_n dX2_sortDoors_47 2 rfl ?_
      obtain ⟨x11, ex11, hE⟩ := Option.bind_eq_some_iff.mp hE
      refine y_iald ex11 dX2_sortDoors_48 ?_
      refine y_iconst (v := (2 : Int32)) dX2_sortDoors_49 (by decide) ?_
      refine y_icmp_ne (tgt := 68) dX2_sortDoors_50 (by decide) (fun hc22 => ?_) (fun hc22 => ?_)
      · rw [if_pos hc22] at hE
        refine y_aload_n dX2_sortDoors_53 0 rfl ?_
        refine y_dup dX2_sortDoors_54 rfl ?_
        obtain ⟨x12, ex12, hE⟩ := Option.bind_eq_some_iff.mp hE
        refine y_getI fl_X2_72 ex12 dX2_sortDoors_55 ?_
        refine y_iconst (v := (1 : Int32)) dX2_sortDoors_58 (by decide) ?_
        refine y_iload_n dX2_sortDoors_59 2 rfl ?_
        refine y_ishl dX2_sortDoors_60 ?_
        refine y_ior dX2_sortDoors_61 ?_
        obtain ⟨h13, eh13, hE⟩ := Option.bind_eq_some_iff.mp hE
        refine y_putI fp_X2_72 eh13 dX2_sortDoors_62 ?_
        refine y_goto (tgt := 89) dX2_sortDoors_65 (by decide) ?_
        obtain ⟨x14, ex14, hE⟩ := Option.bind_eq_some_iff.mp hE
        refine y_iinc (ls' := [(2, .int x14), (0, .ref v0), (1, .ref v1)]) dX2_sortDoors_89 2 rfl (Option.some.inj ex14) (by decide) rfl ?_
        refine y_goto (tgt := 12) dX2_sortDoors_92 (by decide) ?_
        refine y_pick [1, 2, 0] rfl ?_
        exact ih _ _ _ hE K
      · rw [if_neg hc22] at hE
        refine y_aload_n dX2_sortDoors_68 1 rfl ?_
        refine y_iload_n dX2_sortDoors_69 2 rfl ?_
        obtain ⟨u15, eu15, hE⟩ := Option.bind_eq_some_iff.mp hE
        obtain ⟨q16, eq16, hE⟩ := Option.bind_eq_some_iff.mp hE
        refine y_cVi0 (st := []) (as := [.int v2]) (c_X0_weightOf eq16) lk_X2_84 in_X0_weightOf se_X0_weightOf rfl eu15 ⟨Nat.le_of_ble_eq_true rfl, Nat.le_of_ble_eq_true rfl⟩ (Nat.le_of_ble_eq_true rfl) dX2_sortDoors_70 hm rfl ?_
        refine y_iconst (v := (1 : Int32)) dX2_sortDoors_73 (by decide) ?_
        refine y_icmp_ne (tgt := 89) dX2_sortDoors_74 (by decide) (fun hc21 => ?_) (fun hc21 => ?_)
        · rw [if_pos hc21] at hE
          refine y_aload_n dX2_sortDoors_77 0 rfl ?_
          refine y_dup dX2_sortDoors_78 rfl ?_
          obtain ⟨x17, ex17, hE⟩ := Option.bind_eq_some_iff.mp hE
          refine y_getI fl_X2_69 ex17 dX2_sortDoors_79 ?_
          refine y_iconst (v := (1 : Int32)) dX2_sortDoors_82 (by decide) ?_
          refine y_iload_n dX2_sortDoors_83 2 rfl ?_
          refine y_ishl dX2_sortDoors_84 ?_
          refine y_ior dX2_sortDoors_85 ?_
          obtain ⟨h18, eh18, hE⟩ := Option.bind_eq_some_iff.mp hE
          refine y_putI fp_X2_69 eh18 dX2_sortDoors_86 ?_
          obtain ⟨x19, ex19, hE⟩ := Option.bind_eq_some_iff.mp hE
          refine y_iinc (ls' := [(2, .int x19), (0, .ref v0), (1, .ref v1)]) dX2_sortDoors_89 2 rfl (Option.some.inj ex19) (by decide) rfl ?_
          refine y_goto (tgt := 12) dX2_sortDoors_92 (by decide) ?_
          refine y_pick [1, 2, 0] rfl ?_
          exact ih _ _ _ hE K
        · rw [if_neg hc21] at hE
          obtain ⟨x20, ex20, hE⟩ := Option.bind_eq_some_iff.mp hE
          refine y_iinc (ls' := [(2, .int x20), (0, .ref v0), (1, .ref v1)]) dX2_sortDoors_89 2 rfl (Option.some.inj ex20) (by decide) rfl ?_
          refine y_goto (tgt := 12) dX2_sortDoors_92 (by decide) ?_
          refine y_pick [1, 2, 0] rfl ?_
          exact ih _ _ _ hE K
def f_X2_sortDoors (n : Nat) (h : xH) (a0 : Nat) (o1 : Nat) : Option (xH) :=
  (x_put h a0 2 8 (.int (0 : Int32))).bind fun h1 =>
  (x_put h1 a0 2 9 (.int (0 : Int32))).bind fun h2 =>
  (f_X2_sortDoors_L12 a0 o1 n (0 : Int32) h2).bind fun q24 =>
  some q24
set_option maxRecDepth 100000 in
set_option maxHeartbeats 4000000 in
theorem c_X2_sortDoors {n : Nat} {h : xH} {a0 : Nat} {o1 : Nat} {hz : xH} (hE : f_X2_sortDoors n h a0 o1 = some hz) : Ctr M_X2_sortDoors [.ref a0, .ref o1] h none hz 0 0 := by
  refine ctr_of (by decide) (fun _ _ => Nat.le_of_ble_eq_true rfl) (fun S => ?_)
  show Y S M_X2_sortDoors h none hz 0 0 0 [(0, .ref a0), (1, .ref o1)] [] h 0 0
  unfold f_X2_sortDoors at hE
  refine y_aload_n dX2_sortDoors_0 0 rfl ?_
  refine y_iconst (v := (0 : Int32)) dX2_sortDoors_1 (by decide) ?_
  obtain ⟨h1, eh1, hE⟩ := Option.bind_eq_some_iff.mp hE
  refine y_putI fp_X2_69 eh1 dX2_sortDoors_2 ?_
  refine y_aload_n dX2_sortDoors_5 0 rfl ?_
  refine y_iconst (v := (0 : Int32)) dX2_sortDoors_6 (by decide) ?_
  obtain ⟨h2, eh2, hE⟩ := Option.bind_eq_some_iff.mp hE
  refine y_putI fp_X2_72 eh2 dX2_sortDoors_7 ?_
  refine y_iconst (v := (0 : Int32)) dX2_sortDoors_10 (by decide) ?_
  refine y_istore_n (ls' := [(2, .int (0 : Int32)), (0, .ref a0), (1, .ref o1)]) dX2_sortDoors_11 (by decide) rfl rfl ?_
  obtain ⟨q24, eq24, hE⟩ := Option.bind_eq_some_iff.mp hE
  refine y_pick [1, 2, 0] rfl ?_
  refine l_X2_sortDoors_12 (S := S) ⟨Nat.le_refl _, Nat.le_refl _⟩ a0 o1 n (0 : Int32) h2 _ eq24 (fun r8 hr8 => ?_)
  subst hr8
  obtain rfl := Option.some.inj hE
  exact y_ret dX2_sortDoors_95 (Nat.le_refl _) (Nat.le_refl _) rfl
