theorem dX0_opensBy_0 : decode cX0_opensBy 0 = .ok (.aload_n 0, 1) := by decide +kernel
theorem dX0_opensBy_1 : decode cX0_opensBy 1 = .ok (.iload_n 1, 1) := by decide +kernel
theorem dX0_opensBy_2 : decode cX0_opensBy 2 = .ok (.iload_n 2, 1) := by decide +kernel
theorem dX0_opensBy_3 : decode cX0_opensBy 3 = .ok (.invokevirtual 70, 3) := by decide +kernel
theorem dX0_opensBy_6 : decode cX0_opensBy 6 = .ok (.ifCond .eq 26, 3) := by decide +kernel
theorem dX0_opensBy_9 : decode cX0_opensBy 9 = .ok (.iload_n 3, 1) := by decide +kernel
theorem dX0_opensBy_10 : decode cX0_opensBy 10 = .ok (.aload_n 0, 1) := by decide +kernel
theorem dX0_opensBy_11 : decode cX0_opensBy 11 = .ok (.invokevirtual 73, 3) := by decide +kernel
theorem dX0_opensBy_14 : decode cX0_opensBy 14 = .ok (.iconst (-1), 1) := by decide +kernel
theorem dX0_opensBy_15 : decode cX0_opensBy 15 = .ok (.ixor, 1) := by decide +kernel
theorem dX0_opensBy_16 : decode cX0_opensBy 16 = .ok (.iand, 1) := by decide +kernel
theorem dX0_opensBy_17 : decode cX0_opensBy 17 = .ok (.ifCond .ne 15, 3) := by decide +kernel
theorem dX0_opensBy_20 : decode cX0_opensBy 20 = .ok (.aload_n 0, 1) := by decide +kernel
theorem dX0_opensBy_21 : decode cX0_opensBy 21 = .ok (.iload_n 3, 1) := by decide +kernel
theorem dX0_opensBy_22 : decode cX0_opensBy 22 = .ok (.invokevirtual 77, 3) := by decide +kernel
theorem dX0_opensBy_25 : decode cX0_opensBy 25 = .ok (.ifCond .eq 7, 3) := by decide +kernel
theorem dX0_opensBy_28 : decode cX0_opensBy 28 = .ok (.iconst 1, 1) := by decide +kernel
theorem dX0_opensBy_29 : decode cX0_opensBy 29 = .ok (.goto 4, 3) := by decide +kernel
theorem dX0_opensBy_32 : decode cX0_opensBy 32 = .ok (.iconst 0, 1) := by decide +kernel
theorem dX0_opensBy_33 : decode cX0_opensBy 33 = .ok (.ireturn, 1) := by decide +kernel
theorem dX0_leastSet_0 : decode cX0_leastSet 0 = .ok (.aload_n 0, 1) := by decide +kernel
theorem dX0_leastSet_1 : decode cX0_leastSet 1 = .ok (.iload_n 1, 1) := by decide +kernel
theorem dX0_leastSet_2 : decode cX0_leastSet 2 = .ok (.iload_n 2, 1) := by decide +kernel
theorem dX0_leastSet_3 : decode cX0_leastSet 3 = .ok (.invokevirtual 70, 3) := by decide +kernel
theorem dX0_leastSet_6 : decode cX0_leastSet 6 = .ok (.ifCond .ne 5, 3) := by decide +kernel
theorem dX0_leastSet_9 : decode cX0_leastSet 9 = .ok (.iconst (-1), 1) := by decide +kernel
theorem dX0_leastSet_10 : decode cX0_leastSet 10 = .ok (.ireturn, 1) := by decide +kernel
theorem dX0_leastSet_11 : decode cX0_leastSet 11 = .ok (.aload_n 0, 1) := by decide +kernel
theorem dX0_leastSet_12 : decode cX0_leastSet 12 = .ok (.invokevirtual 73, 3) := by decide +kernel
theorem dX0_leastSet_15 : decode cX0_leastSet 15 = .ok (.istore_n 3, 1) := by decide +kernel
theorem dX0_leastSet_16 : decode cX0_leastSet 16 = .ok (.aload_n 0, 1) := by decide +kernel
theorem dX0_leastSet_17 : decode cX0_leastSet 17 = .ok (.iload_n 3, 1) := by decide +kernel
theorem dX0_leastSet_18 : decode cX0_leastSet 18 = .ok (.invokevirtual 67, 3) := by decide +kernel
theorem dX0_leastSet_21 : decode cX0_leastSet 21 = .ok (.istore 4, 2) := by decide +kernel
theorem dX0_leastSet_23 : decode cX0_leastSet 23 = .ok (.iload 4, 2) := by decide +kernel
theorem dX0_leastSet_25 : decode cX0_leastSet 25 = .ok (.aload_n 0, 1) := by decide +kernel
theorem dX0_leastSet_26 : decode cX0_leastSet 26 = .ok (.getfield 24, 3) := by decide +kernel
theorem dX0_leastSet_29 : decode cX0_leastSet 29 = .ok (.if_icmp .ge 5, 3) := by decide +kernel
theorem dX0_leastSet_32 : decode cX0_leastSet 32 = .ok (.iconst (-1), 1) := by decide +kernel
theorem dX0_leastSet_33 : decode cX0_leastSet 33 = .ok (.ireturn, 1) := by decide +kernel
theorem dX0_leastSet_34 : decode cX0_leastSet 34 = .ok (.aload_n 0, 1) := by decide +kernel
theorem dX0_leastSet_35 : decode cX0_leastSet 35 = .ok (.getfield 31, 3) := by decide +kernel
theorem dX0_leastSet_38 : decode cX0_leastSet 38 = .ok (.iconst 1, 1) := by decide +kernel
theorem dX0_leastSet_39 : decode cX0_leastSet 39 = .ok (.isub, 1) := by decide +kernel
theorem dX0_leastSet_40 : decode cX0_leastSet 40 = .ok (.istore 5, 2) := by decide +kernel
theorem dX0_leastSet_42 : decode cX0_leastSet 42 = .ok (.iload 5, 2) := by decide +kernel
theorem dX0_leastSet_44 : decode cX0_leastSet 44 = .ok (.ifCond .lt 54, 3) := by decide +kernel
theorem dX0_leastSet_47 : decode cX0_leastSet 47 = .ok (.iload_n 3, 1) := by decide +kernel
theorem dX0_leastSet_48 : decode cX0_leastSet 48 = .ok (.iload 5, 2) := by decide +kernel
theorem dX0_leastSet_50 : decode cX0_leastSet 50 = .ok (.ishr, 1) := by decide +kernel
theorem dX0_leastSet_51 : decode cX0_leastSet 51 = .ok (.iconst 1, 1) := by decide +kernel
theorem dX0_leastSet_52 : decode cX0_leastSet 52 = .ok (.iand, 1) := by decide +kernel
theorem dX0_leastSet_53 : decode cX0_leastSet 53 = .ok (.ifCond .eq 39, 3) := by decide +kernel
theorem dX0_leastSet_56 : decode cX0_leastSet 56 = .ok (.iload 4, 2) := by decide +kernel
theorem dX0_leastSet_58 : decode cX0_leastSet 58 = .ok (.aload_n 0, 1) := by decide +kernel
theorem dX0_leastSet_59 : decode cX0_leastSet 59 = .ok (.iload 5, 2) := by decide +kernel
theorem dX0_leastSet_61 : decode cX0_leastSet 61 = .ok (.invokevirtual 63, 3) := by decide +kernel
theorem dX0_leastSet_64 : decode cX0_leastSet 64 = .ok (.isub, 1) := by decide +kernel
theorem dX0_leastSet_65 : decode cX0_leastSet 65 = .ok (.aload_n 0, 1) := by decide +kernel
theorem dX0_leastSet_66 : decode cX0_leastSet 66 = .ok (.getfield 24, 3) := by decide +kernel
theorem dX0_leastSet_69 : decode cX0_leastSet 69 = .ok (.if_icmp .lt 23, 3) := by decide +kernel
theorem dX0_leastSet_72 : decode cX0_leastSet 72 = .ok (.iload_n 3, 1) := by decide +kernel
theorem dX0_leastSet_73 : decode cX0_leastSet 73 = .ok (.iconst 1, 1) := by decide +kernel
theorem dX0_leastSet_74 : decode cX0_leastSet 74 = .ok (.iload 5, 2) := by decide +kernel
theorem dX0_leastSet_76 : decode cX0_leastSet 76 = .ok (.ishl, 1) := by decide +kernel
theorem dX0_leastSet_77 : decode cX0_leastSet 77 = .ok (.iconst (-1), 1) := by decide +kernel
theorem dX0_leastSet_78 : decode cX0_leastSet 78 = .ok (.ixor, 1) := by decide +kernel
theorem dX0_leastSet_79 : decode cX0_leastSet 79 = .ok (.iand, 1) := by decide +kernel
theorem dX0_leastSet_80 : decode cX0_leastSet 80 = .ok (.istore_n 3, 1) := by decide +kernel
theorem dX0_leastSet_81 : decode cX0_leastSet 81 = .ok (.iload 4, 2) := by decide +kernel
theorem dX0_leastSet_83 : decode cX0_leastSet 83 = .ok (.aload_n 0, 1) := by decide +kernel
theorem dX0_leastSet_84 : decode cX0_leastSet 84 = .ok (.iload 5, 2) := by decide +kernel
theorem dX0_leastSet_86 : decode cX0_leastSet 86 = .ok (.invokevirtual 63, 3) := by decide +kernel
theorem dX0_leastSet_89 : decode cX0_leastSet 89 = .ok (.isub, 1) := by decide +kernel
theorem dX0_leastSet_90 : decode cX0_leastSet 90 = .ok (.istore 4, 2) := by decide +kernel
theorem dX0_leastSet_92 : decode cX0_leastSet 92 = .ok (.iinc 5 (-1), 3) := by decide +kernel
theorem dX0_leastSet_95 : decode cX0_leastSet 95 = .ok (.goto (-53), 3) := by decide +kernel
theorem dX0_leastSet_98 : decode cX0_leastSet 98 = .ok (.iload_n 3, 1) := by decide +kernel
theorem dX0_leastSet_99 : decode cX0_leastSet 99 = .ok (.ireturn, 1) := by decide +kernel
theorem dX6_singlesBeside_0 : decode cX6_singlesBeside 0 = .ok (.iconst 0, 1) := by decide +kernel
theorem dX6_singlesBeside_1 : decode cX6_singlesBeside 1 = .ok (.iload_n 0, 1) := by decide +kernel
theorem dX6_singlesBeside_2 : decode cX6_singlesBeside 2 = .ok (.iconst 2, 1) := by decide +kernel
theorem dX6_singlesBeside_3 : decode cX6_singlesBeside 3 = .ok (.iload_n 1, 1) := by decide +kernel
theorem dX6_singlesBeside_4 : decode cX6_singlesBeside 4 = .ok (.imul, 1) := by decide +kernel
theorem dX6_singlesBeside_5 : decode cX6_singlesBeside 5 = .ok (.isub, 1) := by decide +kernel
theorem dX6_singlesBeside_6 : decode cX6_singlesBeside 6 = .ok (.invokestatic 293, 3) := by decide +kernel
theorem dX6_singlesBeside_9 : decode cX6_singlesBeside 9 = .ok (.ireturn, 1) := by decide +kernel
theorem dX0_choose_0 : decode cX0_choose 0 = .ok (.iconst 1, 1) := by decide +kernel
theorem dX0_choose_1 : decode cX0_choose 1 = .ok (.istore_n 2, 1) := by decide +kernel
theorem dX0_choose_2 : decode cX0_choose 2 = .ok (.iconst 0, 1) := by decide +kernel
theorem dX0_choose_3 : decode cX0_choose 3 = .ok (.istore_n 3, 1) := by decide +kernel
theorem dX0_choose_4 : decode cX0_choose 4 = .ok (.iload_n 3, 1) := by decide +kernel
theorem dX0_choose_5 : decode cX0_choose 5 = .ok (.iload_n 1, 1) := by decide +kernel
theorem dX0_choose_6 : decode cX0_choose 6 = .ok (.if_icmp .ge 19, 3) := by decide +kernel
theorem dX0_choose_9 : decode cX0_choose 9 = .ok (.iload_n 2, 1) := by decide +kernel
theorem dX0_choose_10 : decode cX0_choose 10 = .ok (.iload_n 0, 1) := by decide +kernel
theorem dX0_choose_11 : decode cX0_choose 11 = .ok (.iload_n 3, 1) := by decide +kernel
theorem dX0_choose_12 : decode cX0_choose 12 = .ok (.isub, 1) := by decide +kernel
theorem dX0_choose_13 : decode cX0_choose 13 = .ok (.imul, 1) := by decide +kernel
theorem dX0_choose_14 : decode cX0_choose 14 = .ok (.iload_n 3, 1) := by decide +kernel
theorem dX0_choose_15 : decode cX0_choose 15 = .ok (.iconst 1, 1) := by decide +kernel
theorem dX0_choose_16 : decode cX0_choose 16 = .ok (.iadd, 1) := by decide +kernel
theorem dX0_choose_17 : decode cX0_choose 17 = .ok (.idiv, 1) := by decide +kernel
theorem dX0_choose_18 : decode cX0_choose 18 = .ok (.istore_n 2, 1) := by decide +kernel
theorem dX0_choose_19 : decode cX0_choose 19 = .ok (.iinc 3 1, 3) := by decide +kernel
theorem dX0_choose_22 : decode cX0_choose 22 = .ok (.goto (-18), 3) := by decide +kernel
theorem dX0_choose_25 : decode cX0_choose 25 = .ok (.iload_n 2, 1) := by decide +kernel
theorem dX0_choose_26 : decode cX0_choose 26 = .ok (.ireturn, 1) := by decide +kernel
theorem dX0_countSets_0 : decode cX0_countSets 0 = .ok (.aload_n 0, 1) := by decide +kernel
theorem dX0_countSets_1 : decode cX0_countSets 1 = .ok (.iload_n 1, 1) := by decide +kernel
theorem dX0_countSets_2 : decode cX0_countSets 2 = .ok (.iload_n 2, 1) := by decide +kernel
theorem dX0_countSets_3 : decode cX0_countSets 3 = .ok (.invokevirtual 70, 3) := by decide +kernel
theorem dX0_countSets_6 : decode cX0_countSets 6 = .ok (.ifCond .ne 5, 3) := by decide +kernel
theorem dX0_countSets_9 : decode cX0_countSets 9 = .ok (.iconst 0, 1) := by decide +kernel
theorem dX0_countSets_10 : decode cX0_countSets 10 = .ok (.ireturn, 1) := by decide +kernel
theorem dX0_countSets_11 : decode cX0_countSets 11 = .ok (.aload_n 0, 1) := by decide +kernel
theorem dX0_countSets_12 : decode cX0_countSets 12 = .ok (.invokevirtual 73, 3) := by decide +kernel
theorem dX0_countSets_15 : decode cX0_countSets 15 = .ok (.istore_n 3, 1) := by decide +kernel
theorem dX0_countSets_16 : decode cX0_countSets 16 = .ok (.iconst 0, 1) := by decide +kernel
theorem dX0_countSets_17 : decode cX0_countSets 17 = .ok (.istore 4, 2) := by decide +kernel
theorem dX0_countSets_19 : decode cX0_countSets 19 = .ok (.iconst 0, 1) := by decide +kernel
theorem dX0_countSets_20 : decode cX0_countSets 20 = .ok (.istore 5, 2) := by decide +kernel
theorem dX0_countSets_22 : decode cX0_countSets 22 = .ok (.iconst 0, 1) := by decide +kernel
theorem dX0_countSets_23 : decode cX0_countSets 23 = .ok (.istore 6, 2) := by decide +kernel
theorem dX0_countSets_25 : decode cX0_countSets 25 = .ok (.iload 6, 2) := by decide +kernel
theorem dX0_countSets_27 : decode cX0_countSets 27 = .ok (.aload_n 0, 1) := by decide +kernel
theorem dX0_countSets_28 : decode cX0_countSets 28 = .ok (.getfield 31, 3) := by decide +kernel
theorem dX0_countSets_31 : decode cX0_countSets 31 = .ok (.if_icmp .ge 58, 3) := by decide +kernel
theorem dX0_countSets_34 : decode cX0_countSets 34 = .ok (.iload_n 3, 1) := by decide +kernel
theorem dX0_countSets_35 : decode cX0_countSets 35 = .ok (.iload 6, 2) := by decide +kernel
theorem dX0_countSets_37 : decode cX0_countSets 37 = .ok (.ishr, 1) := by decide +kernel
theorem dX0_countSets_38 : decode cX0_countSets 38 = .ok (.iconst 1, 1) := by decide +kernel
theorem dX0_countSets_39 : decode cX0_countSets 39 = .ok (.iand, 1) := by decide +kernel
theorem dX0_countSets_40 : decode cX0_countSets 40 = .ok (.ifCond .eq 43, 3) := by decide +kernel
theorem dX0_countSets_43 : decode cX0_countSets 43 = .ok (.iload 4, 2) := by decide +kernel
theorem dX0_countSets_45 : decode cX0_countSets 45 = .ok (.aload_n 0, 1) := by decide +kernel
theorem dX0_countSets_46 : decode cX0_countSets 46 = .ok (.iload 6, 2) := by decide +kernel
theorem dX0_countSets_48 : decode cX0_countSets 48 = .ok (.invokevirtual 63, 3) := by decide +kernel
theorem dX0_countSets_51 : decode cX0_countSets 51 = .ok (.iconst 1, 1) := by decide +kernel
theorem dX0_countSets_52 : decode cX0_countSets 52 = .ok (.if_icmp .ne 7, 3) := by decide +kernel
theorem dX0_countSets_55 : decode cX0_countSets 55 = .ok (.iconst 1, 1) := by decide +kernel
theorem dX0_countSets_56 : decode cX0_countSets 56 = .ok (.goto 4, 3) := by decide +kernel
theorem dX0_countSets_59 : decode cX0_countSets 59 = .ok (.iconst 0, 1) := by decide +kernel
theorem dX0_countSets_60 : decode cX0_countSets 60 = .ok (.iadd, 1) := by decide +kernel
theorem dX0_countSets_61 : decode cX0_countSets 61 = .ok (.istore 4, 2) := by decide +kernel
theorem dX0_countSets_63 : decode cX0_countSets 63 = .ok (.iload 5, 2) := by decide +kernel
theorem dX0_countSets_65 : decode cX0_countSets 65 = .ok (.aload_n 0, 1) := by decide +kernel
theorem dX0_countSets_66 : decode cX0_countSets 66 = .ok (.iload 6, 2) := by decide +kernel
theorem dX0_countSets_68 : decode cX0_countSets 68 = .ok (.invokevirtual 63, 3) := by decide +kernel
theorem dX0_countSets_71 : decode cX0_countSets 71 = .ok (.iconst 2, 1) := by decide +kernel
theorem dX0_countSets_72 : decode cX0_countSets 72 = .ok (.if_icmp .ne 7, 3) := by decide +kernel
theorem dX0_countSets_75 : decode cX0_countSets 75 = .ok (.iconst 1, 1) := by decide +kernel
theorem dX0_countSets_76 : decode cX0_countSets 76 = .ok (.goto 4, 3) := by decide +kernel
theorem dX0_countSets_79 : decode cX0_countSets 79 = .ok (.iconst 0, 1) := by decide +kernel
theorem dX0_countSets_80 : decode cX0_countSets 80 = .ok (.iadd, 1) := by decide +kernel
theorem dX0_countSets_81 : decode cX0_countSets 81 = .ok (.istore 5, 2) := by decide +kernel
theorem dX0_countSets_83 : decode cX0_countSets 83 = .ok (.iinc 6 1, 3) := by decide +kernel
theorem dX0_countSets_86 : decode cX0_countSets 86 = .ok (.goto (-61), 3) := by decide +kernel
theorem dX0_countSets_89 : decode cX0_countSets 89 = .ok (.iconst 0, 1) := by decide +kernel
theorem dX0_countSets_90 : decode cX0_countSets 90 = .ok (.istore 6, 2) := by decide +kernel
theorem dX0_countSets_92 : decode cX0_countSets 92 = .ok (.iconst 0, 1) := by decide +kernel
theorem dX0_countSets_93 : decode cX0_countSets 93 = .ok (.istore 7, 2) := by decide +kernel
theorem dX0_countSets_95 : decode cX0_countSets 95 = .ok (.iconst 2, 1) := by decide +kernel
theorem dX0_countSets_96 : decode cX0_countSets 96 = .ok (.iload 7, 2) := by decide +kernel
theorem dX0_countSets_98 : decode cX0_countSets 98 = .ok (.imul, 1) := by decide +kernel
theorem dX0_countSets_99 : decode cX0_countSets 99 = .ok (.aload_n 0, 1) := by decide +kernel
theorem dX0_countSets_100 : decode cX0_countSets 100 = .ok (.getfield 24, 3) := by decide +kernel
theorem dX0_countSets_103 : decode cX0_countSets 103 = .ok (.iconst 1, 1) := by decide +kernel
theorem dX0_countSets_104 : decode cX0_countSets 104 = .ok (.iadd, 1) := by decide +kernel
theorem dX0_countSets_105 : decode cX0_countSets 105 = .ok (.if_icmp .gt 36, 3) := by decide +kernel
theorem dX0_countSets_108 : decode cX0_countSets 108 = .ok (.iload 6, 2) := by decide +kernel
theorem dX0_countSets_110 : decode cX0_countSets 110 = .ok (.iload 4, 2) := by decide +kernel
theorem dX0_countSets_112 : decode cX0_countSets 112 = .ok (.aload_n 0, 1) := by decide +kernel
theorem dX0_countSets_113 : decode cX0_countSets 113 = .ok (.getfield 24, 3) := by decide +kernel
theorem dX0_countSets_116 : decode cX0_countSets 116 = .ok (.iload 7, 2) := by decide +kernel
theorem dX0_countSets_118 : decode cX0_countSets 118 = .ok (.invokestatic 80, 3) := by decide +kernel
theorem dX0_countSets_121 : decode cX0_countSets 121 = .ok (.invokestatic 84, 3) := by decide +kernel
theorem dX0_countSets_124 : decode cX0_countSets 124 = .ok (.iload 5, 2) := by decide +kernel
theorem dX0_countSets_126 : decode cX0_countSets 126 = .ok (.iload 7, 2) := by decide +kernel
theorem dX0_countSets_128 : decode cX0_countSets 128 = .ok (.invokestatic 84, 3) := by decide +kernel
theorem dX0_countSets_131 : decode cX0_countSets 131 = .ok (.imul, 1) := by decide +kernel
theorem dX0_countSets_132 : decode cX0_countSets 132 = .ok (.iadd, 1) := by decide +kernel
theorem dX0_countSets_133 : decode cX0_countSets 133 = .ok (.istore 6, 2) := by decide +kernel
theorem dX0_countSets_135 : decode cX0_countSets 135 = .ok (.iinc 7 1, 3) := by decide +kernel
theorem dX0_countSets_138 : decode cX0_countSets 138 = .ok (.goto (-43), 3) := by decide +kernel
theorem dX0_countSets_141 : decode cX0_countSets 141 = .ok (.iload 6, 2) := by decide +kernel
theorem dX0_countSets_143 : decode cX0_countSets 143 = .ok (.ireturn, 1) := by decide +kernel
theorem dX0_goThrough_0 : decode cX0_goThrough 0 = .ok (.aload_n 0, 1) := by decide +kernel
theorem dX0_goThrough_1 : decode cX0_goThrough 1 = .ok (.getfield 21, 3) := by decide +kernel
theorem dX0_goThrough_4 : decode cX0_goThrough 4 = .ok (.iload_n 1, 1) := by decide +kernel
theorem dX0_goThrough_5 : decode cX0_goThrough 5 = .ok (.aload_n 0, 1) := by decide +kernel
theorem dX0_goThrough_6 : decode cX0_goThrough 6 = .ok (.getfield 21, 3) := by decide +kernel
theorem dX0_goThrough_9 : decode cX0_goThrough 9 = .ok (.iload_n 1, 1) := by decide +kernel
theorem dX0_goThrough_10 : decode cX0_goThrough 10 = .ok (.iaload, 1) := by decide +kernel
theorem dX0_goThrough_11 : decode cX0_goThrough 11 = .ok (.aload_n 0, 1) := by decide +kernel
theorem dX0_goThrough_12 : decode cX0_goThrough 12 = .ok (.getfield 15, 3) := by decide +kernel
theorem dX0_goThrough_15 : decode cX0_goThrough 15 = .ok (.iload_n 2, 1) := by decide +kernel
theorem dX0_goThrough_16 : decode cX0_goThrough 16 = .ok (.iaload, 1) := by decide +kernel
theorem dX0_goThrough_17 : decode cX0_goThrough 17 = .ok (.if_icmp .ne 12, 3) := by decide +kernel
theorem dX0_goThrough_20 : decode cX0_goThrough 20 = .ok (.aload_n 0, 1) := by decide +kernel
theorem dX0_goThrough_21 : decode cX0_goThrough 21 = .ok (.getfield 18, 3) := by decide +kernel
theorem dX0_goThrough_24 : decode cX0_goThrough 24 = .ok (.iload_n 2, 1) := by decide +kernel
theorem dX0_goThrough_25 : decode cX0_goThrough 25 = .ok (.iaload, 1) := by decide +kernel
theorem dX0_goThrough_26 : decode cX0_goThrough 26 = .ok (.goto 9, 3) := by decide +kernel
theorem dX0_goThrough_29 : decode cX0_goThrough 29 = .ok (.aload_n 0, 1) := by decide +kernel
theorem dX0_goThrough_30 : decode cX0_goThrough 30 = .ok (.getfield 15, 3) := by decide +kernel
theorem dX0_goThrough_33 : decode cX0_goThrough 33 = .ok (.iload_n 2, 1) := by decide +kernel
theorem dX0_goThrough_34 : decode cX0_goThrough 34 = .ok (.iaload, 1) := by decide +kernel
theorem dX0_goThrough_35 : decode cX0_goThrough 35 = .ok (.iastore, 1) := by decide +kernel
theorem dX0_goThrough_36 : decode cX0_goThrough 36 = .ok (.return_, 1) := by decide +kernel
theorem dX0_openFor_0 : decode cX0_openFor 0 = .ok (.aload_n 0, 1) := by decide +kernel
theorem dX0_openFor_1 : decode cX0_openFor 1 = .ok (.aload_n 0, 1) := by decide +kernel
theorem dX0_openFor_2 : decode cX0_openFor 2 = .ok (.getfield 37, 3) := by decide +kernel
theorem dX0_openFor_5 : decode cX0_openFor 5 = .ok (.iload_n 2, 1) := by decide +kernel
theorem dX0_openFor_6 : decode cX0_openFor 6 = .ok (.iconst (-1), 1) := by decide +kernel
theorem dX0_openFor_7 : decode cX0_openFor 7 = .ok (.ixor, 1) := by decide +kernel
theorem dX0_openFor_8 : decode cX0_openFor 8 = .ok (.iand, 1) := by decide +kernel
theorem dX0_openFor_9 : decode cX0_openFor 9 = .ok (.iconst 1, 1) := by decide +kernel
theorem dX0_openFor_10 : decode cX0_openFor 10 = .ok (.iload_n 1, 1) := by decide +kernel
theorem dX0_openFor_11 : decode cX0_openFor 11 = .ok (.ishl, 1) := by decide +kernel
theorem dX0_openFor_12 : decode cX0_openFor 12 = .ok (.ior, 1) := by decide +kernel
theorem dX0_openFor_13 : decode cX0_openFor 13 = .ok (.putfield 37, 3) := by decide +kernel
theorem dX0_openFor_16 : decode cX0_openFor 16 = .ok (.aload_n 0, 1) := by decide +kernel
theorem dX0_openFor_17 : decode cX0_openFor 17 = .ok (.dup, 1) := by decide +kernel
theorem dX0_openFor_18 : decode cX0_openFor 18 = .ok (.getfield 43, 3) := by decide +kernel
theorem dX0_openFor_21 : decode cX0_openFor 21 = .ok (.iconst 1, 1) := by decide +kernel
theorem dX0_openFor_22 : decode cX0_openFor 22 = .ok (.iadd, 1) := by decide +kernel
theorem dX0_openFor_23 : decode cX0_openFor 23 = .ok (.putfield 43, 3) := by decide +kernel
theorem dX0_openFor_26 : decode cX0_openFor 26 = .ok (.return_, 1) := by decide +kernel
theorem dX0_openStock_0 : decode cX0_openStock 0 = .ok (.iconst 0, 1) := by decide +kernel
theorem dX0_openStock_1 : decode cX0_openStock 1 = .ok (.istore_n 1, 1) := by decide +kernel
theorem dX0_openStock_2 : decode cX0_openStock 2 = .ok (.iconst 0, 1) := by decide +kernel
theorem dX0_openStock_3 : decode cX0_openStock 3 = .ok (.istore_n 2, 1) := by decide +kernel
theorem dX0_openStock_4 : decode cX0_openStock 4 = .ok (.iload_n 2, 1) := by decide +kernel
theorem dX0_openStock_5 : decode cX0_openStock 5 = .ok (.aload_n 0, 1) := by decide +kernel
theorem dX0_openStock_6 : decode cX0_openStock 6 = .ok (.getfield 31, 3) := by decide +kernel
theorem dX0_openStock_9 : decode cX0_openStock 9 = .ok (.if_icmp .ge 35, 3) := by decide +kernel
theorem dX0_openStock_12 : decode cX0_openStock 12 = .ok (.aload_n 0, 1) := by decide +kernel
theorem dX0_openStock_13 : decode cX0_openStock 13 = .ok (.iload_n 2, 1) := by decide +kernel
theorem dX0_openStock_14 : decode cX0_openStock 14 = .ok (.invokevirtual 53, 3) := by decide +kernel
theorem dX0_openStock_17 : decode cX0_openStock 17 = .ok (.ifCond .eq 21, 3) := by decide +kernel
theorem dX0_openStock_20 : decode cX0_openStock 20 = .ok (.aload_n 0, 1) := by decide +kernel
theorem dX0_openStock_21 : decode cX0_openStock 21 = .ok (.getfield 9, 3) := by decide +kernel
theorem dX0_openStock_24 : decode cX0_openStock 24 = .ok (.iload_n 2, 1) := by decide +kernel
theorem dX0_openStock_25 : decode cX0_openStock 25 = .ok (.iaload, 1) := by decide +kernel
theorem dX0_openStock_26 : decode cX0_openStock 26 = .ok (.iconst 5, 1) := by decide +kernel
theorem dX0_openStock_27 : decode cX0_openStock 27 = .ok (.if_icmp .eq 11, 3) := by decide +kernel
theorem dX0_openStock_30 : decode cX0_openStock 30 = .ok (.iload_n 1, 1) := by decide +kernel
theorem dX0_openStock_31 : decode cX0_openStock 31 = .ok (.aload_n 0, 1) := by decide +kernel
theorem dX0_openStock_32 : decode cX0_openStock 32 = .ok (.iload_n 2, 1) := by decide +kernel
theorem dX0_openStock_33 : decode cX0_openStock 33 = .ok (.invokevirtual 63, 3) := by decide +kernel
theorem dX0_openStock_36 : decode cX0_openStock 36 = .ok (.iadd, 1) := by decide +kernel
theorem dX0_openStock_37 : decode cX0_openStock 37 = .ok (.istore_n 1, 1) := by decide +kernel
theorem dX0_openStock_38 : decode cX0_openStock 38 = .ok (.iinc 2 1, 3) := by decide +kernel
theorem dX0_openStock_41 : decode cX0_openStock 41 = .ok (.goto (-37), 3) := by decide +kernel
theorem dX0_openStock_44 : decode cX0_openStock 44 = .ok (.iload_n 1, 1) := by decide +kernel
theorem dX0_openStock_45 : decode cX0_openStock 45 = .ok (.ireturn, 1) := by decide +kernel
theorem dX0_reachFrom_0 : decode cX0_reachFrom 0 = .ok (.iconst 1, 1) := by decide +kernel
theorem dX0_reachFrom_1 : decode cX0_reachFrom 1 = .ok (.iload_n 1, 1) := by decide +kernel
theorem dX0_reachFrom_2 : decode cX0_reachFrom 2 = .ok (.ishl, 1) := by decide +kernel
theorem dX0_reachFrom_3 : decode cX0_reachFrom 3 = .ok (.istore_n 2, 1) := by decide +kernel
theorem dX0_reachFrom_4 : decode cX0_reachFrom 4 = .ok (.iconst 0, 1) := by decide +kernel
theorem dX0_reachFrom_5 : decode cX0_reachFrom 5 = .ok (.istore_n 3, 1) := by decide +kernel
theorem dX0_reachFrom_6 : decode cX0_reachFrom 6 = .ok (.iload_n 3, 1) := by decide +kernel
theorem dX0_reachFrom_7 : decode cX0_reachFrom 7 = .ok (.bipush 8, 2) := by decide +kernel
theorem dX0_reachFrom_9 : decode cX0_reachFrom 9 = .ok (.if_icmp .ge 80, 3) := by decide +kernel
theorem dX0_reachFrom_12 : decode cX0_reachFrom 12 = .ok (.iload_n 2, 1) := by decide +kernel
theorem dX0_reachFrom_13 : decode cX0_reachFrom 13 = .ok (.istore 4, 2) := by decide +kernel
theorem dX0_reachFrom_15 : decode cX0_reachFrom 15 = .ok (.iconst 0, 1) := by decide +kernel
theorem dX0_reachFrom_16 : decode cX0_reachFrom 16 = .ok (.istore 5, 2) := by decide +kernel
theorem dX0_reachFrom_18 : decode cX0_reachFrom 18 = .ok (.iload 5, 2) := by decide +kernel
theorem dX0_reachFrom_20 : decode cX0_reachFrom 20 = .ok (.aload_n 0, 1) := by decide +kernel
theorem dX0_reachFrom_21 : decode cX0_reachFrom 21 = .ok (.getfield 31, 3) := by decide +kernel
theorem dX0_reachFrom_24 : decode cX0_reachFrom 24 = .ok (.if_icmp .ge 51, 3) := by decide +kernel
theorem dX0_reachFrom_27 : decode cX0_reachFrom 27 = .ok (.iconst 1, 1) := by decide +kernel
theorem dX0_reachFrom_28 : decode cX0_reachFrom 28 = .ok (.aload_n 0, 1) := by decide +kernel
theorem dX0_reachFrom_29 : decode cX0_reachFrom 29 = .ok (.getfield 15, 3) := by decide +kernel
theorem dX0_reachFrom_32 : decode cX0_reachFrom 32 = .ok (.iload 5, 2) := by decide +kernel
theorem dX0_reachFrom_34 : decode cX0_reachFrom 34 = .ok (.iaload, 1) := by decide +kernel
theorem dX0_reachFrom_35 : decode cX0_reachFrom 35 = .ok (.ishl, 1) := by decide +kernel
theorem dX0_reachFrom_36 : decode cX0_reachFrom 36 = .ok (.iconst 1, 1) := by decide +kernel
theorem dX0_reachFrom_37 : decode cX0_reachFrom 37 = .ok (.aload_n 0, 1) := by decide +kernel
theorem dX0_reachFrom_38 : decode cX0_reachFrom 38 = .ok (.getfield 18, 3) := by decide +kernel
theorem dX0_reachFrom_41 : decode cX0_reachFrom 41 = .ok (.iload 5, 2) := by decide +kernel
theorem dX0_reachFrom_43 : decode cX0_reachFrom 43 = .ok (.iaload, 1) := by decide +kernel
theorem dX0_reachFrom_44 : decode cX0_reachFrom 44 = .ok (.ishl, 1) := by decide +kernel
theorem dX0_reachFrom_45 : decode cX0_reachFrom 45 = .ok (.ior, 1) := by decide +kernel
theorem dX0_reachFrom_46 : decode cX0_reachFrom 46 = .ok (.istore 6, 2) := by decide +kernel
theorem dX0_reachFrom_48 : decode cX0_reachFrom 48 = .ok (.aload_n 0, 1) := by decide +kernel
theorem dX0_reachFrom_49 : decode cX0_reachFrom 49 = .ok (.iload 5, 2) := by decide +kernel
theorem dX0_reachFrom_51 : decode cX0_reachFrom 51 = .ok (.invokevirtual 53, 3) := by decide +kernel
theorem dX0_reachFrom_54 : decode cX0_reachFrom 54 = .ok (.ifCond .eq 15, 3) := by decide +kernel
theorem dX0_reachFrom_57 : decode cX0_reachFrom 57 = .ok (.iload_n 2, 1) := by decide +kernel
theorem dX0_reachFrom_58 : decode cX0_reachFrom 58 = .ok (.iload 6, 2) := by decide +kernel
theorem dX0_reachFrom_60 : decode cX0_reachFrom 60 = .ok (.iand, 1) := by decide +kernel
theorem dX0_reachFrom_61 : decode cX0_reachFrom 61 = .ok (.ifCond .eq 8, 3) := by decide +kernel
theorem dX0_reachFrom_64 : decode cX0_reachFrom 64 = .ok (.iload_n 2, 1) := by decide +kernel
theorem dX0_reachFrom_65 : decode cX0_reachFrom 65 = .ok (.iload 6, 2) := by decide +kernel
theorem dX0_reachFrom_67 : decode cX0_reachFrom 67 = .ok (.ior, 1) := by decide +kernel
theorem dX0_reachFrom_68 : decode cX0_reachFrom 68 = .ok (.istore_n 2, 1) := by decide +kernel
theorem dX0_reachFrom_69 : decode cX0_reachFrom 69 = .ok (.iinc 5 1, 3) := by decide +kernel
theorem dX0_reachFrom_72 : decode cX0_reachFrom 72 = .ok (.goto (-54), 3) := by decide +kernel
theorem dX0_reachFrom_75 : decode cX0_reachFrom 75 = .ok (.iload_n 2, 1) := by decide +kernel
theorem dX0_reachFrom_76 : decode cX0_reachFrom 76 = .ok (.iload 4, 2) := by decide +kernel
theorem dX0_reachFrom_78 : decode cX0_reachFrom 78 = .ok (.if_icmp .ne 5, 3) := by decide +kernel
theorem dX0_reachFrom_81 : decode cX0_reachFrom 81 = .ok (.iload_n 2, 1) := by decide +kernel
theorem dX0_reachFrom_82 : decode cX0_reachFrom 82 = .ok (.ireturn, 1) := by decide +kernel
theorem dX0_reachFrom_83 : decode cX0_reachFrom 83 = .ok (.iinc 3 1, 3) := by decide +kernel
theorem dX0_reachFrom_86 : decode cX0_reachFrom 86 = .ok (.goto (-80), 3) := by decide +kernel
theorem dX0_reachFrom_89 : decode cX0_reachFrom 89 = .ok (.iload_n 2, 1) := by decide +kernel
theorem dX0_reachFrom_90 : decode cX0_reachFrom 90 = .ok (.ireturn, 1) := by decide +kernel
theorem dX0_shutInBits_0 : decode cX0_shutInBits 0 = .ok (.iconst 0, 1) := by decide +kernel
theorem dX0_shutInBits_1 : decode cX0_shutInBits 1 = .ok (.istore_n 1, 1) := by decide +kernel
theorem dX0_shutInBits_2 : decode cX0_shutInBits 2 = .ok (.iconst 0, 1) := by decide +kernel
theorem dX0_shutInBits_3 : decode cX0_shutInBits 3 = .ok (.istore_n 2, 1) := by decide +kernel
theorem dX0_shutInBits_4 : decode cX0_shutInBits 4 = .ok (.iload_n 2, 1) := by decide +kernel
theorem dX0_shutInBits_5 : decode cX0_shutInBits 5 = .ok (.aload_n 0, 1) := by decide +kernel
theorem dX0_shutInBits_6 : decode cX0_shutInBits 6 = .ok (.getfield 34, 3) := by decide +kernel
theorem dX0_shutInBits_9 : decode cX0_shutInBits 9 = .ok (.if_icmp .ge 30, 3) := by decide +kernel
theorem dX0_shutInBits_12 : decode cX0_shutInBits 12 = .ok (.aload_n 0, 1) := by decide +kernel
theorem dX0_shutInBits_13 : decode cX0_shutInBits 13 = .ok (.aload_n 0, 1) := by decide +kernel
theorem dX0_shutInBits_14 : decode cX0_shutInBits 14 = .ok (.getfield 21, 3) := by decide +kernel
theorem dX0_shutInBits_17 : decode cX0_shutInBits 17 = .ok (.iload_n 2, 1) := by decide +kernel
theorem dX0_shutInBits_18 : decode cX0_shutInBits 18 = .ok (.iaload, 1) := by decide +kernel
theorem dX0_shutInBits_19 : decode cX0_shutInBits 19 = .ok (.invokevirtual 87, 3) := by decide +kernel
theorem dX0_shutInBits_22 : decode cX0_shutInBits 22 = .ok (.iconst 1, 1) := by decide +kernel
theorem dX0_shutInBits_23 : decode cX0_shutInBits 23 = .ok (.iand, 1) := by decide +kernel
theorem dX0_shutInBits_24 : decode cX0_shutInBits 24 = .ok (.ifCond .ne 9, 3) := by decide +kernel
theorem dX0_shutInBits_27 : decode cX0_shutInBits 27 = .ok (.iload_n 1, 1) := by decide +kernel
theorem dX0_shutInBits_28 : decode cX0_shutInBits 28 = .ok (.iconst 1, 1) := by decide +kernel
theorem dX0_shutInBits_29 : decode cX0_shutInBits 29 = .ok (.iload_n 2, 1) := by decide +kernel
theorem dX0_shutInBits_30 : decode cX0_shutInBits 30 = .ok (.ishl, 1) := by decide +kernel
theorem dX0_shutInBits_31 : decode cX0_shutInBits 31 = .ok (.ior, 1) := by decide +kernel
theorem dX0_shutInBits_32 : decode cX0_shutInBits 32 = .ok (.istore_n 1, 1) := by decide +kernel
theorem dX0_shutInBits_33 : decode cX0_shutInBits 33 = .ok (.iinc 2 1, 3) := by decide +kernel
theorem dX0_shutInBits_36 : decode cX0_shutInBits 36 = .ok (.goto (-32), 3) := by decide +kernel
theorem dX0_shutInBits_39 : decode cX0_shutInBits 39 = .ok (.iload_n 1, 1) := by decide +kernel
theorem dX0_shutInBits_40 : decode cX0_shutInBits 40 = .ok (.ireturn, 1) := by decide +kernel
theorem dX0_playAct_0 : decode cX0_playAct 0 = .ok (.lload_n 1, 1) := by decide +kernel
theorem dX0_playAct_1 : decode cX0_playAct 1 = .ok (.bipush 22, 2) := by decide +kernel
theorem dX0_playAct_3 : decode cX0_playAct 3 = .ok (.lshr, 1) := by decide +kernel
theorem dX0_playAct_4 : decode cX0_playAct 4 = .ok (.ldc2_w 90, 3) := by decide +kernel
theorem dX0_playAct_7 : decode cX0_playAct 7 = .ok (.land, 1) := by decide +kernel
theorem dX0_playAct_8 : decode cX0_playAct 8 = .ok (.l2i, 1) := by decide +kernel
theorem dX0_playAct_9 : decode cX0_playAct 9 = .ok (.istore_n 3, 1) := by decide +kernel
theorem dX0_playAct_10 : decode cX0_playAct 10 = .ok (.iload_n 3, 1) := by decide +kernel
theorem dX0_playAct_11 : decode cX0_playAct 11 = .ok (.iconst 3, 1) := by decide +kernel
theorem dX0_playAct_12 : decode cX0_playAct 12 = .ok (.if_icmp .ne 5, 3) := by decide +kernel
theorem dX0_playAct_15 : decode cX0_playAct 15 = .ok (.iconst 1, 1) := by decide +kernel
theorem dX0_playAct_16 : decode cX0_playAct 16 = .ok (.ireturn, 1) := by decide +kernel
theorem dX0_playAct_17 : decode cX0_playAct 17 = .ok (.lload_n 1, 1) := by decide +kernel
theorem dX0_playAct_18 : decode cX0_playAct 18 = .ok (.bipush 20, 2) := by decide +kernel
theorem dX0_playAct_20 : decode cX0_playAct 20 = .ok (.lshr, 1) := by decide +kernel
theorem dX0_playAct_21 : decode cX0_playAct 21 = .ok (.ldc2_w 90, 3) := by decide +kernel
theorem dX0_playAct_24 : decode cX0_playAct 24 = .ok (.land, 1) := by decide +kernel
theorem dX0_playAct_25 : decode cX0_playAct 25 = .ok (.l2i, 1) := by decide +kernel
theorem dX0_playAct_26 : decode cX0_playAct 26 = .ok (.istore 4, 2) := by decide +kernel
theorem dX0_playAct_28 : decode cX0_playAct 28 = .ok (.lload_n 1, 1) := by decide +kernel
theorem dX0_playAct_29 : decode cX0_playAct 29 = .ok (.bipush 16, 2) := by decide +kernel
theorem dX0_playAct_31 : decode cX0_playAct 31 = .ok (.lshr, 1) := by decide +kernel
theorem dX0_playAct_32 : decode cX0_playAct 32 = .ok (.ldc2_w 92, 3) := by decide +kernel
theorem dX0_playAct_35 : decode cX0_playAct 35 = .ok (.land, 1) := by decide +kernel
theorem dX0_playAct_36 : decode cX0_playAct 36 = .ok (.l2i, 1) := by decide +kernel
theorem dX0_playAct_37 : decode cX0_playAct 37 = .ok (.istore 5, 2) := by decide +kernel
theorem dX0_playAct_39 : decode cX0_playAct 39 = .ok (.lload_n 1, 1) := by decide +kernel
theorem dX0_playAct_40 : decode cX0_playAct 40 = .ok (.ldc2_w 94, 3) := by decide +kernel
theorem dX0_playAct_43 : decode cX0_playAct 43 = .ok (.land, 1) := by decide +kernel
theorem dX0_playAct_44 : decode cX0_playAct 44 = .ok (.l2i, 1) := by decide +kernel
theorem dX0_playAct_45 : decode cX0_playAct 45 = .ok (.istore 6, 2) := by decide +kernel
theorem dX0_playAct_47 : decode cX0_playAct 47 = .ok (.aload_n 0, 1) := by decide +kernel
theorem dX0_playAct_48 : decode cX0_playAct 48 = .ok (.iload 4, 2) := by decide +kernel
theorem dX0_playAct_50 : decode cX0_playAct 50 = .ok (.invokevirtual 96, 3) := by decide +kernel
theorem dX0_playAct_53 : decode cX0_playAct 53 = .ok (.ifCond .eq 12, 3) := by decide +kernel
theorem dX0_playAct_56 : decode cX0_playAct 56 = .ok (.aload_n 0, 1) := by decide +kernel
theorem dX0_playAct_57 : decode cX0_playAct 57 = .ok (.iload 5, 2) := by decide +kernel
theorem dX0_playAct_59 : decode cX0_playAct 59 = .ok (.invokevirtual 99, 3) := by decide +kernel
theorem dX0_playAct_62 : decode cX0_playAct 62 = .ok (.ifCond .ne 5, 3) := by decide +kernel
theorem dX0_playAct_65 : decode cX0_playAct 65 = .ok (.iconst 0, 1) := by decide +kernel
theorem dX0_playAct_66 : decode cX0_playAct 66 = .ok (.ireturn, 1) := by decide +kernel
theorem dX0_playAct_67 : decode cX0_playAct 67 = .ok (.iload_n 3, 1) := by decide +kernel
theorem dX0_playAct_68 : decode cX0_playAct 68 = .ok (.ifCond .ne 24, 3) := by decide +kernel
theorem dX0_playAct_71 : decode cX0_playAct 71 = .ok (.aload_n 0, 1) := by decide +kernel
theorem dX0_playAct_72 : decode cX0_playAct 72 = .ok (.iload 4, 2) := by decide +kernel
theorem dX0_playAct_74 : decode cX0_playAct 74 = .ok (.iload 5, 2) := by decide +kernel
theorem dX0_playAct_76 : decode cX0_playAct 76 = .ok (.invokevirtual 102, 3) := by decide +kernel
theorem dX0_playAct_79 : decode cX0_playAct 79 = .ok (.ifCond .eq 13, 3) := by decide +kernel
theorem dX0_playAct_82 : decode cX0_playAct 82 = .ok (.aload_n 0, 1) := by decide +kernel
theorem dX0_playAct_83 : decode cX0_playAct 83 = .ok (.iload 4, 2) := by decide +kernel
theorem dX0_playAct_85 : decode cX0_playAct 85 = .ok (.iload 5, 2) := by decide +kernel
theorem dX0_playAct_87 : decode cX0_playAct 87 = .ok (.invokevirtual 105, 3) := by decide +kernel
theorem dX0_playAct_90 : decode cX0_playAct 90 = .ok (.iconst 1, 1) := by decide +kernel
theorem dX0_playAct_91 : decode cX0_playAct 91 = .ok (.ireturn, 1) := by decide +kernel
theorem dX0_playAct_92 : decode cX0_playAct 92 = .ok (.iload_n 3, 1) := by decide +kernel
theorem dX0_playAct_93 : decode cX0_playAct 93 = .ok (.iconst 1, 1) := by decide +kernel
theorem dX0_playAct_94 : decode cX0_playAct 94 = .ok (.if_icmp .ne 35, 3) := by decide +kernel
theorem dX0_playAct_97 : decode cX0_playAct 97 = .ok (.aload_n 0, 1) := by decide +kernel
theorem dX0_playAct_98 : decode cX0_playAct 98 = .ok (.iload 6, 2) := by decide +kernel
theorem dX0_playAct_100 : decode cX0_playAct 100 = .ok (.invokevirtual 109, 3) := by decide +kernel
theorem dX0_playAct_103 : decode cX0_playAct 103 = .ok (.ifCond .eq 26, 3) := by decide +kernel
theorem dX0_playAct_106 : decode cX0_playAct 106 = .ok (.aload_n 0, 1) := by decide +kernel
theorem dX0_playAct_107 : decode cX0_playAct 107 = .ok (.iload 4, 2) := by decide +kernel
theorem dX0_playAct_109 : decode cX0_playAct 109 = .ok (.iload 5, 2) := by decide +kernel
theorem dX0_playAct_111 : decode cX0_playAct 111 = .ok (.iload 6, 2) := by decide +kernel
theorem dX0_playAct_113 : decode cX0_playAct 113 = .ok (.invokevirtual 112, 3) := by decide +kernel
theorem dX0_playAct_116 : decode cX0_playAct 116 = .ok (.ifCond .eq 13, 3) := by decide +kernel
theorem dX0_playAct_119 : decode cX0_playAct 119 = .ok (.aload_n 0, 1) := by decide +kernel
theorem dX0_playAct_120 : decode cX0_playAct 120 = .ok (.iload 5, 2) := by decide +kernel
theorem dX0_playAct_122 : decode cX0_playAct 122 = .ok (.iload 6, 2) := by decide +kernel
theorem dX0_playAct_124 : decode cX0_playAct 124 = .ok (.invokevirtual 116, 3) := by decide +kernel
theorem dX0_playAct_127 : decode cX0_playAct 127 = .ok (.iconst 1, 1) := by decide +kernel
theorem dX0_playAct_128 : decode cX0_playAct 128 = .ok (.ireturn, 1) := by decide +kernel
theorem dX0_playAct_129 : decode cX0_playAct 129 = .ok (.iload_n 3, 1) := by decide +kernel
theorem dX0_playAct_130 : decode cX0_playAct 130 = .ok (.iconst 2, 1) := by decide +kernel
theorem dX0_playAct_131 : decode cX0_playAct 131 = .ok (.if_icmp .ne 31, 3) := by decide +kernel
theorem dX0_playAct_134 : decode cX0_playAct 134 = .ok (.aload_n 0, 1) := by decide +kernel
theorem dX0_playAct_135 : decode cX0_playAct 135 = .ok (.iload 4, 2) := by decide +kernel
theorem dX0_playAct_137 : decode cX0_playAct 137 = .ok (.iload 5, 2) := by decide +kernel
theorem dX0_playAct_139 : decode cX0_playAct 139 = .ok (.invokevirtual 119, 3) := by decide +kernel
theorem dX0_playAct_142 : decode cX0_playAct 142 = .ok (.ifCond .eq 20, 3) := by decide +kernel
theorem dX0_playAct_145 : decode cX0_playAct 145 = .ok (.aload_n 0, 1) := by decide +kernel
theorem dX0_playAct_146 : decode cX0_playAct 146 = .ok (.dup, 1) := by decide +kernel
theorem dX0_playAct_147 : decode cX0_playAct 147 = .ok (.getfield 37, 3) := by decide +kernel
theorem dX0_playAct_150 : decode cX0_playAct 150 = .ok (.iconst 1, 1) := by decide +kernel
theorem dX0_playAct_151 : decode cX0_playAct 151 = .ok (.iload 5, 2) := by decide +kernel
theorem dX0_playAct_153 : decode cX0_playAct 153 = .ok (.ishl, 1) := by decide +kernel
theorem dX0_playAct_154 : decode cX0_playAct 154 = .ok (.iconst (-1), 1) := by decide +kernel
theorem dX0_playAct_155 : decode cX0_playAct 155 = .ok (.ixor, 1) := by decide +kernel
theorem dX0_playAct_156 : decode cX0_playAct 156 = .ok (.iand, 1) := by decide +kernel
theorem dX0_playAct_157 : decode cX0_playAct 157 = .ok (.putfield 37, 3) := by decide +kernel
theorem dX0_playAct_160 : decode cX0_playAct 160 = .ok (.iconst 1, 1) := by decide +kernel
theorem dX0_playAct_161 : decode cX0_playAct 161 = .ok (.ireturn, 1) := by decide +kernel
theorem dX0_playAct_162 : decode cX0_playAct 162 = .ok (.iconst 0, 1) := by decide +kernel
theorem dX0_playAct_163 : decode cX0_playAct 163 = .ok (.ireturn, 1) := by decide +kernel
theorem dX0_draw_0 : decode cX0_draw 0 = .ok (.aload_n 0, 1) := by decide +kernel
theorem dX0_draw_1 : decode cX0_draw 1 = .ok (.aload_n 0, 1) := by decide +kernel
theorem dX0_draw_2 : decode cX0_draw 2 = .ok (.getfield 28, 3) := by decide +kernel
theorem dX0_draw_5 : decode cX0_draw 5 = .ok (.ldc 122, 2) := by decide +kernel
theorem dX0_draw_7 : decode cX0_draw 7 = .ok (.imul, 1) := by decide +kernel
theorem dX0_draw_8 : decode cX0_draw 8 = .ok (.sipush 12345, 3) := by decide +kernel
theorem dX0_draw_11 : decode cX0_draw 11 = .ok (.iadd, 1) := by decide +kernel
theorem dX0_draw_12 : decode cX0_draw 12 = .ok (.putfield 28, 3) := by decide +kernel
theorem dX0_draw_15 : decode cX0_draw 15 = .ok (.iload_n 1, 1) := by decide +kernel
theorem dX0_draw_16 : decode cX0_draw 16 = .ok (.ifCond .le 15, 3) := by decide +kernel
theorem dX0_draw_19 : decode cX0_draw 19 = .ok (.aload_n 0, 1) := by decide +kernel
theorem dX0_draw_20 : decode cX0_draw 20 = .ok (.getfield 28, 3) := by decide +kernel
theorem dX0_draw_23 : decode cX0_draw 23 = .ok (.bipush 16, 2) := by decide +kernel
theorem dX0_draw_25 : decode cX0_draw 25 = .ok (.iushr, 1) := by decide +kernel
theorem dX0_draw_26 : decode cX0_draw 26 = .ok (.iload_n 1, 1) := by decide +kernel
theorem dX0_draw_27 : decode cX0_draw 27 = .ok (.irem, 1) := by decide +kernel
theorem dX0_draw_28 : decode cX0_draw 28 = .ok (.goto 4, 3) := by decide +kernel
theorem dX0_draw_31 : decode cX0_draw 31 = .ok (.iconst 0, 1) := by decide +kernel
theorem dX0_draw_32 : decode cX0_draw 32 = .ok (.ireturn, 1) := by decide +kernel
def f_X0_opensBy (n : Nat) (h : xH) (a0 : Nat) (p1 : Int32) (p2 : Int32) (p3 : Int32) : Option (Int32) :=
  (x_ob h a0 0).bind fun u1 =>
  (f_X0_standsBeforeShut h a0 p1 p2).bind fun q2 =>
  if q2 = 0 then
    some (0 : Int32)
  else
    (x_ob h a0 0).bind fun u3 =>
    (f_X0_shuttable n h a0).bind fun q4 =>
    if (p3 &&& (q4 ^^^ (-1 : Int32))) = 0 then
      (x_ob h a0 0).bind fun u5 =>
      (f_X0_isEnoughAndNoneInVain n h a0 p3).bind fun q6 =>
      if q6 = 0 then
        some (0 : Int32)
      else
        some (1 : Int32)
    else
      some (0 : Int32)
set_option maxRecDepth 100000 in
set_option maxHeartbeats 4000000 in
theorem c_X0_opensBy {n : Nat} {h : xH} {a0 : Nat} {p1 : Int32} {p2 : Int32} {p3 : Int32} {r9 : Int32} (hE : f_X0_opensBy n h a0 p1 p2 p3 = some r9) : Ctr M_X0_opensBy [.ref a0, .int p1, .int p2, .int p3] h (some (.int r9)) h 0 0 := by
  refine ctr_of (by decide) (fun _ _ => Nat.le_of_ble_eq_true rfl) (fun S => ?_)
  show Y S M_X0_opensBy h (some (.int r9)) h 0 0 0 [(0, .ref a0), (1, .int p1), (2, .int p2), (3, .int p3)] [] h 0 0
  unfold f_X0_opensBy at hE
  refine y_aload_n dX0_opensBy_0 0 rfl ?_
  refine y_iload_n dX0_opensBy_1 1 rfl ?_
  refine y_iload_n dX0_opensBy_2 2 rfl ?_
  obtain ⟨u1, eu1, hE⟩ := Option.bind_eq_some_iff.mp hE
  obtain ⟨q2, eq2, hE⟩ := Option.bind_eq_some_iff.mp hE
  refine y_cVi0 (st := []) (as := [.int p1, .int p2]) (c_X0_standsBeforeShut eq2) lk_X0_70 in_X0_standsBeforeShut se_X0_standsBeforeShut rfl eu1 ⟨Nat.le_of_ble_eq_true rfl, Nat.le_of_ble_eq_true rfl⟩ (Nat.le_of_ble_eq_true rfl) dX0_opensBy_3 ⟨Nat.le_refl _, Nat.le_refl _⟩ rfl ?_
  refine y_if_eq (tgt := 32) dX0_opensBy_6 (by decide) (fun hc9 => ?_) (fun hc9 => ?_)
  · rw [if_pos hc9] at hE
    refine y_iconst (v := (0 : Int32)) dX0_opensBy_32 (by decide) ?_
    obtain rfl := Option.some.inj hE
    exact y_ret dX0_opensBy_33 (Nat.le_refl _) (Nat.le_refl _) ⟨_, rfl, rfl⟩
  · rw [if_neg hc9] at hE
    refine y_iload_n dX0_opensBy_9 3 rfl ?_
    refine y_aload_n dX0_opensBy_10 0 rfl ?_
    obtain ⟨u3, eu3, hE⟩ := Option.bind_eq_some_iff.mp hE
    obtain ⟨q4, eq4, hE⟩ := Option.bind_eq_some_iff.mp hE
    refine y_cVi0 (st := [.int p3]) (as := []) (c_X0_shuttable eq4) lk_X0_73 in_X0_shuttable se_X0_shuttable rfl eu3 ⟨Nat.le_of_ble_eq_true rfl, Nat.le_of_ble_eq_true rfl⟩ (Nat.le_of_ble_eq_true rfl) dX0_opensBy_11 ⟨Nat.le_refl _, Nat.le_refl _⟩ rfl ?_
    refine y_iconst (v := (-1 : Int32)) dX0_opensBy_14 (by decide) ?_
    refine y_ixor dX0_opensBy_15 ?_
    refine y_iand dX0_opensBy_16 ?_
    refine y_if_ne (tgt := 32) dX0_opensBy_17 (by decide) (fun hc8 => ?_) (fun hc8 => ?_)
    · rw [if_pos hc8] at hE
      refine y_aload_n dX0_opensBy_20 0 rfl ?_
      refine y_iload_n dX0_opensBy_21 3 rfl ?_
      obtain ⟨u5, eu5, hE⟩ := Option.bind_eq_some_iff.mp hE
      obtain ⟨q6, eq6, hE⟩ := Option.bind_eq_some_iff.mp hE
      refine y_cVi0 (st := []) (as := [.int p3]) (c_X0_isEnoughAndNoneInVain eq6) lk_X0_77 in_X0_isEnoughAndNoneInVain se_X0_isEnoughAndNoneInVain rfl eu5 ⟨Nat.le_of_ble_eq_true rfl, Nat.le_of_ble_eq_true rfl⟩ (Nat.le_of_ble_eq_true rfl) dX0_opensBy_22 ⟨Nat.le_refl _, Nat.le_refl _⟩ rfl ?_
      refine y_if_eq (tgt := 32) dX0_opensBy_25 (by decide) (fun hc7 => ?_) (fun hc7 => ?_)
      · rw [if_pos hc7] at hE
        refine y_iconst (v := (0 : Int32)) dX0_opensBy_32 (by decide) ?_
        obtain rfl := Option.some.inj hE
        exact y_ret dX0_opensBy_33 (Nat.le_refl _) (Nat.le_refl _) ⟨_, rfl, rfl⟩
      · rw [if_neg hc7] at hE
        refine y_iconst (v := (1 : Int32)) dX0_opensBy_28 (by decide) ?_
        refine y_goto (tgt := 33) dX0_opensBy_29 (by decide) ?_
        obtain rfl := Option.some.inj hE
        exact y_ret dX0_opensBy_33 (Nat.le_refl _) (Nat.le_refl _) ⟨_, rfl, rfl⟩
    · rw [if_neg hc8] at hE
      refine y_iconst (v := (0 : Int32)) dX0_opensBy_32 (by decide) ?_
      obtain rfl := Option.some.inj hE
      exact y_ret dX0_opensBy_33 (Nat.le_refl _) (Nat.le_refl _) ⟨_, rfl, rfl⟩
def f_X0_leastSet_L42 (h : xH) (v0 : Nat) : Nat → Int32 → Int32 → Int32 → Option (Int32)
  | 0, _, _, _ => none
  | k + 1, v3, v4, v5 =>
    if v5 < 0 then
      some v3
    else
      if ((i_shr v3 v5) &&& (1 : Int32)) = 0 then
        (some (v5 + (-1 : Int32))).bind fun x10 =>
        f_X0_leastSet_L42 h v0 k v3 v4 x10
      else
        (x_ob h v0 0).bind fun u11 =>
        (f_X0_weightOf h v0 v5).bind fun q12 =>
        (x_gI h v0 0 7).bind fun x13 =>
        if (v4 - q12) < x13 then
          (some (v5 + (-1 : Int32))).bind fun x14 =>
          f_X0_leastSet_L42 h v0 k v3 v4 x14
        else
          (some (v3 &&& ((i_shl (1 : Int32) v5) ^^^ (-1 : Int32)))).bind fun x15 =>
          (x_ob h v0 0).bind fun u16 =>
          (f_X0_weightOf h v0 v5).bind fun q17 =>
          (some (v4 - q17)).bind fun x18 =>
          (some (v5 + (-1 : Int32))).bind fun x19 =>
          f_X0_leastSet_L42 h v0 k x15 x18 x19
set_option maxRecDepth 100000 in
set_option maxHeartbeats 4000000 in
theorem l_X0_leastSet_42 {S : Nat × (Nat → Int32)} {rv : Option Value} {h0 h1 : xH} {mc ms : Nat} {cells slots : Nat} (hm : cells ≤ mc ∧ slots ≤ ms) (h : xH) (v0 : Nat) : ∀ (k : Nat) (v3 : Int32) (v4 : Int32) (v5 : Int32) (res : Int32), f_X0_leastSet_L42 h v0 k v3 v4 v5 = some res → (∀ r9, res = r9 → Y S M_X0_leastSet h0 rv h1 mc ms 98 [(3, .int r9)] [] h cells slots) → Y S M_X0_leastSet h0 rv h1 mc ms 42 [(0, .ref v0), (3, .int v3), (4, .int v4), (5, .int v5)] [] h cells slots := by
  intro k
  induction k with
  | zero =>
    intro _ _ _ _ hE
    cases hE
  | succ k ih =>
    intro v3 v4 v5 res hE K
    unfold f_X0_leastSet_L42 at hE
    refine y_iload dX0_leastSet_42 3 rfl ?_
    refine y_if_lt (tgt := 98) dX0_leastSet_44 (by decide) (fun hc22 => ?_) (fun hc22 => ?_)
    · rw [if_pos hc22] at hE
      obtain rfl := Option.some.inj hE
      exact y_pick [1] rfl (K _ rfl)
    · rw [if_neg hc22] at hE
      refine y_iload_n dX0_leastSet_47 1 rfl ?_
      refine y_iload dX0_leastSet_48 3 rfl ?_
      refine y_ishr dX0_leastSet_50 ?_
      refine y_iconst (v := (1 : Int32)) dX0_leastSet_51 (by decide) ?_
      refine y_iand dX0_leastSet_52 ?_
      refine y_if_eq (tgt := 92) dX0_leastSet_53 (by decide) (fun hc21 => ?_) (fun hc21 => ?_)
      · rw [if_pos hc21] at hE
        obtain ⟨x10, ex10, hE⟩ := Option.bind_eq_some_iff.mp hE
        refine y_iinc (ls' := [(5, .int x10), (0, .ref v0), (3, .int v3), (4, .int v4)]) dX0_leastSet_92 3 rfl (Option.some.inj ex10) (by decide) rfl ?_
        refine y_goto (tgt := 42) dX0_leastSet_95 (by decide) ?_
        refine y_pick [1, 2, 3, 0] rfl ?_
        exact ih _ _ _ _ hE K
      · rw [if_neg hc21] at hE
        refine y_iload dX0_leastSet_56 2 rfl ?_
        refine y_aload_n dX0_leastSet_58 0 rfl ?_
        refine y_iload dX0_leastSet_59 3 rfl ?_
        obtain ⟨u11, eu11, hE⟩ := Option.bind_eq_some_iff.mp hE
        obtain ⟨q12, eq12, hE⟩ := Option.bind_eq_some_iff.mp hE
        refine y_cVi0 (st := [.int v4]) (as := [.int v5]) (c_X0_weightOf eq12) lk_X0_63 in_X0_weightOf se_X0_weightOf rfl eu11 ⟨Nat.le_of_ble_eq_true rfl, Nat.le_of_ble_eq_true rfl⟩ (Nat.le_of_ble_eq_true rfl) dX0_leastSet_61 hm rfl ?_
        refine y_isub dX0_leastSet_64 ?_
        refine y_aload_n dX0_leastSet_65 0 rfl ?_
        obtain ⟨x13, ex13, hE⟩ := Option.bind_eq_some_iff.mp hE
        refine y_getI fl_X0_24 ex13 dX0_leastSet_66 ?_
        refine y_icmp_lt (tgt := 92) dX0_leastSet_69 (by decide) (fun hc20 => ?_) (fun hc20 => ?_)
        · rw [if_pos hc20] at hE
          obtain ⟨x14, ex14, hE⟩ := Option.bind_eq_some_iff.mp hE
          refine y_iinc (ls' := [(5, .int x14), (0, .ref v0), (3, .int v3), (4, .int v4)]) dX0_leastSet_92 3 rfl (Option.some.inj ex14) (by decide) rfl ?_
          refine y_goto (tgt := 42) dX0_leastSet_95 (by decide) ?_
          refine y_pick [1, 2, 3, 0] rfl ?_
          exact ih _ _ _ _ hE K
        · rw [if_neg hc20] at hE
          refine y_iload_n dX0_leastSet_72 1 rfl ?_
          refine y_iconst (v := (1 : Int32)) dX0_leastSet_73 (by decide) ?_
          refine y_iload dX0_leastSet_74 3 rfl ?_
          refine y_ishl dX0_leastSet_76 ?_
          refine y_iconst (v := (-1 : Int32)) dX0_leastSet_77 (by decide) ?_
          refine y_ixor dX0_leastSet_78 ?_
          refine y_iand dX0_leastSet_79 ?_
          obtain ⟨x15, ex15, hE⟩ := Option.bind_eq_some_iff.mp hE
          refine y_istore_n (ls' := [(3, .int x15), (0, .ref v0), (4, .int v4), (5, .int v5)]) dX0_leastSet_80 (by decide) (Option.some.inj ex15) rfl ?_
          refine y_iload dX0_leastSet_81 2 rfl ?_
          refine y_aload_n dX0_leastSet_83 1 rfl ?_
          refine y_iload dX0_leastSet_84 3 rfl ?_
          obtain ⟨u16, eu16, hE⟩ := Option.bind_eq_some_iff.mp hE
          obtain ⟨q17, eq17, hE⟩ := Option.bind_eq_some_iff.mp hE
          refine y_cVi0 (st := [.int v4]) (as := [.int v5]) (c_X0_weightOf eq17) lk_X0_63 in_X0_weightOf se_X0_weightOf rfl eu16 ⟨Nat.le_of_ble_eq_true rfl, Nat.le_of_ble_eq_true rfl⟩ (Nat.le_of_ble_eq_true rfl) dX0_leastSet_86 hm rfl ?_
          refine y_isub dX0_leastSet_89 ?_
          obtain ⟨x18, ex18, hE⟩ := Option.bind_eq_some_iff.mp hE
          refine y_istore (ls' := [(4, .int x18), (3, .int x15), (0, .ref v0), (5, .int v5)]) dX0_leastSet_90 (by decide) (Option.some.inj ex18) rfl ?_
          obtain ⟨x19, ex19, hE⟩ := Option.bind_eq_some_iff.mp hE
          refine y_iinc (ls' := [(5, .int x19), (4, .int x18), (3, .int x15), (0, .ref v0)]) dX0_leastSet_92 3 rfl (Option.some.inj ex19) (by decide) rfl ?_
          refine y_goto (tgt := 42) dX0_leastSet_95 (by decide) ?_
          refine y_pick [3, 2, 1, 0] rfl ?_
          exact ih _ _ _ _ hE K
def f_X0_leastSet (n : Nat) (h : xH) (a0 : Nat) (p1 : Int32) (p2 : Int32) : Option (Int32) :=
  (x_ob h a0 0).bind fun u1 =>
  (f_X0_standsBeforeShut h a0 p1 p2).bind fun q2 =>
  if q2 = 0 then
    some (-1 : Int32)
  else
    (x_ob h a0 0).bind fun u3 =>
    (f_X0_shuttable n h a0).bind fun q4 =>
    (x_ob h a0 0).bind fun u5 =>
    (f_X0_weigh n h a0 q4).bind fun q6 =>
    (x_gI h a0 0 7).bind fun x7 =>
    if x7 ≤ q6 then
      (x_gI h a0 0 4).bind fun x8 =>
      (some (x8 - (1 : Int32))).bind fun x9 =>
      (f_X0_leastSet_L42 h a0 n q4 q6 x9).bind fun q23 =>
      some q23
    else
      some (-1 : Int32)
set_option maxRecDepth 100000 in
set_option maxHeartbeats 4000000 in
theorem c_X0_leastSet {n : Nat} {h : xH} {a0 : Nat} {p1 : Int32} {p2 : Int32} {r9 : Int32} (hE : f_X0_leastSet n h a0 p1 p2 = some r9) : Ctr M_X0_leastSet [.ref a0, .int p1, .int p2] h (some (.int r9)) h 0 0 := by
  refine ctr_of (by decide) (fun _ _ => Nat.le_of_ble_eq_true rfl) (fun S => ?_)
  show Y S M_X0_leastSet h (some (.int r9)) h 0 0 0 [(0, .ref a0), (1, .int p1), (2, .int p2)] [] h 0 0
  unfold f_X0_leastSet at hE
  refine y_aload_n dX0_leastSet_0 0 rfl ?_
  refine y_iload_n dX0_leastSet_1 1 rfl ?_
  refine y_iload_n dX0_leastSet_2 2 rfl ?_
  obtain ⟨u1, eu1, hE⟩ := Option.bind_eq_some_iff.mp hE
  obtain ⟨q2, eq2, hE⟩ := Option.bind_eq_some_iff.mp hE
  refine y_cVi0 (st := []) (as := [.int p1, .int p2]) (c_X0_standsBeforeShut eq2) lk_X0_70 in_X0_standsBeforeShut se_X0_standsBeforeShut rfl eu1 ⟨Nat.le_of_ble_eq_true rfl, Nat.le_of_ble_eq_true rfl⟩ (Nat.le_of_ble_eq_true rfl) dX0_leastSet_3 ⟨Nat.le_refl _, Nat.le_refl _⟩ rfl ?_
  refine y_if_ne (tgt := 11) dX0_leastSet_6 (by decide) (fun hc25 => ?_) (fun hc25 => ?_)
  · rw [if_pos hc25] at hE
    refine y_iconst (v := (-1 : Int32)) dX0_leastSet_9 (by decide) ?_
    obtain rfl := Option.some.inj hE
    exact y_ret dX0_leastSet_10 (Nat.le_refl _) (Nat.le_refl _) ⟨_, rfl, rfl⟩
  · rw [if_neg hc25] at hE
    refine y_aload_n dX0_leastSet_11 0 rfl ?_
    obtain ⟨u3, eu3, hE⟩ := Option.bind_eq_some_iff.mp hE
    obtain ⟨q4, eq4, hE⟩ := Option.bind_eq_some_iff.mp hE
    refine y_cVi0 (st := []) (as := []) (c_X0_shuttable eq4) lk_X0_73 in_X0_shuttable se_X0_shuttable rfl eu3 ⟨Nat.le_of_ble_eq_true rfl, Nat.le_of_ble_eq_true rfl⟩ (Nat.le_of_ble_eq_true rfl) dX0_leastSet_12 ⟨Nat.le_refl _, Nat.le_refl _⟩ rfl ?_
    refine y_istore_n (ls' := [(3, .int q4), (0, .ref a0), (1, .int p1), (2, .int p2)]) dX0_leastSet_15 (by decide) rfl rfl ?_
    refine y_aload_n dX0_leastSet_16 1 rfl ?_
    refine y_iload_n dX0_leastSet_17 0 rfl ?_
    obtain ⟨u5, eu5, hE⟩ := Option.bind_eq_some_iff.mp hE
    obtain ⟨q6, eq6, hE⟩ := Option.bind_eq_some_iff.mp hE
    refine y_cVi0 (st := []) (as := [.int q4]) (c_X0_weigh eq6) lk_X0_67 in_X0_weigh se_X0_weigh rfl eu5 ⟨Nat.le_of_ble_eq_true rfl, Nat.le_of_ble_eq_true rfl⟩ (Nat.le_of_ble_eq_true rfl) dX0_leastSet_18 ⟨Nat.le_refl _, Nat.le_refl _⟩ rfl ?_
    refine y_istore (ls' := [(4, .int q6), (3, .int q4), (0, .ref a0), (1, .int p1), (2, .int p2)]) dX0_leastSet_21 (by decide) rfl rfl ?_
    refine y_iload dX0_leastSet_23 0 rfl ?_
    refine y_aload_n dX0_leastSet_25 2 rfl ?_
    obtain ⟨x7, ex7, hE⟩ := Option.bind_eq_some_iff.mp hE
    refine y_getI fl_X0_24 ex7 dX0_leastSet_26 ?_
    refine y_icmp_ge (tgt := 34) dX0_leastSet_29 (by decide) (fun hc24 => ?_) (fun hc24 => ?_)
    · rw [if_pos hc24] at hE
      refine y_aload_n dX0_leastSet_34 2 rfl ?_
      obtain ⟨x8, ex8, hE⟩ := Option.bind_eq_some_iff.mp hE
      refine y_getI fl_X0_31 ex8 dX0_leastSet_35 ?_
      refine y_iconst (v := (1 : Int32)) dX0_leastSet_38 (by decide) ?_
      refine y_isub dX0_leastSet_39 ?_
      obtain ⟨x9, ex9, hE⟩ := Option.bind_eq_some_iff.mp hE
      refine y_istore (ls' := [(5, .int x9), (4, .int q6), (3, .int q4), (0, .ref a0), (1, .int p1), (2, .int p2)]) dX0_leastSet_40 (by decide) (Option.some.inj ex9) rfl ?_
      obtain ⟨q23, eq23, hE⟩ := Option.bind_eq_some_iff.mp hE
      refine y_pick [3, 2, 1, 0] rfl ?_
      refine l_X0_leastSet_42 (S := S) ⟨Nat.le_refl _, Nat.le_refl _⟩ h a0 n q4 q6 x9 _ eq23 (fun r8 hr8 => ?_)
      subst hr8
      refine y_iload_n dX0_leastSet_98 0 rfl ?_
      obtain rfl := Option.some.inj hE
      exact y_ret dX0_leastSet_99 (Nat.le_refl _) (Nat.le_refl _) ⟨_, rfl, rfl⟩
    · rw [if_neg hc24] at hE
      refine y_iconst (v := (-1 : Int32)) dX0_leastSet_32 (by decide) ?_
      obtain rfl := Option.some.inj hE
      exact y_ret dX0_leastSet_33 (Nat.le_refl _) (Nat.le_refl _) ⟨_, rfl, rfl⟩
def f_X6_singlesBeside (h : xH) (p0 : Int32) (p1 : Int32) : Option (Int32) :=
  some (x_max (0 : Int32) (p0 - ((2 : Int32) * p1)))
set_option maxRecDepth 100000 in
set_option maxHeartbeats 4000000 in
theorem c_X6_singlesBeside {h : xH} {p0 : Int32} {p1 : Int32} {r9 : Int32} (hE : f_X6_singlesBeside h p0 p1 = some r9) : Ctr M_X6_singlesBeside [.int p0, .int p1] h (some (.int r9)) h 0 0 := by
  refine ctr_of (by decide) (fun _ _ => Nat.le_of_ble_eq_true rfl) (fun S => ?_)
  show Y S M_X6_singlesBeside h (some (.int r9)) h 0 0 0 [(0, .int p0), (1, .int p1)] [] h 0 0
  unfold f_X6_singlesBeside at hE
  refine y_iconst (v := (0 : Int32)) dX6_singlesBeside_0 (by decide) ?_
  refine y_iload_n dX6_singlesBeside_1 0 rfl ?_
  refine y_iconst (v := (2 : Int32)) dX6_singlesBeside_2 (by decide) ?_
  refine y_iload_n dX6_singlesBeside_3 1 rfl ?_
  refine y_imul dX6_singlesBeside_4 ?_
  refine y_isub dX6_singlesBeside_5 ?_
  refine y_max (x_wt (tb 638 (by decide +kernel)) rfl) (by decide) (by decide) (Nat.le_of_ble_eq_true rfl) ⟨Nat.le_refl _, Nat.le_refl _⟩ dX6_singlesBeside_6 ?_
  obtain rfl := Option.some.inj hE
  exact y_ret dX6_singlesBeside_9 (Nat.le_refl _) (Nat.le_refl _) ⟨_, rfl, rfl⟩
def f_X0_choose_L4 (h : xH) (v0 : Int32) (v1 : Int32) : Nat → Int32 → Int32 → Option (Int32)
  | 0, _, _ => none
  | k + 1, v2, v3 =>
    if v1 ≤ v3 then
      some v2
    else
      (x_idiv (v2 * (v0 - v3)) (v3 + (1 : Int32))).bind fun x1 =>
      (some (v3 + (1 : Int32))).bind fun x2 =>
      f_X0_choose_L4 h v0 v1 k x1 x2
set_option maxRecDepth 100000 in
set_option maxHeartbeats 4000000 in
theorem l_X0_choose_4 {S : Nat × (Nat → Int32)} {rv : Option Value} {h0 h1 : xH} {mc ms : Nat} {cells slots : Nat} (hm : cells ≤ mc ∧ slots ≤ ms) (h : xH) (v0 : Int32) (v1 : Int32) : ∀ (k : Nat) (v2 : Int32) (v3 : Int32) (res : Int32), f_X0_choose_L4 h v0 v1 k v2 v3 = some res → (∀ r9, res = r9 → Y S M_X0_choose h0 rv h1 mc ms 25 [(2, .int r9)] [] h cells slots) → Y S M_X0_choose h0 rv h1 mc ms 4 [(0, .int v0), (1, .int v1), (2, .int v2), (3, .int v3)] [] h cells slots := by
  intro k
  induction k with
  | zero =>
    intro _ _ _ hE
    cases hE
  | succ k ih =>
    intro v2 v3 res hE K
    unfold f_X0_choose_L4 at hE
    refine y_iload_n dX0_choose_4 3 rfl ?_
    refine y_iload_n dX0_choose_5 1 rfl ?_
    refine y_icmp_ge (tgt := 25) dX0_choose_6 (by decide) (fun hc3 => ?_) (fun hc3 => ?_)
    · rw [if_pos hc3] at hE
      obtain rfl := Option.some.inj hE
      exact y_pick [2] rfl (K _ rfl)
    · rw [if_neg hc3] at hE
      refine y_iload_n dX0_choose_9 2 rfl ?_
      refine y_iload_n dX0_choose_10 0 rfl ?_
      refine y_iload_n dX0_choose_11 3 rfl ?_
      refine y_isub dX0_choose_12 ?_
      refine y_imul dX0_choose_13 ?_
      refine y_iload_n dX0_choose_14 3 rfl ?_
      refine y_iconst (v := (1 : Int32)) dX0_choose_15 (by decide) ?_
      refine y_iadd dX0_choose_16 ?_
      obtain ⟨x1, ex1, hE⟩ := Option.bind_eq_some_iff.mp hE
      refine y_div ex1 dX0_choose_17 ?_
      refine y_istore_n (ls' := [(2, .int x1), (0, .int v0), (1, .int v1), (3, .int v3)]) dX0_choose_18 (by decide) rfl rfl ?_
      obtain ⟨x2, ex2, hE⟩ := Option.bind_eq_some_iff.mp hE
      refine y_iinc (ls' := [(3, .int x2), (2, .int x1), (0, .int v0), (1, .int v1)]) dX0_choose_19 3 rfl (Option.some.inj ex2) (by decide) rfl ?_
      refine y_goto (tgt := 4) dX0_choose_22 (by decide) ?_
      refine y_pick [2, 3, 1, 0] rfl ?_
      exact ih _ _ _ hE K
def f_X0_choose (n : Nat) (h : xH) (p0 : Int32) (p1 : Int32) : Option (Int32) :=
  (f_X0_choose_L4 h p0 p1 n (1 : Int32) (0 : Int32)).bind fun q4 =>
  some q4
set_option maxRecDepth 100000 in
set_option maxHeartbeats 4000000 in
theorem c_X0_choose {n : Nat} {h : xH} {p0 : Int32} {p1 : Int32} {r9 : Int32} (hE : f_X0_choose n h p0 p1 = some r9) : Ctr M_X0_choose [.int p0, .int p1] h (some (.int r9)) h 0 0 := by
  refine ctr_of (by decide) (fun _ _ => Nat.le_of_ble_eq_true rfl) (fun S => ?_)
  show Y S M_X0_choose h (some (.int r9)) h 0 0 0 [(0, .int p0), (1, .int p1)] [] h 0 0
  unfold f_X0_choose at hE
  refine y_iconst (v := (1 : Int32)) dX0_choose_0 (by decide) ?_
  refine y_istore_n (ls' := [(2, .int (1 : Int32)), (0, .int p0), (1, .int p1)]) dX0_choose_1 (by decide) rfl rfl ?_
  refine y_iconst (v := (0 : Int32)) dX0_choose_2 (by decide) ?_
  refine y_istore_n (ls' := [(3, .int (0 : Int32)), (2, .int (1 : Int32)), (0, .int p0), (1, .int p1)]) dX0_choose_3 (by decide) rfl rfl ?_
  obtain ⟨q4, eq4, hE⟩ := Option.bind_eq_some_iff.mp hE
  refine y_pick [2, 3, 1, 0] rfl ?_
  refine l_X0_choose_4 (S := S) ⟨Nat.le_refl _, Nat.le_refl _⟩ h p0 p1 n (1 : Int32) (0 : Int32) _ eq4 (fun r8 hr8 => ?_)
  subst hr8
  refine y_iload_n dX0_choose_25 0 rfl ?_
  obtain rfl := Option.some.inj hE
  exact y_ret dX0_choose_26 (Nat.le_refl _) (Nat.le_refl _) ⟨_, rfl, rfl⟩
def f_X0_countSets_L25 (h : xH) (v0 : Nat) (v3 : Int32) : Nat → Int32 → Int32 → Int32 → Option (Int32 × Int32)
  | 0, _, _, _ => none
  | k + 1, v4, v5, v6 =>
    (x_gI h v0 0 4).bind fun x5 =>
    if x5 ≤ v6 then
      some (v4, v5)
    else
      if ((i_shr v3 v6) &&& (1 : Int32)) = 0 then
        (some (v6 + (1 : Int32))).bind fun x6 =>
        f_X0_countSets_L25 h v0 v3 k v4 v5 x6
      else
        (x_ob h v0 0).bind fun u7 =>
        (f_X0_weightOf h v0 v6).bind fun q8 =>
        (
          if q8 = (1 : Int32) then
            some (1 : Int32)
          else
            some (0 : Int32)
        ).bind fun q9 =>
        (some (v4 + q9)).bind fun x11 =>
        (x_ob h v0 0).bind fun u12 =>
        (f_X0_weightOf h v0 v6).bind fun q13 =>
        if q13 = (2 : Int32) then
          (some (v5 + (1 : Int32))).bind fun x14 =>
          (some (v6 + (1 : Int32))).bind fun x15 =>
          f_X0_countSets_L25 h v0 v3 k x11 x14 x15
        else
          (some (v5 + (0 : Int32))).bind fun x16 =>
          (some (v6 + (1 : Int32))).bind fun x17 =>
          f_X0_countSets_L25 h v0 v3 k x11 x16 x17
set_option maxRecDepth 100000 in
set_option maxHeartbeats 4000000 in
theorem l_X0_countSets_25 {S : Nat × (Nat → Int32)} {rv : Option Value} {h0 h1 : xH} {mc ms : Nat} {cells slots : Nat} (hm : cells ≤ mc ∧ slots ≤ ms) (h : xH) (v0 : Nat) (v3 : Int32) : ∀ (k : Nat) (v4 : Int32) (v5 : Int32) (v6 : Int32) (res : Int32 × Int32), f_X0_countSets_L25 h v0 v3 k v4 v5 v6 = some res → (∀ r9, res = r9 → Y S M_X0_countSets h0 rv h1 mc ms 89 [(0, .ref v0), (4, .int r9.1), (5, .int r9.2)] [] h cells slots) → Y S M_X0_countSets h0 rv h1 mc ms 25 [(0, .ref v0), (3, .int v3), (4, .int v4), (5, .int v5), (6, .int v6)] [] h cells slots := by
  intro k
  induction k with
  | zero =>
    intro _ _ _ _ hE
    cases hE
  | succ k ih =>
    intro v4 v5 v6 res hE K
    unfold f_X0_countSets_L25 at hE
    refine y_iload dX0_countSets_25 4 rfl ?_
    refine y_aload_n dX0_countSets_27 0 rfl ?_
    obtain ⟨x5, ex5, hE⟩ := Option.bind_eq_some_iff.mp hE
    refine y_getI fl_X0_31 ex5 dX0_countSets_28 ?_
    refine y_icmp_ge (tgt := 89) dX0_countSets_31 (by decide) (fun hc20 => ?_) (fun hc20 => ?_)
    · rw [if_pos hc20] at hE
      obtain rfl := Option.some.inj hE
      exact y_pick [0, 2, 3] rfl (K _ rfl)
    · rw [if_neg hc20] at hE
      refine y_iload_n dX0_countSets_34 1 rfl ?_
      refine y_iload dX0_countSets_35 4 rfl ?_
      refine y_ishr dX0_countSets_37 ?_
      refine y_iconst (v := (1 : Int32)) dX0_countSets_38 (by decide) ?_
      refine y_iand dX0_countSets_39 ?_
      refine y_if_eq (tgt := 83) dX0_countSets_40 (by decide) (fun hc19 => ?_) (fun hc19 => ?_)
      · rw [if_pos hc19] at hE
        obtain ⟨x6, ex6, hE⟩ := Option.bind_eq_some_iff.mp hE
        refine y_iinc (ls' := [(6, .int x6), (0, .ref v0), (3, .int v3), (4, .int v4), (5, .int v5)]) dX0_countSets_83 4 rfl (Option.some.inj ex6) (by decide) rfl ?_
        refine y_goto (tgt := 25) dX0_countSets_86 (by decide) ?_
        refine y_pick [1, 2, 3, 4, 0] rfl ?_
        exact ih _ _ _ _ hE K
      · rw [if_neg hc19] at hE
        refine y_iload dX0_countSets_43 2 rfl ?_
        refine y_aload_n dX0_countSets_45 0 rfl ?_
        refine y_iload dX0_countSets_46 4 rfl ?_
        obtain ⟨u7, eu7, hE⟩ := Option.bind_eq_some_iff.mp hE
        obtain ⟨q8, eq8, hE⟩ := Option.bind_eq_some_iff.mp hE
        refine y_cVi0 (st := [.int v4]) (as := [.int v6]) (c_X0_weightOf eq8) lk_X0_63 in_X0_weightOf se_X0_weightOf rfl eu7 ⟨Nat.le_of_ble_eq_true rfl, Nat.le_of_ble_eq_true rfl⟩ (Nat.le_of_ble_eq_true rfl) dX0_countSets_48 hm rfl ?_
        refine y_iconst (v := (1 : Int32)) dX0_countSets_51 (by decide) ?_
        obtain ⟨q9, eJ, hE⟩ := Option.bind_eq_some_iff.mp hE
        have hJ : Y S M_X0_countSets h0 rv h1 mc ms 60 [(0, .ref v0), (3, .int v3), (5, .int v5), (6, .int v6)] [.int q9, .int v4] h cells slots := by
          refine y_iadd dX0_countSets_60 ?_
          obtain ⟨x11, ex11, hE⟩ := Option.bind_eq_some_iff.mp hE
          refine y_istore (ls' := [(4, .int x11), (0, .ref v0), (3, .int v3), (5, .int v5), (6, .int v6)]) dX0_countSets_61 (by decide) (Option.some.inj ex11) rfl ?_
          refine y_iload dX0_countSets_63 3 rfl ?_
          refine y_aload_n dX0_countSets_65 1 rfl ?_
          refine y_iload dX0_countSets_66 4 rfl ?_
          obtain ⟨u12, eu12, hE⟩ := Option.bind_eq_some_iff.mp hE
          obtain ⟨q13, eq13, hE⟩ := Option.bind_eq_some_iff.mp hE
          refine y_cVi0 (st := [.int v5]) (as := [.int v6]) (c_X0_weightOf eq13) lk_X0_63 in_X0_weightOf se_X0_weightOf rfl eu12 ⟨Nat.le_of_ble_eq_true rfl, Nat.le_of_ble_eq_true rfl⟩ (Nat.le_of_ble_eq_true rfl) dX0_countSets_68 hm rfl ?_
          refine y_iconst (v := (2 : Int32)) dX0_countSets_71 (by decide) ?_
          refine y_icmp_ne (tgt := 79) dX0_countSets_72 (by decide) (fun hc18 => ?_) (fun hc18 => ?_)
          · rw [if_pos hc18] at hE
            refine y_iconst (v := (1 : Int32)) dX0_countSets_75 (by decide) ?_
            refine y_goto (tgt := 80) dX0_countSets_76 (by decide) ?_
            refine y_iadd dX0_countSets_80 ?_
            obtain ⟨x14, ex14, hE⟩ := Option.bind_eq_some_iff.mp hE
            refine y_istore (ls' := [(5, .int x14), (4, .int x11), (0, .ref v0), (3, .int v3), (6, .int v6)]) dX0_countSets_81 (by decide) (Option.some.inj ex14) rfl ?_
            obtain ⟨x15, ex15, hE⟩ := Option.bind_eq_some_iff.mp hE
            refine y_iinc (ls' := [(6, .int x15), (5, .int x14), (4, .int x11), (0, .ref v0), (3, .int v3)]) dX0_countSets_83 4 rfl (Option.some.inj ex15) (by decide) rfl ?_
            refine y_goto (tgt := 25) dX0_countSets_86 (by decide) ?_
            refine y_pick [3, 4, 2, 1, 0] rfl ?_
            exact ih _ _ _ _ hE K
          · rw [if_neg hc18] at hE
            refine y_iconst (v := (0 : Int32)) dX0_countSets_79 (by decide) ?_
            refine y_iadd dX0_countSets_80 ?_
            obtain ⟨x16, ex16, hE⟩ := Option.bind_eq_some_iff.mp hE
            refine y_istore (ls' := [(5, .int x16), (4, .int x11), (0, .ref v0), (3, .int v3), (6, .int v6)]) dX0_countSets_81 (by decide) (Option.some.inj ex16) rfl ?_
            obtain ⟨x17, ex17, hE⟩ := Option.bind_eq_some_iff.mp hE
            refine y_iinc (ls' := [(6, .int x17), (5, .int x16), (4, .int x11), (0, .ref v0), (3, .int v3)]) dX0_countSets_83 4 rfl (Option.some.inj ex17) (by decide) rfl ?_
            refine y_goto (tgt := 25) dX0_countSets_86 (by decide) ?_
            refine y_pick [3, 4, 2, 1, 0] rfl ?_
            exact ih _ _ _ _ hE K
        clear hE
        have hE := eJ
        clear eJ
        refine y_icmp_ne (tgt := 59) dX0_countSets_52 (by decide) (fun hc10 => ?_) (fun hc10 => ?_)
        · rw [if_pos hc10] at hE
          refine y_iconst (v := (1 : Int32)) dX0_countSets_55 (by decide) ?_
          refine y_goto (tgt := 60) dX0_countSets_56 (by decide) ?_
          obtain rfl := Option.some.inj hE
          exact y_pick [0, 1, 3, 4] rfl hJ
        · rw [if_neg hc10] at hE
          refine y_iconst (v := (0 : Int32)) dX0_countSets_59 (by decide) ?_
          obtain rfl := Option.some.inj hE
          exact y_pick [0, 1, 3, 4] rfl hJ
def f_X0_countSets_L95 (n : Nat) (h : xH) (v0 : Nat) (v4 : Int32) (v5 : Int32) : Nat → Int32 → Int32 → Option (Int32)
  | 0, _, _ => none
  | k + 1, v6, v7 =>
    (x_gI h v0 0 7).bind fun x22 =>
    if (x22 + (1 : Int32)) < ((2 : Int32) * v7) then
      some v6
    else
      (x_gI h v0 0 7).bind fun x23 =>
      (f_X6_singlesBeside h x23 v7).bind fun q24 =>
      (f_X0_choose n h v4 q24).bind fun q25 =>
      (f_X0_choose n h v5 v7).bind fun q26 =>
      (some (v6 + (q25 * q26))).bind fun x27 =>
      (some (v7 + (1 : Int32))).bind fun x28 =>
      f_X0_countSets_L95 n h v0 v4 v5 k x27 x28
set_option maxRecDepth 100000 in
set_option maxHeartbeats 4000000 in
theorem l_X0_countSets_95 {S : Nat × (Nat → Int32)} {rv : Option Value} {h0 h1 : xH} {mc ms : Nat} {cells slots : Nat} (hm : cells ≤ mc ∧ slots ≤ ms) (n : Nat) (h : xH) (v0 : Nat) (v4 : Int32) (v5 : Int32) : ∀ (k : Nat) (v6 : Int32) (v7 : Int32) (res : Int32), f_X0_countSets_L95 n h v0 v4 v5 k v6 v7 = some res → (∀ r9, res = r9 → Y S M_X0_countSets h0 rv h1 mc ms 141 [(6, .int r9)] [] h cells slots) → Y S M_X0_countSets h0 rv h1 mc ms 95 [(0, .ref v0), (4, .int v4), (5, .int v5), (6, .int v6), (7, .int v7)] [] h cells slots := by
  intro k
  induction k with
  | zero =>
    intro _ _ _ hE
    cases hE
  | succ k ih =>
    intro v6 v7 res hE K
    unfold f_X0_countSets_L95 at hE
    refine y_iconst (v := (2 : Int32)) dX0_countSets_95 (by decide) ?_
    refine y_iload dX0_countSets_96 4 rfl ?_
    refine y_imul dX0_countSets_98 ?_
    refine y_aload_n dX0_countSets_99 0 rfl ?_
    obtain ⟨x22, ex22, hE⟩ := Option.bind_eq_some_iff.mp hE
    refine y_getI fl_X0_24 ex22 dX0_countSets_100 ?_
    refine y_iconst (v := (1 : Int32)) dX0_countSets_103 (by decide) ?_
    refine y_iadd dX0_countSets_104 ?_
    refine y_icmp_gt (tgt := 141) dX0_countSets_105 (by decide) (fun hc29 => ?_) (fun hc29 => ?_)
    · rw [if_pos hc29] at hE
      obtain rfl := Option.some.inj hE
      exact y_pick [3] rfl (K _ rfl)
    · rw [if_neg hc29] at hE
      refine y_iload dX0_countSets_108 3 rfl ?_
      refine y_iload dX0_countSets_110 1 rfl ?_
      refine y_aload_n dX0_countSets_112 0 rfl ?_
      obtain ⟨x23, ex23, hE⟩ := Option.bind_eq_some_iff.mp hE
      refine y_getI fl_X0_24 ex23 dX0_countSets_113 ?_
      refine y_iload dX0_countSets_116 4 rfl ?_
      obtain ⟨q24, eq24, hE⟩ := Option.bind_eq_some_iff.mp hE
      refine y_cSi0 (st := [.int v4, .int v6]) (as := [.int x23, .int v7]) (c_X6_singlesBeside eq24) lk_X0_80 st_X6_singlesBeside ⟨Nat.le_of_ble_eq_true rfl, Nat.le_of_ble_eq_true rfl⟩ (Nat.le_of_ble_eq_true rfl) dX0_countSets_118 hm rfl ?_
      obtain ⟨q25, eq25, hE⟩ := Option.bind_eq_some_iff.mp hE
      refine y_cSi0 (st := [.int v6]) (as := [.int v4, .int q24]) (c_X0_choose eq25) lk_X0_84 st_X0_choose ⟨Nat.le_of_ble_eq_true rfl, Nat.le_of_ble_eq_true rfl⟩ (Nat.le_of_ble_eq_true rfl) dX0_countSets_121 hm rfl ?_
      refine y_iload dX0_countSets_124 2 rfl ?_
      refine y_iload dX0_countSets_126 4 rfl ?_
      obtain ⟨q26, eq26, hE⟩ := Option.bind_eq_some_iff.mp hE
      refine y_cSi0 (st := [.int q25, .int v6]) (as := [.int v5, .int v7]) (c_X0_choose eq26) lk_X0_84 st_X0_choose ⟨Nat.le_of_ble_eq_true rfl, Nat.le_of_ble_eq_true rfl⟩ (Nat.le_of_ble_eq_true rfl) dX0_countSets_128 hm rfl ?_
      refine y_imul dX0_countSets_131 ?_
      refine y_iadd dX0_countSets_132 ?_
      obtain ⟨x27, ex27, hE⟩ := Option.bind_eq_some_iff.mp hE
      refine y_istore (ls' := [(6, .int x27), (0, .ref v0), (4, .int v4), (5, .int v5), (7, .int v7)]) dX0_countSets_133 (by decide) (Option.some.inj ex27) rfl ?_
      obtain ⟨x28, ex28, hE⟩ := Option.bind_eq_some_iff.mp hE
      refine y_iinc (ls' := [(7, .int x28), (6, .int x27), (0, .ref v0), (4, .int v4), (5, .int v5)]) dX0_countSets_135 4 rfl (Option.some.inj ex28) (by decide) rfl ?_
      refine y_goto (tgt := 95) dX0_countSets_138 (by decide) ?_
      refine y_pick [2, 3, 4, 1, 0] rfl ?_
      exact ih _ _ _ hE K
def f_X0_countSets (n : Nat) (h : xH) (a0 : Nat) (p1 : Int32) (p2 : Int32) : Option (Int32) :=
  (x_ob h a0 0).bind fun u1 =>
  (f_X0_standsBeforeShut h a0 p1 p2).bind fun q2 =>
  if q2 = 0 then
    some (0 : Int32)
  else
    (x_ob h a0 0).bind fun u3 =>
    (f_X0_shuttable n h a0).bind fun q4 =>
    (f_X0_countSets_L25 h a0 q4 n (0 : Int32) (0 : Int32) (0 : Int32)).bind fun q21 =>
    (f_X0_countSets_L95 n h a0 q21.1 q21.2 n (0 : Int32) (0 : Int32)).bind fun q30 =>
    some q30
set_option maxRecDepth 100000 in
set_option maxHeartbeats 4000000 in
theorem c_X0_countSets {n : Nat} {h : xH} {a0 : Nat} {p1 : Int32} {p2 : Int32} {r9 : Int32} (hE : f_X0_countSets n h a0 p1 p2 = some r9) : Ctr M_X0_countSets [.ref a0, .int p1, .int p2] h (some (.int r9)) h 0 0 := by
  refine ctr_of (by decide) (fun _ _ => Nat.le_of_ble_eq_true rfl) (fun S => ?_)
  show Y S M_X0_countSets h (some (.int r9)) h 0 0 0 [(0, .ref a0), (1, .int p1), (2, .int p2)] [] h 0 0
  unfold f_X0_countSets at hE
  refine y_aload_n dX0_countSets_0 0 rfl ?_
  refine y_iload_n dX0_countSets_1 1 rfl ?_
  refine y_iload_n dX0_countSets_2 2 rfl ?_
  obtain ⟨u1, eu1, hE⟩ := Option.bind_eq_some_iff.mp hE
  obtain ⟨q2, eq2, hE⟩ := Option.bind_eq_some_iff.mp hE
  refine y_cVi0 (st := []) (as := [.int p1, .int p2]) (c_X0_standsBeforeShut eq2) lk_X0_70 in_X0_standsBeforeShut se_X0_standsBeforeShut rfl eu1 ⟨Nat.le_of_ble_eq_true rfl, Nat.le_of_ble_eq_true rfl⟩ (Nat.le_of_ble_eq_true rfl) dX0_countSets_3 ⟨Nat.le_refl _, Nat.le_refl _⟩ rfl ?_
  refine y_if_ne (tgt := 11) dX0_countSets_6 (by decide) (fun hc31 => ?_) (fun hc31 => ?_)
  · rw [if_pos hc31] at hE
    refine y_iconst (v := (0 : Int32)) dX0_countSets_9 (by decide) ?_
    obtain rfl := Option.some.inj hE
    exact y_ret dX0_countSets_10 (Nat.le_refl _) (Nat.le_refl _) ⟨_, rfl, rfl⟩
  · rw [if_neg hc31] at hE
    refine y_aload_n dX0_countSets_11 0 rfl ?_
    obtain ⟨u3, eu3, hE⟩ := Option.bind_eq_some_iff.mp hE
    obtain ⟨q4, eq4, hE⟩ := Option.bind_eq_some_iff.mp hE
    refine y_cVi0 (st := []) (as := []) (c_X0_shuttable eq4) lk_X0_73 in_X0_shuttable se_X0_shuttable rfl eu3 ⟨Nat.le_of_ble_eq_true rfl, Nat.le_of_ble_eq_true rfl⟩ (Nat.le_of_ble_eq_true rfl) dX0_countSets_12 ⟨Nat.le_refl _, Nat.le_refl _⟩ rfl ?_
    refine y_istore_n (ls' := [(3, .int q4), (0, .ref a0), (1, .int p1), (2, .int p2)]) dX0_countSets_15 (by decide) rfl rfl ?_
    refine y_iconst (v := (0 : Int32)) dX0_countSets_16 (by decide) ?_
    refine y_istore (ls' := [(4, .int (0 : Int32)), (3, .int q4), (0, .ref a0), (1, .int p1), (2, .int p2)]) dX0_countSets_17 (by decide) rfl rfl ?_
    refine y_iconst (v := (0 : Int32)) dX0_countSets_19 (by decide) ?_
    refine y_istore (ls' := [(5, .int (0 : Int32)), (4, .int (0 : Int32)), (3, .int q4), (0, .ref a0), (1, .int p1), (2, .int p2)]) dX0_countSets_20 (by decide) rfl rfl ?_
    refine y_iconst (v := (0 : Int32)) dX0_countSets_22 (by decide) ?_
    refine y_istore (ls' := [(6, .int (0 : Int32)), (5, .int (0 : Int32)), (4, .int (0 : Int32)), (3, .int q4), (0, .ref a0), (1, .int p1), (2, .int p2)]) dX0_countSets_23 (by decide) rfl rfl ?_
    obtain ⟨q21, eq21, hE⟩ := Option.bind_eq_some_iff.mp hE
    refine y_pick [4, 3, 2, 1, 0] rfl ?_
    refine l_X0_countSets_25 (S := S) ⟨Nat.le_refl _, Nat.le_refl _⟩ h a0 q4 n (0 : Int32) (0 : Int32) (0 : Int32) _ eq21 (fun r8 hr8 => ?_)
    subst hr8
    refine y_iconst (v := (0 : Int32)) dX0_countSets_89 (by decide) ?_
    refine y_istore (ls' := [(6, .int (0 : Int32)), (0, .ref a0), (4, .int q21.1), (5, .int q21.2)]) dX0_countSets_90 (by decide) rfl rfl ?_
    refine y_iconst (v := (0 : Int32)) dX0_countSets_92 (by decide) ?_
    refine y_istore (ls' := [(7, .int (0 : Int32)), (6, .int (0 : Int32)), (0, .ref a0), (4, .int q21.1), (5, .int q21.2)]) dX0_countSets_93 (by decide) rfl rfl ?_
    obtain ⟨q30, eq30, hE⟩ := Option.bind_eq_some_iff.mp hE
    refine y_pick [2, 3, 4, 1, 0] rfl ?_
    refine l_X0_countSets_95 (S := S) ⟨Nat.le_refl _, Nat.le_refl _⟩ n h a0 q21.1 q21.2 n (0 : Int32) (0 : Int32) _ eq30 (fun r8 hr8 => ?_)
    subst hr8
    refine y_iload dX0_countSets_141 0 rfl ?_
    obtain rfl := Option.some.inj hE
    exact y_ret dX0_countSets_143 (Nat.le_refl _) (Nat.le_refl _) ⟨_, rfl, rfl⟩
def f_X0_goThrough (h : xH) (a0 : Nat) (p1 : Int32) (p2 : Int32) : Option (xH) :=
  (x_gR h a0 0 3).bind fun a1 =>
  (x_gR h a0 0 3).bind fun a2 =>
  (x_ld h a2 p1).bind fun x3 =>
  (x_gR h a0 0 1).bind fun a4 =>
  (x_ld h a4 p2).bind fun x5 =>
  if x3 = x5 then
    (x_gR h a0 0 2).bind fun a6 =>
    (x_ld h a6 p2).bind fun x7 =>
    (x_st h a1 p1 x7).bind fun h8 =>
    some h8
  else
    (x_gR h a0 0 1).bind fun a9 =>
    (x_ld h a9 p2).bind fun x10 =>
    (x_st h a1 p1 x10).bind fun h11 =>
    some h11
set_option maxRecDepth 100000 in
set_option maxHeartbeats 4000000 in
theorem c_X0_goThrough {h : xH} {a0 : Nat} {p1 : Int32} {p2 : Int32} {hz : xH} (hE : f_X0_goThrough h a0 p1 p2 = some hz) : Ctr M_X0_goThrough [.ref a0, .int p1, .int p2] h none hz 0 0 := by
  refine ctr_of (by decide) (fun _ _ => Nat.le_of_ble_eq_true rfl) (fun S => ?_)
  show Y S M_X0_goThrough h none hz 0 0 0 [(0, .ref a0), (1, .int p1), (2, .int p2)] [] h 0 0
  unfold f_X0_goThrough at hE
  refine y_aload_n dX0_goThrough_0 0 rfl ?_
  obtain ⟨a1, ea1, hE⟩ := Option.bind_eq_some_iff.mp hE
  refine y_getR fl_X0_21 ea1 dX0_goThrough_1 ?_
  refine y_iload_n dX0_goThrough_4 1 rfl ?_
  refine y_aload_n dX0_goThrough_5 0 rfl ?_
  obtain ⟨a2, ea2, hE⟩ := Option.bind_eq_some_iff.mp hE
  refine y_getR fl_X0_21 ea2 dX0_goThrough_6 ?_
  refine y_iload_n dX0_goThrough_9 1 rfl ?_
  obtain ⟨x3, ex3, hE⟩ := Option.bind_eq_some_iff.mp hE
  refine y_iald ex3 dX0_goThrough_10 ?_
  refine y_aload_n dX0_goThrough_11 0 rfl ?_
  obtain ⟨a4, ea4, hE⟩ := Option.bind_eq_some_iff.mp hE
  refine y_getR fl_X0_15 ea4 dX0_goThrough_12 ?_
  refine y_iload_n dX0_goThrough_15 2 rfl ?_
  obtain ⟨x5, ex5, hE⟩ := Option.bind_eq_some_iff.mp hE
  refine y_iald ex5 dX0_goThrough_16 ?_
  refine y_icmp_ne (tgt := 29) dX0_goThrough_17 (by decide) (fun hc12 => ?_) (fun hc12 => ?_)
  · rw [if_pos hc12] at hE
    refine y_aload_n dX0_goThrough_20 0 rfl ?_
    obtain ⟨a6, ea6, hE⟩ := Option.bind_eq_some_iff.mp hE
    refine y_getR fl_X0_18 ea6 dX0_goThrough_21 ?_
    refine y_iload_n dX0_goThrough_24 2 rfl ?_
    obtain ⟨x7, ex7, hE⟩ := Option.bind_eq_some_iff.mp hE
    refine y_iald ex7 dX0_goThrough_25 ?_
    refine y_goto (tgt := 35) dX0_goThrough_26 (by decide) ?_
    obtain ⟨h8, eh8, hE⟩ := Option.bind_eq_some_iff.mp hE
    refine y_iast eh8 dX0_goThrough_35 ?_
    obtain rfl := Option.some.inj hE
    exact y_ret dX0_goThrough_36 (Nat.le_refl _) (Nat.le_refl _) rfl
  · rw [if_neg hc12] at hE
    refine y_aload_n dX0_goThrough_29 0 rfl ?_
    obtain ⟨a9, ea9, hE⟩ := Option.bind_eq_some_iff.mp hE
    refine y_getR fl_X0_15 ea9 dX0_goThrough_30 ?_
    refine y_iload_n dX0_goThrough_33 2 rfl ?_
    obtain ⟨x10, ex10, hE⟩ := Option.bind_eq_some_iff.mp hE
    refine y_iald ex10 dX0_goThrough_34 ?_
    obtain ⟨h11, eh11, hE⟩ := Option.bind_eq_some_iff.mp hE
    refine y_iast eh11 dX0_goThrough_35 ?_
    obtain rfl := Option.some.inj hE
    exact y_ret dX0_goThrough_36 (Nat.le_refl _) (Nat.le_refl _) rfl
def f_X0_openFor (h : xH) (a0 : Nat) (p1 : Int32) (p2 : Int32) : Option (xH) :=
  (x_gI h a0 0 5).bind fun x1 =>
  (x_put h a0 0 5 (.int ((x1 &&& (p2 ^^^ (-1 : Int32))) ||| (i_shl (1 : Int32) p1)))).bind fun h2 =>
  (x_gI h2 a0 0 10).bind fun x3 =>
  (x_put h2 a0 0 10 (.int (x3 + (1 : Int32)))).bind fun h4 =>
  some h4
set_option maxRecDepth 100000 in
set_option maxHeartbeats 4000000 in
theorem c_X0_openFor {h : xH} {a0 : Nat} {p1 : Int32} {p2 : Int32} {hz : xH} (hE : f_X0_openFor h a0 p1 p2 = some hz) : Ctr M_X0_openFor [.ref a0, .int p1, .int p2] h none hz 0 0 := by
  refine ctr_of (by decide) (fun _ _ => Nat.le_of_ble_eq_true rfl) (fun S => ?_)
  show Y S M_X0_openFor h none hz 0 0 0 [(0, .ref a0), (1, .int p1), (2, .int p2)] [] h 0 0
  unfold f_X0_openFor at hE
  refine y_aload_n dX0_openFor_0 0 rfl ?_
  refine y_aload_n dX0_openFor_1 0 rfl ?_
  obtain ⟨x1, ex1, hE⟩ := Option.bind_eq_some_iff.mp hE
  refine y_getI fl_X0_37 ex1 dX0_openFor_2 ?_
  refine y_iload_n dX0_openFor_5 2 rfl ?_
  refine y_iconst (v := (-1 : Int32)) dX0_openFor_6 (by decide) ?_
  refine y_ixor dX0_openFor_7 ?_
  refine y_iand dX0_openFor_8 ?_
  refine y_iconst (v := (1 : Int32)) dX0_openFor_9 (by decide) ?_
  refine y_iload_n dX0_openFor_10 1 rfl ?_
  refine y_ishl dX0_openFor_11 ?_
  refine y_ior dX0_openFor_12 ?_
  obtain ⟨h2, eh2, hE⟩ := Option.bind_eq_some_iff.mp hE
  refine y_putI fp_X0_37 eh2 dX0_openFor_13 ?_
  refine y_aload_n dX0_openFor_16 0 rfl ?_
  refine y_dup dX0_openFor_17 rfl ?_
  obtain ⟨x3, ex3, hE⟩ := Option.bind_eq_some_iff.mp hE
  refine y_getI fl_X0_43 ex3 dX0_openFor_18 ?_
  refine y_iconst (v := (1 : Int32)) dX0_openFor_21 (by decide) ?_
  refine y_iadd dX0_openFor_22 ?_
  obtain ⟨h4, eh4, hE⟩ := Option.bind_eq_some_iff.mp hE
  refine y_putI fp_X0_43 eh4 dX0_openFor_23 ?_
  obtain rfl := Option.some.inj hE
  exact y_ret dX0_openFor_26 (Nat.le_refl _) (Nat.le_refl _) rfl
def f_X0_openStock_L4 (h : xH) (v0 : Nat) : Nat → Int32 → Int32 → Option (Int32)
  | 0, _, _ => none
  | k + 1, v1, v2 =>
    (x_gI h v0 0 4).bind fun x1 =>
    if x1 ≤ v2 then
      some v1
    else
      (x_ob h v0 0).bind fun u2 =>
      (f_X0_isOpen h v0 v2).bind fun q3 =>
      if q3 = 0 then
        (some (v2 + (1 : Int32))).bind fun x4 =>
        f_X0_openStock_L4 h v0 k v1 x4
      else
        (x_gR h v0 0 0).bind fun a5 =>
        (x_ld h a5 v2).bind fun x6 =>
        if x6 = (5 : Int32) then
          (some (v2 + (1 : Int32))).bind fun x7 =>
          f_X0_openStock_L4 h v0 k v1 x7
        else
          (x_ob h v0 0).bind fun u8 =>
          (f_X0_weightOf h v0 v2).bind fun q9 =>
          (some (v1 + q9)).bind fun x10 =>
          (some (v2 + (1 : Int32))).bind fun x11 =>
          f_X0_openStock_L4 h v0 k x10 x11
set_option maxRecDepth 100000 in
set_option maxHeartbeats 4000000 in
theorem l_X0_openStock_4 {S : Nat × (Nat → Int32)} {rv : Option Value} {h0 h1 : xH} {mc ms : Nat} {cells slots : Nat} (hm : cells ≤ mc ∧ slots ≤ ms) (h : xH) (v0 : Nat) : ∀ (k : Nat) (v1 : Int32) (v2 : Int32) (res : Int32), f_X0_openStock_L4 h v0 k v1 v2 = some res → (∀ r9, res = r9 → Y S M_X0_openStock h0 rv h1 mc ms 44 [(1, .int r9)] [] h cells slots) → Y S M_X0_openStock h0 rv h1 mc ms 4 [(0, .ref v0), (1, .int v1), (2, .int v2)] [] h cells slots := by
  intro k
  induction k with
  | zero =>
    intro _ _ _ hE
    cases hE
  | succ k ih =>
    intro v1 v2 res hE K
    unfold f_X0_openStock_L4 at hE
    refine y_iload_n dX0_openStock_4 2 rfl ?_
    refine y_aload_n dX0_openStock_5 0 rfl ?_
    obtain ⟨x1, ex1, hE⟩ := Option.bind_eq_some_iff.mp hE
    refine y_getI fl_X0_31 ex1 dX0_openStock_6 ?_
    refine y_icmp_ge (tgt := 44) dX0_openStock_9 (by decide) (fun hc14 => ?_) (fun hc14 => ?_)
    · rw [if_pos hc14] at hE
      obtain rfl := Option.some.inj hE
      exact y_pick [1] rfl (K _ rfl)
    · rw [if_neg hc14] at hE
      refine y_aload_n dX0_openStock_12 0 rfl ?_
      refine y_iload_n dX0_openStock_13 2 rfl ?_
      obtain ⟨u2, eu2, hE⟩ := Option.bind_eq_some_iff.mp hE
      obtain ⟨q3, eq3, hE⟩ := Option.bind_eq_some_iff.mp hE
      refine y_cVi0 (st := []) (as := [.int v2]) (c_X0_isOpen eq3) lk_X0_53 in_X0_isOpen se_X0_isOpen rfl eu2 ⟨Nat.le_of_ble_eq_true rfl, Nat.le_of_ble_eq_true rfl⟩ (Nat.le_of_ble_eq_true rfl) dX0_openStock_14 hm rfl ?_
      refine y_if_eq (tgt := 38) dX0_openStock_17 (by decide) (fun hc13 => ?_) (fun hc13 => ?_)
      · rw [if_pos hc13] at hE
        obtain ⟨x4, ex4, hE⟩ := Option.bind_eq_some_iff.mp hE
        refine y_iinc (ls' := [(2, .int x4), (0, .ref v0), (1, .int v1)]) dX0_openStock_38 2 rfl (Option.some.inj ex4) (by decide) rfl ?_
        refine y_goto (tgt := 4) dX0_openStock_41 (by decide) ?_
        refine y_pick [1, 2, 0] rfl ?_
        exact ih _ _ _ hE K
      · rw [if_neg hc13] at hE
        refine y_aload_n dX0_openStock_20 0 rfl ?_
        obtain ⟨a5, ea5, hE⟩ := Option.bind_eq_some_iff.mp hE
        refine y_getR fl_X0_9 ea5 dX0_openStock_21 ?_
        refine y_iload_n dX0_openStock_24 2 rfl ?_
        obtain ⟨x6, ex6, hE⟩ := Option.bind_eq_some_iff.mp hE
        refine y_iald ex6 dX0_openStock_25 ?_
        refine y_iconst (v := (5 : Int32)) dX0_openStock_26 (by decide) ?_
        refine y_icmp_eq (tgt := 38) dX0_openStock_27 (by decide) (fun hc12 => ?_) (fun hc12 => ?_)
        · rw [if_pos hc12] at hE
          obtain ⟨x7, ex7, hE⟩ := Option.bind_eq_some_iff.mp hE
          refine y_iinc (ls' := [(2, .int x7), (0, .ref v0), (1, .int v1)]) dX0_openStock_38 2 rfl (Option.some.inj ex7) (by decide) rfl ?_
          refine y_goto (tgt := 4) dX0_openStock_41 (by decide) ?_
          refine y_pick [1, 2, 0] rfl ?_
          exact ih _ _ _ hE K
        · rw [if_neg hc12] at hE
          refine y_iload_n dX0_openStock_30 1 rfl ?_
          refine y_aload_n dX0_openStock_31 0 rfl ?_
          refine y_iload_n dX0_openStock_32 2 rfl ?_
          obtain ⟨u8, eu8, hE⟩ := Option.bind_eq_some_iff.mp hE
          obtain ⟨q9, eq9, hE⟩ := Option.bind_eq_some_iff.mp hE
          refine y_cVi0 (st := [.int v1]) (as := [.int v2]) (c_X0_weightOf eq9) lk_X0_63 in_X0_weightOf se_X0_weightOf rfl eu8 ⟨Nat.le_of_ble_eq_true rfl, Nat.le_of_ble_eq_true rfl⟩ (Nat.le_of_ble_eq_true rfl) dX0_openStock_33 hm rfl ?_
          refine y_iadd dX0_openStock_36 ?_
          obtain ⟨x10, ex10, hE⟩ := Option.bind_eq_some_iff.mp hE
          refine y_istore_n (ls' := [(1, .int x10), (0, .ref v0), (2, .int v2)]) dX0_openStock_37 (by decide) (Option.some.inj ex10) rfl ?_
          obtain ⟨x11, ex11, hE⟩ := Option.bind_eq_some_iff.mp hE
          refine y_iinc (ls' := [(2, .int x11), (1, .int x10), (0, .ref v0)]) dX0_openStock_38 2 rfl (Option.some.inj ex11) (by decide) rfl ?_
          refine y_goto (tgt := 4) dX0_openStock_41 (by decide) ?_
          refine y_pick [2, 1, 0] rfl ?_
          exact ih _ _ _ hE K
def f_X0_openStock (n : Nat) (h : xH) (a0 : Nat) : Option (Int32) :=
  (f_X0_openStock_L4 h a0 n (0 : Int32) (0 : Int32)).bind fun q15 =>
  some q15
set_option maxRecDepth 100000 in
set_option maxHeartbeats 4000000 in
theorem c_X0_openStock {n : Nat} {h : xH} {a0 : Nat} {r9 : Int32} (hE : f_X0_openStock n h a0 = some r9) : Ctr M_X0_openStock [.ref a0] h (some (.int r9)) h 0 0 := by
  refine ctr_of (by decide) (fun _ _ => Nat.le_of_ble_eq_true rfl) (fun S => ?_)
  show Y S M_X0_openStock h (some (.int r9)) h 0 0 0 [(0, .ref a0)] [] h 0 0
  unfold f_X0_openStock at hE
  refine y_iconst (v := (0 : Int32)) dX0_openStock_0 (by decide) ?_
  refine y_istore_n (ls' := [(1, .int (0 : Int32)), (0, .ref a0)]) dX0_openStock_1 (by decide) rfl rfl ?_
  refine y_iconst (v := (0 : Int32)) dX0_openStock_2 (by decide) ?_
  refine y_istore_n (ls' := [(2, .int (0 : Int32)), (1, .int (0 : Int32)), (0, .ref a0)]) dX0_openStock_3 (by decide) rfl rfl ?_
  obtain ⟨q15, eq15, hE⟩ := Option.bind_eq_some_iff.mp hE
  refine y_pick [2, 1, 0] rfl ?_
  refine l_X0_openStock_4 (S := S) ⟨Nat.le_refl _, Nat.le_refl _⟩ h a0 n (0 : Int32) (0 : Int32) _ eq15 (fun r8 hr8 => ?_)
  subst hr8
  refine y_iload_n dX0_openStock_44 0 rfl ?_
  obtain rfl := Option.some.inj hE
  exact y_ret dX0_openStock_45 (Nat.le_refl _) (Nat.le_refl _) ⟨_, rfl, rfl⟩
def f_X0_reachFrom_L18 (h : xH) (v0 : Nat) (v3 : Int32) (v4 : Int32) : Nat → Int32 → Int32 → Option (Int32)
  | 0, _, _ => none
  | k + 1, v2, v5 =>
    (x_gI h v0 0 4).bind fun x2 =>
    if x2 ≤ v5 then
      some v2
    else
      (x_gR h v0 0 1).bind fun a3 =>
      (x_ld h a3 v5).bind fun x4 =>
      (x_gR h v0 0 2).bind fun a5 =>
      (x_ld h a5 v5).bind fun x6 =>
      (some ((i_shl (1 : Int32) x4) ||| (i_shl (1 : Int32) x6))).bind fun x7 =>
      (x_ob h v0 0).bind fun u8 =>
      (f_X0_isOpen h v0 v5).bind fun q9 =>
      if q9 = 0 then
        (some (v5 + (1 : Int32))).bind fun x10 =>
        f_X0_reachFrom_L18 h v0 v3 v4 k v2 x10
      else
        if (v2 &&& x7) = 0 then
          (some (v5 + (1 : Int32))).bind fun x11 =>
          f_X0_reachFrom_L18 h v0 v3 v4 k v2 x11
        else
          (some (v2 ||| x7)).bind fun x12 =>
          (some (v5 + (1 : Int32))).bind fun x13 =>
          f_X0_reachFrom_L18 h v0 v3 v4 k x12 x13
set_option maxRecDepth 100000 in
set_option maxHeartbeats 4000000 in
theorem l_X0_reachFrom_18 {S : Nat × (Nat → Int32)} {rv : Option Value} {h0 h1 : xH} {mc ms : Nat} {cells slots : Nat} (hm : cells ≤ mc ∧ slots ≤ ms) (h : xH) (v0 : Nat) (v3 : Int32) (v4 : Int32) : ∀ (k : Nat) (v2 : Int32) (v5 : Int32) (res : Int32), f_X0_reachFrom_L18 h v0 v3 v4 k v2 v5 = some res → (∀ r9, res = r9 → Y S M_X0_reachFrom h0 rv h1 mc ms 75 [(0, .ref v0), (2, .int r9), (3, .int v3), (4, .int v4)] [] h cells slots) → Y S M_X0_reachFrom h0 rv h1 mc ms 18 [(0, .ref v0), (2, .int v2), (3, .int v3), (4, .int v4), (5, .int v5)] [] h cells slots := by
  intro k
  induction k with
  | zero =>
    intro _ _ _ hE
    cases hE
  | succ k ih =>
    intro v2 v5 res hE K
    unfold f_X0_reachFrom_L18 at hE
    refine y_iload dX0_reachFrom_18 4 rfl ?_
    refine y_aload_n dX0_reachFrom_20 0 rfl ?_
    obtain ⟨x2, ex2, hE⟩ := Option.bind_eq_some_iff.mp hE
    refine y_getI fl_X0_31 ex2 dX0_reachFrom_21 ?_
    refine y_icmp_ge (tgt := 75) dX0_reachFrom_24 (by decide) (fun hc16 => ?_) (fun hc16 => ?_)
    · rw [if_pos hc16] at hE
      obtain rfl := Option.some.inj hE
      exact y_pick [0, 1, 2, 3] rfl (K _ rfl)
    · rw [if_neg hc16] at hE
      refine y_iconst (v := (1 : Int32)) dX0_reachFrom_27 (by decide) ?_
      refine y_aload_n dX0_reachFrom_28 0 rfl ?_
      obtain ⟨a3, ea3, hE⟩ := Option.bind_eq_some_iff.mp hE
      refine y_getR fl_X0_15 ea3 dX0_reachFrom_29 ?_
      refine y_iload dX0_reachFrom_32 4 rfl ?_
      obtain ⟨x4, ex4, hE⟩ := Option.bind_eq_some_iff.mp hE
      refine y_iald ex4 dX0_reachFrom_34 ?_
      refine y_ishl dX0_reachFrom_35 ?_
      refine y_iconst (v := (1 : Int32)) dX0_reachFrom_36 (by decide) ?_
      refine y_aload_n dX0_reachFrom_37 0 rfl ?_
      obtain ⟨a5, ea5, hE⟩ := Option.bind_eq_some_iff.mp hE
      refine y_getR fl_X0_18 ea5 dX0_reachFrom_38 ?_
      refine y_iload dX0_reachFrom_41 4 rfl ?_
      obtain ⟨x6, ex6, hE⟩ := Option.bind_eq_some_iff.mp hE
      refine y_iald ex6 dX0_reachFrom_43 ?_
      refine y_ishl dX0_reachFrom_44 ?_
      refine y_ior dX0_reachFrom_45 ?_
      obtain ⟨x7, ex7, hE⟩ := Option.bind_eq_some_iff.mp hE
      refine y_istore (ls' := [(6, .int x7), (0, .ref v0), (2, .int v2), (3, .int v3), (4, .int v4), (5, .int v5)]) dX0_reachFrom_46 (by decide) (Option.some.inj ex7) rfl ?_
      refine y_aload_n dX0_reachFrom_48 1 rfl ?_
      refine y_iload dX0_reachFrom_49 5 rfl ?_
      obtain ⟨u8, eu8, hE⟩ := Option.bind_eq_some_iff.mp hE
      obtain ⟨q9, eq9, hE⟩ := Option.bind_eq_some_iff.mp hE
      refine y_cVi0 (st := []) (as := [.int v5]) (c_X0_isOpen eq9) lk_X0_53 in_X0_isOpen se_X0_isOpen rfl eu8 ⟨Nat.le_of_ble_eq_true rfl, Nat.le_of_ble_eq_true rfl⟩ (Nat.le_of_ble_eq_true rfl) dX0_reachFrom_51 hm rfl ?_
      refine y_if_eq (tgt := 69) dX0_reachFrom_54 (by decide) (fun hc15 => ?_) (fun hc15 => ?_)
      · rw [if_pos hc15] at hE
        obtain ⟨x10, ex10, hE⟩ := Option.bind_eq_some_iff.mp hE
        refine y_iinc (ls' := [(5, .int x10), (6, .int x7), (0, .ref v0), (2, .int v2), (3, .int v3), (4, .int v4)]) dX0_reachFrom_69 5 rfl (Option.some.inj ex10) (by decide) rfl ?_
        refine y_goto (tgt := 18) dX0_reachFrom_72 (by decide) ?_
        refine y_pick [2, 3, 4, 5, 0] rfl ?_
        exact ih _ _ _ hE K
      · rw [if_neg hc15] at hE
        refine y_iload_n dX0_reachFrom_57 2 rfl ?_
        refine y_iload dX0_reachFrom_58 0 rfl ?_
        refine y_iand dX0_reachFrom_60 ?_
        refine y_if_eq (tgt := 69) dX0_reachFrom_61 (by decide) (fun hc14 => ?_) (fun hc14 => ?_)
        · rw [if_pos hc14] at hE
          obtain ⟨x11, ex11, hE⟩ := Option.bind_eq_some_iff.mp hE
          refine y_iinc (ls' := [(5, .int x11), (6, .int x7), (0, .ref v0), (2, .int v2), (3, .int v3), (4, .int v4)]) dX0_reachFrom_69 5 rfl (Option.some.inj ex11) (by decide) rfl ?_
          refine y_goto (tgt := 18) dX0_reachFrom_72 (by decide) ?_
          refine y_pick [2, 3, 4, 5, 0] rfl ?_
          exact ih _ _ _ hE K
        · rw [if_neg hc14] at hE
          refine y_iload_n dX0_reachFrom_64 2 rfl ?_
          refine y_iload dX0_reachFrom_65 0 rfl ?_
          refine y_ior dX0_reachFrom_67 ?_
          obtain ⟨x12, ex12, hE⟩ := Option.bind_eq_some_iff.mp hE
          refine y_istore_n (ls' := [(2, .int x12), (6, .int x7), (0, .ref v0), (3, .int v3), (4, .int v4), (5, .int v5)]) dX0_reachFrom_68 (by decide) (Option.some.inj ex12) rfl ?_
          obtain ⟨x13, ex13, hE⟩ := Option.bind_eq_some_iff.mp hE
          refine y_iinc (ls' := [(5, .int x13), (2, .int x12), (6, .int x7), (0, .ref v0), (3, .int v3), (4, .int v4)]) dX0_reachFrom_69 5 rfl (Option.some.inj ex13) (by decide) rfl ?_
          refine y_goto (tgt := 18) dX0_reachFrom_72 (by decide) ?_
          refine y_pick [3, 1, 4, 5, 0] rfl ?_
          exact ih _ _ _ hE K
def f_X0_reachFrom_L6 (n : Nat) (h : xH) (v0 : Nat) : Nat → Int32 → Int32 → Option (Sum (Int32) (Int32))
  | 0, _, _ => none
  | k + 1, v2, v3 =>
    if (8 : Int32) ≤ v3 then
      some (.inr v2)
    else
      (f_X0_reachFrom_L18 h v0 v3 v2 n v2 (0 : Int32)).bind fun q17 =>
      if q17 = v2 then
        some (.inl q17)
      else
        (some (v3 + (1 : Int32))).bind fun x18 =>
        f_X0_reachFrom_L6 n h v0 k q17 x18
set_option maxRecDepth 100000 in
set_option maxHeartbeats 4000000 in
theorem l_X0_reachFrom_6 {S : Nat × (Nat → Int32)} {rv : Option Value} {h0 h1 : xH} {mc ms : Nat} {cells slots : Nat} (hm : cells ≤ mc ∧ slots ≤ ms) (n : Nat) (h : xH) (v0 : Nat) : ∀ (k : Nat) (v2 : Int32) (v3 : Int32) (res : Sum (Int32) (Int32)), f_X0_reachFrom_L6 n h v0 k v2 v3 = some res → (∀ r9, res = .inl r9 → rv = some (.int r9) ∧ h1 = h) → (∀ r9, res = .inr r9 → Y S M_X0_reachFrom h0 rv h1 mc ms 89 [(2, .int r9)] [] h cells slots) → Y S M_X0_reachFrom h0 rv h1 mc ms 6 [(0, .ref v0), (2, .int v2), (3, .int v3)] [] h cells slots := by
  intro k
  induction k with
  | zero =>
    intro _ _ _ hE
    cases hE
  | succ k ih =>
    intro v2 v3 res hE KR K
    unfold f_X0_reachFrom_L6 at hE
    refine y_iload_n dX0_reachFrom_6 2 rfl ?_
    refine y_bipush (v := (8 : Int32)) dX0_reachFrom_7 (by decide) ?_
    refine y_icmp_ge (tgt := 89) dX0_reachFrom_9 (by decide) (fun hc20 => ?_) (fun hc20 => ?_)
    · rw [if_pos hc20] at hE
      obtain rfl := Option.some.inj hE
      exact y_pick [1] rfl (K _ rfl)
    · rw [if_neg hc20] at hE
      refine y_iload_n dX0_reachFrom_12 1 rfl ?_
      refine y_istore (ls' := [(4, .int v2), (0, .ref v0), (2, .int v2), (3, .int v3)]) dX0_reachFrom_13 (by decide) rfl rfl ?_
      refine y_iconst (v := (0 : Int32)) dX0_reachFrom_15 (by decide) ?_
      refine y_istore (ls' := [(5, .int (0 : Int32)), (4, .int v2), (0, .ref v0), (2, .int v2), (3, .int v3)]) dX0_reachFrom_16 (by decide) rfl rfl ?_
      obtain ⟨q17, eq17, hE⟩ := Option.bind_eq_some_iff.mp hE
      refine y_pick [2, 3, 4, 1, 0] rfl ?_
      refine l_X0_reachFrom_18 (S := S) hm h v0 v3 v2 n v2 (0 : Int32) _ eq17 (fun r8 hr8 => ?_)
      subst hr8
      refine y_iload_n dX0_reachFrom_75 1 rfl ?_
      refine y_iload dX0_reachFrom_76 3 rfl ?_
      refine y_icmp_ne (tgt := 83) dX0_reachFrom_78 (by decide) (fun hc19 => ?_) (fun hc19 => ?_)
      · rw [if_pos hc19] at hE
        refine y_iload_n dX0_reachFrom_81 1 rfl ?_
        obtain rfl := Option.some.inj hE
        obtain ⟨rfl, rfl⟩ := KR _ rfl
        exact y_ret dX0_reachFrom_82 hm.1 hm.2 ⟨_, rfl, rfl⟩
      · rw [if_neg hc19] at hE
        obtain ⟨x18, ex18, hE⟩ := Option.bind_eq_some_iff.mp hE
        refine y_iinc (ls' := [(3, .int x18), (0, .ref v0), (2, .int q17), (4, .int v2)]) dX0_reachFrom_83 2 rfl (Option.some.inj ex18) (by decide) rfl ?_
        refine y_goto (tgt := 6) dX0_reachFrom_86 (by decide) ?_
        refine y_pick [1, 2, 0] rfl ?_
        exact ih _ _ _ hE KR K
def f_X0_reachFrom (n : Nat) (h : xH) (a0 : Nat) (p1 : Int32) : Option (Int32) :=
  (some (i_shl (1 : Int32) p1)).bind fun x1 =>
  (f_X0_reachFrom_L6 n h a0 n x1 (0 : Int32)).bind fun q21 =>
  match q21 with
  | .inl r22 => some r22
  | .inr e23 =>
    some e23
set_option maxRecDepth 100000 in
set_option maxHeartbeats 4000000 in
theorem c_X0_reachFrom {n : Nat} {h : xH} {a0 : Nat} {p1 : Int32} {r9 : Int32} (hE : f_X0_reachFrom n h a0 p1 = some r9) : Ctr M_X0_reachFrom [.ref a0, .int p1] h (some (.int r9)) h 0 0 := by
  refine ctr_of (by decide) (fun _ _ => Nat.le_of_ble_eq_true rfl) (fun S => ?_)
  show Y S M_X0_reachFrom h (some (.int r9)) h 0 0 0 [(0, .ref a0), (1, .int p1)] [] h 0 0
  unfold f_X0_reachFrom at hE
  refine y_iconst (v := (1 : Int32)) dX0_reachFrom_0 (by decide) ?_
  refine y_iload_n dX0_reachFrom_1 1 rfl ?_
  refine y_ishl dX0_reachFrom_2 ?_
  obtain ⟨x1, ex1, hE⟩ := Option.bind_eq_some_iff.mp hE
  refine y_istore_n (ls' := [(2, .int x1), (0, .ref a0), (1, .int p1)]) dX0_reachFrom_3 (by decide) (Option.some.inj ex1) rfl ?_
  refine y_iconst (v := (0 : Int32)) dX0_reachFrom_4 (by decide) ?_
  refine y_istore_n (ls' := [(3, .int (0 : Int32)), (2, .int x1), (0, .ref a0), (1, .int p1)]) dX0_reachFrom_5 (by decide) rfl rfl ?_
  obtain ⟨q21, eq21, hE⟩ := Option.bind_eq_some_iff.mp hE
  refine y_pick [2, 1, 0] rfl ?_
  cases q21 with
  | inl r22 =>
    dsimp only at hE
    cases hE
    exact l_X0_reachFrom_6 (S := S) ⟨Nat.le_refl _, Nat.le_refl _⟩ n h a0 n x1 (0 : Int32) _ eq21 (fun r8 hr8 => by cases hr8; exact ⟨rfl, rfl⟩) (fun r8 hr8 => by cases hr8)
  | inr e23 =>
    dsimp only at hE
    refine l_X0_reachFrom_6 (S := S) ⟨Nat.le_refl _, Nat.le_refl _⟩ n h a0 n x1 (0 : Int32) _ eq21 (fun r8 hr8 => by cases hr8) (fun r8 hr8 => ?_)
    cases hr8
    refine y_iload_n dX0_reachFrom_89 0 rfl ?_
    obtain rfl := Option.some.inj hE
    exact y_ret dX0_reachFrom_90 (Nat.le_refl _) (Nat.le_refl _) ⟨_, rfl, rfl⟩
def f_X0_shutInBits_L4 (n : Nat) (h : xH) (v0 : Nat) : Nat → Int32 → Int32 → Option (Int32)
  | 0, _, _ => none
  | k + 1, v1, v2 =>
    (x_gI h v0 0 6).bind fun x1 =>
    if x1 ≤ v2 then
      some v1
    else
      (x_gR h v0 0 3).bind fun a2 =>
      (x_ld h a2 v2).bind fun x3 =>
      (x_ob h v0 0).bind fun u4 =>
      (f_X0_reachFrom n h v0 x3).bind fun q5 =>
      if (q5 &&& (1 : Int32)) = 0 then
        (some (v1 ||| (i_shl (1 : Int32) v2))).bind fun x6 =>
        (some (v2 + (1 : Int32))).bind fun x7 =>
        f_X0_shutInBits_L4 n h v0 k x6 x7
      else
        (some (v2 + (1 : Int32))).bind fun x8 =>
        f_X0_shutInBits_L4 n h v0 k v1 x8
set_option maxRecDepth 100000 in
set_option maxHeartbeats 4000000 in
theorem l_X0_shutInBits_4 {S : Nat × (Nat → Int32)} {rv : Option Value} {h0 h1 : xH} {mc ms : Nat} {cells slots : Nat} (hm : cells ≤ mc ∧ slots ≤ ms) (n : Nat) (h : xH) (v0 : Nat) : ∀ (k : Nat) (v1 : Int32) (v2 : Int32) (res : Int32), f_X0_shutInBits_L4 n h v0 k v1 v2 = some res → (∀ r9, res = r9 → Y S M_X0_shutInBits h0 rv h1 mc ms 39 [(1, .int r9)] [] h cells slots) → Y S M_X0_shutInBits h0 rv h1 mc ms 4 [(0, .ref v0), (1, .int v1), (2, .int v2)] [] h cells slots := by
  intro k
  induction k with
  | zero =>
    intro _ _ _ hE
    cases hE
  | succ k ih =>
    intro v1 v2 res hE K
    unfold f_X0_shutInBits_L4 at hE
    refine y_iload_n dX0_shutInBits_4 2 rfl ?_
    refine y_aload_n dX0_shutInBits_5 0 rfl ?_
    obtain ⟨x1, ex1, hE⟩ := Option.bind_eq_some_iff.mp hE
    refine y_getI fl_X0_34 ex1 dX0_shutInBits_6 ?_
    refine y_icmp_ge (tgt := 39) dX0_shutInBits_9 (by decide) (fun hc10 => ?_) (fun hc10 => ?_)
    · rw [if_pos hc10] at hE
      obtain rfl := Option.some.inj hE
      exact y_pick [1] rfl (K _ rfl)
    · rw [if_neg hc10] at hE
      refine y_aload_n dX0_shutInBits_12 0 rfl ?_
      refine y_aload_n dX0_shutInBits_13 0 rfl ?_
      obtain ⟨a2, ea2, hE⟩ := Option.bind_eq_some_iff.mp hE
      refine y_getR fl_X0_21 ea2 dX0_shutInBits_14 ?_
      refine y_iload_n dX0_shutInBits_17 2 rfl ?_
      obtain ⟨x3, ex3, hE⟩ := Option.bind_eq_some_iff.mp hE
      refine y_iald ex3 dX0_shutInBits_18 ?_
      obtain ⟨u4, eu4, hE⟩ := Option.bind_eq_some_iff.mp hE
      obtain ⟨q5, eq5, hE⟩ := Option.bind_eq_some_iff.mp hE
      refine y_cVi0 (st := []) (as := [.int x3]) (c_X0_reachFrom eq5) lk_X0_87 in_X0_reachFrom se_X0_reachFrom rfl eu4 ⟨Nat.le_of_ble_eq_true rfl, Nat.le_of_ble_eq_true rfl⟩ (Nat.le_of_ble_eq_true rfl) dX0_shutInBits_19 hm rfl ?_
      refine y_iconst (v := (1 : Int32)) dX0_shutInBits_22 (by decide) ?_
      refine y_iand dX0_shutInBits_23 ?_
      refine y_if_ne (tgt := 33) dX0_shutInBits_24 (by decide) (fun hc9 => ?_) (fun hc9 => ?_)
      · rw [if_pos hc9] at hE
        refine y_iload_n dX0_shutInBits_27 1 rfl ?_
        refine y_iconst (v := (1 : Int32)) dX0_shutInBits_28 (by decide) ?_
        refine y_iload_n dX0_shutInBits_29 2 rfl ?_
        refine y_ishl dX0_shutInBits_30 ?_
        refine y_ior dX0_shutInBits_31 ?_
        obtain ⟨x6, ex6, hE⟩ := Option.bind_eq_some_iff.mp hE
        refine y_istore_n (ls' := [(1, .int x6), (0, .ref v0), (2, .int v2)]) dX0_shutInBits_32 (by decide) (Option.some.inj ex6) rfl ?_
        obtain ⟨x7, ex7, hE⟩ := Option.bind_eq_some_iff.mp hE
        refine y_iinc (ls' := [(2, .int x7), (1, .int x6), (0, .ref v0)]) dX0_shutInBits_33 2 rfl (Option.some.inj ex7) (by decide) rfl ?_
        refine y_goto (tgt := 4) dX0_shutInBits_36 (by decide) ?_
        refine y_pick [2, 1, 0] rfl ?_
        exact ih _ _ _ hE K
      · rw [if_neg hc9] at hE
        obtain ⟨x8, ex8, hE⟩ := Option.bind_eq_some_iff.mp hE
        refine y_iinc (ls' := [(2, .int x8), (0, .ref v0), (1, .int v1)]) dX0_shutInBits_33 2 rfl (Option.some.inj ex8) (by decide) rfl ?_
        refine y_goto (tgt := 4) dX0_shutInBits_36 (by decide) ?_
        refine y_pick [1, 2, 0] rfl ?_
        exact ih _ _ _ hE K
def f_X0_shutInBits (n : Nat) (h : xH) (a0 : Nat) : Option (Int32) :=
  (f_X0_shutInBits_L4 n h a0 n (0 : Int32) (0 : Int32)).bind fun q11 =>
  some q11
set_option maxRecDepth 100000 in
set_option maxHeartbeats 4000000 in
theorem c_X0_shutInBits {n : Nat} {h : xH} {a0 : Nat} {r9 : Int32} (hE : f_X0_shutInBits n h a0 = some r9) : Ctr M_X0_shutInBits [.ref a0] h (some (.int r9)) h 0 0 := by
  refine ctr_of (by decide) (fun _ _ => Nat.le_of_ble_eq_true rfl) (fun S => ?_)
  show Y S M_X0_shutInBits h (some (.int r9)) h 0 0 0 [(0, .ref a0)] [] h 0 0
  unfold f_X0_shutInBits at hE
  refine y_iconst (v := (0 : Int32)) dX0_shutInBits_0 (by decide) ?_
  refine y_istore_n (ls' := [(1, .int (0 : Int32)), (0, .ref a0)]) dX0_shutInBits_1 (by decide) rfl rfl ?_
  refine y_iconst (v := (0 : Int32)) dX0_shutInBits_2 (by decide) ?_
  refine y_istore_n (ls' := [(2, .int (0 : Int32)), (1, .int (0 : Int32)), (0, .ref a0)]) dX0_shutInBits_3 (by decide) rfl rfl ?_
  obtain ⟨q11, eq11, hE⟩ := Option.bind_eq_some_iff.mp hE
  refine y_pick [2, 1, 0] rfl ?_
  refine l_X0_shutInBits_4 (S := S) ⟨Nat.le_refl _, Nat.le_refl _⟩ n h a0 n (0 : Int32) (0 : Int32) _ eq11 (fun r8 hr8 => ?_)
  subst hr8
  refine y_iload_n dX0_shutInBits_39 0 rfl ?_
  obtain rfl := Option.some.inj hE
  exact y_ret dX0_shutInBits_40 (Nat.le_refl _) (Nat.le_refl _) ⟨_, rfl, rfl⟩
def f_X0_playAct_J129 (n : Nat) (h : xH) (v0 : Nat) (v3 : Int32) (v4 : Int32) (v5 : Int32) : Option (Int32 × xH) :=
  if v3 = (2 : Int32) then
    (x_ob h v0 0).bind fun u13 =>
    (f_X0_mayShut h v0 v4 v5).bind fun q14 =>
    if q14 = 0 then
      some ((0 : Int32), h)
    else
      (x_gI h v0 0 5).bind fun x15 =>
      (x_put h v0 0 5 (.int (x15 &&& ((i_shl (1 : Int32) v5) ^^^ (-1 : Int32))))).bind fun h16 =>
      some ((1 : Int32), h16)
  else
    some ((0 : Int32), h)
set_option maxRecDepth 100000 in
set_option maxHeartbeats 4000000 in
theorem j_X0_playAct_129 {S : Nat × (Nat → Int32)} {h0 : xH} {mc ms cells slots : Nat} {n : Nat} {h : xH} {v0 : Nat} {v3 : Int32} {v4 : Int32} {v5 : Int32} {r9 : Int32} {hz : xH} (hE : f_X0_playAct_J129 n h v0 v3 v4 v5 = some (r9, hz)) (hm : cells ≤ mc ∧ slots ≤ ms) : Y S M_X0_playAct h0 (some (.int r9)) hz mc ms 129 [(0, .ref v0), (3, .int v3), (4, .int v4), (5, .int v5)] [] h cells slots := by
  unfold f_X0_playAct_J129 at hE
  refine y_iload_n dX0_playAct_129 1 rfl ?_
  refine y_iconst (v := (2 : Int32)) dX0_playAct_130 (by decide) ?_
  refine y_icmp_ne (tgt := 162) dX0_playAct_131 (by decide) (fun hc18 => ?_) (fun hc18 => ?_)
  · rw [if_pos hc18] at hE
    refine y_aload_n dX0_playAct_134 0 rfl ?_
    refine y_iload dX0_playAct_135 2 rfl ?_
    refine y_iload dX0_playAct_137 3 rfl ?_
    obtain ⟨u13, eu13, hE⟩ := Option.bind_eq_some_iff.mp hE
    obtain ⟨q14, eq14, hE⟩ := Option.bind_eq_some_iff.mp hE
    refine y_cVi0 (st := []) (as := [.int v4, .int v5]) (c_X0_mayShut eq14) lk_X0_119 in_X0_mayShut se_X0_mayShut rfl eu13 ⟨Nat.le_of_ble_eq_true rfl, Nat.le_of_ble_eq_true rfl⟩ (Nat.le_of_ble_eq_true rfl) dX0_playAct_139 hm rfl ?_
    refine y_if_eq (tgt := 162) dX0_playAct_142 (by decide) (fun hc17 => ?_) (fun hc17 => ?_)
    · rw [if_pos hc17] at hE
      refine y_iconst (v := (0 : Int32)) dX0_playAct_162 (by decide) ?_
      obtain ⟨rfl, rfl⟩ := x_inj2 hE
      exact y_ret dX0_playAct_163 hm.1 hm.2 ⟨_, rfl, rfl⟩
    · rw [if_neg hc17] at hE
      refine y_aload_n dX0_playAct_145 0 rfl ?_
      refine y_dup dX0_playAct_146 rfl ?_
      obtain ⟨x15, ex15, hE⟩ := Option.bind_eq_some_iff.mp hE
      refine y_getI fl_X0_37 ex15 dX0_playAct_147 ?_
      refine y_iconst (v := (1 : Int32)) dX0_playAct_150 (by decide) ?_
      refine y_iload dX0_playAct_151 3 rfl ?_
      refine y_ishl dX0_playAct_153 ?_
      refine y_iconst (v := (-1 : Int32)) dX0_playAct_154 (by decide) ?_
      refine y_ixor dX0_playAct_155 ?_
      refine y_iand dX0_playAct_156 ?_
      obtain ⟨h16, eh16, hE⟩ := Option.bind_eq_some_iff.mp hE
      refine y_putI fp_X0_37 eh16 dX0_playAct_157 ?_
      refine y_iconst (v := (1 : Int32)) dX0_playAct_160 (by decide) ?_
      obtain ⟨rfl, rfl⟩ := x_inj2 hE
      exact y_ret dX0_playAct_161 hm.1 hm.2 ⟨_, rfl, rfl⟩
  · rw [if_neg hc18] at hE
    refine y_iconst (v := (0 : Int32)) dX0_playAct_162 (by decide) ?_
    obtain ⟨rfl, rfl⟩ := x_inj2 hE
    exact y_ret dX0_playAct_163 hm.1 hm.2 ⟨_, rfl, rfl⟩
def f_X0_playAct_J92 (n : Nat) (h : xH) (v0 : Nat) (v3 : Int32) (v4 : Int32) (v5 : Int32) (v6 : Int32) : Option (Int32 × xH) :=
  if v3 = (1 : Int32) then
    (x_ob h v0 0).bind fun u11 =>
    (f_X0_hasDoors h v0 v6).bind fun q12 =>
    if q12 = 0 then
      f_X0_playAct_J129 n h v0 v3 v4 v5
    else
      (x_ob h v0 0).bind fun u19 =>
      (f_X0_opensBy n h v0 v4 v5 v6).bind fun q20 =>
      if q20 = 0 then
        f_X0_playAct_J129 n h v0 v3 v4 v5
      else
        (x_ob h v0 0).bind fun u21 =>
        (f_X0_openFor h v0 v5 v6).bind fun q22 =>
        some ((1 : Int32), q22)
  else
    f_X0_playAct_J129 n h v0 v3 v4 v5
set_option maxRecDepth 100000 in
set_option maxHeartbeats 4000000 in
theorem j_X0_playAct_92 {S : Nat × (Nat → Int32)} {h0 : xH} {mc ms cells slots : Nat} {n : Nat} {h : xH} {v0 : Nat} {v3 : Int32} {v4 : Int32} {v5 : Int32} {v6 : Int32} {r9 : Int32} {hz : xH} (hE : f_X0_playAct_J92 n h v0 v3 v4 v5 v6 = some (r9, hz)) (hm : cells ≤ mc ∧ slots ≤ ms) : Y S M_X0_playAct h0 (some (.int r9)) hz mc ms 92 [(0, .ref v0), (3, .int v3), (4, .int v4), (5, .int v5), (6, .int v6)] [] h cells slots := by
  unfold f_X0_playAct_J92 at hE
  refine y_iload_n dX0_playAct_92 1 rfl ?_
  refine y_iconst (v := (1 : Int32)) dX0_playAct_93 (by decide) ?_
  refine y_icmp_ne (tgt := 129) dX0_playAct_94 (by decide) (fun hc25 => ?_) (fun hc25 => ?_)
  · rw [if_pos hc25] at hE
    refine y_aload_n dX0_playAct_97 0 rfl ?_
    refine y_iload dX0_playAct_98 4 rfl ?_
    obtain ⟨u11, eu11, hE⟩ := Option.bind_eq_some_iff.mp hE
    obtain ⟨q12, eq12, hE⟩ := Option.bind_eq_some_iff.mp hE
    refine y_cVi0 (st := []) (as := [.int v6]) (c_X0_hasDoors eq12) lk_X0_109 in_X0_hasDoors se_X0_hasDoors rfl eu11 ⟨Nat.le_of_ble_eq_true rfl, Nat.le_of_ble_eq_true rfl⟩ (Nat.le_of_ble_eq_true rfl) dX0_playAct_100 hm rfl ?_
    refine y_if_eq (tgt := 129) dX0_playAct_103 (by decide) (fun hc24 => ?_) (fun hc24 => ?_)
    · rw [if_pos hc24] at hE
      refine y_pick [0, 1, 2, 3] rfl ?_
      exact j_X0_playAct_129 hE hm
    · rw [if_neg hc24] at hE
      refine y_aload_n dX0_playAct_106 0 rfl ?_
      refine y_iload dX0_playAct_107 2 rfl ?_
      refine y_iload dX0_playAct_109 3 rfl ?_
      refine y_iload dX0_playAct_111 4 rfl ?_
      obtain ⟨u19, eu19, hE⟩ := Option.bind_eq_some_iff.mp hE
      obtain ⟨q20, eq20, hE⟩ := Option.bind_eq_some_iff.mp hE
      refine y_cVi0 (st := []) (as := [.int v4, .int v5, .int v6]) (c_X0_opensBy eq20) lk_X0_112 in_X0_opensBy se_X0_opensBy rfl eu19 ⟨Nat.le_of_ble_eq_true rfl, Nat.le_of_ble_eq_true rfl⟩ (Nat.le_of_ble_eq_true rfl) dX0_playAct_113 hm rfl ?_
      refine y_if_eq (tgt := 129) dX0_playAct_116 (by decide) (fun hc23 => ?_) (fun hc23 => ?_)
      · rw [if_pos hc23] at hE
        refine y_pick [0, 1, 2, 3] rfl ?_
        exact j_X0_playAct_129 hE hm
      · rw [if_neg hc23] at hE
        refine y_aload_n dX0_playAct_119 0 rfl ?_
        refine y_iload dX0_playAct_120 3 rfl ?_
        refine y_iload dX0_playAct_122 4 rfl ?_
        obtain ⟨u21, eu21, hE⟩ := Option.bind_eq_some_iff.mp hE
        obtain ⟨q22, eq22, hE⟩ := Option.bind_eq_some_iff.mp hE
        refine y_cVv0 (st := []) (as := [.int v5, .int v6]) (c_X0_openFor eq22) lk_X0_116 in_X0_openFor se_X0_openFor rfl eu21 ⟨Nat.le_of_ble_eq_true rfl, Nat.le_of_ble_eq_true rfl⟩ (Nat.le_of_ble_eq_true rfl) dX0_playAct_124 hm rfl ?_
        refine y_iconst (v := (1 : Int32)) dX0_playAct_127 (by decide) ?_
        obtain ⟨rfl, rfl⟩ := x_inj2 hE
        exact y_ret dX0_playAct_128 hm.1 hm.2 ⟨_, rfl, rfl⟩
  · rw [if_neg hc25] at hE
    refine y_pick [0, 1, 2, 3] rfl ?_
    exact j_X0_playAct_129 hE hm
def f_X0_playAct (n : Nat) (h : xH) (a0 : Nat) (p1 : Int64) : Option (Int32 × xH) :=
  (some (((l_shr p1 (22 : Int32)) &&& (3 : Int64)).toInt32)).bind fun x1 =>
  if x1 = (3 : Int32) then
    some ((1 : Int32), h)
  else
    (some (((l_shr p1 (20 : Int32)) &&& (3 : Int64)).toInt32)).bind fun x2 =>
    (some (((l_shr p1 (16 : Int32)) &&& (15 : Int64)).toInt32)).bind fun x3 =>
    (some ((p1 &&& (65535 : Int64)).toInt32)).bind fun x4 =>
    (x_ob h a0 0).bind fun u5 =>
    (f_X0_hasOne h a0 x2).bind fun q6 =>
    if q6 = 0 then
      some ((0 : Int32), h)
    else
      (x_ob h a0 0).bind fun u7 =>
      (f_X0_hasDoor h a0 x3).bind fun q8 =>
      if q8 = 0 then
        some ((0 : Int32), h)
      else
        if x1 = 0 then
          (x_ob h a0 0).bind fun u9 =>
          (f_X0_mayWalk h a0 x2 x3).bind fun q10 =>
          if q10 = 0 then
            f_X0_playAct_J92 n h a0 x1 x2 x3 x4
          else
            (x_ob h a0 0).bind fun u26 =>
            (f_X0_goThrough h a0 x2 x3).bind fun q27 =>
            some ((1 : Int32), q27)
        else
          f_X0_playAct_J92 n h a0 x1 x2 x3 x4
set_option maxRecDepth 100000 in
set_option maxHeartbeats 4000000 in
theorem c_X0_playAct {n : Nat} {h : xH} {a0 : Nat} {p1 : Int64} {r9 : Int32} {hz : xH} (hE : f_X0_playAct n h a0 p1 = some (r9, hz)) : Ctr M_X0_playAct [.ref a0, .long p1] h (some (.int r9)) hz 0 0 := by
  refine ctr_of (by decide) (fun _ _ => Nat.le_of_ble_eq_true rfl) (fun S => ?_)
  show Y S M_X0_playAct h (some (.int r9)) hz 0 0 0 [(0, .ref a0), (1, .long p1)] [] h 0 0
  unfold f_X0_playAct at hE
  refine y_lload_n dX0_playAct_0 1 rfl ?_
  refine y_bipush (v := (22 : Int32)) dX0_playAct_1 (by decide) ?_
  refine y_lshr dX0_playAct_3 ?_
  refine y_ldc2 (v := (3 : Int64)) (x_wt (tb 858 (by decide +kernel)) rfl) dX0_playAct_4 ?_
  refine y_land dX0_playAct_7 ?_
  refine y_l2i dX0_playAct_8 ?_
  obtain ⟨x1, ex1, hE⟩ := Option.bind_eq_some_iff.mp hE
  refine y_istore_n (ls' := [(3, .int x1), (0, .ref a0), (1, .long p1)]) dX0_playAct_9 (by decide) (Option.some.inj ex1) rfl ?_
  refine y_iload_n dX0_playAct_10 0 rfl ?_
  refine y_iconst (v := (3 : Int32)) dX0_playAct_11 (by decide) ?_
  refine y_icmp_ne (tgt := 17) dX0_playAct_12 (by decide) (fun hc32 => ?_) (fun hc32 => ?_)
  · rw [if_pos hc32] at hE
    refine y_iconst (v := (1 : Int32)) dX0_playAct_15 (by decide) ?_
    obtain ⟨rfl, rfl⟩ := x_inj2 hE
    exact y_ret dX0_playAct_16 (Nat.le_refl _) (Nat.le_refl _) ⟨_, rfl, rfl⟩
  · rw [if_neg hc32] at hE
    refine y_lload_n dX0_playAct_17 2 rfl ?_
    refine y_bipush (v := (20 : Int32)) dX0_playAct_18 (by decide) ?_
    refine y_lshr dX0_playAct_20 ?_
    refine y_ldc2 (v := (3 : Int64)) (x_wt (tb 858 (by decide +kernel)) rfl) dX0_playAct_21 ?_
    refine y_land dX0_playAct_24 ?_
    refine y_l2i dX0_playAct_25 ?_
    obtain ⟨x2, ex2, hE⟩ := Option.bind_eq_some_iff.mp hE
    refine y_istore (ls' := [(4, .int x2), (3, .int x1), (0, .ref a0), (1, .long p1)]) dX0_playAct_26 (by decide) (Option.some.inj ex2) rfl ?_
    refine y_lload_n dX0_playAct_28 3 rfl ?_
    refine y_bipush (v := (16 : Int32)) dX0_playAct_29 (by decide) ?_
    refine y_lshr dX0_playAct_31 ?_
    refine y_ldc2 (v := (15 : Int64)) (x_wt (tb 859 (by decide +kernel)) rfl) dX0_playAct_32 ?_
    refine y_land dX0_playAct_35 ?_
    refine y_l2i dX0_playAct_36 ?_
    obtain ⟨x3, ex3, hE⟩ := Option.bind_eq_some_iff.mp hE
    refine y_istore (ls' := [(5, .int x3), (4, .int x2), (3, .int x1), (0, .ref a0), (1, .long p1)]) dX0_playAct_37 (by decide) (Option.some.inj ex3) rfl ?_
    refine y_lload_n dX0_playAct_39 4 rfl ?_
    refine y_ldc2 (v := (65535 : Int64)) (x_wt (tb 860 (by decide +kernel)) rfl) dX0_playAct_40 ?_
    refine y_land dX0_playAct_43 ?_
    refine y_l2i dX0_playAct_44 ?_
    obtain ⟨x4, ex4, hE⟩ := Option.bind_eq_some_iff.mp hE
    refine y_istore (ls' := [(6, .int x4), (5, .int x3), (4, .int x2), (3, .int x1), (0, .ref a0), (1, .long p1)]) dX0_playAct_45 (by decide) (Option.some.inj ex4) rfl ?_
    refine y_aload_n dX0_playAct_47 4 rfl ?_
    refine y_iload dX0_playAct_48 2 rfl ?_
    obtain ⟨u5, eu5, hE⟩ := Option.bind_eq_some_iff.mp hE
    obtain ⟨q6, eq6, hE⟩ := Option.bind_eq_some_iff.mp hE
    refine y_cVi0 (st := []) (as := [.int x2]) (c_X0_hasOne eq6) lk_X0_96 in_X0_hasOne se_X0_hasOne rfl eu5 ⟨Nat.le_of_ble_eq_true rfl, Nat.le_of_ble_eq_true rfl⟩ (Nat.le_of_ble_eq_true rfl) dX0_playAct_50 ⟨Nat.le_refl _, Nat.le_refl _⟩ rfl ?_
    refine y_if_eq (tgt := 65) dX0_playAct_53 (by decide) (fun hc31 => ?_) (fun hc31 => ?_)
    · rw [if_pos hc31] at hE
      refine y_iconst (v := (0 : Int32)) dX0_playAct_65 (by decide) ?_
      obtain ⟨rfl, rfl⟩ := x_inj2 hE
      exact y_ret dX0_playAct_66 (Nat.le_refl _) (Nat.le_refl _) ⟨_, rfl, rfl⟩
    · rw [if_neg hc31] at hE
      refine y_aload_n dX0_playAct_56 4 rfl ?_
      refine y_iload dX0_playAct_57 1 rfl ?_
      obtain ⟨u7, eu7, hE⟩ := Option.bind_eq_some_iff.mp hE
      obtain ⟨q8, eq8, hE⟩ := Option.bind_eq_some_iff.mp hE
      refine y_cVi0 (st := []) (as := [.int x3]) (c_X0_hasDoor eq8) lk_X0_99 in_X0_hasDoor se_X0_hasDoor rfl eu7 ⟨Nat.le_of_ble_eq_true rfl, Nat.le_of_ble_eq_true rfl⟩ (Nat.le_of_ble_eq_true rfl) dX0_playAct_59 ⟨Nat.le_refl _, Nat.le_refl _⟩ rfl ?_
      refine y_if_ne (tgt := 67) dX0_playAct_62 (by decide) (fun hc30 => ?_) (fun hc30 => ?_)
      · rw [if_pos hc30] at hE
        refine y_iconst (v := (0 : Int32)) dX0_playAct_65 (by decide) ?_
        obtain ⟨rfl, rfl⟩ := x_inj2 hE
        exact y_ret dX0_playAct_66 (Nat.le_refl _) (Nat.le_refl _) ⟨_, rfl, rfl⟩
      · rw [if_neg hc30] at hE
        refine y_iload_n dX0_playAct_67 3 rfl ?_
        refine y_if_ne (tgt := 92) dX0_playAct_68 (by decide) (fun hc29 => ?_) (fun hc29 => ?_)
        · rw [if_pos hc29] at hE
          refine y_aload_n dX0_playAct_71 4 rfl ?_
          refine y_iload dX0_playAct_72 2 rfl ?_
          refine y_iload dX0_playAct_74 1 rfl ?_
          obtain ⟨u9, eu9, hE⟩ := Option.bind_eq_some_iff.mp hE
          obtain ⟨q10, eq10, hE⟩ := Option.bind_eq_some_iff.mp hE
          refine y_cVi0 (st := []) (as := [.int x2, .int x3]) (c_X0_mayWalk eq10) lk_X0_102 in_X0_mayWalk se_X0_mayWalk rfl eu9 ⟨Nat.le_of_ble_eq_true rfl, Nat.le_of_ble_eq_true rfl⟩ (Nat.le_of_ble_eq_true rfl) dX0_playAct_76 ⟨Nat.le_refl _, Nat.le_refl _⟩ rfl ?_
          refine y_if_eq (tgt := 92) dX0_playAct_79 (by decide) (fun hc28 => ?_) (fun hc28 => ?_)
          · rw [if_pos hc28] at hE
            refine y_pick [4, 3, 2, 1, 0] rfl ?_
            exact j_X0_playAct_92 hE ⟨Nat.le_refl _, Nat.le_refl _⟩
          · rw [if_neg hc28] at hE
            refine y_aload_n dX0_playAct_82 4 rfl ?_
            refine y_iload dX0_playAct_83 2 rfl ?_
            refine y_iload dX0_playAct_85 1 rfl ?_
            obtain ⟨u26, eu26, hE⟩ := Option.bind_eq_some_iff.mp hE
            obtain ⟨q27, eq27, hE⟩ := Option.bind_eq_some_iff.mp hE
            refine y_cVv0 (st := []) (as := [.int x2, .int x3]) (c_X0_goThrough eq27) lk_X0_105 in_X0_goThrough se_X0_goThrough rfl eu26 ⟨Nat.le_of_ble_eq_true rfl, Nat.le_of_ble_eq_true rfl⟩ (Nat.le_of_ble_eq_true rfl) dX0_playAct_87 ⟨Nat.le_refl _, Nat.le_refl _⟩ rfl ?_
            refine y_iconst (v := (1 : Int32)) dX0_playAct_90 (by decide) ?_
            obtain ⟨rfl, rfl⟩ := x_inj2 hE
            exact y_ret dX0_playAct_91 (Nat.le_refl _) (Nat.le_refl _) ⟨_, rfl, rfl⟩
        · rw [if_neg hc29] at hE
          refine y_pick [4, 3, 2, 1, 0] rfl ?_
          exact j_X0_playAct_92 hE ⟨Nat.le_refl _, Nat.le_refl _⟩
def f_X0_draw (h : xH) (a0 : Nat) (p1 : Int32) : Option (Int32 × xH) :=
  (x_gI h a0 0 9).bind fun x1 =>
  (x_put h a0 0 9 (.int ((x1 * (1103515245 : Int32)) + (12345 : Int32)))).bind fun h2 =>
  if p1 ≤ 0 then
    some ((0 : Int32), h2)
  else
    (x_gI h2 a0 0 9).bind fun x3 =>
    (x_irem (i_ushr x3 (16 : Int32)) p1).bind fun x4 =>
    some (x4, h2)
set_option maxRecDepth 100000 in
set_option maxHeartbeats 4000000 in
theorem c_X0_draw {h : xH} {a0 : Nat} {p1 : Int32} {r9 : Int32} {hz : xH} (hE : f_X0_draw h a0 p1 = some (r9, hz)) : Ctr M_X0_draw [.ref a0, .int p1] h (some (.int r9)) hz 0 0 := by
  refine ctr_of (by decide) (fun _ _ => Nat.le_of_ble_eq_true rfl) (fun S => ?_)
  show Y S M_X0_draw h (some (.int r9)) hz 0 0 0 [(0, .ref a0), (1, .int p1)] [] h 0 0
  unfold f_X0_draw at hE
  refine y_aload_n dX0_draw_0 0 rfl ?_
  refine y_aload_n dX0_draw_1 0 rfl ?_
  obtain ⟨x1, ex1, hE⟩ := Option.bind_eq_some_iff.mp hE
  refine y_getI fl_X0_28 ex1 dX0_draw_2 ?_
  refine y_ldc (v := (1103515245 : Int32)) (x_wt (tb 885 (by decide +kernel)) rfl) dX0_draw_5 ?_
  refine y_imul dX0_draw_7 ?_
  refine y_sipush (v := (12345 : Int32)) dX0_draw_8 (by decide) ?_
  refine y_iadd dX0_draw_11 ?_
  obtain ⟨h2, eh2, hE⟩ := Option.bind_eq_some_iff.mp hE
  refine y_putI fp_X0_28 eh2 dX0_draw_12 ?_
  refine y_iload_n dX0_draw_15 1 rfl ?_
  refine y_if_le (tgt := 31) dX0_draw_16 (by decide) (fun hc5 => ?_) (fun hc5 => ?_)
  · rw [if_pos hc5] at hE
    refine y_iconst (v := (0 : Int32)) dX0_draw_31 (by decide) ?_
    obtain ⟨rfl, rfl⟩ := x_inj2 hE
    exact y_ret dX0_draw_32 (Nat.le_refl _) (Nat.le_refl _) ⟨_, rfl, rfl⟩
  · rw [if_neg hc5] at hE
    refine y_aload_n dX0_draw_19 0 rfl ?_
    obtain ⟨x3, ex3, hE⟩ := Option.bind_eq_some_iff.mp hE
    refine y_getI fl_X0_28 ex3 dX0_draw_20 ?_
    refine y_bipush (v := (16 : Int32)) dX0_draw_23 (by decide) ?_
    refine y_iushr dX0_draw_25 ?_
    refine y_iload_n dX0_draw_26 1 rfl ?_
    obtain ⟨x4, ex4, hE⟩ := Option.bind_eq_some_iff.mp hE
    refine y_rem ex4 dX0_draw_27 ?_
    refine y_goto (tgt := 32) dX0_draw_28 (by decide) ?_
    obtain ⟨rfl, rfl⟩ := x_inj2 hE
    exact y_ret dX0_draw_32 (Nat.le_refl _) (Nat.le_refl _) ⟨_, rfl, rfl⟩
