theorem dX7_isSomebodyIn_0 : decode cX7_isSomebodyIn 0 = .ok (.iconst 0, 1) := by decide +kernel
theorem dX7_isSomebodyIn_1 : decode cX7_isSomebodyIn 1 = .ok (.istore_n 2, 1) := by decide +kernel
theorem dX7_isSomebodyIn_2 : decode cX7_isSomebodyIn 2 = .ok (.iload_n 2, 1) := by decide +kernel
theorem dX7_isSomebodyIn_3 : decode cX7_isSomebodyIn 3 = .ok (.aload_n 0, 1) := by decide +kernel
theorem dX7_isSomebodyIn_4 : decode cX7_isSomebodyIn 4 = .ok (.getfield 68, 3) := by decide +kernel
theorem dX7_isSomebodyIn_7 : decode cX7_isSomebodyIn 7 = .ok (.if_icmp .ge 21, 3) := by decide +kernel
theorem dX7_isSomebodyIn_10 : decode cX7_isSomebodyIn 10 = .ok (.aload_n 0, 1) := by decide +kernel
theorem dX7_isSomebodyIn_11 : decode cX7_isSomebodyIn 11 = .ok (.getfield 42, 3) := by decide +kernel
theorem dX7_isSomebodyIn_14 : decode cX7_isSomebodyIn 14 = .ok (.iload_n 2, 1) := by decide +kernel
theorem dX7_isSomebodyIn_15 : decode cX7_isSomebodyIn 15 = .ok (.iaload, 1) := by decide +kernel
theorem dX7_isSomebodyIn_16 : decode cX7_isSomebodyIn 16 = .ok (.iload_n 1, 1) := by decide +kernel
theorem dX7_isSomebodyIn_17 : decode cX7_isSomebodyIn 17 = .ok (.if_icmp .ne 5, 3) := by decide +kernel
theorem dX7_isSomebodyIn_20 : decode cX7_isSomebodyIn 20 = .ok (.iconst 1, 1) := by decide +kernel
theorem dX7_isSomebodyIn_21 : decode cX7_isSomebodyIn 21 = .ok (.ireturn, 1) := by decide +kernel
theorem dX7_isSomebodyIn_22 : decode cX7_isSomebodyIn 22 = .ok (.iinc 2 1, 3) := by decide +kernel
theorem dX7_isSomebodyIn_25 : decode cX7_isSomebodyIn 25 = .ok (.goto (-23), 3) := by decide +kernel
theorem dX7_isSomebodyIn_28 : decode cX7_isSomebodyIn 28 = .ok (.iconst 0, 1) := by decide +kernel
theorem dX7_isSomebodyIn_29 : decode cX7_isSomebodyIn 29 = .ok (.ireturn, 1) := by decide +kernel
theorem dX7_isAt_0 : decode cX7_isAt 0 = .ok (.aload_n 0, 1) := by decide +kernel
theorem dX7_isAt_1 : decode cX7_isAt 1 = .ok (.getfield 39, 3) := by decide +kernel
theorem dX7_isAt_4 : decode cX7_isAt 4 = .ok (.iload_n 1, 1) := by decide +kernel
theorem dX7_isAt_5 : decode cX7_isAt 5 = .ok (.aaload, 1) := by decide +kernel
theorem dX7_isAt_6 : decode cX7_isAt 6 = .ok (.iconst 1, 1) := by decide +kernel
theorem dX7_isAt_7 : decode cX7_isAt 7 = .ok (.iaload, 1) := by decide +kernel
theorem dX7_isAt_8 : decode cX7_isAt 8 = .ok (.iload_n 2, 1) := by decide +kernel
theorem dX7_isAt_9 : decode cX7_isAt 9 = .ok (.if_icmp .eq 15, 3) := by decide +kernel
theorem dX7_isAt_12 : decode cX7_isAt 12 = .ok (.aload_n 0, 1) := by decide +kernel
theorem dX7_isAt_13 : decode cX7_isAt 13 = .ok (.getfield 39, 3) := by decide +kernel
theorem dX7_isAt_16 : decode cX7_isAt 16 = .ok (.iload_n 1, 1) := by decide +kernel
theorem dX7_isAt_17 : decode cX7_isAt 17 = .ok (.aaload, 1) := by decide +kernel
theorem dX7_isAt_18 : decode cX7_isAt 18 = .ok (.iconst 2, 1) := by decide +kernel
theorem dX7_isAt_19 : decode cX7_isAt 19 = .ok (.iaload, 1) := by decide +kernel
theorem dX7_isAt_20 : decode cX7_isAt 20 = .ok (.iload_n 2, 1) := by decide +kernel
theorem dX7_isAt_21 : decode cX7_isAt 21 = .ok (.if_icmp .ne 7, 3) := by decide +kernel
theorem dX7_isAt_24 : decode cX7_isAt 24 = .ok (.iconst 1, 1) := by decide +kernel
theorem dX7_isAt_25 : decode cX7_isAt 25 = .ok (.goto 4, 3) := by decide +kernel
theorem dX7_isAt_28 : decode cX7_isAt 28 = .ok (.iconst 0, 1) := by decide +kernel
theorem dX7_isAt_29 : decode cX7_isAt 29 = .ok (.ireturn, 1) := by decide +kernel
theorem dX7_mayShut_0 : decode cX7_mayShut 0 = .ok (.aload_n 0, 1) := by decide +kernel
theorem dX7_mayShut_1 : decode cX7_mayShut 1 = .ok (.getfield 39, 3) := by decide +kernel
theorem dX7_mayShut_4 : decode cX7_mayShut 4 = .ok (.iload_n 1, 1) := by decide +kernel
theorem dX7_mayShut_5 : decode cX7_mayShut 5 = .ok (.aaload, 1) := by decide +kernel
theorem dX7_mayShut_6 : decode cX7_mayShut 6 = .ok (.iconst 0, 1) := by decide +kernel
theorem dX7_mayShut_7 : decode cX7_mayShut 7 = .ok (.iaload, 1) := by decide +kernel
theorem dX7_mayShut_8 : decode cX7_mayShut 8 = .ok (.istore_n 3, 1) := by decide +kernel
theorem dX7_mayShut_9 : decode cX7_mayShut 9 = .ok (.aload_n 0, 1) := by decide +kernel
theorem dX7_mayShut_10 : decode cX7_mayShut 10 = .ok (.getfield 108, 3) := by decide +kernel
theorem dX7_mayShut_13 : decode cX7_mayShut 13 = .ok (.iload_n 1, 1) := by decide +kernel
theorem dX7_mayShut_14 : decode cX7_mayShut 14 = .ok (.invokestatic 116, 3) := by decide +kernel
theorem dX7_mayShut_17 : decode cX7_mayShut 17 = .ok (.ifCond .eq 41, 3) := by decide +kernel
theorem dX7_mayShut_20 : decode cX7_mayShut 20 = .ok (.iload_n 3, 1) := by decide +kernel
theorem dX7_mayShut_21 : decode cX7_mayShut 21 = .ok (.iconst 5, 1) := by decide +kernel
theorem dX7_mayShut_22 : decode cX7_mayShut 22 = .ok (.if_icmp .eq 36, 3) := by decide +kernel
theorem dX7_mayShut_25 : decode cX7_mayShut 25 = .ok (.iload_n 3, 1) := by decide +kernel
theorem dX7_mayShut_26 : decode cX7_mayShut 26 = .ok (.iconst 4, 1) := by decide +kernel
theorem dX7_mayShut_27 : decode cX7_mayShut 27 = .ok (.if_icmp .ne 18, 3) := by decide +kernel
theorem dX7_mayShut_30 : decode cX7_mayShut 30 = .ok (.aload_n 0, 1) := by decide +kernel
theorem dX7_mayShut_31 : decode cX7_mayShut 31 = .ok (.getfield 39, 3) := by decide +kernel
theorem dX7_mayShut_34 : decode cX7_mayShut 34 = .ok (.iload_n 1, 1) := by decide +kernel
theorem dX7_mayShut_35 : decode cX7_mayShut 35 = .ok (.aaload, 1) := by decide +kernel
theorem dX7_mayShut_36 : decode cX7_mayShut 36 = .ok (.iconst 2, 1) := by decide +kernel
theorem dX7_mayShut_37 : decode cX7_mayShut 37 = .ok (.iaload, 1) := by decide +kernel
theorem dX7_mayShut_38 : decode cX7_mayShut 38 = .ok (.iload_n 2, 1) := by decide +kernel
theorem dX7_mayShut_39 : decode cX7_mayShut 39 = .ok (.if_icmp .ne 19, 3) := by decide +kernel
theorem dX7_mayShut_42 : decode cX7_mayShut 42 = .ok (.goto 12, 3) := by decide +kernel
theorem dX7_mayShut_45 : decode cX7_mayShut 45 = .ok (.aload_n 0, 1) := by decide +kernel
theorem dX7_mayShut_46 : decode cX7_mayShut 46 = .ok (.iload_n 1, 1) := by decide +kernel
theorem dX7_mayShut_47 : decode cX7_mayShut 47 = .ok (.iload_n 2, 1) := by decide +kernel
theorem dX7_mayShut_48 : decode cX7_mayShut 48 = .ok (.invokevirtual 210, 3) := by decide +kernel
theorem dX7_mayShut_51 : decode cX7_mayShut 51 = .ok (.ifCond .eq 7, 3) := by decide +kernel
theorem dX7_mayShut_54 : decode cX7_mayShut 54 = .ok (.iconst 1, 1) := by decide +kernel
theorem dX7_mayShut_55 : decode cX7_mayShut 55 = .ok (.goto 4, 3) := by decide +kernel
theorem dX7_mayShut_58 : decode cX7_mayShut 58 = .ok (.iconst 0, 1) := by decide +kernel
theorem dX7_mayShut_59 : decode cX7_mayShut 59 = .ok (.ireturn, 1) := by decide +kernel
theorem dX7_shuttable_0 : decode cX7_shuttable 0 = .ok (.iconst 0, 1) := by decide +kernel
theorem dX7_shuttable_1 : decode cX7_shuttable 1 = .ok (.istore_n 1, 1) := by decide +kernel
theorem dX7_shuttable_2 : decode cX7_shuttable 2 = .ok (.iconst 0, 1) := by decide +kernel
theorem dX7_shuttable_3 : decode cX7_shuttable 3 = .ok (.istore_n 2, 1) := by decide +kernel
theorem dX7_shuttable_4 : decode cX7_shuttable 4 = .ok (.iload_n 2, 1) := by decide +kernel
theorem dX7_shuttable_5 : decode cX7_shuttable 5 = .ok (.aload_n 0, 1) := by decide +kernel
theorem dX7_shuttable_6 : decode cX7_shuttable 6 = .ok (.getfield 61, 3) := by decide +kernel
theorem dX7_shuttable_9 : decode cX7_shuttable 9 = .ok (.if_icmp .ge 49, 3) := by decide +kernel
theorem dX7_shuttable_12 : decode cX7_shuttable 12 = .ok (.iconst 0, 1) := by decide +kernel
theorem dX7_shuttable_13 : decode cX7_shuttable 13 = .ok (.istore_n 3, 1) := by decide +kernel
theorem dX7_shuttable_14 : decode cX7_shuttable 14 = .ok (.iload_n 3, 1) := by decide +kernel
theorem dX7_shuttable_15 : decode cX7_shuttable 15 = .ok (.aload_n 0, 1) := by decide +kernel
theorem dX7_shuttable_16 : decode cX7_shuttable 16 = .ok (.getfield 68, 3) := by decide +kernel
theorem dX7_shuttable_19 : decode cX7_shuttable 19 = .ok (.if_icmp .ge 33, 3) := by decide +kernel
theorem dX7_shuttable_22 : decode cX7_shuttable 22 = .ok (.iload_n 1, 1) := by decide +kernel
theorem dX7_shuttable_23 : decode cX7_shuttable 23 = .ok (.aload_n 0, 1) := by decide +kernel
theorem dX7_shuttable_24 : decode cX7_shuttable 24 = .ok (.iload_n 2, 1) := by decide +kernel
theorem dX7_shuttable_25 : decode cX7_shuttable 25 = .ok (.aload_n 0, 1) := by decide +kernel
theorem dX7_shuttable_26 : decode cX7_shuttable 26 = .ok (.getfield 42, 3) := by decide +kernel
theorem dX7_shuttable_29 : decode cX7_shuttable 29 = .ok (.iload_n 3, 1) := by decide +kernel
theorem dX7_shuttable_30 : decode cX7_shuttable 30 = .ok (.iaload, 1) := by decide +kernel
theorem dX7_shuttable_31 : decode cX7_shuttable 31 = .ok (.invokevirtual 213, 3) := by decide +kernel
theorem dX7_shuttable_34 : decode cX7_shuttable 34 = .ok (.ifCond .eq 9, 3) := by decide +kernel
theorem dX7_shuttable_37 : decode cX7_shuttable 37 = .ok (.iconst 1, 1) := by decide +kernel
theorem dX7_shuttable_38 : decode cX7_shuttable 38 = .ok (.iload_n 2, 1) := by decide +kernel
theorem dX7_shuttable_39 : decode cX7_shuttable 39 = .ok (.ishl, 1) := by decide +kernel
theorem dX7_shuttable_40 : decode cX7_shuttable 40 = .ok (.goto 4, 3) := by decide +kernel
theorem dX7_shuttable_43 : decode cX7_shuttable 43 = .ok (.iconst 0, 1) := by decide +kernel
theorem dX7_shuttable_44 : decode cX7_shuttable 44 = .ok (.ior, 1) := by decide +kernel
theorem dX7_shuttable_45 : decode cX7_shuttable 45 = .ok (.istore_n 1, 1) := by decide +kernel
theorem dX7_shuttable_46 : decode cX7_shuttable 46 = .ok (.iinc 3 1, 3) := by decide +kernel
theorem dX7_shuttable_49 : decode cX7_shuttable 49 = .ok (.goto (-35), 3) := by decide +kernel
theorem dX7_shuttable_52 : decode cX7_shuttable 52 = .ok (.iinc 2 1, 3) := by decide +kernel
theorem dX7_shuttable_55 : decode cX7_shuttable 55 = .ok (.goto (-51), 3) := by decide +kernel
theorem dX7_shuttable_58 : decode cX7_shuttable 58 = .ok (.iload_n 1, 1) := by decide +kernel
theorem dX7_shuttable_59 : decode cX7_shuttable 59 = .ok (.ireturn, 1) := by decide +kernel
theorem dX7_says_0 : decode cX7_says 0 = .ok (.iload_n 1, 1) := by decide +kernel
theorem dX7_says_1 : decode cX7_says 1 = .ok (.i2l, 1) := by decide +kernel
theorem dX7_says_2 : decode cX7_says 2 = .ok (.lconst 0, 1) := by decide +kernel
theorem dX7_says_3 : decode cX7_says 3 = .ok (.ldc2_w 71, 3) := by decide +kernel
theorem dX7_says_6 : decode cX7_says 6 = .ok (.invokestatic 64, 3) := by decide +kernel
theorem dX7_says_9 : decode cX7_says 9 = .ok (.ifCond .eq 15, 3) := by decide +kernel
theorem dX7_says_12 : decode cX7_says 12 = .ok (.iload_n 2, 1) := by decide +kernel
theorem dX7_says_13 : decode cX7_says 13 = .ok (.i2l, 1) := by decide +kernel
theorem dX7_says_14 : decode cX7_says 14 = .ok (.lconst 0, 1) := by decide +kernel
theorem dX7_says_15 : decode cX7_says 15 = .ok (.ldc2_w 92, 3) := by decide +kernel
theorem dX7_says_18 : decode cX7_says 18 = .ok (.invokestatic 64, 3) := by decide +kernel
theorem dX7_says_21 : decode cX7_says 21 = .ok (.ifCond .ne 10, 3) := by decide +kernel
theorem dX7_says_24 : decode cX7_says 24 = .ok (.aload_n 0, 1) := by decide +kernel
theorem dX7_says_25 : decode cX7_says 25 = .ok (.bipush (-2), 2) := by decide +kernel
theorem dX7_says_27 : decode cX7_says 27 = .ok (.invokevirtual 77, 3) := by decide +kernel
theorem dX7_says_30 : decode cX7_says 30 = .ok (.ireturn, 1) := by decide +kernel
theorem dX7_says_31 : decode cX7_says 31 = .ok (.aload_n 0, 1) := by decide +kernel
theorem dX7_says_32 : decode cX7_says 32 = .ok (.getfield 7, 3) := by decide +kernel
theorem dX7_says_35 : decode cX7_says 35 = .ok (.iload_n 1, 1) := by decide +kernel
theorem dX7_says_36 : decode cX7_says 36 = .ok (.iaload, 1) := by decide +kernel
theorem dX7_says_37 : decode cX7_says 37 = .ok (.iconst 2, 1) := by decide +kernel
theorem dX7_says_38 : decode cX7_says 38 = .ok (.if_icmp .ne 19, 3) := by decide +kernel
theorem dX7_says_41 : decode cX7_says 41 = .ok (.aload_n 0, 1) := by decide +kernel
theorem dX7_says_42 : decode cX7_says 42 = .ok (.getfield 39, 3) := by decide +kernel
theorem dX7_says_45 : decode cX7_says 45 = .ok (.aload_n 0, 1) := by decide +kernel
theorem dX7_says_46 : decode cX7_says 46 = .ok (.getfield 28, 3) := by decide +kernel
theorem dX7_says_49 : decode cX7_says 49 = .ok (.iload_n 1, 1) := by decide +kernel
theorem dX7_says_50 : decode cX7_says 50 = .ok (.iaload, 1) := by decide +kernel
theorem dX7_says_51 : decode cX7_says 51 = .ok (.aaload, 1) := by decide +kernel
theorem dX7_says_52 : decode cX7_says 52 = .ok (.iconst 0, 1) := by decide +kernel
theorem dX7_says_53 : decode cX7_says 53 = .ok (.iaload, 1) := by decide +kernel
theorem dX7_says_54 : decode cX7_says 54 = .ok (.goto 4, 3) := by decide +kernel
theorem dX7_says_57 : decode cX7_says 57 = .ok (.iconst (-1), 1) := by decide +kernel
theorem dX7_says_58 : decode cX7_says 58 = .ok (.istore_n 3, 1) := by decide +kernel
theorem dX7_says_59 : decode cX7_says 59 = .ok (.iload_n 2, 1) := by decide +kernel
theorem dX7_says_60 : decode cX7_says 60 = .ok (.ifCond .eq 18, 3) := by decide +kernel
theorem dX7_says_63 : decode cX7_says 63 = .ok (.iload_n 3, 1) := by decide +kernel
theorem dX7_says_64 : decode cX7_says 64 = .ok (.iload_n 2, 1) := by decide +kernel
theorem dX7_says_65 : decode cX7_says 65 = .ok (.if_icmp .eq 13, 3) := by decide +kernel
theorem dX7_says_68 : decode cX7_says 68 = .ok (.iload_n 2, 1) := by decide +kernel
theorem dX7_says_69 : decode cX7_says 69 = .ok (.iconst 2, 1) := by decide +kernel
theorem dX7_says_70 : decode cX7_says 70 = .ok (.if_icmp .ne 12, 3) := by decide +kernel
theorem dX7_says_73 : decode cX7_says 73 = .ok (.iload_n 3, 1) := by decide +kernel
theorem dX7_says_74 : decode cX7_says 74 = .ok (.iconst 5, 1) := by decide +kernel
theorem dX7_says_75 : decode cX7_says 75 = .ok (.if_icmp .ne 7, 3) := by decide +kernel
theorem dX7_says_78 : decode cX7_says 78 = .ok (.iconst 1, 1) := by decide +kernel
theorem dX7_says_79 : decode cX7_says 79 = .ok (.goto 4, 3) := by decide +kernel
theorem dX7_says_82 : decode cX7_says 82 = .ok (.iconst 0, 1) := by decide +kernel
theorem dX7_says_83 : decode cX7_says 83 = .ok (.istore 4, 2) := by decide +kernel
theorem dX7_says_85 : decode cX7_says 85 = .ok (.aload_n 0, 1) := by decide +kernel
theorem dX7_says_86 : decode cX7_says 86 = .ok (.getfield 7, 3) := by decide +kernel
theorem dX7_says_89 : decode cX7_says 89 = .ok (.iload_n 1, 1) := by decide +kernel
theorem dX7_says_90 : decode cX7_says 90 = .ok (.iaload, 1) := by decide +kernel
theorem dX7_says_91 : decode cX7_says 91 = .ok (.iconst 1, 1) := by decide +kernel
theorem dX7_says_92 : decode cX7_says 92 = .ok (.if_icmp .eq 18, 3) := by decide +kernel
theorem dX7_says_95 : decode cX7_says 95 = .ok (.aload_n 0, 1) := by decide +kernel
theorem dX7_says_96 : decode cX7_says 96 = .ok (.getfield 7, 3) := by decide +kernel
theorem dX7_says_99 : decode cX7_says 99 = .ok (.iload_n 1, 1) := by decide +kernel
theorem dX7_says_100 : decode cX7_says 100 = .ok (.iaload, 1) := by decide +kernel
theorem dX7_says_101 : decode cX7_says 101 = .ok (.iconst 2, 1) := by decide +kernel
theorem dX7_says_102 : decode cX7_says 102 = .ok (.if_icmp .ne 15, 3) := by decide +kernel
theorem dX7_says_105 : decode cX7_says 105 = .ok (.iload 4, 2) := by decide +kernel
theorem dX7_says_107 : decode cX7_says 107 = .ok (.ifCond .ne 10, 3) := by decide +kernel
theorem dX7_says_110 : decode cX7_says 110 = .ok (.aload_n 0, 1) := by decide +kernel
theorem dX7_says_111 : decode cX7_says 111 = .ok (.bipush (-3), 2) := by decide +kernel
theorem dX7_says_113 : decode cX7_says 113 = .ok (.invokevirtual 77, 3) := by decide +kernel
theorem dX7_says_116 : decode cX7_says 116 = .ok (.ireturn, 1) := by decide +kernel
theorem dX7_says_117 : decode cX7_says 117 = .ok (.aload_n 0, 1) := by decide +kernel
theorem dX7_says_118 : decode cX7_says 118 = .ok (.getfield 7, 3) := by decide +kernel
theorem dX7_says_121 : decode cX7_says 121 = .ok (.iload_n 1, 1) := by decide +kernel
theorem dX7_says_122 : decode cX7_says 122 = .ok (.iaload, 1) := by decide +kernel
theorem dX7_says_123 : decode cX7_says 123 = .ok (.ifCond .ne 10, 3) := by decide +kernel
theorem dX7_says_126 : decode cX7_says 126 = .ok (.aload_n 0, 1) := by decide +kernel
theorem dX7_says_127 : decode cX7_says 127 = .ok (.bipush (-4), 2) := by decide +kernel
theorem dX7_says_129 : decode cX7_says 129 = .ok (.invokevirtual 77, 3) := by decide +kernel
theorem dX7_says_132 : decode cX7_says 132 = .ok (.ireturn, 1) := by decide +kernel
theorem dX7_says_133 : decode cX7_says 133 = .ok (.aload_n 0, 1) := by decide +kernel
theorem dX7_says_134 : decode cX7_says 134 = .ok (.getfield 28, 3) := by decide +kernel
theorem dX7_says_137 : decode cX7_says 137 = .ok (.iload_n 1, 1) := by decide +kernel
theorem dX7_says_138 : decode cX7_says 138 = .ok (.iaload, 1) := by decide +kernel
theorem dX7_says_139 : decode cX7_says 139 = .ok (.istore 5, 2) := by decide +kernel
theorem dX7_says_141 : decode cX7_says 141 = .ok (.iload_n 2, 1) := by decide +kernel
theorem dX7_says_142 : decode cX7_says 142 = .ok (.tableswitch 95 0 4 #[34, 41, 95, 51, 73], 34) := by decide +kernel
theorem dX7_says_176 : decode cX7_says 176 = .ok (.aload_n 0, 1) := by decide +kernel
theorem dX7_says_177 : decode cX7_says 177 = .ok (.iload 5, 2) := by decide +kernel
theorem dX7_says_179 : decode cX7_says 179 = .ok (.invokevirtual 94, 3) := by decide +kernel
theorem dX7_says_182 : decode cX7_says 182 = .ok (.ireturn, 1) := by decide +kernel
theorem dX7_says_183 : decode cX7_says 183 = .ok (.aload_n 0, 1) := by decide +kernel
theorem dX7_says_184 : decode cX7_says 184 = .ok (.getfield 39, 3) := by decide +kernel
theorem dX7_says_187 : decode cX7_says 187 = .ok (.iload 5, 2) := by decide +kernel
theorem dX7_says_189 : decode cX7_says 189 = .ok (.aaload, 1) := by decide +kernel
theorem dX7_says_190 : decode cX7_says 190 = .ok (.iconst 1, 1) := by decide +kernel
theorem dX7_says_191 : decode cX7_says 191 = .ok (.iaload, 1) := by decide +kernel
theorem dX7_says_192 : decode cX7_says 192 = .ok (.ireturn, 1) := by decide +kernel
theorem dX7_says_193 : decode cX7_says 193 = .ok (.aload_n 0, 1) := by decide +kernel
theorem dX7_says_194 : decode cX7_says 194 = .ok (.aload_n 0, 1) := by decide +kernel
theorem dX7_says_195 : decode cX7_says 195 = .ok (.getfield 39, 3) := by decide +kernel
theorem dX7_says_198 : decode cX7_says 198 = .ok (.iload 5, 2) := by decide +kernel
theorem dX7_says_200 : decode cX7_says 200 = .ok (.aaload, 1) := by decide +kernel
theorem dX7_says_201 : decode cX7_says 201 = .ok (.iconst 1, 1) := by decide +kernel
theorem dX7_says_202 : decode cX7_says 202 = .ok (.iaload, 1) := by decide +kernel
theorem dX7_says_203 : decode cX7_says 203 = .ok (.invokevirtual 97, 3) := by decide +kernel
theorem dX7_says_206 : decode cX7_says 206 = .ok (.ifCond .eq 7, 3) := by decide +kernel
theorem dX7_says_209 : decode cX7_says 209 = .ok (.iconst 1, 1) := by decide +kernel
theorem dX7_says_210 : decode cX7_says 210 = .ok (.goto 4, 3) := by decide +kernel
theorem dX7_says_213 : decode cX7_says 213 = .ok (.iconst 0, 1) := by decide +kernel
theorem dX7_says_214 : decode cX7_says 214 = .ok (.ireturn, 1) := by decide +kernel
theorem dX7_says_215 : decode cX7_says 215 = .ok (.aload_n 0, 1) := by decide +kernel
theorem dX7_says_216 : decode cX7_says 216 = .ok (.aload_n 0, 1) := by decide +kernel
theorem dX7_says_217 : decode cX7_says 217 = .ok (.getfield 39, 3) := by decide +kernel
theorem dX7_says_220 : decode cX7_says 220 = .ok (.iload 5, 2) := by decide +kernel
theorem dX7_says_222 : decode cX7_says 222 = .ok (.aaload, 1) := by decide +kernel
theorem dX7_says_223 : decode cX7_says 223 = .ok (.iconst 2, 1) := by decide +kernel
theorem dX7_says_224 : decode cX7_says 224 = .ok (.iaload, 1) := by decide +kernel
theorem dX7_says_225 : decode cX7_says 225 = .ok (.invokevirtual 97, 3) := by decide +kernel
theorem dX7_says_228 : decode cX7_says 228 = .ok (.ifCond .eq 7, 3) := by decide +kernel
theorem dX7_says_231 : decode cX7_says 231 = .ok (.iconst 1, 1) := by decide +kernel
theorem dX7_says_232 : decode cX7_says 232 = .ok (.goto 4, 3) := by decide +kernel
theorem dX7_says_235 : decode cX7_says 235 = .ok (.iconst 0, 1) := by decide +kernel
theorem dX7_says_236 : decode cX7_says 236 = .ok (.ireturn, 1) := by decide +kernel
theorem dX7_says_237 : decode cX7_says 237 = .ok (.aload_n 0, 1) := by decide +kernel
theorem dX7_says_238 : decode cX7_says 238 = .ok (.invokevirtual 100, 3) := by decide +kernel
theorem dX7_says_241 : decode cX7_says 241 = .ok (.iload 5, 2) := by decide +kernel
theorem dX7_says_243 : decode cX7_says 243 = .ok (.ishr, 1) := by decide +kernel
theorem dX7_says_244 : decode cX7_says 244 = .ok (.iconst 1, 1) := by decide +kernel
theorem dX7_says_245 : decode cX7_says 245 = .ok (.iand, 1) := by decide +kernel
theorem dX7_says_246 : decode cX7_says 246 = .ok (.ireturn, 1) := by decide +kernel
theorem dX7_door_0 : decode cX7_door 0 = .ok (.iload_n 1, 1) := by decide +kernel
theorem dX7_door_1 : decode cX7_door 1 = .ok (.i2l, 1) := by decide +kernel
theorem dX7_door_2 : decode cX7_door 2 = .ok (.lconst 0, 1) := by decide +kernel
theorem dX7_door_3 : decode cX7_door 3 = .ok (.ldc2_w 92, 3) := by decide +kernel
theorem dX7_door_6 : decode cX7_door 6 = .ok (.invokestatic 64, 3) := by decide +kernel
theorem dX7_door_9 : decode cX7_door 9 = .ok (.ifCond .eq 29, 3) := by decide +kernel
theorem dX7_door_12 : decode cX7_door 12 = .ok (.iload_n 2, 1) := by decide +kernel
theorem dX7_door_13 : decode cX7_door 13 = .ok (.i2l, 1) := by decide +kernel
theorem dX7_door_14 : decode cX7_door 14 = .ok (.invokestatic 104, 3) := by decide +kernel
theorem dX7_door_17 : decode cX7_door 17 = .ok (.ifCond .eq 21, 3) := by decide +kernel
theorem dX7_door_20 : decode cX7_door 20 = .ok (.iload_n 1, 1) := by decide +kernel
theorem dX7_door_21 : decode cX7_door 21 = .ok (.iconst 1, 1) := by decide +kernel
theorem dX7_door_22 : decode cX7_door 22 = .ok (.if_icmp .eq 23, 3) := by decide +kernel
theorem dX7_door_25 : decode cX7_door 25 = .ok (.iload_n 3, 1) := by decide +kernel
theorem dX7_door_26 : decode cX7_door 26 = .ok (.i2l, 1) := by decide +kernel
theorem dX7_door_27 : decode cX7_door 27 = .ok (.invokestatic 104, 3) := by decide +kernel
theorem dX7_door_30 : decode cX7_door 30 = .ok (.ifCond .eq 8, 3) := by decide +kernel
theorem dX7_door_33 : decode cX7_door 33 = .ok (.iload_n 2, 1) := by decide +kernel
theorem dX7_door_34 : decode cX7_door 34 = .ok (.iload_n 3, 1) := by decide +kernel
theorem dX7_door_35 : decode cX7_door 35 = .ok (.if_icmp .ne 10, 3) := by decide +kernel
theorem dX7_door_38 : decode cX7_door 38 = .ok (.aload_n 0, 1) := by decide +kernel
theorem dX7_door_39 : decode cX7_door 39 = .ok (.bipush (-2), 2) := by decide +kernel
theorem dX7_door_41 : decode cX7_door 41 = .ok (.invokevirtual 77, 3) := by decide +kernel
theorem dX7_door_44 : decode cX7_door 44 = .ok (.ireturn, 1) := by decide +kernel
theorem dX7_door_45 : decode cX7_door 45 = .ok (.aload_n 0, 1) := by decide +kernel
theorem dX7_door_46 : decode cX7_door 46 = .ok (.getfield 61, 3) := by decide +kernel
theorem dX7_door_49 : decode cX7_door 49 = .ok (.bipush 14, 2) := by decide +kernel
theorem dX7_door_51 : decode cX7_door 51 = .ok (.if_icmp .ne 10, 3) := by decide +kernel
theorem dX7_door_54 : decode cX7_door 54 = .ok (.aload_n 0, 1) := by decide +kernel
theorem dX7_door_55 : decode cX7_door 55 = .ok (.bipush (-6), 2) := by decide +kernel
theorem dX7_door_57 : decode cX7_door 57 = .ok (.invokevirtual 77, 3) := by decide +kernel
theorem dX7_door_60 : decode cX7_door 60 = .ok (.ireturn, 1) := by decide +kernel
theorem dX7_door_61 : decode cX7_door 61 = .ok (.aload_n 0, 1) := by decide +kernel
theorem dX7_door_62 : decode cX7_door 62 = .ok (.getfield 39, 3) := by decide +kernel
theorem dX7_door_65 : decode cX7_door 65 = .ok (.aload_n 0, 1) := by decide +kernel
theorem dX7_door_66 : decode cX7_door 66 = .ok (.getfield 61, 3) := by decide +kernel
theorem dX7_door_69 : decode cX7_door 69 = .ok (.aaload, 1) := by decide +kernel
theorem dX7_door_70 : decode cX7_door 70 = .ok (.iconst 0, 1) := by decide +kernel
theorem dX7_door_71 : decode cX7_door 71 = .ok (.iload_n 1, 1) := by decide +kernel
theorem dX7_door_72 : decode cX7_door 72 = .ok (.iastore, 1) := by decide +kernel
theorem dX7_door_73 : decode cX7_door 73 = .ok (.aload_n 0, 1) := by decide +kernel
theorem dX7_door_74 : decode cX7_door 74 = .ok (.getfield 39, 3) := by decide +kernel
theorem dX7_door_77 : decode cX7_door 77 = .ok (.aload_n 0, 1) := by decide +kernel
theorem dX7_door_78 : decode cX7_door 78 = .ok (.getfield 61, 3) := by decide +kernel
theorem dX7_door_81 : decode cX7_door 81 = .ok (.aaload, 1) := by decide +kernel
theorem dX7_door_82 : decode cX7_door 82 = .ok (.iconst 1, 1) := by decide +kernel
theorem dX7_door_83 : decode cX7_door 83 = .ok (.iload_n 2, 1) := by decide +kernel
theorem dX7_door_84 : decode cX7_door 84 = .ok (.iastore, 1) := by decide +kernel
theorem dX7_door_85 : decode cX7_door 85 = .ok (.aload_n 0, 1) := by decide +kernel
theorem dX7_door_86 : decode cX7_door 86 = .ok (.getfield 39, 3) := by decide +kernel
theorem dX7_door_89 : decode cX7_door 89 = .ok (.aload_n 0, 1) := by decide +kernel
theorem dX7_door_90 : decode cX7_door 90 = .ok (.getfield 61, 3) := by decide +kernel
theorem dX7_door_93 : decode cX7_door 93 = .ok (.aaload, 1) := by decide +kernel
theorem dX7_door_94 : decode cX7_door 94 = .ok (.iconst 2, 1) := by decide +kernel
theorem dX7_door_95 : decode cX7_door 95 = .ok (.iload_n 1, 1) := by decide +kernel
theorem dX7_door_96 : decode cX7_door 96 = .ok (.iconst 1, 1) := by decide +kernel
theorem dX7_door_97 : decode cX7_door 97 = .ok (.if_icmp .ne 7, 3) := by decide +kernel
theorem dX7_door_100 : decode cX7_door 100 = .ok (.iload_n 2, 1) := by decide +kernel
theorem dX7_door_101 : decode cX7_door 101 = .ok (.goto 4, 3) := by decide +kernel
theorem dX7_door_104 : decode cX7_door 104 = .ok (.iload_n 3, 1) := by decide +kernel
theorem dX7_door_105 : decode cX7_door 105 = .ok (.iastore, 1) := by decide +kernel
theorem dX7_door_106 : decode cX7_door 106 = .ok (.aload_n 0, 1) := by decide +kernel
theorem dX7_door_107 : decode cX7_door 107 = .ok (.dup, 1) := by decide +kernel
theorem dX7_door_108 : decode cX7_door 108 = .ok (.getfield 108, 3) := by decide +kernel
theorem dX7_door_111 : decode cX7_door 111 = .ok (.iconst 1, 1) := by decide +kernel
theorem dX7_door_112 : decode cX7_door 112 = .ok (.aload_n 0, 1) := by decide +kernel
theorem dX7_door_113 : decode cX7_door 113 = .ok (.getfield 61, 3) := by decide +kernel
theorem dX7_door_116 : decode cX7_door 116 = .ok (.ishl, 1) := by decide +kernel
theorem dX7_door_117 : decode cX7_door 117 = .ok (.iconst (-1), 1) := by decide +kernel
theorem dX7_door_118 : decode cX7_door 118 = .ok (.ixor, 1) := by decide +kernel
theorem dX7_door_119 : decode cX7_door 119 = .ok (.iand, 1) := by decide +kernel
theorem dX7_door_120 : decode cX7_door 120 = .ok (.putfield 108, 3) := by decide +kernel
theorem dX7_door_123 : decode cX7_door 123 = .ok (.aload_n 0, 1) := by decide +kernel
theorem dX7_door_124 : decode cX7_door 124 = .ok (.dup, 1) := by decide +kernel
theorem dX7_door_125 : decode cX7_door 125 = .ok (.getfield 61, 3) := by decide +kernel
theorem dX7_door_128 : decode cX7_door 128 = .ok (.dup_x1, 1) := by decide +kernel
theorem dX7_door_129 : decode cX7_door 129 = .ok (.iconst 1, 1) := by decide +kernel
theorem dX7_door_130 : decode cX7_door 130 = .ok (.iadd, 1) := by decide +kernel
theorem dX7_door_131 : decode cX7_door 131 = .ok (.putfield 61, 3) := by decide +kernel
theorem dX7_door_134 : decode cX7_door 134 = .ok (.ireturn, 1) := by decide +kernel
theorem dX7_one_0 : decode cX7_one 0 = .ok (.iload_n 1, 1) := by decide +kernel
theorem dX7_one_1 : decode cX7_one 1 = .ok (.i2l, 1) := by decide +kernel
theorem dX7_one_2 : decode cX7_one 2 = .ok (.invokestatic 104, 3) := by decide +kernel
theorem dX7_one_5 : decode cX7_one 5 = .ok (.ifCond .ne 10, 3) := by decide +kernel
theorem dX7_one_8 : decode cX7_one 8 = .ok (.aload_n 0, 1) := by decide +kernel
theorem dX7_one_9 : decode cX7_one 9 = .ok (.bipush (-2), 2) := by decide +kernel
theorem dX7_one_11 : decode cX7_one 11 = .ok (.invokevirtual 77, 3) := by decide +kernel
theorem dX7_one_14 : decode cX7_one 14 = .ok (.ireturn, 1) := by decide +kernel
theorem dX7_one_15 : decode cX7_one 15 = .ok (.aload_n 0, 1) := by decide +kernel
theorem dX7_one_16 : decode cX7_one 16 = .ok (.getfield 68, 3) := by decide +kernel
theorem dX7_one_19 : decode cX7_one 19 = .ok (.iconst 4, 1) := by decide +kernel
theorem dX7_one_20 : decode cX7_one 20 = .ok (.if_icmp .ne 10, 3) := by decide +kernel
theorem dX7_one_23 : decode cX7_one 23 = .ok (.aload_n 0, 1) := by decide +kernel
theorem dX7_one_24 : decode cX7_one 24 = .ok (.bipush (-6), 2) := by decide +kernel
theorem dX7_one_26 : decode cX7_one 26 = .ok (.invokevirtual 77, 3) := by decide +kernel
theorem dX7_one_29 : decode cX7_one 29 = .ok (.ireturn, 1) := by decide +kernel
theorem dX7_one_30 : decode cX7_one 30 = .ok (.aload_n 0, 1) := by decide +kernel
theorem dX7_one_31 : decode cX7_one 31 = .ok (.getfield 42, 3) := by decide +kernel
theorem dX7_one_34 : decode cX7_one 34 = .ok (.aload_n 0, 1) := by decide +kernel
theorem dX7_one_35 : decode cX7_one 35 = .ok (.getfield 68, 3) := by decide +kernel
theorem dX7_one_38 : decode cX7_one 38 = .ok (.iload_n 1, 1) := by decide +kernel
theorem dX7_one_39 : decode cX7_one 39 = .ok (.iastore, 1) := by decide +kernel
theorem dX7_one_40 : decode cX7_one 40 = .ok (.aload_n 0, 1) := by decide +kernel
theorem dX7_one_41 : decode cX7_one 41 = .ok (.dup, 1) := by decide +kernel
theorem dX7_one_42 : decode cX7_one 42 = .ok (.getfield 68, 3) := by decide +kernel
theorem dX7_one_45 : decode cX7_one 45 = .ok (.dup_x1, 1) := by decide +kernel
theorem dX7_one_46 : decode cX7_one 46 = .ok (.iconst 1, 1) := by decide +kernel
theorem dX7_one_47 : decode cX7_one 47 = .ok (.iadd, 1) := by decide +kernel
theorem dX7_one_48 : decode cX7_one 48 = .ok (.putfield 68, 3) := by decide +kernel
theorem dX7_one_51 : decode cX7_one 51 = .ok (.ireturn, 1) := by decide +kernel
theorem dX7_ask_0 : decode cX7_ask 0 = .ok (.iload_n 1, 1) := by decide +kernel
theorem dX7_ask_1 : decode cX7_ask 1 = .ok (.i2l, 1) := by decide +kernel
theorem dX7_ask_2 : decode cX7_ask 2 = .ok (.lconst 0, 1) := by decide +kernel
theorem dX7_ask_3 : decode cX7_ask 3 = .ok (.lconst 1, 1) := by decide +kernel
theorem dX7_ask_4 : decode cX7_ask 4 = .ok (.invokestatic 64, 3) := by decide +kernel
theorem dX7_ask_7 : decode cX7_ask 7 = .ok (.ifCond .eq 33, 3) := by decide +kernel
theorem dX7_ask_10 : decode cX7_ask 10 = .ok (.iload_n 2, 1) := by decide +kernel
theorem dX7_ask_11 : decode cX7_ask 11 = .ok (.i2l, 1) := by decide +kernel
theorem dX7_ask_12 : decode cX7_ask 12 = .ok (.iload_n 1, 1) := by decide +kernel
theorem dX7_ask_13 : decode cX7_ask 13 = .ok (.ifCond .ne 7, 3) := by decide +kernel
theorem dX7_ask_16 : decode cX7_ask 16 = .ok (.lconst 1, 1) := by decide +kernel
theorem dX7_ask_17 : decode cX7_ask 17 = .ok (.goto 4, 3) := by decide +kernel
theorem dX7_ask_20 : decode cX7_ask 20 = .ok (.lconst 0, 1) := by decide +kernel
theorem dX7_ask_21 : decode cX7_ask 21 = .ok (.iload_n 1, 1) := by decide +kernel
theorem dX7_ask_22 : decode cX7_ask 22 = .ok (.ifCond .ne 9, 3) := by decide +kernel
theorem dX7_ask_25 : decode cX7_ask 25 = .ok (.ldc2_w 73, 3) := by decide +kernel
theorem dX7_ask_28 : decode cX7_ask 28 = .ok (.goto 6, 3) := by decide +kernel
theorem dX7_ask_31 : decode cX7_ask 31 = .ok (.ldc2_w 111, 3) := by decide +kernel
theorem dX7_ask_34 : decode cX7_ask 34 = .ok (.invokestatic 64, 3) := by decide +kernel
theorem dX7_ask_37 : decode cX7_ask 37 = .ok (.ifCond .ne 10, 3) := by decide +kernel
theorem dX7_ask_40 : decode cX7_ask 40 = .ok (.aload_n 0, 1) := by decide +kernel
theorem dX7_ask_41 : decode cX7_ask 41 = .ok (.bipush (-2), 2) := by decide +kernel
theorem dX7_ask_43 : decode cX7_ask 43 = .ok (.invokevirtual 77, 3) := by decide +kernel
theorem dX7_ask_46 : decode cX7_ask 46 = .ok (.ireturn, 1) := by decide +kernel
theorem dX7_ask_47 : decode cX7_ask 47 = .ok (.iload_n 1, 1) := by decide +kernel
theorem dX7_ask_48 : decode cX7_ask 48 = .ok (.ifCond .ne 10, 3) := by decide +kernel
theorem dX7_ask_51 : decode cX7_ask 51 = .ok (.aload_n 0, 1) := by decide +kernel
theorem dX7_ask_52 : decode cX7_ask 52 = .ok (.getfield 45, 3) := by decide +kernel
theorem dX7_ask_55 : decode cX7_ask 55 = .ok (.goto 7, 3) := by decide +kernel
theorem dX7_ask_58 : decode cX7_ask 58 = .ok (.aload_n 0, 1) := by decide +kernel
theorem dX7_ask_59 : decode cX7_ask 59 = .ok (.getfield 113, 3) := by decide +kernel
theorem dX7_ask_62 : decode cX7_ask 62 = .ok (.istore_n 3, 1) := by decide +kernel
theorem dX7_ask_63 : decode cX7_ask 63 = .ok (.iload_n 1, 1) := by decide +kernel
theorem dX7_ask_64 : decode cX7_ask 64 = .ok (.ifCond .ne 11, 3) := by decide +kernel
theorem dX7_ask_67 : decode cX7_ask 67 = .ok (.aload_n 0, 1) := by decide +kernel
theorem dX7_ask_68 : decode cX7_ask 68 = .ok (.iload_n 2, 1) := by decide +kernel
theorem dX7_ask_69 : decode cX7_ask 69 = .ok (.putfield 45, 3) := by decide +kernel
theorem dX7_ask_72 : decode cX7_ask 72 = .ok (.goto 8, 3) := by decide +kernel
theorem dX7_ask_75 : decode cX7_ask 75 = .ok (.aload_n 0, 1) := by decide +kernel
theorem dX7_ask_76 : decode cX7_ask 76 = .ok (.iload_n 2, 1) := by decide +kernel
theorem dX7_ask_77 : decode cX7_ask 77 = .ok (.putfield 113, 3) := by decide +kernel
theorem dX7_ask_80 : decode cX7_ask 80 = .ok (.iload_n 3, 1) := by decide +kernel
theorem dX7_ask_81 : decode cX7_ask 81 = .ok (.ireturn, 1) := by decide +kernel
theorem dX7_stand_0 : decode cX7_stand 0 = .ok (.aload_n 0, 1) := by decide +kernel
theorem dX7_stand_1 : decode cX7_stand 1 = .ok (.iload_n 1, 1) := by decide +kernel
theorem dX7_stand_2 : decode cX7_stand 2 = .ok (.invokevirtual 88, 3) := by decide +kernel
theorem dX7_stand_5 : decode cX7_stand 5 = .ok (.ifCond .ne 10, 3) := by decide +kernel
theorem dX7_stand_8 : decode cX7_stand 8 = .ok (.aload_n 0, 1) := by decide +kernel
theorem dX7_stand_9 : decode cX7_stand 9 = .ok (.bipush (-2), 2) := by decide +kernel
theorem dX7_stand_11 : decode cX7_stand 11 = .ok (.invokevirtual 77, 3) := by decide +kernel
theorem dX7_stand_14 : decode cX7_stand 14 = .ok (.ireturn, 1) := by decide +kernel
theorem dX7_stand_15 : decode cX7_stand 15 = .ok (.aload_n 0, 1) := by decide +kernel
theorem dX7_stand_16 : decode cX7_stand 16 = .ok (.getfield 108, 3) := by decide +kernel
theorem dX7_stand_19 : decode cX7_stand 19 = .ok (.iload_n 1, 1) := by decide +kernel
theorem dX7_stand_20 : decode cX7_stand 20 = .ok (.invokestatic 116, 3) := by decide +kernel
theorem dX7_stand_23 : decode cX7_stand 23 = .ok (.istore_n 3, 1) := by decide +kernel
theorem dX7_stand_24 : decode cX7_stand 24 = .ok (.aload_n 0, 1) := by decide +kernel
theorem dX7_stand_25 : decode cX7_stand 25 = .ok (.iload_n 2, 1) := by decide +kernel
theorem dX7_stand_26 : decode cX7_stand 26 = .ok (.ifCond .eq 14, 3) := by decide +kernel
theorem dX7_stand_29 : decode cX7_stand 29 = .ok (.aload_n 0, 1) := by decide +kernel
theorem dX7_stand_30 : decode cX7_stand 30 = .ok (.getfield 108, 3) := by decide +kernel
theorem dX7_stand_33 : decode cX7_stand 33 = .ok (.iconst 1, 1) := by decide +kernel
theorem dX7_stand_34 : decode cX7_stand 34 = .ok (.iload_n 1, 1) := by decide +kernel
theorem dX7_stand_35 : decode cX7_stand 35 = .ok (.ishl, 1) := by decide +kernel
theorem dX7_stand_36 : decode cX7_stand 36 = .ok (.ior, 1) := by decide +kernel
theorem dX7_stand_37 : decode cX7_stand 37 = .ok (.goto 13, 3) := by decide +kernel
theorem dX7_stand_40 : decode cX7_stand 40 = .ok (.aload_n 0, 1) := by decide +kernel
theorem dX7_stand_41 : decode cX7_stand 41 = .ok (.getfield 108, 3) := by decide +kernel
theorem dX7_stand_44 : decode cX7_stand 44 = .ok (.iconst 1, 1) := by decide +kernel
theorem dX7_stand_45 : decode cX7_stand 45 = .ok (.iload_n 1, 1) := by decide +kernel
theorem dX7_stand_46 : decode cX7_stand 46 = .ok (.ishl, 1) := by decide +kernel
theorem dX7_stand_47 : decode cX7_stand 47 = .ok (.iconst (-1), 1) := by decide +kernel
theorem dX7_stand_48 : decode cX7_stand 48 = .ok (.ixor, 1) := by decide +kernel
theorem dX7_stand_49 : decode cX7_stand 49 = .ok (.iand, 1) := by decide +kernel
theorem dX7_stand_50 : decode cX7_stand 50 = .ok (.putfield 108, 3) := by decide +kernel
theorem dX7_stand_53 : decode cX7_stand 53 = .ok (.iload_n 3, 1) := by decide +kernel
theorem dX7_stand_54 : decode cX7_stand 54 = .ok (.iload_n 2, 1) := by decide +kernel
theorem dX7_stand_55 : decode cX7_stand 55 = .ok (.if_icmp .eq 7, 3) := by decide +kernel
theorem dX7_stand_58 : decode cX7_stand 58 = .ok (.iconst 1, 1) := by decide +kernel
theorem dX7_stand_59 : decode cX7_stand 59 = .ok (.goto 4, 3) := by decide +kernel
theorem dX7_stand_62 : decode cX7_stand 62 = .ok (.iconst 0, 1) := by decide +kernel
theorem dX7_stand_63 : decode cX7_stand 63 = .ok (.ireturn, 1) := by decide +kernel
theorem dX7_move_0 : decode cX7_move 0 = .ok (.aload_n 0, 1) := by decide +kernel
theorem dX7_move_1 : decode cX7_move 1 = .ok (.iload_n 1, 1) := by decide +kernel
theorem dX7_move_2 : decode cX7_move 2 = .ok (.invokevirtual 120, 3) := by decide +kernel
theorem dX7_move_5 : decode cX7_move 5 = .ok (.ifCond .eq 11, 3) := by decide +kernel
theorem dX7_move_8 : decode cX7_move 8 = .ok (.iload_n 2, 1) := by decide +kernel
theorem dX7_move_9 : decode cX7_move 9 = .ok (.i2l, 1) := by decide +kernel
theorem dX7_move_10 : decode cX7_move 10 = .ok (.invokestatic 104, 3) := by decide +kernel
theorem dX7_move_13 : decode cX7_move 13 = .ok (.ifCond .ne 10, 3) := by decide +kernel
theorem dX7_move_16 : decode cX7_move 16 = .ok (.aload_n 0, 1) := by decide +kernel
theorem dX7_move_17 : decode cX7_move 17 = .ok (.bipush (-2), 2) := by decide +kernel
theorem dX7_move_19 : decode cX7_move 19 = .ok (.invokevirtual 77, 3) := by decide +kernel
theorem dX7_move_22 : decode cX7_move 22 = .ok (.ireturn, 1) := by decide +kernel
theorem dX7_move_23 : decode cX7_move 23 = .ok (.aload_n 0, 1) := by decide +kernel
theorem dX7_move_24 : decode cX7_move 24 = .ok (.getfield 42, 3) := by decide +kernel
theorem dX7_move_27 : decode cX7_move 27 = .ok (.iload_n 1, 1) := by decide +kernel
theorem dX7_move_28 : decode cX7_move 28 = .ok (.iaload, 1) := by decide +kernel
theorem dX7_move_29 : decode cX7_move 29 = .ok (.istore_n 3, 1) := by decide +kernel
theorem dX7_move_30 : decode cX7_move 30 = .ok (.aload_n 0, 1) := by decide +kernel
theorem dX7_move_31 : decode cX7_move 31 = .ok (.getfield 42, 3) := by decide +kernel
theorem dX7_move_34 : decode cX7_move 34 = .ok (.iload_n 1, 1) := by decide +kernel
theorem dX7_move_35 : decode cX7_move 35 = .ok (.iload_n 2, 1) := by decide +kernel
theorem dX7_move_36 : decode cX7_move 36 = .ok (.iastore, 1) := by decide +kernel
theorem dX7_move_37 : decode cX7_move 37 = .ok (.iload_n 3, 1) := by decide +kernel
theorem dX7_move_38 : decode cX7_move 38 = .ok (.ireturn, 1) := by decide +kernel
def f_X7_isSomebodyIn_L2 (h : xH) (v0 : Nat) (v1 : Int32) : Nat → Int32 → Option (Sum (Int32) (Unit))
  | 0, _ => none
  | k + 1, v2 =>
    (x_gI h v0 7 12).bind fun x1 =>
    if x1 ≤ v2 then
      some (.inr ())
    else
      (x_gR h v0 7 13).bind fun a2 =>
      (x_ld h a2 v2).bind fun x3 =>
      if x3 = v1 then
        some (.inl (1 : Int32))
      else
        (some (v2 + (1 : Int32))).bind fun x4 =>
        f_X7_isSomebodyIn_L2 h v0 v1 k x4
set_option maxRecDepth 100000 in
set_option maxHeartbeats 4000000 in
theorem l_X7_isSomebodyIn_2 {S : Nat × (Nat → Int32)} {rv : Option Value} {h0 h1 : xH} {mc ms : Nat} {cells slots : Nat} (hm : cells ≤ mc ∧ slots ≤ ms) (h : xH) (v0 : Nat) (v1 : Int32) : ∀ (k : Nat) (v2 : Int32) (res : Sum (Int32) (Unit)), f_X7_isSomebodyIn_L2 h v0 v1 k v2 = some res → (∀ r9, res = .inl r9 → rv = some (.int r9) ∧ h1 = h) → (∀ r9, res = .inr r9 → Y S M_X7_isSomebodyIn h0 rv h1 mc ms 28 [] [] h cells slots) → Y S M_X7_isSomebodyIn h0 rv h1 mc ms 2 [(0, .ref v0), (1, .int v1), (2, .int v2)] [] h cells slots := by
  intro k
  induction k with
  | zero =>
    intro _ _ hE
    cases hE
  | succ k ih =>
    intro v2 res hE KR K
    unfold f_X7_isSomebodyIn_L2 at hE
    refine y_iload_n dX7_isSomebodyIn_2 2 rfl ?_
    refine y_aload_n dX7_isSomebodyIn_3 0 rfl ?_
    obtain ⟨x1, ex1, hE⟩ := Option.bind_eq_some_iff.mp hE
    refine y_getI fl_X7_68 ex1 dX7_isSomebodyIn_4 ?_
    refine y_icmp_ge (tgt := 28) dX7_isSomebodyIn_7 (by decide) (fun hc6 => ?_) (fun hc6 => ?_)
    · rw [if_pos hc6] at hE
      obtain rfl := Option.some.inj hE
      exact y_pick [] rfl (K _ rfl)
    · rw [if_neg hc6] at hE
      refine y_aload_n dX7_isSomebodyIn_10 0 rfl ?_
      obtain ⟨a2, ea2, hE⟩ := Option.bind_eq_some_iff.mp hE
      refine y_getR fl_X7_42 ea2 dX7_isSomebodyIn_11 ?_
      refine y_iload_n dX7_isSomebodyIn_14 2 rfl ?_
      obtain ⟨x3, ex3, hE⟩ := Option.bind_eq_some_iff.mp hE
      refine y_iald ex3 dX7_isSomebodyIn_15 ?_
      refine y_iload_n dX7_isSomebodyIn_16 1 rfl ?_
      refine y_icmp_ne (tgt := 22) dX7_isSomebodyIn_17 (by decide) (fun hc5 => ?_) (fun hc5 => ?_)
      · rw [if_pos hc5] at hE
        refine y_iconst (v := (1 : Int32)) dX7_isSomebodyIn_20 (by decide) ?_
        obtain rfl := Option.some.inj hE
        obtain ⟨rfl, rfl⟩ := KR _ rfl
        exact y_ret dX7_isSomebodyIn_21 hm.1 hm.2 ⟨_, rfl, rfl⟩
      · rw [if_neg hc5] at hE
        obtain ⟨x4, ex4, hE⟩ := Option.bind_eq_some_iff.mp hE
        refine y_iinc (ls' := [(2, .int x4), (0, .ref v0), (1, .int v1)]) dX7_isSomebodyIn_22 2 rfl (Option.some.inj ex4) (by decide) rfl ?_
        refine y_goto (tgt := 2) dX7_isSomebodyIn_25 (by decide) ?_
        refine y_pick [1, 2, 0] rfl ?_
        exact ih _ _ hE KR K
def f_X7_isSomebodyIn (n : Nat) (h : xH) (a0 : Nat) (p1 : Int32) : Option (Int32) :=
  (f_X7_isSomebodyIn_L2 h a0 p1 n (0 : Int32)).bind fun q7 =>
  match q7 with
  | .inl r8 => some r8
  | .inr e9 =>
    some (0 : Int32)
set_option maxRecDepth 100000 in
set_option maxHeartbeats 4000000 in
theorem c_X7_isSomebodyIn {n : Nat} {h : xH} {a0 : Nat} {p1 : Int32} {r9 : Int32} (hE : f_X7_isSomebodyIn n h a0 p1 = some r9) : Ctr M_X7_isSomebodyIn [.ref a0, .int p1] h (some (.int r9)) h 0 0 := by
  refine ctr_of (by decide) (fun _ _ => Nat.le_of_ble_eq_true rfl) (fun S => ?_)
  show Y S M_X7_isSomebodyIn h (some (.int r9)) h 0 0 0 [(0, .ref a0), (1, .int p1)] [] h 0 0
  unfold f_X7_isSomebodyIn at hE
  refine y_iconst (v := (0 : Int32)) dX7_isSomebodyIn_0 (by decide) ?_
  refine y_istore_n (ls' := [(2, .int (0 : Int32)), (0, .ref a0), (1, .int p1)]) dX7_isSomebodyIn_1 (by decide) rfl rfl ?_
  obtain ⟨q7, eq7, hE⟩ := Option.bind_eq_some_iff.mp hE
  refine y_pick [1, 2, 0] rfl ?_
  cases q7 with
  | inl r8 =>
    dsimp only at hE
    cases hE
    exact l_X7_isSomebodyIn_2 (S := S) ⟨Nat.le_refl _, Nat.le_refl _⟩ h a0 p1 n (0 : Int32) _ eq7 (fun r8 hr8 => by cases hr8; exact ⟨rfl, rfl⟩) (fun r8 hr8 => by cases hr8)
  | inr e9 =>
    dsimp only at hE
    refine l_X7_isSomebodyIn_2 (S := S) ⟨Nat.le_refl _, Nat.le_refl _⟩ h a0 p1 n (0 : Int32) _ eq7 (fun r8 hr8 => by cases hr8) (fun r8 hr8 => ?_)
    cases hr8
    refine y_iconst (v := (0 : Int32)) dX7_isSomebodyIn_28 (by decide) ?_
    obtain rfl := Option.some.inj hE
    exact y_ret dX7_isSomebodyIn_29 (Nat.le_refl _) (Nat.le_refl _) ⟨_, rfl, rfl⟩
def f_X7_isAt (h : xH) (a0 : Nat) (p1 : Int32) (p2 : Int32) : Option (Int32) :=
  (x_gR h a0 7 10).bind fun a1 =>
  (x_ldQ h a1 p1).bind fun a2 =>
  (x_ld h a2 (1 : Int32)).bind fun x3 =>
  if x3 = p2 then
    some (1 : Int32)
  else
    (x_gR h a0 7 10).bind fun a4 =>
    (x_ldQ h a4 p1).bind fun a5 =>
    (x_ld h a5 (2 : Int32)).bind fun x6 =>
    if x6 = p2 then
      some (1 : Int32)
    else
      some (0 : Int32)
set_option maxRecDepth 100000 in
set_option maxHeartbeats 4000000 in
theorem c_X7_isAt {h : xH} {a0 : Nat} {p1 : Int32} {p2 : Int32} {r9 : Int32} (hE : f_X7_isAt h a0 p1 p2 = some r9) : Ctr M_X7_isAt [.ref a0, .int p1, .int p2] h (some (.int r9)) h 0 0 := by
  refine ctr_of (by decide) (fun _ _ => Nat.le_of_ble_eq_true rfl) (fun S => ?_)
  show Y S M_X7_isAt h (some (.int r9)) h 0 0 0 [(0, .ref a0), (1, .int p1), (2, .int p2)] [] h 0 0
  unfold f_X7_isAt at hE
  refine y_aload_n dX7_isAt_0 0 rfl ?_
  obtain ⟨a1, ea1, hE⟩ := Option.bind_eq_some_iff.mp hE
  refine y_getR fl_X7_39 ea1 dX7_isAt_1 ?_
  refine y_iload_n dX7_isAt_4 1 rfl ?_
  obtain ⟨a2, ea2, hE⟩ := Option.bind_eq_some_iff.mp hE
  refine y_aald ea2 dX7_isAt_5 ?_
  refine y_iconst (v := (1 : Int32)) dX7_isAt_6 (by decide) ?_
  obtain ⟨x3, ex3, hE⟩ := Option.bind_eq_some_iff.mp hE
  refine y_iald ex3 dX7_isAt_7 ?_
  refine y_iload_n dX7_isAt_8 2 rfl ?_
  refine y_icmp_eq (tgt := 24) dX7_isAt_9 (by decide) (fun hc8 => ?_) (fun hc8 => ?_)
  · rw [if_pos hc8] at hE
    refine y_iconst (v := (1 : Int32)) dX7_isAt_24 (by decide) ?_
    refine y_goto (tgt := 29) dX7_isAt_25 (by decide) ?_
    obtain rfl := Option.some.inj hE
    exact y_ret dX7_isAt_29 (Nat.le_refl _) (Nat.le_refl _) ⟨_, rfl, rfl⟩
  · rw [if_neg hc8] at hE
    refine y_aload_n dX7_isAt_12 0 rfl ?_
    obtain ⟨a4, ea4, hE⟩ := Option.bind_eq_some_iff.mp hE
    refine y_getR fl_X7_39 ea4 dX7_isAt_13 ?_
    refine y_iload_n dX7_isAt_16 1 rfl ?_
    obtain ⟨a5, ea5, hE⟩ := Option.bind_eq_some_iff.mp hE
    refine y_aald ea5 dX7_isAt_17 ?_
    refine y_iconst (v := (2 : Int32)) dX7_isAt_18 (by decide) ?_
    obtain ⟨x6, ex6, hE⟩ := Option.bind_eq_some_iff.mp hE
    refine y_iald ex6 dX7_isAt_19 ?_
    refine y_iload_n dX7_isAt_20 2 rfl ?_
    refine y_icmp_ne (tgt := 28) dX7_isAt_21 (by decide) (fun hc7 => ?_) (fun hc7 => ?_)
    · rw [if_pos hc7] at hE
      refine y_iconst (v := (1 : Int32)) dX7_isAt_24 (by decide) ?_
      refine y_goto (tgt := 29) dX7_isAt_25 (by decide) ?_
      obtain rfl := Option.some.inj hE
      exact y_ret dX7_isAt_29 (Nat.le_refl _) (Nat.le_refl _) ⟨_, rfl, rfl⟩
    · rw [if_neg hc7] at hE
      refine y_iconst (v := (0 : Int32)) dX7_isAt_28 (by decide) ?_
      obtain rfl := Option.some.inj hE
      exact y_ret dX7_isAt_29 (Nat.le_refl _) (Nat.le_refl _) ⟨_, rfl, rfl⟩
def f_X7_mayShut (h : xH) (a0 : Nat) (p1 : Int32) (p2 : Int32) : Option (Int32) :=
  (x_gR h a0 7 10).bind fun a1 =>
  (x_ldQ h a1 p1).bind fun a2 =>
  (x_ld h a2 (0 : Int32)).bind fun x3 =>
  (x_gI h a0 7 11).bind fun x4 =>
  (f_X7_has h x4 p1).bind fun q5 =>
  if q5 = 0 then
    some (0 : Int32)
  else
    if x3 = (5 : Int32) then
      some (0 : Int32)
    else
      if x3 = (4 : Int32) then
        (x_gR h a0 7 10).bind fun a6 =>
        (x_ldQ h a6 p1).bind fun a7 =>
        (x_ld h a7 (2 : Int32)).bind fun x8 =>
        if x8 = p2 then
          some (1 : Int32)
        else
          some (0 : Int32)
      else
        (x_ob h a0 7).bind fun u10 =>
        (f_X7_isAt h a0 p1 p2).bind fun q11 =>
        if q11 = 0 then
          some (0 : Int32)
        else
          some (1 : Int32)
set_option maxRecDepth 100000 in
set_option maxHeartbeats 4000000 in
theorem c_X7_mayShut {h : xH} {a0 : Nat} {p1 : Int32} {p2 : Int32} {r9 : Int32} (hE : f_X7_mayShut h a0 p1 p2 = some r9) : Ctr M_X7_mayShut [.ref a0, .int p1, .int p2] h (some (.int r9)) h 0 0 := by
  refine ctr_of (by decide) (fun _ _ => Nat.le_of_ble_eq_true rfl) (fun S => ?_)
  show Y S M_X7_mayShut h (some (.int r9)) h 0 0 0 [(0, .ref a0), (1, .int p1), (2, .int p2)] [] h 0 0
  unfold f_X7_mayShut at hE
  refine y_aload_n dX7_mayShut_0 0 rfl ?_
  obtain ⟨a1, ea1, hE⟩ := Option.bind_eq_some_iff.mp hE
  refine y_getR fl_X7_39 ea1 dX7_mayShut_1 ?_
  refine y_iload_n dX7_mayShut_4 1 rfl ?_
  obtain ⟨a2, ea2, hE⟩ := Option.bind_eq_some_iff.mp hE
  refine y_aald ea2 dX7_mayShut_5 ?_
  refine y_iconst (v := (0 : Int32)) dX7_mayShut_6 (by decide) ?_
  obtain ⟨x3, ex3, hE⟩ := Option.bind_eq_some_iff.mp hE
  refine y_iald ex3 dX7_mayShut_7 ?_
  refine y_istore_n (ls' := [(3, .int x3), (0, .ref a0), (1, .int p1), (2, .int p2)]) dX7_mayShut_8 (by decide) rfl rfl ?_
  refine y_aload_n dX7_mayShut_9 1 rfl ?_
  obtain ⟨x4, ex4, hE⟩ := Option.bind_eq_some_iff.mp hE
  refine y_getI fl_X7_108 ex4 dX7_mayShut_10 ?_
  refine y_iload_n dX7_mayShut_13 2 rfl ?_
  obtain ⟨q5, eq5, hE⟩ := Option.bind_eq_some_iff.mp hE
  refine y_cSi0 (st := []) (as := [.int x4, .int p1]) (c_X7_has eq5) lk_X7_116 st_X7_has ⟨Nat.le_of_ble_eq_true rfl, Nat.le_of_ble_eq_true rfl⟩ (Nat.le_of_ble_eq_true rfl) dX7_mayShut_14 ⟨Nat.le_refl _, Nat.le_refl _⟩ rfl ?_
  refine y_if_eq (tgt := 58) dX7_mayShut_17 (by decide) (fun hc15 => ?_) (fun hc15 => ?_)
  · rw [if_pos hc15] at hE
    refine y_iconst (v := (0 : Int32)) dX7_mayShut_58 (by decide) ?_
    obtain rfl := Option.some.inj hE
    exact y_ret dX7_mayShut_59 (Nat.le_refl _) (Nat.le_refl _) ⟨_, rfl, rfl⟩
  · rw [if_neg hc15] at hE
    refine y_iload_n dX7_mayShut_20 0 rfl ?_
    refine y_iconst (v := (5 : Int32)) dX7_mayShut_21 (by decide) ?_
    refine y_icmp_eq (tgt := 58) dX7_mayShut_22 (by decide) (fun hc14 => ?_) (fun hc14 => ?_)
    · rw [if_pos hc14] at hE
      refine y_iconst (v := (0 : Int32)) dX7_mayShut_58 (by decide) ?_
      obtain rfl := Option.some.inj hE
      exact y_ret dX7_mayShut_59 (Nat.le_refl _) (Nat.le_refl _) ⟨_, rfl, rfl⟩
    · rw [if_neg hc14] at hE
      refine y_iload_n dX7_mayShut_25 0 rfl ?_
      refine y_iconst (v := (4 : Int32)) dX7_mayShut_26 (by decide) ?_
      refine y_icmp_ne (tgt := 45) dX7_mayShut_27 (by decide) (fun hc13 => ?_) (fun hc13 => ?_)
      · rw [if_pos hc13] at hE
        refine y_aload_n dX7_mayShut_30 1 rfl ?_
        obtain ⟨a6, ea6, hE⟩ := Option.bind_eq_some_iff.mp hE
        refine y_getR fl_X7_39 ea6 dX7_mayShut_31 ?_
        refine y_iload_n dX7_mayShut_34 2 rfl ?_
        obtain ⟨a7, ea7, hE⟩ := Option.bind_eq_some_iff.mp hE
        refine y_aald ea7 dX7_mayShut_35 ?_
        refine y_iconst (v := (2 : Int32)) dX7_mayShut_36 (by decide) ?_
        obtain ⟨x8, ex8, hE⟩ := Option.bind_eq_some_iff.mp hE
        refine y_iald ex8 dX7_mayShut_37 ?_
        refine y_iload_n dX7_mayShut_38 3 rfl ?_
        refine y_icmp_ne (tgt := 58) dX7_mayShut_39 (by decide) (fun hc9 => ?_) (fun hc9 => ?_)
        · rw [if_pos hc9] at hE
          refine y_goto (tgt := 54) dX7_mayShut_42 (by decide) ?_
          refine y_iconst (v := (1 : Int32)) dX7_mayShut_54 (by decide) ?_
          refine y_goto (tgt := 59) dX7_mayShut_55 (by decide) ?_
          obtain rfl := Option.some.inj hE
          exact y_ret dX7_mayShut_59 (Nat.le_refl _) (Nat.le_refl _) ⟨_, rfl, rfl⟩
        · rw [if_neg hc9] at hE
          refine y_iconst (v := (0 : Int32)) dX7_mayShut_58 (by decide) ?_
          obtain rfl := Option.some.inj hE
          exact y_ret dX7_mayShut_59 (Nat.le_refl _) (Nat.le_refl _) ⟨_, rfl, rfl⟩
      · rw [if_neg hc13] at hE
        refine y_aload_n dX7_mayShut_45 1 rfl ?_
        refine y_iload_n dX7_mayShut_46 2 rfl ?_
        refine y_iload_n dX7_mayShut_47 3 rfl ?_
        obtain ⟨u10, eu10, hE⟩ := Option.bind_eq_some_iff.mp hE
        obtain ⟨q11, eq11, hE⟩ := Option.bind_eq_some_iff.mp hE
        refine y_cVi0 (st := []) (as := [.int p1, .int p2]) (c_X7_isAt eq11) lk_X7_210 in_X7_isAt se_X7_isAt rfl eu10 ⟨Nat.le_of_ble_eq_true rfl, Nat.le_of_ble_eq_true rfl⟩ (Nat.le_of_ble_eq_true rfl) dX7_mayShut_48 ⟨Nat.le_refl _, Nat.le_refl _⟩ rfl ?_
        refine y_if_eq (tgt := 58) dX7_mayShut_51 (by decide) (fun hc12 => ?_) (fun hc12 => ?_)
        · rw [if_pos hc12] at hE
          refine y_iconst (v := (0 : Int32)) dX7_mayShut_58 (by decide) ?_
          obtain rfl := Option.some.inj hE
          exact y_ret dX7_mayShut_59 (Nat.le_refl _) (Nat.le_refl _) ⟨_, rfl, rfl⟩
        · rw [if_neg hc12] at hE
          refine y_iconst (v := (1 : Int32)) dX7_mayShut_54 (by decide) ?_
          refine y_goto (tgt := 59) dX7_mayShut_55 (by decide) ?_
          obtain rfl := Option.some.inj hE
          exact y_ret dX7_mayShut_59 (Nat.le_refl _) (Nat.le_refl _) ⟨_, rfl, rfl⟩
def f_X7_shuttable_L14 (h : xH) (v0 : Nat) (v2 : Int32) : Nat → Int32 → Int32 → Option (Int32)
  | 0, _, _ => none
  | k + 1, v1, v3 =>
    (x_gI h v0 7 12).bind fun x2 =>
    if x2 ≤ v3 then
      some v1
    else
      (x_gR h v0 7 13).bind fun a3 =>
      (x_ld h a3 v3).bind fun x4 =>
      (x_ob h v0 7).bind fun u5 =>
      (f_X7_mayShut h v0 v2 x4).bind fun q6 =>
      if q6 = 0 then
        (some (v1 ||| (0 : Int32))).bind fun x7 =>
        (some (v3 + (1 : Int32))).bind fun x8 =>
        f_X7_shuttable_L14 h v0 v2 k x7 x8
      else
        (some (v1 ||| (i_shl (1 : Int32) v2))).bind fun x9 =>
        (some (v3 + (1 : Int32))).bind fun x10 =>
        f_X7_shuttable_L14 h v0 v2 k x9 x10
set_option maxRecDepth 100000 in
set_option maxHeartbeats 4000000 in
theorem l_X7_shuttable_14 {S : Nat × (Nat → Int32)} {rv : Option Value} {h0 h1 : xH} {mc ms : Nat} {cells slots : Nat} (hm : cells ≤ mc ∧ slots ≤ ms) (h : xH) (v0 : Nat) (v2 : Int32) : ∀ (k : Nat) (v1 : Int32) (v3 : Int32) (res : Int32), f_X7_shuttable_L14 h v0 v2 k v1 v3 = some res → (∀ r9, res = r9 → Y S M_X7_shuttable h0 rv h1 mc ms 52 [(0, .ref v0), (1, .int r9), (2, .int v2)] [] h cells slots) → Y S M_X7_shuttable h0 rv h1 mc ms 14 [(0, .ref v0), (1, .int v1), (2, .int v2), (3, .int v3)] [] h cells slots := by
  intro k
  induction k with
  | zero =>
    intro _ _ _ hE
    cases hE
  | succ k ih =>
    intro v1 v3 res hE K
    unfold f_X7_shuttable_L14 at hE
    refine y_iload_n dX7_shuttable_14 3 rfl ?_
    refine y_aload_n dX7_shuttable_15 0 rfl ?_
    obtain ⟨x2, ex2, hE⟩ := Option.bind_eq_some_iff.mp hE
    refine y_getI fl_X7_68 ex2 dX7_shuttable_16 ?_
    refine y_icmp_ge (tgt := 52) dX7_shuttable_19 (by decide) (fun hc12 => ?_) (fun hc12 => ?_)
    · rw [if_pos hc12] at hE
      obtain rfl := Option.some.inj hE
      exact y_pick [0, 1, 2] rfl (K _ rfl)
    · rw [if_neg hc12] at hE
      refine y_iload_n dX7_shuttable_22 1 rfl ?_
      refine y_aload_n dX7_shuttable_23 0 rfl ?_
      refine y_iload_n dX7_shuttable_24 2 rfl ?_
      refine y_aload_n dX7_shuttable_25 0 rfl ?_
      obtain ⟨a3, ea3, hE⟩ := Option.bind_eq_some_iff.mp hE
      refine y_getR fl_X7_42 ea3 dX7_shuttable_26 ?_
      refine y_iload_n dX7_shuttable_29 3 rfl ?_
      obtain ⟨x4, ex4, hE⟩ := Option.bind_eq_some_iff.mp hE
      refine y_iald ex4 dX7_shuttable_30 ?_
      obtain ⟨u5, eu5, hE⟩ := Option.bind_eq_some_iff.mp hE
      obtain ⟨q6, eq6, hE⟩ := Option.bind_eq_some_iff.mp hE
      refine y_cVi0 (st := [.int v1]) (as := [.int v2, .int x4]) (c_X7_mayShut eq6) lk_X7_213 in_X7_mayShut se_X7_mayShut rfl eu5 ⟨Nat.le_of_ble_eq_true rfl, Nat.le_of_ble_eq_true rfl⟩ (Nat.le_of_ble_eq_true rfl) dX7_shuttable_31 hm rfl ?_
      refine y_if_eq (tgt := 43) dX7_shuttable_34 (by decide) (fun hc11 => ?_) (fun hc11 => ?_)
      · rw [if_pos hc11] at hE
        refine y_iconst (v := (0 : Int32)) dX7_shuttable_43 (by decide) ?_
        refine y_ior dX7_shuttable_44 ?_
        obtain ⟨x7, ex7, hE⟩ := Option.bind_eq_some_iff.mp hE
        refine y_istore_n (ls' := [(1, .int x7), (0, .ref v0), (2, .int v2), (3, .int v3)]) dX7_shuttable_45 (by decide) (Option.some.inj ex7) rfl ?_
        obtain ⟨x8, ex8, hE⟩ := Option.bind_eq_some_iff.mp hE
        refine y_iinc (ls' := [(3, .int x8), (1, .int x7), (0, .ref v0), (2, .int v2)]) dX7_shuttable_46 3 rfl (Option.some.inj ex8) (by decide) rfl ?_
        refine y_goto (tgt := 14) dX7_shuttable_49 (by decide) ?_
        refine y_pick [2, 1, 3, 0] rfl ?_
        exact ih _ _ _ hE K
      · rw [if_neg hc11] at hE
        refine y_iconst (v := (1 : Int32)) dX7_shuttable_37 (by decide) ?_
        refine y_iload_n dX7_shuttable_38 2 rfl ?_
        refine y_ishl dX7_shuttable_39 ?_
        refine y_goto (tgt := 44) dX7_shuttable_40 (by decide) ?_
        refine y_ior dX7_shuttable_44 ?_
        obtain ⟨x9, ex9, hE⟩ := Option.bind_eq_some_iff.mp hE
        refine y_istore_n (ls' := [(1, .int x9), (0, .ref v0), (2, .int v2), (3, .int v3)]) dX7_shuttable_45 (by decide) (Option.some.inj ex9) rfl ?_
        obtain ⟨x10, ex10, hE⟩ := Option.bind_eq_some_iff.mp hE
        refine y_iinc (ls' := [(3, .int x10), (1, .int x9), (0, .ref v0), (2, .int v2)]) dX7_shuttable_46 3 rfl (Option.some.inj ex10) (by decide) rfl ?_
        refine y_goto (tgt := 14) dX7_shuttable_49 (by decide) ?_
        refine y_pick [2, 1, 3, 0] rfl ?_
        exact ih _ _ _ hE K
def f_X7_shuttable_L4 (n : Nat) (h : xH) (v0 : Nat) : Nat → Int32 → Int32 → Option (Int32)
  | 0, _, _ => none
  | k + 1, v1, v2 =>
    (x_gI h v0 7 9).bind fun x1 =>
    if x1 ≤ v2 then
      some v1
    else
      (f_X7_shuttable_L14 h v0 v2 n v1 (0 : Int32)).bind fun q13 =>
      (some (v2 + (1 : Int32))).bind fun x14 =>
      f_X7_shuttable_L4 n h v0 k q13 x14
set_option maxRecDepth 100000 in
set_option maxHeartbeats 4000000 in
theorem l_X7_shuttable_4 {S : Nat × (Nat → Int32)} {rv : Option Value} {h0 h1 : xH} {mc ms : Nat} {cells slots : Nat} (hm : cells ≤ mc ∧ slots ≤ ms) (n : Nat) (h : xH) (v0 : Nat) : ∀ (k : Nat) (v1 : Int32) (v2 : Int32) (res : Int32), f_X7_shuttable_L4 n h v0 k v1 v2 = some res → (∀ r9, res = r9 → Y S M_X7_shuttable h0 rv h1 mc ms 58 [(1, .int r9)] [] h cells slots) → Y S M_X7_shuttable h0 rv h1 mc ms 4 [(0, .ref v0), (1, .int v1), (2, .int v2)] [] h cells slots := by
  intro k
  induction k with
  | zero =>
    intro _ _ _ hE
    cases hE
  | succ k ih =>
    intro v1 v2 res hE K
    unfold f_X7_shuttable_L4 at hE
    refine y_iload_n dX7_shuttable_4 2 rfl ?_
    refine y_aload_n dX7_shuttable_5 0 rfl ?_
    obtain ⟨x1, ex1, hE⟩ := Option.bind_eq_some_iff.mp hE
    refine y_getI fl_X7_61 ex1 dX7_shuttable_6 ?_
    refine y_icmp_ge (tgt := 58) dX7_shuttable_9 (by decide) (fun hc15 => ?_) (fun hc15 => ?_)
    · rw [if_pos hc15] at hE
      obtain rfl := Option.some.inj hE
      exact y_pick [1] rfl (K _ rfl)
    · rw [if_neg hc15] at hE
      refine y_iconst (v := (0 : Int32)) dX7_shuttable_12 (by decide) ?_
      refine y_istore_n (ls' := [(3, .int (0 : Int32)), (0, .ref v0), (1, .int v1), (2, .int v2)]) dX7_shuttable_13 (by decide) rfl rfl ?_
      obtain ⟨q13, eq13, hE⟩ := Option.bind_eq_some_iff.mp hE
      refine y_pick [1, 2, 3, 0] rfl ?_
      refine l_X7_shuttable_14 (S := S) hm h v0 v2 n v1 (0 : Int32) _ eq13 (fun r8 hr8 => ?_)
      subst hr8
      obtain ⟨x14, ex14, hE⟩ := Option.bind_eq_some_iff.mp hE
      refine y_iinc (ls' := [(2, .int x14), (0, .ref v0), (1, .int q13)]) dX7_shuttable_52 2 rfl (Option.some.inj ex14) (by decide) rfl ?_
      refine y_goto (tgt := 4) dX7_shuttable_55 (by decide) ?_
      refine y_pick [1, 2, 0] rfl ?_
      exact ih _ _ _ hE K
def f_X7_shuttable (n : Nat) (h : xH) (a0 : Nat) : Option (Int32) :=
  (f_X7_shuttable_L4 n h a0 n (0 : Int32) (0 : Int32)).bind fun q16 =>
  some q16
set_option maxRecDepth 100000 in
set_option maxHeartbeats 4000000 in
theorem c_X7_shuttable {n : Nat} {h : xH} {a0 : Nat} {r9 : Int32} (hE : f_X7_shuttable n h a0 = some r9) : Ctr M_X7_shuttable [.ref a0] h (some (.int r9)) h 0 0 := by
  refine ctr_of (by decide) (fun _ _ => Nat.le_of_ble_eq_true rfl) (fun S => ?_)
  show Y S M_X7_shuttable h (some (.int r9)) h 0 0 0 [(0, .ref a0)] [] h 0 0
  unfold f_X7_shuttable at hE
  refine y_iconst (v := (0 : Int32)) dX7_shuttable_0 (by decide) ?_
  refine y_istore_n (ls' := [(1, .int (0 : Int32)), (0, .ref a0)]) dX7_shuttable_1 (by decide) rfl rfl ?_
  refine y_iconst (v := (0 : Int32)) dX7_shuttable_2 (by decide) ?_
  refine y_istore_n (ls' := [(2, .int (0 : Int32)), (1, .int (0 : Int32)), (0, .ref a0)]) dX7_shuttable_3 (by decide) rfl rfl ?_
  obtain ⟨q16, eq16, hE⟩ := Option.bind_eq_some_iff.mp hE
  refine y_pick [2, 1, 0] rfl ?_
  refine l_X7_shuttable_4 (S := S) ⟨Nat.le_refl _, Nat.le_refl _⟩ n h a0 n (0 : Int32) (0 : Int32) _ eq16 (fun r8 hr8 => ?_)
  subst hr8
  refine y_iload_n dX7_shuttable_58 0 rfl ?_
  obtain rfl := Option.some.inj hE
  exact y_ret dX7_shuttable_59 (Nat.le_refl _) (Nat.le_refl _) ⟨_, rfl, rfl⟩
def f_X7_says_J117 (n : Nat) (h : xH) (v0 : Nat) (v1 : Int32) (v2 : Int32) : Option (Int32 × xH) :=
  (x_gR h v0 7 0).bind fun a29 =>
  (x_ld h a29 v1).bind fun x30 =>
  if x30 = 0 then
    (x_ob h v0 7).bind fun u31 =>
    (f_X7_refuse h v0 (-4 : Int32)).bind fun q32 =>
    some (q32.1, q32.2)
  else
    (x_gR h v0 7 5).bind fun a33 =>
    (x_ld h a33 v1).bind fun x34 =>
    if v2 = (0 : Int32) then
      (x_ob h v0 7).bind fun u35 =>
      (f_X7_weightOf h v0 x34).bind fun q36 =>
      some (q36, h)
    else
    if v2 = (1 : Int32) then
      (x_gR h v0 7 10).bind fun a38 =>
      (x_ldQ h a38 x34).bind fun a39 =>
      (x_ld h a39 (1 : Int32)).bind fun x40 =>
      some (x40, h)
    else
    if v2 = (3 : Int32) then
      (x_gR h v0 7 10).bind fun a42 =>
      (x_ldQ h a42 x34).bind fun a43 =>
      (x_ld h a43 (1 : Int32)).bind fun x44 =>
      (x_ob h v0 7).bind fun u45 =>
      (f_X7_isSomebodyIn n h v0 x44).bind fun q46 =>
      if q46 = 0 then
        some ((0 : Int32), h)
      else
        some ((1 : Int32), h)
    else
    if v2 = (4 : Int32) then
      (x_gR h v0 7 10).bind fun a49 =>
      (x_ldQ h a49 x34).bind fun a50 =>
      (x_ld h a50 (2 : Int32)).bind fun x51 =>
      (x_ob h v0 7).bind fun u52 =>
      (f_X7_isSomebodyIn n h v0 x51).bind fun q53 =>
      if q53 = 0 then
        some ((0 : Int32), h)
      else
        some ((1 : Int32), h)
    else
    (x_ob h v0 7).bind fun u56 =>
    (f_X7_shuttable n h v0).bind fun q57 =>
    some (((i_shr q57 x34) &&& (1 : Int32)), h)
set_option maxRecDepth 100000 in
set_option maxHeartbeats 4000000 in
theorem j_X7_says_117 {S : Nat × (Nat → Int32)} {h0 : xH} {mc ms cells slots : Nat} {n : Nat} {h : xH} {v0 : Nat} {v1 : Int32} {v2 : Int32} {r9 : Int32} {hz : xH} (hE : f_X7_says_J117 n h v0 v1 v2 = some (r9, hz)) (hm : cells ≤ mc ∧ slots ≤ ms) : Y S M_X7_says h0 (some (.int r9)) hz mc ms 117 [(0, .ref v0), (1, .int v1), (2, .int v2)] [] h cells slots := by
  unfold f_X7_says_J117 at hE
  refine y_aload_n dX7_says_117 0 rfl ?_
  obtain ⟨a29, ea29, hE⟩ := Option.bind_eq_some_iff.mp hE
  refine y_getR fl_X7_7 ea29 dX7_says_118 ?_
  refine y_iload_n dX7_says_121 1 rfl ?_
  obtain ⟨x30, ex30, hE⟩ := Option.bind_eq_some_iff.mp hE
  refine y_iald ex30 dX7_says_122 ?_
  refine y_if_ne (tgt := 133) dX7_says_123 (by decide) (fun hc58 => ?_) (fun hc58 => ?_)
  · rw [if_pos hc58] at hE
    refine y_aload_n dX7_says_126 0 rfl ?_
    refine y_bipush (v := (-4 : Int32)) dX7_says_127 (by decide) ?_
    obtain ⟨u31, eu31, hE⟩ := Option.bind_eq_some_iff.mp hE
    obtain ⟨q32, eq32, hE⟩ := Option.bind_eq_some_iff.mp hE
    refine y_cVi0 (st := []) (as := [.int (-4 : Int32)]) (c_X7_refuse eq32) lk_X7_77 in_X7_refuse se_X7_refuse rfl eu31 ⟨Nat.le_of_ble_eq_true rfl, Nat.le_of_ble_eq_true rfl⟩ (Nat.le_of_ble_eq_true rfl) dX7_says_129 hm rfl ?_
    obtain ⟨rfl, rfl⟩ := x_inj2 hE
    exact y_ret dX7_says_132 hm.1 hm.2 ⟨_, rfl, rfl⟩
  · rw [if_neg hc58] at hE
    refine y_aload_n dX7_says_133 0 rfl ?_
    obtain ⟨a33, ea33, hE⟩ := Option.bind_eq_some_iff.mp hE
    refine y_getR fl_X7_28 ea33 dX7_says_134 ?_
    refine y_iload_n dX7_says_137 1 rfl ?_
    obtain ⟨x34, ex34, hE⟩ := Option.bind_eq_some_iff.mp hE
    refine y_iald ex34 dX7_says_138 ?_
    refine y_istore (ls' := [(5, .int x34), (0, .ref v0), (1, .int v1), (2, .int v2)]) dX7_says_139 (by decide) rfl rfl ?_
    refine y_iload_n dX7_says_141 3 rfl ?_
    by_cases hc37 : v2 = (0 : Int32)
    · rw [if_pos hc37] at hE
      have hk := hc37
      refine y_tabIn (tgt := 176) dX7_says_142 (by rw [hk]; decide) (by rw [hk]; decide) (by rw [hk]; rfl) (by decide) ?_
      refine y_aload_n dX7_says_176 1 rfl ?_
      refine y_iload dX7_says_177 0 rfl ?_
      obtain ⟨u35, eu35, hE⟩ := Option.bind_eq_some_iff.mp hE
      obtain ⟨q36, eq36, hE⟩ := Option.bind_eq_some_iff.mp hE
      refine y_cVi0 (st := []) (as := [.int x34]) (c_X7_weightOf eq36) lk_X7_94 in_X7_weightOf se_X7_weightOf rfl eu35 ⟨Nat.le_of_ble_eq_true rfl, Nat.le_of_ble_eq_true rfl⟩ (Nat.le_of_ble_eq_true rfl) dX7_says_179 hm rfl ?_
      obtain ⟨rfl, rfl⟩ := x_inj2 hE
      exact y_ret dX7_says_182 hm.1 hm.2 ⟨_, rfl, rfl⟩
    · rw [if_neg hc37] at hE
      by_cases hc41 : v2 = (1 : Int32)
      · rw [if_pos hc41] at hE
        have hk := hc41
        refine y_tabIn (tgt := 183) dX7_says_142 (by rw [hk]; decide) (by rw [hk]; decide) (by rw [hk]; rfl) (by decide) ?_
        refine y_aload_n dX7_says_183 1 rfl ?_
        obtain ⟨a38, ea38, hE⟩ := Option.bind_eq_some_iff.mp hE
        refine y_getR fl_X7_39 ea38 dX7_says_184 ?_
        refine y_iload dX7_says_187 0 rfl ?_
        obtain ⟨a39, ea39, hE⟩ := Option.bind_eq_some_iff.mp hE
        refine y_aald ea39 dX7_says_189 ?_
        refine y_iconst (v := (1 : Int32)) dX7_says_190 (by decide) ?_
        obtain ⟨x40, ex40, hE⟩ := Option.bind_eq_some_iff.mp hE
        refine y_iald ex40 dX7_says_191 ?_
        obtain ⟨rfl, rfl⟩ := x_inj2 hE
        exact y_ret dX7_says_192 hm.1 hm.2 ⟨_, rfl, rfl⟩
      · rw [if_neg hc41] at hE
        by_cases hc48 : v2 = (3 : Int32)
        · rw [if_pos hc48] at hE
          have hk := hc48
          refine y_tabIn (tgt := 193) dX7_says_142 (by rw [hk]; decide) (by rw [hk]; decide) (by rw [hk]; rfl) (by decide) ?_
          refine y_aload_n dX7_says_193 1 rfl ?_
          refine y_aload_n dX7_says_194 1 rfl ?_
          obtain ⟨a42, ea42, hE⟩ := Option.bind_eq_some_iff.mp hE
          refine y_getR fl_X7_39 ea42 dX7_says_195 ?_
          refine y_iload dX7_says_198 0 rfl ?_
          obtain ⟨a43, ea43, hE⟩ := Option.bind_eq_some_iff.mp hE
          refine y_aald ea43 dX7_says_200 ?_
          refine y_iconst (v := (1 : Int32)) dX7_says_201 (by decide) ?_
          obtain ⟨x44, ex44, hE⟩ := Option.bind_eq_some_iff.mp hE
          refine y_iald ex44 dX7_says_202 ?_
          obtain ⟨u45, eu45, hE⟩ := Option.bind_eq_some_iff.mp hE
          obtain ⟨q46, eq46, hE⟩ := Option.bind_eq_some_iff.mp hE
          refine y_cVi0 (st := []) (as := [.int x44]) (c_X7_isSomebodyIn eq46) lk_X7_97 in_X7_isSomebodyIn se_X7_isSomebodyIn rfl eu45 ⟨Nat.le_of_ble_eq_true rfl, Nat.le_of_ble_eq_true rfl⟩ (Nat.le_of_ble_eq_true rfl) dX7_says_203 hm rfl ?_
          refine y_if_eq (tgt := 213) dX7_says_206 (by decide) (fun hc47 => ?_) (fun hc47 => ?_)
          · rw [if_pos hc47] at hE
            refine y_iconst (v := (0 : Int32)) dX7_says_213 (by decide) ?_
            obtain ⟨rfl, rfl⟩ := x_inj2 hE
            exact y_ret dX7_says_214 hm.1 hm.2 ⟨_, rfl, rfl⟩
          · rw [if_neg hc47] at hE
            refine y_iconst (v := (1 : Int32)) dX7_says_209 (by decide) ?_
            refine y_goto (tgt := 214) dX7_says_210 (by decide) ?_
            obtain ⟨rfl, rfl⟩ := x_inj2 hE
            exact y_ret dX7_says_214 hm.1 hm.2 ⟨_, rfl, rfl⟩
        · rw [if_neg hc48] at hE
          by_cases hc55 : v2 = (4 : Int32)
          · rw [if_pos hc55] at hE
            have hk := hc55
            refine y_tabIn (tgt := 215) dX7_says_142 (by rw [hk]; decide) (by rw [hk]; decide) (by rw [hk]; rfl) (by decide) ?_
            refine y_aload_n dX7_says_215 1 rfl ?_
            refine y_aload_n dX7_says_216 1 rfl ?_
            obtain ⟨a49, ea49, hE⟩ := Option.bind_eq_some_iff.mp hE
            refine y_getR fl_X7_39 ea49 dX7_says_217 ?_
            refine y_iload dX7_says_220 0 rfl ?_
            obtain ⟨a50, ea50, hE⟩ := Option.bind_eq_some_iff.mp hE
            refine y_aald ea50 dX7_says_222 ?_
            refine y_iconst (v := (2 : Int32)) dX7_says_223 (by decide) ?_
            obtain ⟨x51, ex51, hE⟩ := Option.bind_eq_some_iff.mp hE
            refine y_iald ex51 dX7_says_224 ?_
            obtain ⟨u52, eu52, hE⟩ := Option.bind_eq_some_iff.mp hE
            obtain ⟨q53, eq53, hE⟩ := Option.bind_eq_some_iff.mp hE
            refine y_cVi0 (st := []) (as := [.int x51]) (c_X7_isSomebodyIn eq53) lk_X7_97 in_X7_isSomebodyIn se_X7_isSomebodyIn rfl eu52 ⟨Nat.le_of_ble_eq_true rfl, Nat.le_of_ble_eq_true rfl⟩ (Nat.le_of_ble_eq_true rfl) dX7_says_225 hm rfl ?_
            refine y_if_eq (tgt := 235) dX7_says_228 (by decide) (fun hc54 => ?_) (fun hc54 => ?_)
            · rw [if_pos hc54] at hE
              refine y_iconst (v := (0 : Int32)) dX7_says_235 (by decide) ?_
              obtain ⟨rfl, rfl⟩ := x_inj2 hE
              exact y_ret dX7_says_236 hm.1 hm.2 ⟨_, rfl, rfl⟩
            · rw [if_neg hc54] at hE
              refine y_iconst (v := (1 : Int32)) dX7_says_231 (by decide) ?_
              refine y_goto (tgt := 236) dX7_says_232 (by decide) ?_
              obtain ⟨rfl, rfl⟩ := x_inj2 hE
              exact y_ret dX7_says_236 hm.1 hm.2 ⟨_, rfl, rfl⟩
          · rw [if_neg hc55] at hE
            have hT : Y S M_X7_says h0 (some (.int r9)) hz mc ms 237 [(5, .int x34), (0, .ref v0), (1, .int v1), (2, .int v2)] [] h cells slots := by
              refine y_aload_n dX7_says_237 1 rfl ?_
              obtain ⟨u56, eu56, hE⟩ := Option.bind_eq_some_iff.mp hE
              obtain ⟨q57, eq57, hE⟩ := Option.bind_eq_some_iff.mp hE
              refine y_cVi0 (st := []) (as := []) (c_X7_shuttable eq57) lk_X7_100 in_X7_shuttable se_X7_shuttable rfl eu56 ⟨Nat.le_of_ble_eq_true rfl, Nat.le_of_ble_eq_true rfl⟩ (Nat.le_of_ble_eq_true rfl) dX7_says_238 hm rfl ?_
              refine y_iload dX7_says_241 0 rfl ?_
              refine y_ishr dX7_says_243 ?_
              refine y_iconst (v := (1 : Int32)) dX7_says_244 (by decide) ?_
              refine y_iand dX7_says_245 ?_
              obtain ⟨rfl, rfl⟩ := x_inj2 hE
              exact y_ret dX7_says_246 hm.1 hm.2 ⟨_, rfl, rfl⟩
            by_cases hk2 : v2 = (2 : Int32)
            · have hk := hk2
              exact y_tabIn (tgt := 237) dX7_says_142 (by rw [hk]; decide) (by rw [hk]; decide) (by rw [hk]; rfl) (by decide) hT
            have hO : (v2).toInt < 0 ∨ 4 < (v2).toInt := by
              refine x_tabo (by decide) (by decide) (fun j g1 g2 => ?_)
              rcases (show j = 0 ∨ j = 1 ∨ j = 2 ∨ j = 3 ∨ j = 4 by omega) with rfl | rfl | rfl | rfl | rfl
              · exact hc37
              · exact hc41
              · exact hk2
              · exact hc48
              · exact hc55
            exact y_tabOut (tgt := 237) dX7_says_142 hO (by decide) hT
def f_X7_says (n : Nat) (h : xH) (a0 : Nat) (p1 : Int32) (p2 : Int32) : Option (Int32 × xH) :=
  (f_X7_in h p1.toInt64 (0 : Int64) (7 : Int64)).bind fun q1 =>
  if q1 = 0 then
    (x_ob h a0 7).bind fun u2 =>
    (f_X7_refuse h a0 (-2 : Int32)).bind fun q3 =>
    some (q3.1, q3.2)
  else
    (f_X7_in h p2.toInt64 (0 : Int64) (5 : Int64)).bind fun q4 =>
    if q4 = 0 then
      (x_ob h a0 7).bind fun u5 =>
      (f_X7_refuse h a0 (-2 : Int32)).bind fun q6 =>
      some (q6.1, q6.2)
    else
      (x_gR h a0 7 0).bind fun a7 =>
      (x_ld h a7 p1).bind fun x8 =>
      (
        if x8 = (2 : Int32) then
          (x_gR h a0 7 10).bind fun a10 =>
          (x_gR h a0 7 5).bind fun a11 =>
          (x_ld h a11 p1).bind fun x12 =>
          (x_ldQ h a10 x12).bind fun a13 =>
          (x_ld h a13 (0 : Int32)).bind fun x14 =>
          some x14
        else
          some (-1 : Int32)
      ).bind fun q9 =>
      (
        if p2 = 0 then
          some (1 : Int32)
        else
          if q9 = p2 then
            some (1 : Int32)
          else
            if p2 = (2 : Int32) then
              if q9 = (5 : Int32) then
                some (1 : Int32)
              else
                some (0 : Int32)
            else
              some (0 : Int32)
      ).bind fun q16 =>
      (x_gR h a0 7 0).bind fun a21 =>
      (x_ld h a21 p1).bind fun x22 =>
      if x22 = (1 : Int32) then
        (x_ob h a0 7).bind fun u23 =>
        (f_X7_refuse h a0 (-3 : Int32)).bind fun q24 =>
        some (q24.1, q24.2)
      else
        (x_gR h a0 7 0).bind fun a25 =>
        (x_ld h a25 p1).bind fun x26 =>
        if x26 = (2 : Int32) then
          if q16 = 0 then
            (x_ob h a0 7).bind fun u27 =>
            (f_X7_refuse h a0 (-3 : Int32)).bind fun q28 =>
            some (q28.1, q28.2)
          else
            f_X7_says_J117 n h a0 p1 p2
        else
          f_X7_says_J117 n h a0 p1 p2
set_option maxRecDepth 100000 in
set_option maxHeartbeats 4000000 in
theorem c_X7_says {n : Nat} {h : xH} {a0 : Nat} {p1 : Int32} {p2 : Int32} {r9 : Int32} {hz : xH} (hE : f_X7_says n h a0 p1 p2 = some (r9, hz)) : Ctr M_X7_says [.ref a0, .int p1, .int p2] h (some (.int r9)) hz 0 0 := by
  refine ctr_of (by decide) (fun _ _ => Nat.le_of_ble_eq_true rfl) (fun S => ?_)
  show Y S M_X7_says h (some (.int r9)) hz 0 0 0 [(0, .ref a0), (1, .int p1), (2, .int p2)] [] h 0 0
  unfold f_X7_says at hE
  refine y_iload_n dX7_says_0 1 rfl ?_
  refine y_i2l dX7_says_1 ?_
  refine y_lconst (v := (0 : Int64)) dX7_says_2 (by decide) ?_
  refine y_ldc2 (v := (7 : Int64)) (x_wt (tb 1051 (by decide +kernel)) rfl) dX7_says_3 ?_
  obtain ⟨q1, eq1, hE⟩ := Option.bind_eq_some_iff.mp hE
  refine y_cSi0 (st := []) (as := [.long p1.toInt64, .long (0 : Int64), .long (7 : Int64)]) (c_X7_in eq1) lk_X7_64 st_X7_in ⟨Nat.le_of_ble_eq_true rfl, Nat.le_of_ble_eq_true rfl⟩ (Nat.le_of_ble_eq_true rfl) dX7_says_6 ⟨Nat.le_refl _, Nat.le_refl _⟩ rfl ?_
  refine y_if_eq (tgt := 24) dX7_says_9 (by decide) (fun hc63 => ?_) (fun hc63 => ?_)
  · rw [if_pos hc63] at hE
    refine y_aload_n dX7_says_24 0 rfl ?_
    refine y_bipush (v := (-2 : Int32)) dX7_says_25 (by decide) ?_
    obtain ⟨u2, eu2, hE⟩ := Option.bind_eq_some_iff.mp hE
    obtain ⟨q3, eq3, hE⟩ := Option.bind_eq_some_iff.mp hE
    refine y_cVi0 (st := []) (as := [.int (-2 : Int32)]) (c_X7_refuse eq3) lk_X7_77 in_X7_refuse se_X7_refuse rfl eu2 ⟨Nat.le_of_ble_eq_true rfl, Nat.le_of_ble_eq_true rfl⟩ (Nat.le_of_ble_eq_true rfl) dX7_says_27 ⟨Nat.le_refl _, Nat.le_refl _⟩ rfl ?_
    obtain ⟨rfl, rfl⟩ := x_inj2 hE
    exact y_ret dX7_says_30 (Nat.le_refl _) (Nat.le_refl _) ⟨_, rfl, rfl⟩
  · rw [if_neg hc63] at hE
    refine y_iload_n dX7_says_12 2 rfl ?_
    refine y_i2l dX7_says_13 ?_
    refine y_lconst (v := (0 : Int64)) dX7_says_14 (by decide) ?_
    refine y_ldc2 (v := (5 : Int64)) (x_wt (tb 1096 (by decide +kernel)) rfl) dX7_says_15 ?_
    obtain ⟨q4, eq4, hE⟩ := Option.bind_eq_some_iff.mp hE
    refine y_cSi0 (st := []) (as := [.long p2.toInt64, .long (0 : Int64), .long (5 : Int64)]) (c_X7_in eq4) lk_X7_64 st_X7_in ⟨Nat.le_of_ble_eq_true rfl, Nat.le_of_ble_eq_true rfl⟩ (Nat.le_of_ble_eq_true rfl) dX7_says_18 ⟨Nat.le_refl _, Nat.le_refl _⟩ rfl ?_
    refine y_if_ne (tgt := 31) dX7_says_21 (by decide) (fun hc62 => ?_) (fun hc62 => ?_)
    · rw [if_pos hc62] at hE
      refine y_aload_n dX7_says_24 0 rfl ?_
      refine y_bipush (v := (-2 : Int32)) dX7_says_25 (by decide) ?_
      obtain ⟨u5, eu5, hE⟩ := Option.bind_eq_some_iff.mp hE
      obtain ⟨q6, eq6, hE⟩ := Option.bind_eq_some_iff.mp hE
      refine y_cVi0 (st := []) (as := [.int (-2 : Int32)]) (c_X7_refuse eq6) lk_X7_77 in_X7_refuse se_X7_refuse rfl eu5 ⟨Nat.le_of_ble_eq_true rfl, Nat.le_of_ble_eq_true rfl⟩ (Nat.le_of_ble_eq_true rfl) dX7_says_27 ⟨Nat.le_refl _, Nat.le_refl _⟩ rfl ?_
      obtain ⟨rfl, rfl⟩ := x_inj2 hE
      exact y_ret dX7_says_30 (Nat.le_refl _) (Nat.le_refl _) ⟨_, rfl, rfl⟩
    · rw [if_neg hc62] at hE
      refine y_aload_n dX7_says_31 0 rfl ?_
      obtain ⟨a7, ea7, hE⟩ := Option.bind_eq_some_iff.mp hE
      refine y_getR fl_X7_7 ea7 dX7_says_32 ?_
      refine y_iload_n dX7_says_35 1 rfl ?_
      obtain ⟨x8, ex8, hE⟩ := Option.bind_eq_some_iff.mp hE
      refine y_iald ex8 dX7_says_36 ?_
      refine y_iconst (v := (2 : Int32)) dX7_says_37 (by decide) ?_
      obtain ⟨q9, eJ, hE⟩ := Option.bind_eq_some_iff.mp hE
      have hJ : Y S M_X7_says h (some (.int r9)) hz 0 0 58 [(0, .ref a0), (1, .int p1), (2, .int p2)] [.int q9] h 0 0 := by
        refine y_istore_n (ls' := [(3, .int q9), (0, .ref a0), (1, .int p1), (2, .int p2)]) dX7_says_58 (by decide) rfl rfl ?_
        refine y_iload_n dX7_says_59 3 rfl ?_
        obtain ⟨q16, eJ, hE⟩ := Option.bind_eq_some_iff.mp hE
        have hJ : Y S M_X7_says h (some (.int r9)) hz 0 0 83 [(0, .ref a0), (1, .int p1), (2, .int p2)] [.int q16] h 0 0 := by
          refine y_istore (ls' := [(4, .int q16), (0, .ref a0), (1, .int p1), (2, .int p2)]) dX7_says_83 (by decide) rfl rfl ?_
          refine y_aload_n dX7_says_85 1 rfl ?_
          obtain ⟨a21, ea21, hE⟩ := Option.bind_eq_some_iff.mp hE
          refine y_getR fl_X7_7 ea21 dX7_says_86 ?_
          refine y_iload_n dX7_says_89 2 rfl ?_
          obtain ⟨x22, ex22, hE⟩ := Option.bind_eq_some_iff.mp hE
          refine y_iald ex22 dX7_says_90 ?_
          refine y_iconst (v := (1 : Int32)) dX7_says_91 (by decide) ?_
          refine y_icmp_eq (tgt := 110) dX7_says_92 (by decide) (fun hc61 => ?_) (fun hc61 => ?_)
          · rw [if_pos hc61] at hE
            refine y_aload_n dX7_says_110 1 rfl ?_
            refine y_bipush (v := (-3 : Int32)) dX7_says_111 (by decide) ?_
            obtain ⟨u23, eu23, hE⟩ := Option.bind_eq_some_iff.mp hE
            obtain ⟨q24, eq24, hE⟩ := Option.bind_eq_some_iff.mp hE
            refine y_cVi0 (st := []) (as := [.int (-3 : Int32)]) (c_X7_refuse eq24) lk_X7_77 in_X7_refuse se_X7_refuse rfl eu23 ⟨Nat.le_of_ble_eq_true rfl, Nat.le_of_ble_eq_true rfl⟩ (Nat.le_of_ble_eq_true rfl) dX7_says_113 ⟨Nat.le_refl _, Nat.le_refl _⟩ rfl ?_
            obtain ⟨rfl, rfl⟩ := x_inj2 hE
            exact y_ret dX7_says_116 (Nat.le_refl _) (Nat.le_refl _) ⟨_, rfl, rfl⟩
          · rw [if_neg hc61] at hE
            refine y_aload_n dX7_says_95 1 rfl ?_
            obtain ⟨a25, ea25, hE⟩ := Option.bind_eq_some_iff.mp hE
            refine y_getR fl_X7_7 ea25 dX7_says_96 ?_
            refine y_iload_n dX7_says_99 2 rfl ?_
            obtain ⟨x26, ex26, hE⟩ := Option.bind_eq_some_iff.mp hE
            refine y_iald ex26 dX7_says_100 ?_
            refine y_iconst (v := (2 : Int32)) dX7_says_101 (by decide) ?_
            refine y_icmp_ne (tgt := 117) dX7_says_102 (by decide) (fun hc60 => ?_) (fun hc60 => ?_)
            · rw [if_pos hc60] at hE
              refine y_iload dX7_says_105 0 rfl ?_
              refine y_if_ne (tgt := 117) dX7_says_107 (by decide) (fun hc59 => ?_) (fun hc59 => ?_)
              · rw [if_pos hc59] at hE
                refine y_aload_n dX7_says_110 1 rfl ?_
                refine y_bipush (v := (-3 : Int32)) dX7_says_111 (by decide) ?_
                obtain ⟨u27, eu27, hE⟩ := Option.bind_eq_some_iff.mp hE
                obtain ⟨q28, eq28, hE⟩ := Option.bind_eq_some_iff.mp hE
                refine y_cVi0 (st := []) (as := [.int (-3 : Int32)]) (c_X7_refuse eq28) lk_X7_77 in_X7_refuse se_X7_refuse rfl eu27 ⟨Nat.le_of_ble_eq_true rfl, Nat.le_of_ble_eq_true rfl⟩ (Nat.le_of_ble_eq_true rfl) dX7_says_113 ⟨Nat.le_refl _, Nat.le_refl _⟩ rfl ?_
                obtain ⟨rfl, rfl⟩ := x_inj2 hE
                exact y_ret dX7_says_116 (Nat.le_refl _) (Nat.le_refl _) ⟨_, rfl, rfl⟩
              · rw [if_neg hc59] at hE
                refine y_pick [1, 2, 3] rfl ?_
                exact j_X7_says_117 hE ⟨Nat.le_refl _, Nat.le_refl _⟩
            · rw [if_neg hc60] at hE
              refine y_pick [1, 2, 3] rfl ?_
              exact j_X7_says_117 hE ⟨Nat.le_refl _, Nat.le_refl _⟩
        clear hE
        have hE := eJ
        clear eJ
        refine y_if_eq (tgt := 78) dX7_says_60 (by decide) (fun hc20 => ?_) (fun hc20 => ?_)
        · rw [if_pos hc20] at hE
          refine y_iconst (v := (1 : Int32)) dX7_says_78 (by decide) ?_
          refine y_goto (tgt := 83) dX7_says_79 (by decide) ?_
          obtain rfl := Option.some.inj hE
          exact y_pick [1, 2, 3] rfl hJ
        · rw [if_neg hc20] at hE
          refine y_iload_n dX7_says_63 0 rfl ?_
          refine y_iload_n dX7_says_64 3 rfl ?_
          refine y_icmp_eq (tgt := 78) dX7_says_65 (by decide) (fun hc19 => ?_) (fun hc19 => ?_)
          · rw [if_pos hc19] at hE
            refine y_iconst (v := (1 : Int32)) dX7_says_78 (by decide) ?_
            refine y_goto (tgt := 83) dX7_says_79 (by decide) ?_
            obtain rfl := Option.some.inj hE
            exact y_pick [1, 2, 3] rfl hJ
          · rw [if_neg hc19] at hE
            refine y_iload_n dX7_says_68 3 rfl ?_
            refine y_iconst (v := (2 : Int32)) dX7_says_69 (by decide) ?_
            refine y_icmp_ne (tgt := 82) dX7_says_70 (by decide) (fun hc18 => ?_) (fun hc18 => ?_)
            · rw [if_pos hc18] at hE
              refine y_iload_n dX7_says_73 0 rfl ?_
              refine y_iconst (v := (5 : Int32)) dX7_says_74 (by decide) ?_
              refine y_icmp_ne (tgt := 82) dX7_says_75 (by decide) (fun hc17 => ?_) (fun hc17 => ?_)
              · rw [if_pos hc17] at hE
                refine y_iconst (v := (1 : Int32)) dX7_says_78 (by decide) ?_
                refine y_goto (tgt := 83) dX7_says_79 (by decide) ?_
                obtain rfl := Option.some.inj hE
                exact y_pick [1, 2, 3] rfl hJ
              · rw [if_neg hc17] at hE
                refine y_iconst (v := (0 : Int32)) dX7_says_82 (by decide) ?_
                obtain rfl := Option.some.inj hE
                exact y_pick [1, 2, 3] rfl hJ
            · rw [if_neg hc18] at hE
              refine y_iconst (v := (0 : Int32)) dX7_says_82 (by decide) ?_
              obtain rfl := Option.some.inj hE
              exact y_pick [1, 2, 3] rfl hJ
      clear hE
      have hE := eJ
      clear eJ
      refine y_icmp_ne (tgt := 57) dX7_says_38 (by decide) (fun hc15 => ?_) (fun hc15 => ?_)
      · rw [if_pos hc15] at hE
        refine y_aload_n dX7_says_41 0 rfl ?_
        obtain ⟨a10, ea10, hE⟩ := Option.bind_eq_some_iff.mp hE
        refine y_getR fl_X7_39 ea10 dX7_says_42 ?_
        refine y_aload_n dX7_says_45 0 rfl ?_
        obtain ⟨a11, ea11, hE⟩ := Option.bind_eq_some_iff.mp hE
        refine y_getR fl_X7_28 ea11 dX7_says_46 ?_
        refine y_iload_n dX7_says_49 1 rfl ?_
        obtain ⟨x12, ex12, hE⟩ := Option.bind_eq_some_iff.mp hE
        refine y_iald ex12 dX7_says_50 ?_
        obtain ⟨a13, ea13, hE⟩ := Option.bind_eq_some_iff.mp hE
        refine y_aald ea13 dX7_says_51 ?_
        refine y_iconst (v := (0 : Int32)) dX7_says_52 (by decide) ?_
        obtain ⟨x14, ex14, hE⟩ := Option.bind_eq_some_iff.mp hE
        refine y_iald ex14 dX7_says_53 ?_
        refine y_goto (tgt := 58) dX7_says_54 (by decide) ?_
        obtain rfl := Option.some.inj hE
        exact y_pick [0, 1, 2] rfl hJ
      · rw [if_neg hc15] at hE
        refine y_iconst (v := (-1 : Int32)) dX7_says_57 (by decide) ?_
        obtain rfl := Option.some.inj hE
        exact y_pick [0, 1, 2] rfl hJ
def f_X7_door_J45 (h : xH) (v0 : Nat) (v1 : Int32) (v2 : Int32) (v3 : Int32) : Option (Int32 × xH) :=
  (x_gI h v0 7 9).bind fun x7 =>
  if x7 = (14 : Int32) then
    (x_ob h v0 7).bind fun u8 =>
    (f_X7_refuse h v0 (-6 : Int32)).bind fun q9 =>
    some (q9.1, q9.2)
  else
    (x_gR h v0 7 10).bind fun a10 =>
    (x_gI h v0 7 9).bind fun x11 =>
    (x_ldQ h a10 x11).bind fun a12 =>
    (x_st h a12 (0 : Int32) v1).bind fun h13 =>
    (x_gR h13 v0 7 10).bind fun a14 =>
    (x_gI h13 v0 7 9).bind fun x15 =>
    (x_ldQ h13 a14 x15).bind fun a16 =>
    (x_st h13 a16 (1 : Int32) v2).bind fun h17 =>
    (x_gR h17 v0 7 10).bind fun a18 =>
    (x_gI h17 v0 7 9).bind fun x19 =>
    (x_ldQ h17 a18 x19).bind fun a20 =>
    (
      if v1 = (1 : Int32) then
        some v2
      else
        some v3
    ).bind fun q21 =>
    (x_st h17 a20 (2 : Int32) q21).bind fun h23 =>
    (x_gI h23 v0 7 11).bind fun x24 =>
    (x_gI h23 v0 7 9).bind fun x25 =>
    (x_put h23 v0 7 11 (.int (x24 &&& ((i_shl (1 : Int32) x25) ^^^ (-1 : Int32))))).bind fun h26 =>
    (x_gI h26 v0 7 9).bind fun x27 =>
    (x_put h26 v0 7 9 (.int (x27 + (1 : Int32)))).bind fun h28 =>
    some (x27, h28)
set_option maxRecDepth 100000 in
set_option maxHeartbeats 4000000 in
theorem j_X7_door_45 {S : Nat × (Nat → Int32)} {h0 : xH} {mc ms cells slots : Nat} {h : xH} {v0 : Nat} {v1 : Int32} {v2 : Int32} {v3 : Int32} {r9 : Int32} {hz : xH} (hE : f_X7_door_J45 h v0 v1 v2 v3 = some (r9, hz)) (hm : cells ≤ mc ∧ slots ≤ ms) : Y S M_X7_door h0 (some (.int r9)) hz mc ms 45 [(0, .ref v0), (1, .int v1), (2, .int v2), (3, .int v3)] [] h cells slots := by
  unfold f_X7_door_J45 at hE
  refine y_aload_n dX7_door_45 0 rfl ?_
  obtain ⟨x7, ex7, hE⟩ := Option.bind_eq_some_iff.mp hE
  refine y_getI fl_X7_61 ex7 dX7_door_46 ?_
  refine y_bipush (v := (14 : Int32)) dX7_door_49 (by decide) ?_
  refine y_icmp_ne (tgt := 61) dX7_door_51 (by decide) (fun hc29 => ?_) (fun hc29 => ?_)
  · rw [if_pos hc29] at hE
    refine y_aload_n dX7_door_54 0 rfl ?_
    refine y_bipush (v := (-6 : Int32)) dX7_door_55 (by decide) ?_
    obtain ⟨u8, eu8, hE⟩ := Option.bind_eq_some_iff.mp hE
    obtain ⟨q9, eq9, hE⟩ := Option.bind_eq_some_iff.mp hE
    refine y_cVi0 (st := []) (as := [.int (-6 : Int32)]) (c_X7_refuse eq9) lk_X7_77 in_X7_refuse se_X7_refuse rfl eu8 ⟨Nat.le_of_ble_eq_true rfl, Nat.le_of_ble_eq_true rfl⟩ (Nat.le_of_ble_eq_true rfl) dX7_door_57 hm rfl ?_
    obtain ⟨rfl, rfl⟩ := x_inj2 hE
    exact y_ret dX7_door_60 hm.1 hm.2 ⟨_, rfl, rfl⟩
  · rw [if_neg hc29] at hE
    refine y_aload_n dX7_door_61 0 rfl ?_
    obtain ⟨a10, ea10, hE⟩ := Option.bind_eq_some_iff.mp hE
    refine y_getR fl_X7_39 ea10 dX7_door_62 ?_
    refine y_aload_n dX7_door_65 0 rfl ?_
    obtain ⟨x11, ex11, hE⟩ := Option.bind_eq_some_iff.mp hE
    refine y_getI fl_X7_61 ex11 dX7_door_66 ?_
    obtain ⟨a12, ea12, hE⟩ := Option.bind_eq_some_iff.mp hE
    refine y_aald ea12 dX7_door_69 ?_
    refine y_iconst (v := (0 : Int32)) dX7_door_70 (by decide) ?_
    refine y_iload_n dX7_door_71 1 rfl ?_
    obtain ⟨h13, eh13, hE⟩ := Option.bind_eq_some_iff.mp hE
    refine y_iast eh13 dX7_door_72 ?_
    refine y_aload_n dX7_door_73 0 rfl ?_
    obtain ⟨a14, ea14, hE⟩ := Option.bind_eq_some_iff.mp hE
    refine y_getR fl_X7_39 ea14 dX7_door_74 ?_
    refine y_aload_n dX7_door_77 0 rfl ?_
    obtain ⟨x15, ex15, hE⟩ := Option.bind_eq_some_iff.mp hE
    refine y_getI fl_X7_61 ex15 dX7_door_78 ?_
    obtain ⟨a16, ea16, hE⟩ := Option.bind_eq_some_iff.mp hE
    refine y_aald ea16 dX7_door_81 ?_
    refine y_iconst (v := (1 : Int32)) dX7_door_82 (by decide) ?_
    refine y_iload_n dX7_door_83 2 rfl ?_
    obtain ⟨h17, eh17, hE⟩ := Option.bind_eq_some_iff.mp hE
    refine y_iast eh17 dX7_door_84 ?_
    refine y_aload_n dX7_door_85 0 rfl ?_
    obtain ⟨a18, ea18, hE⟩ := Option.bind_eq_some_iff.mp hE
    refine y_getR fl_X7_39 ea18 dX7_door_86 ?_
    refine y_aload_n dX7_door_89 0 rfl ?_
    obtain ⟨x19, ex19, hE⟩ := Option.bind_eq_some_iff.mp hE
    refine y_getI fl_X7_61 ex19 dX7_door_90 ?_
    obtain ⟨a20, ea20, hE⟩ := Option.bind_eq_some_iff.mp hE
    refine y_aald ea20 dX7_door_93 ?_
    refine y_iconst (v := (2 : Int32)) dX7_door_94 (by decide) ?_
    refine y_iload_n dX7_door_95 1 rfl ?_
    refine y_iconst (v := (1 : Int32)) dX7_door_96 (by decide) ?_
    obtain ⟨q21, eJ, hE⟩ := Option.bind_eq_some_iff.mp hE
    have hJ : Y S M_X7_door h0 (some (.int r9)) hz mc ms 105 [(0, .ref v0)] [.int q21, .int (2 : Int32), .ref a20] h17 cells slots := by
      obtain ⟨h23, eh23, hE⟩ := Option.bind_eq_some_iff.mp hE
      refine y_iast eh23 dX7_door_105 ?_
      refine y_aload_n dX7_door_106 0 rfl ?_
      refine y_dup dX7_door_107 rfl ?_
      obtain ⟨x24, ex24, hE⟩ := Option.bind_eq_some_iff.mp hE
      refine y_getI fl_X7_108 ex24 dX7_door_108 ?_
      refine y_iconst (v := (1 : Int32)) dX7_door_111 (by decide) ?_
      refine y_aload_n dX7_door_112 0 rfl ?_
      obtain ⟨x25, ex25, hE⟩ := Option.bind_eq_some_iff.mp hE
      refine y_getI fl_X7_61 ex25 dX7_door_113 ?_
      refine y_ishl dX7_door_116 ?_
      refine y_iconst (v := (-1 : Int32)) dX7_door_117 (by decide) ?_
      refine y_ixor dX7_door_118 ?_
      refine y_iand dX7_door_119 ?_
      obtain ⟨h26, eh26, hE⟩ := Option.bind_eq_some_iff.mp hE
      refine y_putI fp_X7_108 eh26 dX7_door_120 ?_
      refine y_aload_n dX7_door_123 0 rfl ?_
      refine y_dup dX7_door_124 rfl ?_
      obtain ⟨x27, ex27, hE⟩ := Option.bind_eq_some_iff.mp hE
      refine y_getI fl_X7_61 ex27 dX7_door_125 ?_
      refine y_dup_x1 dX7_door_128 rfl rfl ?_
      refine y_iconst (v := (1 : Int32)) dX7_door_129 (by decide) ?_
      refine y_iadd dX7_door_130 ?_
      obtain ⟨h28, eh28, hE⟩ := Option.bind_eq_some_iff.mp hE
      refine y_putI fp_X7_61 eh28 dX7_door_131 ?_
      obtain ⟨rfl, rfl⟩ := x_inj2 hE
      exact y_ret dX7_door_134 hm.1 hm.2 ⟨_, rfl, rfl⟩
    clear hE
    have hE := eJ
    clear eJ
    refine y_icmp_ne (tgt := 104) dX7_door_97 (by decide) (fun hc22 => ?_) (fun hc22 => ?_)
    · rw [if_pos hc22] at hE
      refine y_iload_n dX7_door_100 2 rfl ?_
      refine y_goto (tgt := 105) dX7_door_101 (by decide) ?_
      obtain rfl := Option.some.inj hE
      exact y_pick [0] rfl hJ
    · rw [if_neg hc22] at hE
      refine y_iload_n dX7_door_104 3 rfl ?_
      obtain rfl := Option.some.inj hE
      exact y_pick [0] rfl hJ
def f_X7_door (h : xH) (a0 : Nat) (p1 : Int32) (p2 : Int32) (p3 : Int32) : Option (Int32 × xH) :=
  (f_X7_in h p1.toInt64 (0 : Int64) (5 : Int64)).bind fun q1 =>
  if q1 = 0 then
    (x_ob h a0 7).bind fun u2 =>
    (f_X7_refuse h a0 (-2 : Int32)).bind fun q3 =>
    some (q3.1, q3.2)
  else
    (f_X7_isRoom h p2.toInt64).bind fun q4 =>
    if q4 = 0 then
      (x_ob h a0 7).bind fun u5 =>
      (f_X7_refuse h a0 (-2 : Int32)).bind fun q6 =>
      some (q6.1, q6.2)
    else
      if p1 = (1 : Int32) then
        f_X7_door_J45 h a0 p1 p2 p3
      else
        (f_X7_isRoom h p3.toInt64).bind fun q30 =>
        if q30 = 0 then
          (x_ob h a0 7).bind fun u31 =>
          (f_X7_refuse h a0 (-2 : Int32)).bind fun q32 =>
          some (q32.1, q32.2)
        else
          if p2 = p3 then
            (x_ob h a0 7).bind fun u33 =>
            (f_X7_refuse h a0 (-2 : Int32)).bind fun q34 =>
            some (q34.1, q34.2)
          else
            f_X7_door_J45 h a0 p1 p2 p3
set_option maxRecDepth 100000 in
set_option maxHeartbeats 4000000 in
theorem c_X7_door {h : xH} {a0 : Nat} {p1 : Int32} {p2 : Int32} {p3 : Int32} {r9 : Int32} {hz : xH} (hE : f_X7_door h a0 p1 p2 p3 = some (r9, hz)) : Ctr M_X7_door [.ref a0, .int p1, .int p2, .int p3] h (some (.int r9)) hz 0 0 := by
  refine ctr_of (by decide) (fun _ _ => Nat.le_of_ble_eq_true rfl) (fun S => ?_)
  show Y S M_X7_door h (some (.int r9)) hz 0 0 0 [(0, .ref a0), (1, .int p1), (2, .int p2), (3, .int p3)] [] h 0 0
  unfold f_X7_door at hE
  refine y_iload_n dX7_door_0 1 rfl ?_
  refine y_i2l dX7_door_1 ?_
  refine y_lconst (v := (0 : Int64)) dX7_door_2 (by decide) ?_
  refine y_ldc2 (v := (5 : Int64)) (x_wt (tb 1096 (by decide +kernel)) rfl) dX7_door_3 ?_
  obtain ⟨q1, eq1, hE⟩ := Option.bind_eq_some_iff.mp hE
  refine y_cSi0 (st := []) (as := [.long p1.toInt64, .long (0 : Int64), .long (5 : Int64)]) (c_X7_in eq1) lk_X7_64 st_X7_in ⟨Nat.le_of_ble_eq_true rfl, Nat.le_of_ble_eq_true rfl⟩ (Nat.le_of_ble_eq_true rfl) dX7_door_6 ⟨Nat.le_refl _, Nat.le_refl _⟩ rfl ?_
  refine y_if_eq (tgt := 38) dX7_door_9 (by decide) (fun hc39 => ?_) (fun hc39 => ?_)
  · rw [if_pos hc39] at hE
    refine y_aload_n dX7_door_38 0 rfl ?_
    refine y_bipush (v := (-2 : Int32)) dX7_door_39 (by decide) ?_
    obtain ⟨u2, eu2, hE⟩ := Option.bind_eq_some_iff.mp hE
    obtain ⟨q3, eq3, hE⟩ := Option.bind_eq_some_iff.mp hE
    refine y_cVi0 (st := []) (as := [.int (-2 : Int32)]) (c_X7_refuse eq3) lk_X7_77 in_X7_refuse se_X7_refuse rfl eu2 ⟨Nat.le_of_ble_eq_true rfl, Nat.le_of_ble_eq_true rfl⟩ (Nat.le_of_ble_eq_true rfl) dX7_door_41 ⟨Nat.le_refl _, Nat.le_refl _⟩ rfl ?_
    obtain ⟨rfl, rfl⟩ := x_inj2 hE
    exact y_ret dX7_door_44 (Nat.le_refl _) (Nat.le_refl _) ⟨_, rfl, rfl⟩
  · rw [if_neg hc39] at hE
    refine y_iload_n dX7_door_12 2 rfl ?_
    refine y_i2l dX7_door_13 ?_
    obtain ⟨q4, eq4, hE⟩ := Option.bind_eq_some_iff.mp hE
    refine y_cSi0 (st := []) (as := [.long p2.toInt64]) (c_X7_isRoom eq4) lk_X7_104 st_X7_isRoom ⟨Nat.le_of_ble_eq_true rfl, Nat.le_of_ble_eq_true rfl⟩ (Nat.le_of_ble_eq_true rfl) dX7_door_14 ⟨Nat.le_refl _, Nat.le_refl _⟩ rfl ?_
    refine y_if_eq (tgt := 38) dX7_door_17 (by decide) (fun hc38 => ?_) (fun hc38 => ?_)
    · rw [if_pos hc38] at hE
      refine y_aload_n dX7_door_38 0 rfl ?_
      refine y_bipush (v := (-2 : Int32)) dX7_door_39 (by decide) ?_
      obtain ⟨u5, eu5, hE⟩ := Option.bind_eq_some_iff.mp hE
      obtain ⟨q6, eq6, hE⟩ := Option.bind_eq_some_iff.mp hE
      refine y_cVi0 (st := []) (as := [.int (-2 : Int32)]) (c_X7_refuse eq6) lk_X7_77 in_X7_refuse se_X7_refuse rfl eu5 ⟨Nat.le_of_ble_eq_true rfl, Nat.le_of_ble_eq_true rfl⟩ (Nat.le_of_ble_eq_true rfl) dX7_door_41 ⟨Nat.le_refl _, Nat.le_refl _⟩ rfl ?_
      obtain ⟨rfl, rfl⟩ := x_inj2 hE
      exact y_ret dX7_door_44 (Nat.le_refl _) (Nat.le_refl _) ⟨_, rfl, rfl⟩
    · rw [if_neg hc38] at hE
      refine y_iload_n dX7_door_20 1 rfl ?_
      refine y_iconst (v := (1 : Int32)) dX7_door_21 (by decide) ?_
      refine y_icmp_eq (tgt := 45) dX7_door_22 (by decide) (fun hc37 => ?_) (fun hc37 => ?_)
      · rw [if_pos hc37] at hE
        refine y_pick [0, 1, 2, 3] rfl ?_
        exact j_X7_door_45 hE ⟨Nat.le_refl _, Nat.le_refl _⟩
      · rw [if_neg hc37] at hE
        refine y_iload_n dX7_door_25 3 rfl ?_
        refine y_i2l dX7_door_26 ?_
        obtain ⟨q30, eq30, hE⟩ := Option.bind_eq_some_iff.mp hE
        refine y_cSi0 (st := []) (as := [.long p3.toInt64]) (c_X7_isRoom eq30) lk_X7_104 st_X7_isRoom ⟨Nat.le_of_ble_eq_true rfl, Nat.le_of_ble_eq_true rfl⟩ (Nat.le_of_ble_eq_true rfl) dX7_door_27 ⟨Nat.le_refl _, Nat.le_refl _⟩ rfl ?_
        refine y_if_eq (tgt := 38) dX7_door_30 (by decide) (fun hc36 => ?_) (fun hc36 => ?_)
        · rw [if_pos hc36] at hE
          refine y_aload_n dX7_door_38 0 rfl ?_
          refine y_bipush (v := (-2 : Int32)) dX7_door_39 (by decide) ?_
          obtain ⟨u31, eu31, hE⟩ := Option.bind_eq_some_iff.mp hE
          obtain ⟨q32, eq32, hE⟩ := Option.bind_eq_some_iff.mp hE
          refine y_cVi0 (st := []) (as := [.int (-2 : Int32)]) (c_X7_refuse eq32) lk_X7_77 in_X7_refuse se_X7_refuse rfl eu31 ⟨Nat.le_of_ble_eq_true rfl, Nat.le_of_ble_eq_true rfl⟩ (Nat.le_of_ble_eq_true rfl) dX7_door_41 ⟨Nat.le_refl _, Nat.le_refl _⟩ rfl ?_
          obtain ⟨rfl, rfl⟩ := x_inj2 hE
          exact y_ret dX7_door_44 (Nat.le_refl _) (Nat.le_refl _) ⟨_, rfl, rfl⟩
        · rw [if_neg hc36] at hE
          refine y_iload_n dX7_door_33 2 rfl ?_
          refine y_iload_n dX7_door_34 3 rfl ?_
          refine y_icmp_ne (tgt := 45) dX7_door_35 (by decide) (fun hc35 => ?_) (fun hc35 => ?_)
          · rw [if_pos hc35] at hE
            refine y_aload_n dX7_door_38 0 rfl ?_
            refine y_bipush (v := (-2 : Int32)) dX7_door_39 (by decide) ?_
            obtain ⟨u33, eu33, hE⟩ := Option.bind_eq_some_iff.mp hE
            obtain ⟨q34, eq34, hE⟩ := Option.bind_eq_some_iff.mp hE
            refine y_cVi0 (st := []) (as := [.int (-2 : Int32)]) (c_X7_refuse eq34) lk_X7_77 in_X7_refuse se_X7_refuse rfl eu33 ⟨Nat.le_of_ble_eq_true rfl, Nat.le_of_ble_eq_true rfl⟩ (Nat.le_of_ble_eq_true rfl) dX7_door_41 ⟨Nat.le_refl _, Nat.le_refl _⟩ rfl ?_
            obtain ⟨rfl, rfl⟩ := x_inj2 hE
            exact y_ret dX7_door_44 (Nat.le_refl _) (Nat.le_refl _) ⟨_, rfl, rfl⟩
          · rw [if_neg hc35] at hE
            refine y_pick [0, 1, 2, 3] rfl ?_
            exact j_X7_door_45 hE ⟨Nat.le_refl _, Nat.le_refl _⟩
def f_X7_one (h : xH) (a0 : Nat) (p1 : Int32) : Option (Int32 × xH) :=
  (f_X7_isRoom h p1.toInt64).bind fun q1 =>
  if q1 = 0 then
    (x_ob h a0 7).bind fun u2 =>
    (f_X7_refuse h a0 (-2 : Int32)).bind fun q3 =>
    some (q3.1, q3.2)
  else
    (x_gI h a0 7 12).bind fun x4 =>
    if x4 = (4 : Int32) then
      (x_ob h a0 7).bind fun u5 =>
      (f_X7_refuse h a0 (-6 : Int32)).bind fun q6 =>
      some (q6.1, q6.2)
    else
      (x_gR h a0 7 13).bind fun a7 =>
      (x_gI h a0 7 12).bind fun x8 =>
      (x_st h a7 x8 p1).bind fun h9 =>
      (x_gI h9 a0 7 12).bind fun x10 =>
      (x_put h9 a0 7 12 (.int (x10 + (1 : Int32)))).bind fun h11 =>
      some (x10, h11)
set_option maxRecDepth 100000 in
set_option maxHeartbeats 4000000 in
theorem c_X7_one {h : xH} {a0 : Nat} {p1 : Int32} {r9 : Int32} {hz : xH} (hE : f_X7_one h a0 p1 = some (r9, hz)) : Ctr M_X7_one [.ref a0, .int p1] h (some (.int r9)) hz 0 0 := by
  refine ctr_of (by decide) (fun _ _ => Nat.le_of_ble_eq_true rfl) (fun S => ?_)
  show Y S M_X7_one h (some (.int r9)) hz 0 0 0 [(0, .ref a0), (1, .int p1)] [] h 0 0
  unfold f_X7_one at hE
  refine y_iload_n dX7_one_0 1 rfl ?_
  refine y_i2l dX7_one_1 ?_
  obtain ⟨q1, eq1, hE⟩ := Option.bind_eq_some_iff.mp hE
  refine y_cSi0 (st := []) (as := [.long p1.toInt64]) (c_X7_isRoom eq1) lk_X7_104 st_X7_isRoom ⟨Nat.le_of_ble_eq_true rfl, Nat.le_of_ble_eq_true rfl⟩ (Nat.le_of_ble_eq_true rfl) dX7_one_2 ⟨Nat.le_refl _, Nat.le_refl _⟩ rfl ?_
  refine y_if_ne (tgt := 15) dX7_one_5 (by decide) (fun hc13 => ?_) (fun hc13 => ?_)
  · rw [if_pos hc13] at hE
    refine y_aload_n dX7_one_8 0 rfl ?_
    refine y_bipush (v := (-2 : Int32)) dX7_one_9 (by decide) ?_
    obtain ⟨u2, eu2, hE⟩ := Option.bind_eq_some_iff.mp hE
    obtain ⟨q3, eq3, hE⟩ := Option.bind_eq_some_iff.mp hE
    refine y_cVi0 (st := []) (as := [.int (-2 : Int32)]) (c_X7_refuse eq3) lk_X7_77 in_X7_refuse se_X7_refuse rfl eu2 ⟨Nat.le_of_ble_eq_true rfl, Nat.le_of_ble_eq_true rfl⟩ (Nat.le_of_ble_eq_true rfl) dX7_one_11 ⟨Nat.le_refl _, Nat.le_refl _⟩ rfl ?_
    obtain ⟨rfl, rfl⟩ := x_inj2 hE
    exact y_ret dX7_one_14 (Nat.le_refl _) (Nat.le_refl _) ⟨_, rfl, rfl⟩
  · rw [if_neg hc13] at hE
    refine y_aload_n dX7_one_15 0 rfl ?_
    obtain ⟨x4, ex4, hE⟩ := Option.bind_eq_some_iff.mp hE
    refine y_getI fl_X7_68 ex4 dX7_one_16 ?_
    refine y_iconst (v := (4 : Int32)) dX7_one_19 (by decide) ?_
    refine y_icmp_ne (tgt := 30) dX7_one_20 (by decide) (fun hc12 => ?_) (fun hc12 => ?_)
    · rw [if_pos hc12] at hE
      refine y_aload_n dX7_one_23 0 rfl ?_
      refine y_bipush (v := (-6 : Int32)) dX7_one_24 (by decide) ?_
      obtain ⟨u5, eu5, hE⟩ := Option.bind_eq_some_iff.mp hE
      obtain ⟨q6, eq6, hE⟩ := Option.bind_eq_some_iff.mp hE
      refine y_cVi0 (st := []) (as := [.int (-6 : Int32)]) (c_X7_refuse eq6) lk_X7_77 in_X7_refuse se_X7_refuse rfl eu5 ⟨Nat.le_of_ble_eq_true rfl, Nat.le_of_ble_eq_true rfl⟩ (Nat.le_of_ble_eq_true rfl) dX7_one_26 ⟨Nat.le_refl _, Nat.le_refl _⟩ rfl ?_
      obtain ⟨rfl, rfl⟩ := x_inj2 hE
      exact y_ret dX7_one_29 (Nat.le_refl _) (Nat.le_refl _) ⟨_, rfl, rfl⟩
    · rw [if_neg hc12] at hE
      refine y_aload_n dX7_one_30 0 rfl ?_
      obtain ⟨a7, ea7, hE⟩ := Option.bind_eq_some_iff.mp hE
      refine y_getR fl_X7_42 ea7 dX7_one_31 ?_
      refine y_aload_n dX7_one_34 0 rfl ?_
      obtain ⟨x8, ex8, hE⟩ := Option.bind_eq_some_iff.mp hE
      refine y_getI fl_X7_68 ex8 dX7_one_35 ?_
      refine y_iload_n dX7_one_38 1 rfl ?_
      obtain ⟨h9, eh9, hE⟩ := Option.bind_eq_some_iff.mp hE
      refine y_iast eh9 dX7_one_39 ?_
      refine y_aload_n dX7_one_40 0 rfl ?_
      refine y_dup dX7_one_41 rfl ?_
      obtain ⟨x10, ex10, hE⟩ := Option.bind_eq_some_iff.mp hE
      refine y_getI fl_X7_68 ex10 dX7_one_42 ?_
      refine y_dup_x1 dX7_one_45 rfl rfl ?_
      refine y_iconst (v := (1 : Int32)) dX7_one_46 (by decide) ?_
      refine y_iadd dX7_one_47 ?_
      obtain ⟨h11, eh11, hE⟩ := Option.bind_eq_some_iff.mp hE
      refine y_putI fp_X7_68 eh11 dX7_one_48 ?_
      obtain ⟨rfl, rfl⟩ := x_inj2 hE
      exact y_ret dX7_one_51 (Nat.le_refl _) (Nat.le_refl _) ⟨_, rfl, rfl⟩
def f_X7_ask (h : xH) (a0 : Nat) (p1 : Int32) (p2 : Int32) : Option (Int32 × xH) :=
  (f_X7_in h p1.toInt64 (0 : Int64) (1 : Int64)).bind fun q1 =>
  if q1 = 0 then
    (x_ob h a0 7).bind fun u2 =>
    (f_X7_refuse h a0 (-2 : Int32)).bind fun q3 =>
    some (q3.1, q3.2)
  else
    (
      if p1 = 0 then
        some (1 : Int64)
      else
        some (0 : Int64)
    ).bind fun q4 =>
    (
      if p1 = 0 then
        some (4 : Int64)
      else
        some (99 : Int64)
    ).bind fun q6 =>
    (f_X7_in h p2.toInt64 q4 q6).bind fun q8 =>
    if q8 = 0 then
      (x_ob h a0 7).bind fun u9 =>
      (f_X7_refuse h a0 (-2 : Int32)).bind fun q10 =>
      some (q10.1, q10.2)
    else
      (
        if p1 = 0 then
          (x_gI h a0 7 14).bind fun x12 =>
          some x12
        else
          (x_gI h a0 7 15).bind fun x13 =>
          some x13
      ).bind fun q11 =>
      if p1 = 0 then
        (x_put h a0 7 14 (.int p2)).bind fun h15 =>
        some (q11, h15)
      else
        (x_put h a0 7 15 (.int p2)).bind fun h16 =>
        some (q11, h16)
set_option maxRecDepth 100000 in
set_option maxHeartbeats 4000000 in
theorem c_X7_ask {h : xH} {a0 : Nat} {p1 : Int32} {p2 : Int32} {r9 : Int32} {hz : xH} (hE : f_X7_ask h a0 p1 p2 = some (r9, hz)) : Ctr M_X7_ask [.ref a0, .int p1, .int p2] h (some (.int r9)) hz 0 0 := by
  refine ctr_of (by decide) (fun _ _ => Nat.le_of_ble_eq_true rfl) (fun S => ?_)
  show Y S M_X7_ask h (some (.int r9)) hz 0 0 0 [(0, .ref a0), (1, .int p1), (2, .int p2)] [] h 0 0
  unfold f_X7_ask at hE
  refine y_iload_n dX7_ask_0 1 rfl ?_
  refine y_i2l dX7_ask_1 ?_
  refine y_lconst (v := (0 : Int64)) dX7_ask_2 (by decide) ?_
  refine y_lconst (v := (1 : Int64)) dX7_ask_3 (by decide) ?_
  obtain ⟨q1, eq1, hE⟩ := Option.bind_eq_some_iff.mp hE
  refine y_cSi0 (st := []) (as := [.long p1.toInt64, .long (0 : Int64), .long (1 : Int64)]) (c_X7_in eq1) lk_X7_64 st_X7_in ⟨Nat.le_of_ble_eq_true rfl, Nat.le_of_ble_eq_true rfl⟩ (Nat.le_of_ble_eq_true rfl) dX7_ask_4 ⟨Nat.le_refl _, Nat.le_refl _⟩ rfl ?_
  refine y_if_eq (tgt := 40) dX7_ask_7 (by decide) (fun hc19 => ?_) (fun hc19 => ?_)
  · rw [if_pos hc19] at hE
    refine y_aload_n dX7_ask_40 0 rfl ?_
    refine y_bipush (v := (-2 : Int32)) dX7_ask_41 (by decide) ?_
    obtain ⟨u2, eu2, hE⟩ := Option.bind_eq_some_iff.mp hE
    obtain ⟨q3, eq3, hE⟩ := Option.bind_eq_some_iff.mp hE
    refine y_cVi0 (st := []) (as := [.int (-2 : Int32)]) (c_X7_refuse eq3) lk_X7_77 in_X7_refuse se_X7_refuse rfl eu2 ⟨Nat.le_of_ble_eq_true rfl, Nat.le_of_ble_eq_true rfl⟩ (Nat.le_of_ble_eq_true rfl) dX7_ask_43 ⟨Nat.le_refl _, Nat.le_refl _⟩ rfl ?_
    obtain ⟨rfl, rfl⟩ := x_inj2 hE
    exact y_ret dX7_ask_46 (Nat.le_refl _) (Nat.le_refl _) ⟨_, rfl, rfl⟩
  · rw [if_neg hc19] at hE
    refine y_iload_n dX7_ask_10 2 rfl ?_
    refine y_i2l dX7_ask_11 ?_
    refine y_iload_n dX7_ask_12 1 rfl ?_
    obtain ⟨q4, eJ, hE⟩ := Option.bind_eq_some_iff.mp hE
    have hJ : Y S M_X7_ask h (some (.int r9)) hz 0 0 21 [(0, .ref a0), (1, .int p1), (2, .int p2)] [.long q4, .long p2.toInt64] h 0 0 := by
      refine y_iload_n dX7_ask_21 1 rfl ?_
      obtain ⟨q6, eJ, hE⟩ := Option.bind_eq_some_iff.mp hE
      have hJ : Y S M_X7_ask h (some (.int r9)) hz 0 0 34 [(0, .ref a0), (1, .int p1), (2, .int p2)] [.long q6, .long q4, .long p2.toInt64] h 0 0 := by
        obtain ⟨q8, eq8, hE⟩ := Option.bind_eq_some_iff.mp hE
        refine y_cSi0 (st := []) (as := [.long p2.toInt64, .long q4, .long q6]) (c_X7_in eq8) lk_X7_64 st_X7_in ⟨Nat.le_of_ble_eq_true rfl, Nat.le_of_ble_eq_true rfl⟩ (Nat.le_of_ble_eq_true rfl) dX7_ask_34 ⟨Nat.le_refl _, Nat.le_refl _⟩ rfl ?_
        refine y_if_ne (tgt := 47) dX7_ask_37 (by decide) (fun hc18 => ?_) (fun hc18 => ?_)
        · rw [if_pos hc18] at hE
          refine y_aload_n dX7_ask_40 0 rfl ?_
          refine y_bipush (v := (-2 : Int32)) dX7_ask_41 (by decide) ?_
          obtain ⟨u9, eu9, hE⟩ := Option.bind_eq_some_iff.mp hE
          obtain ⟨q10, eq10, hE⟩ := Option.bind_eq_some_iff.mp hE
          refine y_cVi0 (st := []) (as := [.int (-2 : Int32)]) (c_X7_refuse eq10) lk_X7_77 in_X7_refuse se_X7_refuse rfl eu9 ⟨Nat.le_of_ble_eq_true rfl, Nat.le_of_ble_eq_true rfl⟩ (Nat.le_of_ble_eq_true rfl) dX7_ask_43 ⟨Nat.le_refl _, Nat.le_refl _⟩ rfl ?_
          obtain ⟨rfl, rfl⟩ := x_inj2 hE
          exact y_ret dX7_ask_46 (Nat.le_refl _) (Nat.le_refl _) ⟨_, rfl, rfl⟩
        · rw [if_neg hc18] at hE
          refine y_iload_n dX7_ask_47 1 rfl ?_
          obtain ⟨q11, eJ, hE⟩ := Option.bind_eq_some_iff.mp hE
          have hJ : Y S M_X7_ask h (some (.int r9)) hz 0 0 62 [(0, .ref a0), (1, .int p1), (2, .int p2)] [.int q11] h 0 0 := by
            refine y_istore_n (ls' := [(3, .int q11), (0, .ref a0), (1, .int p1), (2, .int p2)]) dX7_ask_62 (by decide) rfl rfl ?_
            refine y_iload_n dX7_ask_63 2 rfl ?_
            refine y_if_ne (tgt := 75) dX7_ask_64 (by decide) (fun hc17 => ?_) (fun hc17 => ?_)
            · rw [if_pos hc17] at hE
              refine y_aload_n dX7_ask_67 1 rfl ?_
              refine y_iload_n dX7_ask_68 3 rfl ?_
              obtain ⟨h15, eh15, hE⟩ := Option.bind_eq_some_iff.mp hE
              refine y_putI fp_X7_45 eh15 dX7_ask_69 ?_
              refine y_goto (tgt := 80) dX7_ask_72 (by decide) ?_
              refine y_iload_n dX7_ask_80 0 rfl ?_
              obtain ⟨rfl, rfl⟩ := x_inj2 hE
              exact y_ret dX7_ask_81 (Nat.le_refl _) (Nat.le_refl _) ⟨_, rfl, rfl⟩
            · rw [if_neg hc17] at hE
              refine y_aload_n dX7_ask_75 1 rfl ?_
              refine y_iload_n dX7_ask_76 3 rfl ?_
              obtain ⟨h16, eh16, hE⟩ := Option.bind_eq_some_iff.mp hE
              refine y_putI fp_X7_113 eh16 dX7_ask_77 ?_
              refine y_iload_n dX7_ask_80 0 rfl ?_
              obtain ⟨rfl, rfl⟩ := x_inj2 hE
              exact y_ret dX7_ask_81 (Nat.le_refl _) (Nat.le_refl _) ⟨_, rfl, rfl⟩
          clear hE
          have hE := eJ
          clear eJ
          refine y_if_ne (tgt := 58) dX7_ask_48 (by decide) (fun hc14 => ?_) (fun hc14 => ?_)
          · rw [if_pos hc14] at hE
            refine y_aload_n dX7_ask_51 0 rfl ?_
            obtain ⟨x12, ex12, hE⟩ := Option.bind_eq_some_iff.mp hE
            refine y_getI fl_X7_45 ex12 dX7_ask_52 ?_
            refine y_goto (tgt := 62) dX7_ask_55 (by decide) ?_
            obtain rfl := Option.some.inj hE
            exact y_pick [0, 1, 2] rfl hJ
          · rw [if_neg hc14] at hE
            refine y_aload_n dX7_ask_58 0 rfl ?_
            obtain ⟨x13, ex13, hE⟩ := Option.bind_eq_some_iff.mp hE
            refine y_getI fl_X7_113 ex13 dX7_ask_59 ?_
            obtain rfl := Option.some.inj hE
            exact y_pick [0, 1, 2] rfl hJ
      clear hE
      have hE := eJ
      clear eJ
      refine y_if_ne (tgt := 31) dX7_ask_22 (by decide) (fun hc7 => ?_) (fun hc7 => ?_)
      · rw [if_pos hc7] at hE
        refine y_ldc2 (v := (4 : Int64)) (x_wt (tb 1055 (by decide +kernel)) rfl) dX7_ask_25 ?_
        refine y_goto (tgt := 34) dX7_ask_28 (by decide) ?_
        obtain rfl := Option.some.inj hE
        exact y_pick [0, 1, 2] rfl hJ
      · rw [if_neg hc7] at hE
        refine y_ldc2 (v := (99 : Int64)) (x_wt (tb 1135 (by decide +kernel)) rfl) dX7_ask_31 ?_
        obtain rfl := Option.some.inj hE
        exact y_pick [0, 1, 2] rfl hJ
    clear hE
    have hE := eJ
    clear eJ
    refine y_if_ne (tgt := 20) dX7_ask_13 (by decide) (fun hc5 => ?_) (fun hc5 => ?_)
    · rw [if_pos hc5] at hE
      refine y_lconst (v := (1 : Int64)) dX7_ask_16 (by decide) ?_
      refine y_goto (tgt := 21) dX7_ask_17 (by decide) ?_
      obtain rfl := Option.some.inj hE
      exact y_pick [0, 1, 2] rfl hJ
    · rw [if_neg hc5] at hE
      refine y_lconst (v := (0 : Int64)) dX7_ask_20 (by decide) ?_
      obtain rfl := Option.some.inj hE
      exact y_pick [0, 1, 2] rfl hJ
def f_X7_stand (h : xH) (a0 : Nat) (p1 : Int32) (p2 : Int32) : Option (Int32 × xH) :=
  (x_ob h a0 7).bind fun u1 =>
  (f_X7_isDoor h a0 p1).bind fun q2 =>
  if q2 = 0 then
    (x_ob h a0 7).bind fun u3 =>
    (f_X7_refuse h a0 (-2 : Int32)).bind fun q4 =>
    some (q4.1, q4.2)
  else
    (x_gI h a0 7 11).bind fun x5 =>
    (f_X7_has h x5 p1).bind fun q6 =>
    (
      if p2 = 0 then
        (x_gI h a0 7 11).bind fun x8 =>
        some (x8 &&& ((i_shl (1 : Int32) p1) ^^^ (-1 : Int32)))
      else
        (x_gI h a0 7 11).bind fun x9 =>
        some (x9 ||| (i_shl (1 : Int32) p1))
    ).bind fun q7 =>
    (x_put h a0 7 11 (.int q7)).bind fun h11 =>
    if q6 = p2 then
      some ((0 : Int32), h11)
    else
      some ((1 : Int32), h11)
set_option maxRecDepth 100000 in
set_option maxHeartbeats 4000000 in
theorem c_X7_stand {h : xH} {a0 : Nat} {p1 : Int32} {p2 : Int32} {r9 : Int32} {hz : xH} (hE : f_X7_stand h a0 p1 p2 = some (r9, hz)) : Ctr M_X7_stand [.ref a0, .int p1, .int p2] h (some (.int r9)) hz 0 0 := by
  refine ctr_of (by decide) (fun _ _ => Nat.le_of_ble_eq_true rfl) (fun S => ?_)
  show Y S M_X7_stand h (some (.int r9)) hz 0 0 0 [(0, .ref a0), (1, .int p1), (2, .int p2)] [] h 0 0
  unfold f_X7_stand at hE
  refine y_aload_n dX7_stand_0 0 rfl ?_
  refine y_iload_n dX7_stand_1 1 rfl ?_
  obtain ⟨u1, eu1, hE⟩ := Option.bind_eq_some_iff.mp hE
  obtain ⟨q2, eq2, hE⟩ := Option.bind_eq_some_iff.mp hE
  refine y_cVi0 (st := []) (as := [.int p1]) (c_X7_isDoor eq2) lk_X7_88 in_X7_isDoor se_X7_isDoor rfl eu1 ⟨Nat.le_of_ble_eq_true rfl, Nat.le_of_ble_eq_true rfl⟩ (Nat.le_of_ble_eq_true rfl) dX7_stand_2 ⟨Nat.le_refl _, Nat.le_refl _⟩ rfl ?_
  refine y_if_ne (tgt := 15) dX7_stand_5 (by decide) (fun hc13 => ?_) (fun hc13 => ?_)
  · rw [if_pos hc13] at hE
    refine y_aload_n dX7_stand_8 0 rfl ?_
    refine y_bipush (v := (-2 : Int32)) dX7_stand_9 (by decide) ?_
    obtain ⟨u3, eu3, hE⟩ := Option.bind_eq_some_iff.mp hE
    obtain ⟨q4, eq4, hE⟩ := Option.bind_eq_some_iff.mp hE
    refine y_cVi0 (st := []) (as := [.int (-2 : Int32)]) (c_X7_refuse eq4) lk_X7_77 in_X7_refuse se_X7_refuse rfl eu3 ⟨Nat.le_of_ble_eq_true rfl, Nat.le_of_ble_eq_true rfl⟩ (Nat.le_of_ble_eq_true rfl) dX7_stand_11 ⟨Nat.le_refl _, Nat.le_refl _⟩ rfl ?_
    obtain ⟨rfl, rfl⟩ := x_inj2 hE
    exact y_ret dX7_stand_14 (Nat.le_refl _) (Nat.le_refl _) ⟨_, rfl, rfl⟩
  · rw [if_neg hc13] at hE
    refine y_aload_n dX7_stand_15 0 rfl ?_
    obtain ⟨x5, ex5, hE⟩ := Option.bind_eq_some_iff.mp hE
    refine y_getI fl_X7_108 ex5 dX7_stand_16 ?_
    refine y_iload_n dX7_stand_19 1 rfl ?_
    obtain ⟨q6, eq6, hE⟩ := Option.bind_eq_some_iff.mp hE
    refine y_cSi0 (st := []) (as := [.int x5, .int p1]) (c_X7_has eq6) lk_X7_116 st_X7_has ⟨Nat.le_of_ble_eq_true rfl, Nat.le_of_ble_eq_true rfl⟩ (Nat.le_of_ble_eq_true rfl) dX7_stand_20 ⟨Nat.le_refl _, Nat.le_refl _⟩ rfl ?_
    refine y_istore_n (ls' := [(3, .int q6), (0, .ref a0), (1, .int p1), (2, .int p2)]) dX7_stand_23 (by decide) rfl rfl ?_
    refine y_aload_n dX7_stand_24 1 rfl ?_
    refine y_iload_n dX7_stand_25 3 rfl ?_
    obtain ⟨q7, eJ, hE⟩ := Option.bind_eq_some_iff.mp hE
    have hJ : Y S M_X7_stand h (some (.int r9)) hz 0 0 50 [(2, .int p2), (3, .int q6)] [.int q7, .ref a0] h 0 0 := by
      obtain ⟨h11, eh11, hE⟩ := Option.bind_eq_some_iff.mp hE
      refine y_putI fp_X7_108 eh11 dX7_stand_50 ?_
      refine y_iload_n dX7_stand_53 1 rfl ?_
      refine y_iload_n dX7_stand_54 0 rfl ?_
      refine y_icmp_eq (tgt := 62) dX7_stand_55 (by decide) (fun hc12 => ?_) (fun hc12 => ?_)
      · rw [if_pos hc12] at hE
        refine y_iconst (v := (0 : Int32)) dX7_stand_62 (by decide) ?_
        obtain ⟨rfl, rfl⟩ := x_inj2 hE
        exact y_ret dX7_stand_63 (Nat.le_refl _) (Nat.le_refl _) ⟨_, rfl, rfl⟩
      · rw [if_neg hc12] at hE
        refine y_iconst (v := (1 : Int32)) dX7_stand_58 (by decide) ?_
        refine y_goto (tgt := 63) dX7_stand_59 (by decide) ?_
        obtain ⟨rfl, rfl⟩ := x_inj2 hE
        exact y_ret dX7_stand_63 (Nat.le_refl _) (Nat.le_refl _) ⟨_, rfl, rfl⟩
    clear hE
    have hE := eJ
    clear eJ
    refine y_if_eq (tgt := 40) dX7_stand_26 (by decide) (fun hc10 => ?_) (fun hc10 => ?_)
    · rw [if_pos hc10] at hE
      refine y_aload_n dX7_stand_40 1 rfl ?_
      obtain ⟨x8, ex8, hE⟩ := Option.bind_eq_some_iff.mp hE
      refine y_getI fl_X7_108 ex8 dX7_stand_41 ?_
      refine y_iconst (v := (1 : Int32)) dX7_stand_44 (by decide) ?_
      refine y_iload_n dX7_stand_45 2 rfl ?_
      refine y_ishl dX7_stand_46 ?_
      refine y_iconst (v := (-1 : Int32)) dX7_stand_47 (by decide) ?_
      refine y_ixor dX7_stand_48 ?_
      refine y_iand dX7_stand_49 ?_
      obtain rfl := Option.some.inj hE
      exact y_pick [3, 0] rfl hJ
    · rw [if_neg hc10] at hE
      refine y_aload_n dX7_stand_29 1 rfl ?_
      obtain ⟨x9, ex9, hE⟩ := Option.bind_eq_some_iff.mp hE
      refine y_getI fl_X7_108 ex9 dX7_stand_30 ?_
      refine y_iconst (v := (1 : Int32)) dX7_stand_33 (by decide) ?_
      refine y_iload_n dX7_stand_34 2 rfl ?_
      refine y_ishl dX7_stand_35 ?_
      refine y_ior dX7_stand_36 ?_
      refine y_goto (tgt := 50) dX7_stand_37 (by decide) ?_
      obtain rfl := Option.some.inj hE
      exact y_pick [3, 0] rfl hJ
def f_X7_move (h : xH) (a0 : Nat) (p1 : Int32) (p2 : Int32) : Option (Int32 × xH) :=
  (x_ob h a0 7).bind fun u1 =>
  (f_X7_isOne h a0 p1).bind fun q2 =>
  if q2 = 0 then
    (x_ob h a0 7).bind fun u3 =>
    (f_X7_refuse h a0 (-2 : Int32)).bind fun q4 =>
    some (q4.1, q4.2)
  else
    (f_X7_isRoom h p2.toInt64).bind fun q5 =>
    if q5 = 0 then
      (x_ob h a0 7).bind fun u6 =>
      (f_X7_refuse h a0 (-2 : Int32)).bind fun q7 =>
      some (q7.1, q7.2)
    else
      (x_gR h a0 7 13).bind fun a8 =>
      (x_ld h a8 p1).bind fun x9 =>
      (x_gR h a0 7 13).bind fun a10 =>
      (x_st h a10 p1 p2).bind fun h11 =>
      some (x9, h11)
set_option maxRecDepth 100000 in
set_option maxHeartbeats 4000000 in
theorem c_X7_move {h : xH} {a0 : Nat} {p1 : Int32} {p2 : Int32} {r9 : Int32} {hz : xH} (hE : f_X7_move h a0 p1 p2 = some (r9, hz)) : Ctr M_X7_move [.ref a0, .int p1, .int p2] h (some (.int r9)) hz 0 0 := by
  refine ctr_of (by decide) (fun _ _ => Nat.le_of_ble_eq_true rfl) (fun S => ?_)
  show Y S M_X7_move h (some (.int r9)) hz 0 0 0 [(0, .ref a0), (1, .int p1), (2, .int p2)] [] h 0 0
  unfold f_X7_move at hE
  refine y_aload_n dX7_move_0 0 rfl ?_
  refine y_iload_n dX7_move_1 1 rfl ?_
  obtain ⟨u1, eu1, hE⟩ := Option.bind_eq_some_iff.mp hE
  obtain ⟨q2, eq2, hE⟩ := Option.bind_eq_some_iff.mp hE
  refine y_cVi0 (st := []) (as := [.int p1]) (c_X7_isOne eq2) lk_X7_120 in_X7_isOne se_X7_isOne rfl eu1 ⟨Nat.le_of_ble_eq_true rfl, Nat.le_of_ble_eq_true rfl⟩ (Nat.le_of_ble_eq_true rfl) dX7_move_2 ⟨Nat.le_refl _, Nat.le_refl _⟩ rfl ?_
  refine y_if_eq (tgt := 16) dX7_move_5 (by decide) (fun hc13 => ?_) (fun hc13 => ?_)
  · rw [if_pos hc13] at hE
    refine y_aload_n dX7_move_16 0 rfl ?_
    refine y_bipush (v := (-2 : Int32)) dX7_move_17 (by decide) ?_
    obtain ⟨u3, eu3, hE⟩ := Option.bind_eq_some_iff.mp hE
    obtain ⟨q4, eq4, hE⟩ := Option.bind_eq_some_iff.mp hE
    refine y_cVi0 (st := []) (as := [.int (-2 : Int32)]) (c_X7_refuse eq4) lk_X7_77 in_X7_refuse se_X7_refuse rfl eu3 ⟨Nat.le_of_ble_eq_true rfl, Nat.le_of_ble_eq_true rfl⟩ (Nat.le_of_ble_eq_true rfl) dX7_move_19 ⟨Nat.le_refl _, Nat.le_refl _⟩ rfl ?_
    obtain ⟨rfl, rfl⟩ := x_inj2 hE
    exact y_ret dX7_move_22 (Nat.le_refl _) (Nat.le_refl _) ⟨_, rfl, rfl⟩
  · rw [if_neg hc13] at hE
    refine y_iload_n dX7_move_8 2 rfl ?_
    refine y_i2l dX7_move_9 ?_
    obtain ⟨q5, eq5, hE⟩ := Option.bind_eq_some_iff.mp hE
    refine y_cSi0 (st := []) (as := [.long p2.toInt64]) (c_X7_isRoom eq5) lk_X7_104 st_X7_isRoom ⟨Nat.le_of_ble_eq_true rfl, Nat.le_of_ble_eq_true rfl⟩ (Nat.le_of_ble_eq_true rfl) dX7_move_10 ⟨Nat.le_refl _, Nat.le_refl _⟩ rfl ?_
    refine y_if_ne (tgt := 23) dX7_move_13 (by decide) (fun hc12 => ?_) (fun hc12 => ?_)
    · rw [if_pos hc12] at hE
      refine y_aload_n dX7_move_16 0 rfl ?_
      refine y_bipush (v := (-2 : Int32)) dX7_move_17 (by decide) ?_
      obtain ⟨u6, eu6, hE⟩ := Option.bind_eq_some_iff.mp hE
      obtain ⟨q7, eq7, hE⟩ := Option.bind_eq_some_iff.mp hE
      refine y_cVi0 (st := []) (as := [.int (-2 : Int32)]) (c_X7_refuse eq7) lk_X7_77 in_X7_refuse se_X7_refuse rfl eu6 ⟨Nat.le_of_ble_eq_true rfl, Nat.le_of_ble_eq_true rfl⟩ (Nat.le_of_ble_eq_true rfl) dX7_move_19 ⟨Nat.le_refl _, Nat.le_refl _⟩ rfl ?_
      obtain ⟨rfl, rfl⟩ := x_inj2 hE
      exact y_ret dX7_move_22 (Nat.le_refl _) (Nat.le_refl _) ⟨_, rfl, rfl⟩
    · rw [if_neg hc12] at hE
      refine y_aload_n dX7_move_23 0 rfl ?_
      obtain ⟨a8, ea8, hE⟩ := Option.bind_eq_some_iff.mp hE
      refine y_getR fl_X7_42 ea8 dX7_move_24 ?_
      refine y_iload_n dX7_move_27 1 rfl ?_
      obtain ⟨x9, ex9, hE⟩ := Option.bind_eq_some_iff.mp hE
      refine y_iald ex9 dX7_move_28 ?_
      refine y_istore_n (ls' := [(3, .int x9), (0, .ref a0), (1, .int p1), (2, .int p2)]) dX7_move_29 (by decide) rfl rfl ?_
      refine y_aload_n dX7_move_30 1 rfl ?_
      obtain ⟨a10, ea10, hE⟩ := Option.bind_eq_some_iff.mp hE
      refine y_getR fl_X7_42 ea10 dX7_move_31 ?_
      refine y_iload_n dX7_move_34 2 rfl ?_
      refine y_iload_n dX7_move_35 3 rfl ?_
      obtain ⟨h11, eh11, hE⟩ := Option.bind_eq_some_iff.mp hE
      refine y_iast eh11 dX7_move_36 ?_
      refine y_iload_n dX7_move_37 0 rfl ?_
      obtain ⟨rfl, rfl⟩ := x_inj2 hE
      exact y_ret dX7_move_38 (Nat.le_refl _) (Nat.le_refl _) ⟨_, rfl, rfl⟩
