theorem dX7_walksOn_0 : decode cX7_walksOn 0 = .ok (.iconst 1, 1) := by decide +kernel
theorem dX7_walksOn_1 : decode cX7_walksOn 1 = .ok (.istore_n 2, 1) := by decide +kernel
theorem dX7_walksOn_2 : decode cX7_walksOn 2 = .ok (.iload_n 2, 1) := by decide +kernel
theorem dX7_walksOn_3 : decode cX7_walksOn 3 = .ok (.ifCond .eq 128, 3) := by decide +kernel
theorem dX7_walksOn_6 : decode cX7_walksOn 6 = .ok (.iconst 0, 1) := by decide +kernel
theorem dX7_walksOn_7 : decode cX7_walksOn 7 = .ok (.istore_n 2, 1) := by decide +kernel
theorem dX7_walksOn_8 : decode cX7_walksOn 8 = .ok (.iconst 0, 1) := by decide +kernel
theorem dX7_walksOn_9 : decode cX7_walksOn 9 = .ok (.istore_n 3, 1) := by decide +kernel
theorem dX7_walksOn_10 : decode cX7_walksOn 10 = .ok (.iload_n 3, 1) := by decide +kernel
theorem dX7_walksOn_11 : decode cX7_walksOn 11 = .ok (.aload_n 0, 1) := by decide +kernel
theorem dX7_walksOn_12 : decode cX7_walksOn 12 = .ok (.getfield 256, 3) := by decide +kernel
theorem dX7_walksOn_15 : decode cX7_walksOn 15 = .ok (.iconst 1, 1) := by decide +kernel
theorem dX7_walksOn_16 : decode cX7_walksOn 16 = .ok (.iadd, 1) := by decide +kernel
theorem dX7_walksOn_17 : decode cX7_walksOn 17 = .ok (.sipush 512, 3) := by decide +kernel
theorem dX7_walksOn_20 : decode cX7_walksOn 20 = .ok (.imul, 1) := by decide +kernel
theorem dX7_walksOn_21 : decode cX7_walksOn 21 = .ok (.bipush 8, 2) := by decide +kernel
theorem dX7_walksOn_23 : decode cX7_walksOn 23 = .ok (.imul, 1) := by decide +kernel
theorem dX7_walksOn_24 : decode cX7_walksOn 24 = .ok (.if_icmp .ge 104, 3) := by decide +kernel
theorem dX7_walksOn_27 : decode cX7_walksOn 27 = .ok (.aload_n 0, 1) := by decide +kernel
theorem dX7_walksOn_28 : decode cX7_walksOn 28 = .ok (.getfield 259, 3) := by decide +kernel
theorem dX7_walksOn_31 : decode cX7_walksOn 31 = .ok (.iload_n 3, 1) := by decide +kernel
theorem dX7_walksOn_32 : decode cX7_walksOn 32 = .ok (.iaload, 1) := by decide +kernel
theorem dX7_walksOn_33 : decode cX7_walksOn 33 = .ok (.iload_n 1, 1) := by decide +kernel
theorem dX7_walksOn_34 : decode cX7_walksOn 34 = .ok (.if_icmp .ne 88, 3) := by decide +kernel
theorem dX7_walksOn_37 : decode cX7_walksOn 37 = .ok (.iload_n 3, 1) := by decide +kernel
theorem dX7_walksOn_38 : decode cX7_walksOn 38 = .ok (.bipush 8, 2) := by decide +kernel
theorem dX7_walksOn_40 : decode cX7_walksOn 40 = .ok (.irem, 1) := by decide +kernel
theorem dX7_walksOn_41 : decode cX7_walksOn 41 = .ok (.istore 4, 2) := by decide +kernel
theorem dX7_walksOn_43 : decode cX7_walksOn 43 = .ok (.aload_n 0, 1) := by decide +kernel
theorem dX7_walksOn_44 : decode cX7_walksOn 44 = .ok (.iload_n 3, 1) := by decide +kernel
theorem dX7_walksOn_45 : decode cX7_walksOn 45 = .ok (.bipush 8, 2) := by decide +kernel
theorem dX7_walksOn_47 : decode cX7_walksOn 47 = .ok (.idiv, 1) := by decide +kernel
theorem dX7_walksOn_48 : decode cX7_walksOn 48 = .ok (.sipush 512, 3) := by decide +kernel
theorem dX7_walksOn_51 : decode cX7_walksOn 51 = .ok (.irem, 1) := by decide +kernel
theorem dX7_walksOn_52 : decode cX7_walksOn 52 = .ok (.putfield 108, 3) := by decide +kernel
theorem dX7_walksOn_55 : decode cX7_walksOn 55 = .ok (.iconst 0, 1) := by decide +kernel
theorem dX7_walksOn_56 : decode cX7_walksOn 56 = .ok (.istore 5, 2) := by decide +kernel
theorem dX7_walksOn_58 : decode cX7_walksOn 58 = .ok (.iload 5, 2) := by decide +kernel
theorem dX7_walksOn_60 : decode cX7_walksOn 60 = .ok (.aload_n 0, 1) := by decide +kernel
theorem dX7_walksOn_61 : decode cX7_walksOn 61 = .ok (.getfield 61, 3) := by decide +kernel
theorem dX7_walksOn_64 : decode cX7_walksOn 64 = .ok (.if_icmp .ge 58, 3) := by decide +kernel
theorem dX7_walksOn_67 : decode cX7_walksOn 67 = .ok (.aload_n 0, 1) := by decide +kernel
theorem dX7_walksOn_68 : decode cX7_walksOn 68 = .ok (.iload 5, 2) := by decide +kernel
theorem dX7_walksOn_70 : decode cX7_walksOn 70 = .ok (.iload 4, 2) := by decide +kernel
theorem dX7_walksOn_72 : decode cX7_walksOn 72 = .ok (.invokevirtual 230, 3) := by decide +kernel
theorem dX7_walksOn_75 : decode cX7_walksOn 75 = .ok (.ifCond .eq 41, 3) := by decide +kernel
theorem dX7_walksOn_78 : decode cX7_walksOn 78 = .ok (.iload_n 2, 1) := by decide +kernel
theorem dX7_walksOn_79 : decode cX7_walksOn 79 = .ok (.aload_n 0, 1) := by decide +kernel
theorem dX7_walksOn_80 : decode cX7_walksOn 80 = .ok (.aload_n 0, 1) := by decide +kernel
theorem dX7_walksOn_81 : decode cX7_walksOn 81 = .ok (.iload_n 3, 1) := by decide +kernel
theorem dX7_walksOn_82 : decode cX7_walksOn 82 = .ok (.bipush 8, 2) := by decide +kernel
theorem dX7_walksOn_84 : decode cX7_walksOn 84 = .ok (.idiv, 1) := by decide +kernel
theorem dX7_walksOn_85 : decode cX7_walksOn 85 = .ok (.sipush 512, 3) := by decide +kernel
theorem dX7_walksOn_88 : decode cX7_walksOn 88 = .ok (.idiv, 1) := by decide +kernel
theorem dX7_walksOn_89 : decode cX7_walksOn 89 = .ok (.aload_n 0, 1) := by decide +kernel
theorem dX7_walksOn_90 : decode cX7_walksOn 90 = .ok (.getfield 108, 3) := by decide +kernel
theorem dX7_walksOn_93 : decode cX7_walksOn 93 = .ok (.aload_n 0, 1) := by decide +kernel
theorem dX7_walksOn_94 : decode cX7_walksOn 94 = .ok (.iload 5, 2) := by decide +kernel
theorem dX7_walksOn_96 : decode cX7_walksOn 96 = .ok (.iload 4, 2) := by decide +kernel
theorem dX7_walksOn_98 : decode cX7_walksOn 98 = .ok (.invokevirtual 239, 3) := by decide +kernel
theorem dX7_walksOn_101 : decode cX7_walksOn 101 = .ok (.invokevirtual 265, 3) := by decide +kernel
theorem dX7_walksOn_104 : decode cX7_walksOn 104 = .ok (.iload_n 1, 1) := by decide +kernel
theorem dX7_walksOn_105 : decode cX7_walksOn 105 = .ok (.aload_n 0, 1) := by decide +kernel
theorem dX7_walksOn_106 : decode cX7_walksOn 106 = .ok (.getfield 262, 3) := by decide +kernel
theorem dX7_walksOn_109 : decode cX7_walksOn 109 = .ok (.iload_n 3, 1) := by decide +kernel
theorem dX7_walksOn_110 : decode cX7_walksOn 110 = .ok (.iaload, 1) := by decide +kernel
theorem dX7_walksOn_111 : decode cX7_walksOn 111 = .ok (.invokevirtual 268, 3) := by decide +kernel
theorem dX7_walksOn_114 : decode cX7_walksOn 114 = .ok (.ior, 1) := by decide +kernel
theorem dX7_walksOn_115 : decode cX7_walksOn 115 = .ok (.istore_n 2, 1) := by decide +kernel
theorem dX7_walksOn_116 : decode cX7_walksOn 116 = .ok (.iinc 5 1, 3) := by decide +kernel
theorem dX7_walksOn_119 : decode cX7_walksOn 119 = .ok (.goto (-61), 3) := by decide +kernel
theorem dX7_walksOn_122 : decode cX7_walksOn 122 = .ok (.iinc 3 1, 3) := by decide +kernel
theorem dX7_walksOn_125 : decode cX7_walksOn 125 = .ok (.goto (-115), 3) := by decide +kernel
theorem dX7_walksOn_128 : decode cX7_walksOn 128 = .ok (.goto (-126), 3) := by decide +kernel
theorem dX7_walksOn_131 : decode cX7_walksOn 131 = .ok (.return_, 1) := by decide +kernel
theorem dX7_opensOn_0 : decode cX7_opensOn 0 = .ok (.iconst 0, 1) := by decide +kernel
theorem dX7_opensOn_1 : decode cX7_opensOn 1 = .ok (.istore_n 3, 1) := by decide +kernel
theorem dX7_opensOn_2 : decode cX7_opensOn 2 = .ok (.iconst 0, 1) := by decide +kernel
theorem dX7_opensOn_3 : decode cX7_opensOn 3 = .ok (.istore 4, 2) := by decide +kernel
theorem dX7_opensOn_5 : decode cX7_opensOn 5 = .ok (.iload 4, 2) := by decide +kernel
theorem dX7_opensOn_7 : decode cX7_opensOn 7 = .ok (.aload_n 0, 1) := by decide +kernel
theorem dX7_opensOn_8 : decode cX7_opensOn 8 = .ok (.getfield 256, 3) := by decide +kernel
theorem dX7_opensOn_11 : decode cX7_opensOn 11 = .ok (.iconst 1, 1) := by decide +kernel
theorem dX7_opensOn_12 : decode cX7_opensOn 12 = .ok (.iadd, 1) := by decide +kernel
theorem dX7_opensOn_13 : decode cX7_opensOn 13 = .ok (.sipush 512, 3) := by decide +kernel
theorem dX7_opensOn_16 : decode cX7_opensOn 16 = .ok (.imul, 1) := by decide +kernel
theorem dX7_opensOn_17 : decode cX7_opensOn 17 = .ok (.bipush 8, 2) := by decide +kernel
theorem dX7_opensOn_19 : decode cX7_opensOn 19 = .ok (.imul, 1) := by decide +kernel
theorem dX7_opensOn_20 : decode cX7_opensOn 20 = .ok (.if_icmp .ge 184, 3) := by decide +kernel
theorem dX7_opensOn_23 : decode cX7_opensOn 23 = .ok (.aload_n 0, 1) := by decide +kernel
theorem dX7_opensOn_24 : decode cX7_opensOn 24 = .ok (.getfield 259, 3) := by decide +kernel
theorem dX7_opensOn_27 : decode cX7_opensOn 27 = .ok (.iload 4, 2) := by decide +kernel
theorem dX7_opensOn_29 : decode cX7_opensOn 29 = .ok (.iaload, 1) := by decide +kernel
theorem dX7_opensOn_30 : decode cX7_opensOn 30 = .ok (.iload_n 2, 1) := by decide +kernel
theorem dX7_opensOn_31 : decode cX7_opensOn 31 = .ok (.if_icmp .ne 167, 3) := by decide +kernel
theorem dX7_opensOn_34 : decode cX7_opensOn 34 = .ok (.aload_n 0, 1) := by decide +kernel
theorem dX7_opensOn_35 : decode cX7_opensOn 35 = .ok (.getfield 42, 3) := by decide +kernel
theorem dX7_opensOn_38 : decode cX7_opensOn 38 = .ok (.iload_n 1, 1) := by decide +kernel
theorem dX7_opensOn_39 : decode cX7_opensOn 39 = .ok (.iload 4, 2) := by decide +kernel
theorem dX7_opensOn_41 : decode cX7_opensOn 41 = .ok (.bipush 8, 2) := by decide +kernel
theorem dX7_opensOn_43 : decode cX7_opensOn 43 = .ok (.irem, 1) := by decide +kernel
theorem dX7_opensOn_44 : decode cX7_opensOn 44 = .ok (.iastore, 1) := by decide +kernel
theorem dX7_opensOn_45 : decode cX7_opensOn 45 = .ok (.aload_n 0, 1) := by decide +kernel
theorem dX7_opensOn_46 : decode cX7_opensOn 46 = .ok (.iload 4, 2) := by decide +kernel
theorem dX7_opensOn_48 : decode cX7_opensOn 48 = .ok (.bipush 8, 2) := by decide +kernel
theorem dX7_opensOn_50 : decode cX7_opensOn 50 = .ok (.idiv, 1) := by decide +kernel
theorem dX7_opensOn_51 : decode cX7_opensOn 51 = .ok (.sipush 512, 3) := by decide +kernel
theorem dX7_opensOn_54 : decode cX7_opensOn 54 = .ok (.irem, 1) := by decide +kernel
theorem dX7_opensOn_55 : decode cX7_opensOn 55 = .ok (.putfield 108, 3) := by decide +kernel
theorem dX7_opensOn_58 : decode cX7_opensOn 58 = .ok (.aload_n 0, 1) := by decide +kernel
theorem dX7_opensOn_59 : decode cX7_opensOn 59 = .ok (.invokevirtual 100, 3) := by decide +kernel
theorem dX7_opensOn_62 : decode cX7_opensOn 62 = .ok (.istore 5, 2) := by decide +kernel
theorem dX7_opensOn_64 : decode cX7_opensOn 64 = .ok (.iconst 0, 1) := by decide +kernel
theorem dX7_opensOn_65 : decode cX7_opensOn 65 = .ok (.istore 6, 2) := by decide +kernel
theorem dX7_opensOn_67 : decode cX7_opensOn 67 = .ok (.iload 6, 2) := by decide +kernel
theorem dX7_opensOn_69 : decode cX7_opensOn 69 = .ok (.aload_n 0, 1) := by decide +kernel
theorem dX7_opensOn_70 : decode cX7_opensOn 70 = .ok (.getfield 61, 3) := by decide +kernel
theorem dX7_opensOn_73 : decode cX7_opensOn 73 = .ok (.if_icmp .ge 125, 3) := by decide +kernel
theorem dX7_opensOn_76 : decode cX7_opensOn 76 = .ok (.iconst 0, 1) := by decide +kernel
theorem dX7_opensOn_77 : decode cX7_opensOn 77 = .ok (.istore 7, 2) := by decide +kernel
theorem dX7_opensOn_79 : decode cX7_opensOn 79 = .ok (.iload 7, 2) := by decide +kernel
theorem dX7_opensOn_81 : decode cX7_opensOn 81 = .ok (.aload_n 0, 1) := by decide +kernel
theorem dX7_opensOn_82 : decode cX7_opensOn 82 = .ok (.getfield 271, 3) := by decide +kernel
theorem dX7_opensOn_85 : decode cX7_opensOn 85 = .ok (.if_icmp .ge 107, 3) := by decide +kernel
theorem dX7_opensOn_88 : decode cX7_opensOn 88 = .ok (.aload_n 0, 1) := by decide +kernel
theorem dX7_opensOn_89 : decode cX7_opensOn 89 = .ok (.iload 6, 2) := by decide +kernel
theorem dX7_opensOn_91 : decode cX7_opensOn 91 = .ok (.aload_n 0, 1) := by decide +kernel
theorem dX7_opensOn_92 : decode cX7_opensOn 92 = .ok (.getfield 42, 3) := by decide +kernel
theorem dX7_opensOn_95 : decode cX7_opensOn 95 = .ok (.iload_n 1, 1) := by decide +kernel
theorem dX7_opensOn_96 : decode cX7_opensOn 96 = .ok (.iaload, 1) := by decide +kernel
theorem dX7_opensOn_97 : decode cX7_opensOn 97 = .ok (.invokevirtual 219, 3) := by decide +kernel
theorem dX7_opensOn_100 : decode cX7_opensOn 100 = .ok (.ifCond .eq 92, 3) := by decide +kernel
theorem dX7_opensOn_103 : decode cX7_opensOn 103 = .ok (.aload_n 0, 1) := by decide +kernel
theorem dX7_opensOn_104 : decode cX7_opensOn 104 = .ok (.getfield 58, 3) := by decide +kernel
theorem dX7_opensOn_107 : decode cX7_opensOn 107 = .ok (.iload 7, 2) := by decide +kernel
theorem dX7_opensOn_109 : decode cX7_opensOn 109 = .ok (.iaload, 1) := by decide +kernel
theorem dX7_opensOn_110 : decode cX7_opensOn 110 = .ok (.iload 5, 2) := by decide +kernel
theorem dX7_opensOn_112 : decode cX7_opensOn 112 = .ok (.iconst (-1), 1) := by decide +kernel
theorem dX7_opensOn_113 : decode cX7_opensOn 113 = .ok (.ixor, 1) := by decide +kernel
theorem dX7_opensOn_114 : decode cX7_opensOn 114 = .ok (.iand, 1) := by decide +kernel
theorem dX7_opensOn_115 : decode cX7_opensOn 115 = .ok (.ifCond .ne 71, 3) := by decide +kernel
theorem dX7_opensOn_118 : decode cX7_opensOn 118 = .ok (.aload_n 0, 1) := by decide +kernel
theorem dX7_opensOn_119 : decode cX7_opensOn 119 = .ok (.getfield 108, 3) := by decide +kernel
theorem dX7_opensOn_122 : decode cX7_opensOn 122 = .ok (.aload_n 0, 1) := by decide +kernel
theorem dX7_opensOn_123 : decode cX7_opensOn 123 = .ok (.getfield 58, 3) := by decide +kernel
theorem dX7_opensOn_126 : decode cX7_opensOn 126 = .ok (.iload 7, 2) := by decide +kernel
theorem dX7_opensOn_128 : decode cX7_opensOn 128 = .ok (.iaload, 1) := by decide +kernel
theorem dX7_opensOn_129 : decode cX7_opensOn 129 = .ok (.iconst (-1), 1) := by decide +kernel
theorem dX7_opensOn_130 : decode cX7_opensOn 130 = .ok (.ixor, 1) := by decide +kernel
theorem dX7_opensOn_131 : decode cX7_opensOn 131 = .ok (.iand, 1) := by decide +kernel
theorem dX7_opensOn_132 : decode cX7_opensOn 132 = .ok (.iconst 1, 1) := by decide +kernel
theorem dX7_opensOn_133 : decode cX7_opensOn 133 = .ok (.iload 6, 2) := by decide +kernel
theorem dX7_opensOn_135 : decode cX7_opensOn 135 = .ok (.ishl, 1) := by decide +kernel
theorem dX7_opensOn_136 : decode cX7_opensOn 136 = .ok (.ior, 1) := by decide +kernel
theorem dX7_opensOn_137 : decode cX7_opensOn 137 = .ok (.istore 8, 2) := by decide +kernel
theorem dX7_opensOn_139 : decode cX7_opensOn 139 = .ok (.iload_n 3, 1) := by decide +kernel
theorem dX7_opensOn_140 : decode cX7_opensOn 140 = .ok (.aload_n 0, 1) := by decide +kernel
theorem dX7_opensOn_141 : decode cX7_opensOn 141 = .ok (.aload_n 0, 1) := by decide +kernel
theorem dX7_opensOn_142 : decode cX7_opensOn 142 = .ok (.iload 4, 2) := by decide +kernel
theorem dX7_opensOn_144 : decode cX7_opensOn 144 = .ok (.bipush 8, 2) := by decide +kernel
theorem dX7_opensOn_146 : decode cX7_opensOn 146 = .ok (.idiv, 1) := by decide +kernel
theorem dX7_opensOn_147 : decode cX7_opensOn 147 = .ok (.sipush 512, 3) := by decide +kernel
theorem dX7_opensOn_150 : decode cX7_opensOn 150 = .ok (.idiv, 1) := by decide +kernel
theorem dX7_opensOn_151 : decode cX7_opensOn 151 = .ok (.iload 8, 2) := by decide +kernel
theorem dX7_opensOn_153 : decode cX7_opensOn 153 = .ok (.aload_n 0, 1) := by decide +kernel
theorem dX7_opensOn_154 : decode cX7_opensOn 154 = .ok (.getfield 42, 3) := by decide +kernel
theorem dX7_opensOn_157 : decode cX7_opensOn 157 = .ok (.iload_n 1, 1) := by decide +kernel
theorem dX7_opensOn_158 : decode cX7_opensOn 158 = .ok (.iaload, 1) := by decide +kernel
theorem dX7_opensOn_159 : decode cX7_opensOn 159 = .ok (.invokevirtual 265, 3) := by decide +kernel
theorem dX7_opensOn_162 : decode cX7_opensOn 162 = .ok (.iload_n 2, 1) := by decide +kernel
theorem dX7_opensOn_163 : decode cX7_opensOn 163 = .ok (.iconst 1, 1) := by decide +kernel
theorem dX7_opensOn_164 : decode cX7_opensOn 164 = .ok (.iadd, 1) := by decide +kernel
theorem dX7_opensOn_165 : decode cX7_opensOn 165 = .ok (.iload_n 2, 1) := by decide +kernel
theorem dX7_opensOn_166 : decode cX7_opensOn 166 = .ok (.ifCond .ne 8, 3) := by decide +kernel
theorem dX7_opensOn_169 : decode cX7_opensOn 169 = .ok (.iload 6, 2) := by decide +kernel
theorem dX7_opensOn_171 : decode cX7_opensOn 171 = .ok (.goto 10, 3) := by decide +kernel
theorem dX7_opensOn_174 : decode cX7_opensOn 174 = .ok (.aload_n 0, 1) := by decide +kernel
theorem dX7_opensOn_175 : decode cX7_opensOn 175 = .ok (.getfield 262, 3) := by decide +kernel
theorem dX7_opensOn_178 : decode cX7_opensOn 178 = .ok (.iload 4, 2) := by decide +kernel
theorem dX7_opensOn_180 : decode cX7_opensOn 180 = .ok (.iaload, 1) := by decide +kernel
theorem dX7_opensOn_181 : decode cX7_opensOn 181 = .ok (.invokevirtual 268, 3) := by decide +kernel
theorem dX7_opensOn_184 : decode cX7_opensOn 184 = .ok (.ior, 1) := by decide +kernel
theorem dX7_opensOn_185 : decode cX7_opensOn 185 = .ok (.istore_n 3, 1) := by decide +kernel
theorem dX7_opensOn_186 : decode cX7_opensOn 186 = .ok (.iinc 7 1, 3) := by decide +kernel
theorem dX7_opensOn_189 : decode cX7_opensOn 189 = .ok (.goto (-110), 3) := by decide +kernel
theorem dX7_opensOn_192 : decode cX7_opensOn 192 = .ok (.iinc 6 1, 3) := by decide +kernel
theorem dX7_opensOn_195 : decode cX7_opensOn 195 = .ok (.goto (-128), 3) := by decide +kernel
theorem dX7_opensOn_198 : decode cX7_opensOn 198 = .ok (.iinc 4 1, 3) := by decide +kernel
theorem dX7_opensOn_201 : decode cX7_opensOn 201 = .ok (.goto (-196), 3) := by decide +kernel
theorem dX7_opensOn_204 : decode cX7_opensOn 204 = .ok (.iload_n 3, 1) := by decide +kernel
theorem dX7_opensOn_205 : decode cX7_opensOn 205 = .ok (.ireturn, 1) := by decide +kernel
theorem dX7_findComing_0 : decode cX7_findComing 0 = .ok (.aload_n 0, 1) := by decide +kernel
theorem dX7_findComing_1 : decode cX7_findComing 1 = .ok (.getfield 42, 3) := by decide +kernel
theorem dX7_findComing_4 : decode cX7_findComing 4 = .ok (.iload_n 1, 1) := by decide +kernel
theorem dX7_findComing_5 : decode cX7_findComing 5 = .ok (.iaload, 1) := by decide +kernel
theorem dX7_findComing_6 : decode cX7_findComing 6 = .ok (.istore_n 2, 1) := by decide +kernel
theorem dX7_findComing_7 : decode cX7_findComing 7 = .ok (.aload_n 0, 1) := by decide +kernel
theorem dX7_findComing_8 : decode cX7_findComing 8 = .ok (.getfield 108, 3) := by decide +kernel
theorem dX7_findComing_11 : decode cX7_findComing 11 = .ok (.istore_n 3, 1) := by decide +kernel
theorem dX7_findComing_12 : decode cX7_findComing 12 = .ok (.aload_n 0, 1) := by decide +kernel
theorem dX7_findComing_13 : decode cX7_findComing 13 = .ok (.getfield 259, 3) := by decide +kernel
theorem dX7_findComing_16 : decode cX7_findComing 16 = .ok (.ifnonnull 21, 3) := by decide +kernel
theorem dX7_findComing_19 : decode cX7_findComing 19 = .ok (.aload_n 0, 1) := by decide +kernel
theorem dX7_findComing_20 : decode cX7_findComing 20 = .ok (.sipush 20480, 3) := by decide +kernel
theorem dX7_findComing_23 : decode cX7_findComing 23 = .ok (.newarray .int, 2) := by decide +kernel
theorem dX7_findComing_25 : decode cX7_findComing 25 = .ok (.putfield 259, 3) := by decide +kernel
theorem dX7_findComing_28 : decode cX7_findComing 28 = .ok (.aload_n 0, 1) := by decide +kernel
theorem dX7_findComing_29 : decode cX7_findComing 29 = .ok (.sipush 20480, 3) := by decide +kernel
theorem dX7_findComing_32 : decode cX7_findComing 32 = .ok (.newarray .int, 2) := by decide +kernel
theorem dX7_findComing_34 : decode cX7_findComing 34 = .ok (.putfield 262, 3) := by decide +kernel
theorem dX7_findComing_37 : decode cX7_findComing 37 = .ok (.iconst 0, 1) := by decide +kernel
theorem dX7_findComing_38 : decode cX7_findComing 38 = .ok (.istore 4, 2) := by decide +kernel
theorem dX7_findComing_40 : decode cX7_findComing 40 = .ok (.iload 4, 2) := by decide +kernel
theorem dX7_findComing_42 : decode cX7_findComing 42 = .ok (.aload_n 0, 1) := by decide +kernel
theorem dX7_findComing_43 : decode cX7_findComing 43 = .ok (.getfield 256, 3) := by decide +kernel
theorem dX7_findComing_46 : decode cX7_findComing 46 = .ok (.iconst 1, 1) := by decide +kernel
theorem dX7_findComing_47 : decode cX7_findComing 47 = .ok (.iadd, 1) := by decide +kernel
theorem dX7_findComing_48 : decode cX7_findComing 48 = .ok (.sipush 512, 3) := by decide +kernel
theorem dX7_findComing_51 : decode cX7_findComing 51 = .ok (.imul, 1) := by decide +kernel
theorem dX7_findComing_52 : decode cX7_findComing 52 = .ok (.bipush 8, 2) := by decide +kernel
theorem dX7_findComing_54 : decode cX7_findComing 54 = .ok (.imul, 1) := by decide +kernel
theorem dX7_findComing_55 : decode cX7_findComing 55 = .ok (.if_icmp .ge 26, 3) := by decide +kernel
theorem dX7_findComing_58 : decode cX7_findComing 58 = .ok (.aload_n 0, 1) := by decide +kernel
theorem dX7_findComing_59 : decode cX7_findComing 59 = .ok (.getfield 259, 3) := by decide +kernel
theorem dX7_findComing_62 : decode cX7_findComing 62 = .ok (.iload 4, 2) := by decide +kernel
theorem dX7_findComing_64 : decode cX7_findComing 64 = .ok (.iconst (-1), 1) := by decide +kernel
theorem dX7_findComing_65 : decode cX7_findComing 65 = .ok (.iastore, 1) := by decide +kernel
theorem dX7_findComing_66 : decode cX7_findComing 66 = .ok (.aload_n 0, 1) := by decide +kernel
theorem dX7_findComing_67 : decode cX7_findComing 67 = .ok (.getfield 262, 3) := by decide +kernel
theorem dX7_findComing_70 : decode cX7_findComing 70 = .ok (.iload 4, 2) := by decide +kernel
theorem dX7_findComing_72 : decode cX7_findComing 72 = .ok (.bipush 14, 2) := by decide +kernel
theorem dX7_findComing_74 : decode cX7_findComing 74 = .ok (.iastore, 1) := by decide +kernel
theorem dX7_findComing_75 : decode cX7_findComing 75 = .ok (.iinc 4 1, 3) := by decide +kernel
theorem dX7_findComing_78 : decode cX7_findComing 78 = .ok (.goto (-38), 3) := by decide +kernel
theorem dX7_findComing_81 : decode cX7_findComing 81 = .ok (.aload_n 0, 1) := by decide +kernel
theorem dX7_findComing_82 : decode cX7_findComing 82 = .ok (.iconst 0, 1) := by decide +kernel
theorem dX7_findComing_83 : decode cX7_findComing 83 = .ok (.putfield 271, 3) := by decide +kernel
theorem dX7_findComing_86 : decode cX7_findComing 86 = .ok (.iconst 1, 1) := by decide +kernel
theorem dX7_findComing_87 : decode cX7_findComing 87 = .ok (.istore 4, 2) := by decide +kernel
theorem dX7_findComing_89 : decode cX7_findComing 89 = .ok (.iload 4, 2) := by decide +kernel
theorem dX7_findComing_91 : decode cX7_findComing 91 = .ok (.iconst 1, 1) := by decide +kernel
theorem dX7_findComing_92 : decode cX7_findComing 92 = .ok (.aload_n 0, 1) := by decide +kernel
theorem dX7_findComing_93 : decode cX7_findComing 93 = .ok (.getfield 61, 3) := by decide +kernel
theorem dX7_findComing_96 : decode cX7_findComing 96 = .ok (.ishl, 1) := by decide +kernel
theorem dX7_findComing_97 : decode cX7_findComing 97 = .ok (.if_icmp .ge 36, 3) := by decide +kernel
theorem dX7_findComing_100 : decode cX7_findComing 100 = .ok (.aload_n 0, 1) := by decide +kernel
theorem dX7_findComing_101 : decode cX7_findComing 101 = .ok (.iload 4, 2) := by decide +kernel
theorem dX7_findComing_103 : decode cX7_findComing 103 = .ok (.invokevirtual 222, 3) := by decide +kernel
theorem dX7_findComing_106 : decode cX7_findComing 106 = .ok (.ifCond .eq 21, 3) := by decide +kernel
theorem dX7_findComing_109 : decode cX7_findComing 109 = .ok (.aload_n 0, 1) := by decide +kernel
theorem dX7_findComing_110 : decode cX7_findComing 110 = .ok (.getfield 58, 3) := by decide +kernel
theorem dX7_findComing_113 : decode cX7_findComing 113 = .ok (.aload_n 0, 1) := by decide +kernel
theorem dX7_findComing_114 : decode cX7_findComing 114 = .ok (.dup, 1) := by decide +kernel
theorem dX7_findComing_115 : decode cX7_findComing 115 = .ok (.getfield 271, 3) := by decide +kernel
theorem dX7_findComing_118 : decode cX7_findComing 118 = .ok (.dup_x1, 1) := by decide +kernel
theorem dX7_findComing_119 : decode cX7_findComing 119 = .ok (.iconst 1, 1) := by decide +kernel
theorem dX7_findComing_120 : decode cX7_findComing 120 = .ok (.iadd, 1) := by decide +kernel
theorem dX7_findComing_121 : decode cX7_findComing 121 = .ok (.putfield 271, 3) := by decide +kernel
theorem dX7_findComing_124 : decode cX7_findComing 124 = .ok (.iload 4, 2) := by decide +kernel
theorem dX7_findComing_126 : decode cX7_findComing 126 = .ok (.iastore, 1) := by decide +kernel
theorem dX7_findComing_127 : decode cX7_findComing 127 = .ok (.iinc 4 1, 3) := by decide +kernel
theorem dX7_findComing_130 : decode cX7_findComing 130 = .ok (.goto (-41), 3) := by decide +kernel
theorem dX7_findComing_133 : decode cX7_findComing 133 = .ok (.aload_n 0, 1) := by decide +kernel
theorem dX7_findComing_134 : decode cX7_findComing 134 = .ok (.aload_n 0, 1) := by decide +kernel
theorem dX7_findComing_135 : decode cX7_findComing 135 = .ok (.iconst 0, 1) := by decide +kernel
theorem dX7_findComing_136 : decode cX7_findComing 136 = .ok (.iload_n 3, 1) := by decide +kernel
theorem dX7_findComing_137 : decode cX7_findComing 137 = .ok (.iload_n 2, 1) := by decide +kernel
theorem dX7_findComing_138 : decode cX7_findComing 138 = .ok (.invokevirtual 265, 3) := by decide +kernel
theorem dX7_findComing_141 : decode cX7_findComing 141 = .ok (.iconst 0, 1) := by decide +kernel
theorem dX7_findComing_142 : decode cX7_findComing 142 = .ok (.bipush 14, 2) := by decide +kernel
theorem dX7_findComing_144 : decode cX7_findComing 144 = .ok (.invokevirtual 268, 3) := by decide +kernel
theorem dX7_findComing_147 : decode cX7_findComing 147 = .ok (.pop, 1) := by decide +kernel
theorem dX7_findComing_148 : decode cX7_findComing 148 = .ok (.aload_n 0, 1) := by decide +kernel
theorem dX7_findComing_149 : decode cX7_findComing 149 = .ok (.iconst 0, 1) := by decide +kernel
theorem dX7_findComing_150 : decode cX7_findComing 150 = .ok (.invokevirtual 274, 3) := by decide +kernel
theorem dX7_findComing_153 : decode cX7_findComing 153 = .ok (.iconst 0, 1) := by decide +kernel
theorem dX7_findComing_154 : decode cX7_findComing 154 = .ok (.istore 4, 2) := by decide +kernel
theorem dX7_findComing_156 : decode cX7_findComing 156 = .ok (.aload_n 0, 1) := by decide +kernel
theorem dX7_findComing_157 : decode cX7_findComing 157 = .ok (.iload_n 1, 1) := by decide +kernel
theorem dX7_findComing_158 : decode cX7_findComing 158 = .ok (.iload 4, 2) := by decide +kernel
theorem dX7_findComing_160 : decode cX7_findComing 160 = .ok (.invokevirtual 278, 3) := by decide +kernel
theorem dX7_findComing_163 : decode cX7_findComing 163 = .ok (.ifCond .eq 15, 3) := by decide +kernel
theorem dX7_findComing_166 : decode cX7_findComing 166 = .ok (.iinc 4 1, 3) := by decide +kernel
theorem dX7_findComing_169 : decode cX7_findComing 169 = .ok (.aload_n 0, 1) := by decide +kernel
theorem dX7_findComing_170 : decode cX7_findComing 170 = .ok (.iload 4, 2) := by decide +kernel
theorem dX7_findComing_172 : decode cX7_findComing 172 = .ok (.invokevirtual 274, 3) := by decide +kernel
theorem dX7_findComing_175 : decode cX7_findComing 175 = .ok (.goto (-19), 3) := by decide +kernel
theorem dX7_findComing_178 : decode cX7_findComing 178 = .ok (.aload_n 0, 1) := by decide +kernel
theorem dX7_findComing_179 : decode cX7_findComing 179 = .ok (.getfield 42, 3) := by decide +kernel
theorem dX7_findComing_182 : decode cX7_findComing 182 = .ok (.iload_n 1, 1) := by decide +kernel
theorem dX7_findComing_183 : decode cX7_findComing 183 = .ok (.iload_n 2, 1) := by decide +kernel
theorem dX7_findComing_184 : decode cX7_findComing 184 = .ok (.iastore, 1) := by decide +kernel
theorem dX7_findComing_185 : decode cX7_findComing 185 = .ok (.aload_n 0, 1) := by decide +kernel
theorem dX7_findComing_186 : decode cX7_findComing 186 = .ok (.iload_n 3, 1) := by decide +kernel
theorem dX7_findComing_187 : decode cX7_findComing 187 = .ok (.putfield 108, 3) := by decide +kernel
theorem dX7_findComing_190 : decode cX7_findComing 190 = .ok (.return_, 1) := by decide +kernel
theorem dX7_fewest_0 : decode cX7_fewest 0 = .ok (.iconst (-1), 1) := by decide +kernel
theorem dX7_fewest_1 : decode cX7_fewest 1 = .ok (.istore_n 1, 1) := by decide +kernel
theorem dX7_fewest_2 : decode cX7_fewest 2 = .ok (.aload_n 0, 1) := by decide +kernel
theorem dX7_fewest_3 : decode cX7_fewest 3 = .ok (.bipush 14, 2) := by decide +kernel
theorem dX7_fewest_5 : decode cX7_fewest 5 = .ok (.putfield 281, 3) := by decide +kernel
theorem dX7_fewest_8 : decode cX7_fewest 8 = .ok (.aload_n 0, 1) := by decide +kernel
theorem dX7_fewest_9 : decode cX7_fewest 9 = .ok (.getfield 256, 3) := by decide +kernel
theorem dX7_fewest_12 : decode cX7_fewest 12 = .ok (.sipush 512, 3) := by decide +kernel
theorem dX7_fewest_15 : decode cX7_fewest 15 = .ok (.imul, 1) := by decide +kernel
theorem dX7_fewest_16 : decode cX7_fewest 16 = .ok (.bipush 8, 2) := by decide +kernel
theorem dX7_fewest_18 : decode cX7_fewest 18 = .ok (.imul, 1) := by decide +kernel
theorem dX7_fewest_19 : decode cX7_fewest 19 = .ok (.istore_n 2, 1) := by decide +kernel
theorem dX7_fewest_20 : decode cX7_fewest 20 = .ok (.iload_n 2, 1) := by decide +kernel
theorem dX7_fewest_21 : decode cX7_fewest 21 = .ok (.aload_n 0, 1) := by decide +kernel
theorem dX7_fewest_22 : decode cX7_fewest 22 = .ok (.getfield 256, 3) := by decide +kernel
theorem dX7_fewest_25 : decode cX7_fewest 25 = .ok (.iconst 1, 1) := by decide +kernel
theorem dX7_fewest_26 : decode cX7_fewest 26 = .ok (.iadd, 1) := by decide +kernel
theorem dX7_fewest_27 : decode cX7_fewest 27 = .ok (.sipush 512, 3) := by decide +kernel
theorem dX7_fewest_30 : decode cX7_fewest 30 = .ok (.imul, 1) := by decide +kernel
theorem dX7_fewest_31 : decode cX7_fewest 31 = .ok (.bipush 8, 2) := by decide +kernel
theorem dX7_fewest_33 : decode cX7_fewest 33 = .ok (.imul, 1) := by decide +kernel
theorem dX7_fewest_34 : decode cX7_fewest 34 = .ok (.if_icmp .ge 74, 3) := by decide +kernel
theorem dX7_fewest_37 : decode cX7_fewest 37 = .ok (.aload_n 0, 1) := by decide +kernel
theorem dX7_fewest_38 : decode cX7_fewest 38 = .ok (.getfield 259, 3) := by decide +kernel
theorem dX7_fewest_41 : decode cX7_fewest 41 = .ok (.iload_n 2, 1) := by decide +kernel
theorem dX7_fewest_42 : decode cX7_fewest 42 = .ok (.iaload, 1) := by decide +kernel
theorem dX7_fewest_43 : decode cX7_fewest 43 = .ok (.iconst (-1), 1) := by decide +kernel
theorem dX7_fewest_44 : decode cX7_fewest 44 = .ok (.if_icmp .eq 58, 3) := by decide +kernel
theorem dX7_fewest_47 : decode cX7_fewest 47 = .ok (.iload_n 1, 1) := by decide +kernel
theorem dX7_fewest_48 : decode cX7_fewest 48 = .ok (.iconst (-1), 1) := by decide +kernel
theorem dX7_fewest_49 : decode cX7_fewest 49 = .ok (.if_icmp .eq 36, 3) := by decide +kernel
theorem dX7_fewest_52 : decode cX7_fewest 52 = .ok (.aload_n 0, 1) := by decide +kernel
theorem dX7_fewest_53 : decode cX7_fewest 53 = .ok (.getfield 259, 3) := by decide +kernel
theorem dX7_fewest_56 : decode cX7_fewest 56 = .ok (.iload_n 2, 1) := by decide +kernel
theorem dX7_fewest_57 : decode cX7_fewest 57 = .ok (.iaload, 1) := by decide +kernel
theorem dX7_fewest_58 : decode cX7_fewest 58 = .ok (.iload_n 1, 1) := by decide +kernel
theorem dX7_fewest_59 : decode cX7_fewest 59 = .ok (.if_icmp .lt 26, 3) := by decide +kernel
theorem dX7_fewest_62 : decode cX7_fewest 62 = .ok (.aload_n 0, 1) := by decide +kernel
theorem dX7_fewest_63 : decode cX7_fewest 63 = .ok (.getfield 259, 3) := by decide +kernel
theorem dX7_fewest_66 : decode cX7_fewest 66 = .ok (.iload_n 2, 1) := by decide +kernel
theorem dX7_fewest_67 : decode cX7_fewest 67 = .ok (.iaload, 1) := by decide +kernel
theorem dX7_fewest_68 : decode cX7_fewest 68 = .ok (.iload_n 1, 1) := by decide +kernel
theorem dX7_fewest_69 : decode cX7_fewest 69 = .ok (.if_icmp .ne 33, 3) := by decide +kernel
theorem dX7_fewest_72 : decode cX7_fewest 72 = .ok (.aload_n 0, 1) := by decide +kernel
theorem dX7_fewest_73 : decode cX7_fewest 73 = .ok (.getfield 262, 3) := by decide +kernel
theorem dX7_fewest_76 : decode cX7_fewest 76 = .ok (.iload_n 2, 1) := by decide +kernel
theorem dX7_fewest_77 : decode cX7_fewest 77 = .ok (.iaload, 1) := by decide +kernel
theorem dX7_fewest_78 : decode cX7_fewest 78 = .ok (.aload_n 0, 1) := by decide +kernel
theorem dX7_fewest_79 : decode cX7_fewest 79 = .ok (.getfield 281, 3) := by decide +kernel
theorem dX7_fewest_82 : decode cX7_fewest 82 = .ok (.if_icmp .ge 20, 3) := by decide +kernel
theorem dX7_fewest_85 : decode cX7_fewest 85 = .ok (.aload_n 0, 1) := by decide +kernel
theorem dX7_fewest_86 : decode cX7_fewest 86 = .ok (.getfield 259, 3) := by decide +kernel
theorem dX7_fewest_89 : decode cX7_fewest 89 = .ok (.iload_n 2, 1) := by decide +kernel
theorem dX7_fewest_90 : decode cX7_fewest 90 = .ok (.iaload, 1) := by decide +kernel
theorem dX7_fewest_91 : decode cX7_fewest 91 = .ok (.istore_n 1, 1) := by decide +kernel
theorem dX7_fewest_92 : decode cX7_fewest 92 = .ok (.aload_n 0, 1) := by decide +kernel
theorem dX7_fewest_93 : decode cX7_fewest 93 = .ok (.aload_n 0, 1) := by decide +kernel
theorem dX7_fewest_94 : decode cX7_fewest 94 = .ok (.getfield 262, 3) := by decide +kernel
theorem dX7_fewest_97 : decode cX7_fewest 97 = .ok (.iload_n 2, 1) := by decide +kernel
theorem dX7_fewest_98 : decode cX7_fewest 98 = .ok (.iaload, 1) := by decide +kernel
theorem dX7_fewest_99 : decode cX7_fewest 99 = .ok (.putfield 281, 3) := by decide +kernel
theorem dX7_fewest_102 : decode cX7_fewest 102 = .ok (.iinc 2 1, 3) := by decide +kernel
theorem dX7_fewest_105 : decode cX7_fewest 105 = .ok (.goto (-85), 3) := by decide +kernel
theorem dX7_fewest_108 : decode cX7_fewest 108 = .ok (.iload_n 1, 1) := by decide +kernel
theorem dX7_fewest_109 : decode cX7_fewest 109 = .ok (.ireturn, 1) := by decide +kernel
theorem dX7_comingTo_0 : decode cX7_comingTo 0 = .ok (.aload_n 0, 1) := by decide +kernel
theorem dX7_comingTo_1 : decode cX7_comingTo 1 = .ok (.getfield 55, 3) := by decide +kernel
theorem dX7_comingTo_4 : decode cX7_comingTo 4 = .ok (.iconst 0, 1) := by decide +kernel
theorem dX7_comingTo_5 : decode cX7_comingTo 5 = .ok (.iload_n 2, 1) := by decide +kernel
theorem dX7_comingTo_6 : decode cX7_comingTo 6 = .ok (.iastore, 1) := by decide +kernel
theorem dX7_comingTo_7 : decode cX7_comingTo 7 = .ok (.aload_n 0, 1) := by decide +kernel
theorem dX7_comingTo_8 : decode cX7_comingTo 8 = .ok (.iconst 1, 1) := by decide +kernel
theorem dX7_comingTo_9 : decode cX7_comingTo 9 = .ok (.putfield 256, 3) := by decide +kernel
theorem dX7_comingTo_12 : decode cX7_comingTo 12 = .ok (.aload_n 0, 1) := by decide +kernel
theorem dX7_comingTo_13 : decode cX7_comingTo 13 = .ok (.iload_n 1, 1) := by decide +kernel
theorem dX7_comingTo_14 : decode cX7_comingTo 14 = .ok (.invokevirtual 284, 3) := by decide +kernel
theorem dX7_comingTo_17 : decode cX7_comingTo 17 = .ok (.aload_n 0, 1) := by decide +kernel
theorem dX7_comingTo_18 : decode cX7_comingTo 18 = .ok (.invokevirtual 287, 3) := by decide +kernel
theorem dX7_comingTo_21 : decode cX7_comingTo 21 = .ok (.ireturn, 1) := by decide +kernel
theorem dX7_coming_0 : decode cX7_coming 0 = .ok (.aload_n 0, 1) := by decide +kernel
theorem dX7_coming_1 : decode cX7_coming 1 = .ok (.iload_n 1, 1) := by decide +kernel
theorem dX7_coming_2 : decode cX7_coming 2 = .ok (.invokevirtual 120, 3) := by decide +kernel
theorem dX7_coming_5 : decode cX7_coming 5 = .ok (.ifCond .eq 11, 3) := by decide +kernel
theorem dX7_coming_8 : decode cX7_coming 8 = .ok (.iload_n 2, 1) := by decide +kernel
theorem dX7_coming_9 : decode cX7_coming 9 = .ok (.i2l, 1) := by decide +kernel
theorem dX7_coming_10 : decode cX7_coming 10 = .ok (.invokestatic 104, 3) := by decide +kernel
theorem dX7_coming_13 : decode cX7_coming 13 = .ok (.ifCond .ne 10, 3) := by decide +kernel
theorem dX7_coming_16 : decode cX7_coming 16 = .ok (.aload_n 0, 1) := by decide +kernel
theorem dX7_coming_17 : decode cX7_coming 17 = .ok (.bipush (-2), 2) := by decide +kernel
theorem dX7_coming_19 : decode cX7_coming 19 = .ok (.invokevirtual 77, 3) := by decide +kernel
theorem dX7_coming_22 : decode cX7_coming 22 = .ok (.ireturn, 1) := by decide +kernel
theorem dX7_coming_23 : decode cX7_coming 23 = .ok (.aload_n 0, 1) := by decide +kernel
theorem dX7_coming_24 : decode cX7_coming 24 = .ok (.getfield 61, 3) := by decide +kernel
theorem dX7_coming_27 : decode cX7_coming 27 = .ok (.bipush 9, 2) := by decide +kernel
theorem dX7_coming_29 : decode cX7_coming 29 = .ok (.if_icmp .le 12, 3) := by decide +kernel
theorem dX7_coming_32 : decode cX7_coming 32 = .ok (.aload_n 0, 1) := by decide +kernel
theorem dX7_coming_33 : decode cX7_coming 33 = .ok (.bipush (-5), 2) := by decide +kernel
theorem dX7_coming_35 : decode cX7_coming 35 = .ok (.invokevirtual 77, 3) := by decide +kernel
theorem dX7_coming_38 : decode cX7_coming 38 = .ok (.goto 9, 3) := by decide +kernel
theorem dX7_coming_41 : decode cX7_coming 41 = .ok (.aload_n 0, 1) := by decide +kernel
theorem dX7_coming_42 : decode cX7_coming 42 = .ok (.iload_n 1, 1) := by decide +kernel
theorem dX7_coming_43 : decode cX7_coming 43 = .ok (.iload_n 2, 1) := by decide +kernel
theorem dX7_coming_44 : decode cX7_coming 44 = .ok (.invokevirtual 290, 3) := by decide +kernel
theorem dX7_coming_47 : decode cX7_coming 47 = .ok (.ireturn, 1) := by decide +kernel
theorem dX7_all_0 : decode cX7_all 0 = .ok (.aload_n 0, 1) := by decide +kernel
theorem dX7_all_1 : decode cX7_all 1 = .ok (.iload_n 1, 1) := by decide +kernel
theorem dX7_all_2 : decode cX7_all 2 = .ok (.invokevirtual 120, 3) := by decide +kernel
theorem dX7_all_5 : decode cX7_all 5 = .ok (.ifCond .ne 10, 3) := by decide +kernel
theorem dX7_all_8 : decode cX7_all 8 = .ok (.aload_n 0, 1) := by decide +kernel
theorem dX7_all_9 : decode cX7_all 9 = .ok (.bipush (-2), 2) := by decide +kernel
theorem dX7_all_11 : decode cX7_all 11 = .ok (.invokevirtual 77, 3) := by decide +kernel
theorem dX7_all_14 : decode cX7_all 14 = .ok (.ireturn, 1) := by decide +kernel
theorem dX7_all_15 : decode cX7_all 15 = .ok (.aload_n 0, 1) := by decide +kernel
theorem dX7_all_16 : decode cX7_all 16 = .ok (.getfield 61, 3) := by decide +kernel
theorem dX7_all_19 : decode cX7_all 19 = .ok (.bipush 9, 2) := by decide +kernel
theorem dX7_all_21 : decode cX7_all 21 = .ok (.if_icmp .le 10, 3) := by decide +kernel
theorem dX7_all_24 : decode cX7_all 24 = .ok (.aload_n 0, 1) := by decide +kernel
theorem dX7_all_25 : decode cX7_all 25 = .ok (.bipush (-5), 2) := by decide +kernel
theorem dX7_all_27 : decode cX7_all 27 = .ok (.invokevirtual 77, 3) := by decide +kernel
theorem dX7_all_30 : decode cX7_all 30 = .ok (.ireturn, 1) := by decide +kernel
theorem dX7_all_31 : decode cX7_all 31 = .ok (.aload_n 0, 1) := by decide +kernel
theorem dX7_all_32 : decode cX7_all 32 = .ok (.iconst 0, 1) := by decide +kernel
theorem dX7_all_33 : decode cX7_all 33 = .ok (.putfield 256, 3) := by decide +kernel
theorem dX7_all_36 : decode cX7_all 36 = .ok (.aload_n 0, 1) := by decide +kernel
theorem dX7_all_37 : decode cX7_all 37 = .ok (.iload_n 1, 1) := by decide +kernel
theorem dX7_all_38 : decode cX7_all 38 = .ok (.invokevirtual 284, 3) := by decide +kernel
theorem dX7_all_41 : decode cX7_all 41 = .ok (.iconst 0, 1) := by decide +kernel
theorem dX7_all_42 : decode cX7_all 42 = .ok (.istore_n 2, 1) := by decide +kernel
theorem dX7_all_43 : decode cX7_all 43 = .ok (.iconst 0, 1) := by decide +kernel
theorem dX7_all_44 : decode cX7_all 44 = .ok (.istore_n 3, 1) := by decide +kernel
theorem dX7_all_45 : decode cX7_all 45 = .ok (.iload_n 3, 1) := by decide +kernel
theorem dX7_all_46 : decode cX7_all 46 = .ok (.sipush 4096, 3) := by decide +kernel
theorem dX7_all_49 : decode cX7_all 49 = .ok (.if_icmp .ge 32, 3) := by decide +kernel
theorem dX7_all_52 : decode cX7_all 52 = .ok (.iload_n 2, 1) := by decide +kernel
theorem dX7_all_53 : decode cX7_all 53 = .ok (.aload_n 0, 1) := by decide +kernel
theorem dX7_all_54 : decode cX7_all 54 = .ok (.getfield 259, 3) := by decide +kernel
theorem dX7_all_57 : decode cX7_all 57 = .ok (.iload_n 3, 1) := by decide +kernel
theorem dX7_all_58 : decode cX7_all 58 = .ok (.iaload, 1) := by decide +kernel
theorem dX7_all_59 : decode cX7_all 59 = .ok (.iconst (-1), 1) := by decide +kernel
theorem dX7_all_60 : decode cX7_all 60 = .ok (.if_icmp .eq 12, 3) := by decide +kernel
theorem dX7_all_63 : decode cX7_all 63 = .ok (.iconst 1, 1) := by decide +kernel
theorem dX7_all_64 : decode cX7_all 64 = .ok (.iload_n 3, 1) := by decide +kernel
theorem dX7_all_65 : decode cX7_all 65 = .ok (.bipush 8, 2) := by decide +kernel
theorem dX7_all_67 : decode cX7_all 67 = .ok (.irem, 1) := by decide +kernel
theorem dX7_all_68 : decode cX7_all 68 = .ok (.ishl, 1) := by decide +kernel
theorem dX7_all_69 : decode cX7_all 69 = .ok (.goto 4, 3) := by decide +kernel
theorem dX7_all_72 : decode cX7_all 72 = .ok (.iconst 0, 1) := by decide +kernel
theorem dX7_all_73 : decode cX7_all 73 = .ok (.ior, 1) := by decide +kernel
theorem dX7_all_74 : decode cX7_all 74 = .ok (.istore_n 2, 1) := by decide +kernel
theorem dX7_all_75 : decode cX7_all 75 = .ok (.iinc 3 1, 3) := by decide +kernel
theorem dX7_all_78 : decode cX7_all 78 = .ok (.goto (-33), 3) := by decide +kernel
theorem dX7_all_81 : decode cX7_all 81 = .ok (.iload_n 2, 1) := by decide +kernel
theorem dX7_all_82 : decode cX7_all 82 = .ok (.ireturn, 1) := by decide +kernel
theorem dX7_first_0 : decode cX7_first 0 = .ok (.aload_n 0, 1) := by decide +kernel
theorem dX7_first_1 : decode cX7_first 1 = .ok (.iload_n 1, 1) := by decide +kernel
theorem dX7_first_2 : decode cX7_first 2 = .ok (.invokevirtual 120, 3) := by decide +kernel
theorem dX7_first_5 : decode cX7_first 5 = .ok (.ifCond .eq 11, 3) := by decide +kernel
theorem dX7_first_8 : decode cX7_first 8 = .ok (.iload_n 2, 1) := by decide +kernel
theorem dX7_first_9 : decode cX7_first 9 = .ok (.i2l, 1) := by decide +kernel
theorem dX7_first_10 : decode cX7_first 10 = .ok (.invokestatic 104, 3) := by decide +kernel
theorem dX7_first_13 : decode cX7_first 13 = .ok (.ifCond .ne 10, 3) := by decide +kernel
theorem dX7_first_16 : decode cX7_first 16 = .ok (.aload_n 0, 1) := by decide +kernel
theorem dX7_first_17 : decode cX7_first 17 = .ok (.bipush (-2), 2) := by decide +kernel
theorem dX7_first_19 : decode cX7_first 19 = .ok (.invokevirtual 77, 3) := by decide +kernel
theorem dX7_first_22 : decode cX7_first 22 = .ok (.ireturn, 1) := by decide +kernel
theorem dX7_first_23 : decode cX7_first 23 = .ok (.aload_n 0, 1) := by decide +kernel
theorem dX7_first_24 : decode cX7_first 24 = .ok (.getfield 61, 3) := by decide +kernel
theorem dX7_first_27 : decode cX7_first 27 = .ok (.bipush 9, 2) := by decide +kernel
theorem dX7_first_29 : decode cX7_first 29 = .ok (.if_icmp .le 10, 3) := by decide +kernel
theorem dX7_first_32 : decode cX7_first 32 = .ok (.aload_n 0, 1) := by decide +kernel
theorem dX7_first_33 : decode cX7_first 33 = .ok (.bipush (-5), 2) := by decide +kernel
theorem dX7_first_35 : decode cX7_first 35 = .ok (.invokevirtual 77, 3) := by decide +kernel
theorem dX7_first_38 : decode cX7_first 38 = .ok (.ireturn, 1) := by decide +kernel
theorem dX7_first_39 : decode cX7_first 39 = .ok (.aload_n 0, 1) := by decide +kernel
theorem dX7_first_40 : decode cX7_first 40 = .ok (.iload_n 1, 1) := by decide +kernel
theorem dX7_first_41 : decode cX7_first 41 = .ok (.iload_n 2, 1) := by decide +kernel
theorem dX7_first_42 : decode cX7_first 42 = .ok (.invokevirtual 290, 3) := by decide +kernel
theorem dX7_first_45 : decode cX7_first 45 = .ok (.ifCond .le 10, 3) := by decide +kernel
theorem dX7_first_48 : decode cX7_first 48 = .ok (.aload_n 0, 1) := by decide +kernel
theorem dX7_first_49 : decode cX7_first 49 = .ok (.getfield 281, 3) := by decide +kernel
theorem dX7_first_52 : decode cX7_first 52 = .ok (.goto 4, 3) := by decide +kernel
theorem dX7_first_55 : decode cX7_first 55 = .ok (.iconst (-1), 1) := by decide +kernel
theorem dX7_first_56 : decode cX7_first 56 = .ok (.ireturn, 1) := by decide +kernel
def f_X7_walksOn_L58 (n : Nat) (v0 : Nat) (v1 : Int32) (v3 : Int32) (v4 : Int32) : Nat → Int32 → Int32 → xH → Option (Int32 × xH)
  | 0, _, _, _ => none
  | k + 1, v2, v5, h =>
    (x_gI h v0 7 9).bind fun x8 =>
    if x8 ≤ v5 then
      some (v2, h)
    else
      (x_ob h v0 7).bind fun u9 =>
      (f_X7_mayWalk h v0 v5 v4).bind fun q10 =>
      if q10 = 0 then
        (some (v5 + (1 : Int32))).bind fun x11 =>
        f_X7_walksOn_L58 n v0 v1 v3 v4 k v2 x11 h
      else
        (x_idiv v3 (8 : Int32)).bind fun x12 =>
        (x_idiv x12 (512 : Int32)).bind fun x13 =>
        (x_gI h v0 7 11).bind fun x14 =>
        (x_ob h v0 7).bind fun u15 =>
        (f_X7_beyond h v0 v5 v4).bind fun q16 =>
        (x_ob h v0 7).bind fun u17 =>
        (f_X7_stateOf n h v0 x13 x14 q16).bind fun q18 =>
        (x_gR h v0 7 28).bind fun a19 =>
        (x_ld h a19 v3).bind fun x20 =>
        (x_ob h v0 7).bind fun u21 =>
        (f_X7_comes h v0 q18 v1 x20).bind fun q22 =>
        (some (v2 ||| q22.1)).bind fun x23 =>
        (some (v5 + (1 : Int32))).bind fun x24 =>
        f_X7_walksOn_L58 n v0 v1 v3 v4 k x23 x24 q22.2
set_option maxRecDepth 100000 in
set_option maxHeartbeats 4000000 in
theorem l_X7_walksOn_58 {S : Nat × (Nat → Int32)} {rv : Option Value} {h0 h1 : xH} {mc ms : Nat} {cells slots : Nat} (hm : cells ≤ mc ∧ slots ≤ ms) (n : Nat) (v0 : Nat) (v1 : Int32) (v3 : Int32) (v4 : Int32) : ∀ (k : Nat) (v2 : Int32) (v5 : Int32) (h : xH) (res : Int32 × xH), f_X7_walksOn_L58 n v0 v1 v3 v4 k v2 v5 h = some res → (∀ r9, res = r9 → Y S M_X7_walksOn h0 rv h1 mc ms 122 [(0, .ref v0), (1, .int v1), (2, .int r9.1), (3, .int v3)] [] r9.2 cells slots) → Y S M_X7_walksOn h0 rv h1 mc ms 58 [(0, .ref v0), (1, .int v1), (2, .int v2), (3, .int v3), (4, .int v4), (5, .int v5)] [] h cells slots := by
  intro k
  induction k with
  | zero =>
    intro _ _ _ _ hE
    cases hE
  | succ k ih =>
    intro v2 v5 h res hE K
    unfold f_X7_walksOn_L58 at hE
    refine y_iload dX7_walksOn_58 5 rfl ?_
    refine y_aload_n dX7_walksOn_60 0 rfl ?_
    obtain ⟨x8, ex8, hE⟩ := Option.bind_eq_some_iff.mp hE
    refine y_getI fl_X7_61 ex8 dX7_walksOn_61 ?_
    refine y_icmp_ge (tgt := 122) dX7_walksOn_64 (by decide) (fun hc26 => ?_) (fun hc26 => ?_)
    · rw [if_pos hc26] at hE
      obtain rfl := Option.some.inj hE
      exact y_pick [0, 1, 2, 3] rfl (K _ rfl)
    · rw [if_neg hc26] at hE
      refine y_aload_n dX7_walksOn_67 0 rfl ?_
      refine y_iload dX7_walksOn_68 5 rfl ?_
      refine y_iload dX7_walksOn_70 4 rfl ?_
      obtain ⟨u9, eu9, hE⟩ := Option.bind_eq_some_iff.mp hE
      obtain ⟨q10, eq10, hE⟩ := Option.bind_eq_some_iff.mp hE
      refine y_cVi0 (st := []) (as := [.int v5, .int v4]) (c_X7_mayWalk eq10) lk_X7_230 in_X7_mayWalk se_X7_mayWalk rfl eu9 ⟨Nat.le_of_ble_eq_true rfl, Nat.le_of_ble_eq_true rfl⟩ (Nat.le_of_ble_eq_true rfl) dX7_walksOn_72 hm rfl ?_
      refine y_if_eq (tgt := 116) dX7_walksOn_75 (by decide) (fun hc25 => ?_) (fun hc25 => ?_)
      · rw [if_pos hc25] at hE
        obtain ⟨x11, ex11, hE⟩ := Option.bind_eq_some_iff.mp hE
        refine y_iinc (ls' := [(5, .int x11), (0, .ref v0), (1, .int v1), (2, .int v2), (3, .int v3), (4, .int v4)]) dX7_walksOn_116 5 rfl (Option.some.inj ex11) (by decide) rfl ?_
        refine y_goto (tgt := 58) dX7_walksOn_119 (by decide) ?_
        refine y_pick [1, 2, 3, 4, 5, 0] rfl ?_
        exact ih _ _ _ _ hE K
      · rw [if_neg hc25] at hE
        refine y_iload_n dX7_walksOn_78 2 rfl ?_
        refine y_aload_n dX7_walksOn_79 0 rfl ?_
        refine y_aload_n dX7_walksOn_80 0 rfl ?_
        refine y_iload_n dX7_walksOn_81 3 rfl ?_
        refine y_bipush (v := (8 : Int32)) dX7_walksOn_82 (by decide) ?_
        obtain ⟨x12, ex12, hE⟩ := Option.bind_eq_some_iff.mp hE
        refine y_div ex12 dX7_walksOn_84 ?_
        refine y_sipush (v := (512 : Int32)) dX7_walksOn_85 (by decide) ?_
        obtain ⟨x13, ex13, hE⟩ := Option.bind_eq_some_iff.mp hE
        refine y_div ex13 dX7_walksOn_88 ?_
        refine y_aload_n dX7_walksOn_89 0 rfl ?_
        obtain ⟨x14, ex14, hE⟩ := Option.bind_eq_some_iff.mp hE
        refine y_getI fl_X7_108 ex14 dX7_walksOn_90 ?_
        refine y_aload_n dX7_walksOn_93 0 rfl ?_
        refine y_iload dX7_walksOn_94 5 rfl ?_
        refine y_iload dX7_walksOn_96 4 rfl ?_
        obtain ⟨u15, eu15, hE⟩ := Option.bind_eq_some_iff.mp hE
        obtain ⟨q16, eq16, hE⟩ := Option.bind_eq_some_iff.mp hE
        refine y_cVi0 (st := [.int x14, .int x13, .ref v0, .ref v0, .int v2]) (as := [.int v5, .int v4]) (c_X7_beyond eq16) lk_X7_239 in_X7_beyond se_X7_beyond rfl eu15 ⟨Nat.le_of_ble_eq_true rfl, Nat.le_of_ble_eq_true rfl⟩ (Nat.le_of_ble_eq_true rfl) dX7_walksOn_98 hm rfl ?_
        obtain ⟨u17, eu17, hE⟩ := Option.bind_eq_some_iff.mp hE
        obtain ⟨q18, eq18, hE⟩ := Option.bind_eq_some_iff.mp hE
        refine y_cVi0 (st := [.ref v0, .int v2]) (as := [.int x13, .int x14, .int q16]) (c_X7_stateOf eq18) lk_X7_265 in_X7_stateOf se_X7_stateOf rfl eu17 ⟨Nat.le_of_ble_eq_true rfl, Nat.le_of_ble_eq_true rfl⟩ (Nat.le_of_ble_eq_true rfl) dX7_walksOn_101 hm rfl ?_
        refine y_iload_n dX7_walksOn_104 1 rfl ?_
        refine y_aload_n dX7_walksOn_105 0 rfl ?_
        obtain ⟨a19, ea19, hE⟩ := Option.bind_eq_some_iff.mp hE
        refine y_getR fl_X7_262 ea19 dX7_walksOn_106 ?_
        refine y_iload_n dX7_walksOn_109 3 rfl ?_
        obtain ⟨x20, ex20, hE⟩ := Option.bind_eq_some_iff.mp hE
        refine y_iald ex20 dX7_walksOn_110 ?_
        obtain ⟨u21, eu21, hE⟩ := Option.bind_eq_some_iff.mp hE
        obtain ⟨q22, eq22, hE⟩ := Option.bind_eq_some_iff.mp hE
        refine y_cVi0 (st := [.int v2]) (as := [.int q18, .int v1, .int x20]) (c_X7_comes eq22) lk_X7_268 in_X7_comes se_X7_comes rfl eu21 ⟨Nat.le_of_ble_eq_true rfl, Nat.le_of_ble_eq_true rfl⟩ (Nat.le_of_ble_eq_true rfl) dX7_walksOn_111 hm rfl ?_
        refine y_ior dX7_walksOn_114 ?_
        obtain ⟨x23, ex23, hE⟩ := Option.bind_eq_some_iff.mp hE
        refine y_istore_n (ls' := [(2, .int x23), (0, .ref v0), (1, .int v1), (3, .int v3), (4, .int v4), (5, .int v5)]) dX7_walksOn_115 (by decide) (Option.some.inj ex23) rfl ?_
        obtain ⟨x24, ex24, hE⟩ := Option.bind_eq_some_iff.mp hE
        refine y_iinc (ls' := [(5, .int x24), (2, .int x23), (0, .ref v0), (1, .int v1), (3, .int v3), (4, .int v4)]) dX7_walksOn_116 5 rfl (Option.some.inj ex24) (by decide) rfl ?_
        refine y_goto (tgt := 58) dX7_walksOn_119 (by decide) ?_
        refine y_pick [2, 3, 1, 4, 5, 0] rfl ?_
        exact ih _ _ _ _ hE K
def f_X7_walksOn_L10 (n : Nat) (v0 : Nat) (v1 : Int32) : Nat → Int32 → Int32 → xH → Option (Int32 × xH)
  | 0, _, _, _ => none
  | k + 1, v2, v3, h =>
    (x_gI h v0 7 30).bind fun x1 =>
    if (((x1 + (1 : Int32)) * (512 : Int32)) * (8 : Int32)) ≤ v3 then
      some (v2, h)
    else
      (x_gR h v0 7 27).bind fun a2 =>
      (x_ld h a2 v3).bind fun x3 =>
      if x3 = v1 then
        (x_irem v3 (8 : Int32)).bind fun x4 =>
        (x_idiv v3 (8 : Int32)).bind fun x5 =>
        (x_irem x5 (512 : Int32)).bind fun x6 =>
        (x_put h v0 7 11 (.int x6)).bind fun h7 =>
        (f_X7_walksOn_L58 n v0 v1 v3 x4 n v2 (0 : Int32) h7).bind fun q27 =>
        (some (v3 + (1 : Int32))).bind fun x28 =>
        f_X7_walksOn_L10 n v0 v1 k q27.1 x28 q27.2
      else
        (some (v3 + (1 : Int32))).bind fun x29 =>
        f_X7_walksOn_L10 n v0 v1 k v2 x29 h
set_option maxRecDepth 100000 in
set_option maxHeartbeats 4000000 in
theorem l_X7_walksOn_10 {S : Nat × (Nat → Int32)} {rv : Option Value} {h0 h1 : xH} {mc ms : Nat} {cells slots : Nat} (hm : cells ≤ mc ∧ slots ≤ ms) (n : Nat) (v0 : Nat) (v1 : Int32) : ∀ (k : Nat) (v2 : Int32) (v3 : Int32) (h : xH) (res : Int32 × xH), f_X7_walksOn_L10 n v0 v1 k v2 v3 h = some res → (∀ r9, res = r9 → Y S M_X7_walksOn h0 rv h1 mc ms 128 [(0, .ref v0), (1, .int v1), (2, .int r9.1)] [] r9.2 cells slots) → Y S M_X7_walksOn h0 rv h1 mc ms 10 [(0, .ref v0), (1, .int v1), (2, .int v2), (3, .int v3)] [] h cells slots := by
  intro k
  induction k with
  | zero =>
    intro _ _ _ _ hE
    cases hE
  | succ k ih =>
    intro v2 v3 h res hE K
    unfold f_X7_walksOn_L10 at hE
    refine y_iload_n dX7_walksOn_10 3 rfl ?_
    refine y_aload_n dX7_walksOn_11 0 rfl ?_
    obtain ⟨x1, ex1, hE⟩ := Option.bind_eq_some_iff.mp hE
    refine y_getI fl_X7_256 ex1 dX7_walksOn_12 ?_
    refine y_iconst (v := (1 : Int32)) dX7_walksOn_15 (by decide) ?_
    refine y_iadd dX7_walksOn_16 ?_
    refine y_sipush (v := (512 : Int32)) dX7_walksOn_17 (by decide) ?_
    refine y_imul dX7_walksOn_20 ?_
    refine y_bipush (v := (8 : Int32)) dX7_walksOn_21 (by decide) ?_
    refine y_imul dX7_walksOn_23 ?_
    refine y_icmp_ge (tgt := 128) dX7_walksOn_24 (by decide) (fun hc31 => ?_) (fun hc31 => ?_)
    · rw [if_pos hc31] at hE
      obtain rfl := Option.some.inj hE
      exact y_pick [0, 1, 2] rfl (K _ rfl)
    · rw [if_neg hc31] at hE
      refine y_aload_n dX7_walksOn_27 0 rfl ?_
      obtain ⟨a2, ea2, hE⟩ := Option.bind_eq_some_iff.mp hE
      refine y_getR fl_X7_259 ea2 dX7_walksOn_28 ?_
      refine y_iload_n dX7_walksOn_31 3 rfl ?_
      obtain ⟨x3, ex3, hE⟩ := Option.bind_eq_some_iff.mp hE
      refine y_iald ex3 dX7_walksOn_32 ?_
      refine y_iload_n dX7_walksOn_33 1 rfl ?_
      refine y_icmp_ne (tgt := 122) dX7_walksOn_34 (by decide) (fun hc30 => ?_) (fun hc30 => ?_)
      · rw [if_pos hc30] at hE
        refine y_iload_n dX7_walksOn_37 3 rfl ?_
        refine y_bipush (v := (8 : Int32)) dX7_walksOn_38 (by decide) ?_
        obtain ⟨x4, ex4, hE⟩ := Option.bind_eq_some_iff.mp hE
        refine y_rem ex4 dX7_walksOn_40 ?_
        refine y_istore (ls' := [(4, .int x4), (0, .ref v0), (1, .int v1), (2, .int v2), (3, .int v3)]) dX7_walksOn_41 (by decide) rfl rfl ?_
        refine y_aload_n dX7_walksOn_43 1 rfl ?_
        refine y_iload_n dX7_walksOn_44 4 rfl ?_
        refine y_bipush (v := (8 : Int32)) dX7_walksOn_45 (by decide) ?_
        obtain ⟨x5, ex5, hE⟩ := Option.bind_eq_some_iff.mp hE
        refine y_div ex5 dX7_walksOn_47 ?_
        refine y_sipush (v := (512 : Int32)) dX7_walksOn_48 (by decide) ?_
        obtain ⟨x6, ex6, hE⟩ := Option.bind_eq_some_iff.mp hE
        refine y_rem ex6 dX7_walksOn_51 ?_
        obtain ⟨h7, eh7, hE⟩ := Option.bind_eq_some_iff.mp hE
        refine y_putI fp_X7_108 eh7 dX7_walksOn_52 ?_
        refine y_iconst (v := (0 : Int32)) dX7_walksOn_55 (by decide) ?_
        refine y_istore (ls' := [(5, .int (0 : Int32)), (4, .int x4), (0, .ref v0), (1, .int v1), (2, .int v2), (3, .int v3)]) dX7_walksOn_56 (by decide) rfl rfl ?_
        obtain ⟨q27, eq27, hE⟩ := Option.bind_eq_some_iff.mp hE
        refine y_pick [2, 3, 4, 5, 1, 0] rfl ?_
        refine l_X7_walksOn_58 (S := S) hm n v0 v1 v3 x4 n v2 (0 : Int32) h7 _ eq27 (fun r8 hr8 => ?_)
        subst hr8
        obtain ⟨x28, ex28, hE⟩ := Option.bind_eq_some_iff.mp hE
        refine y_iinc (ls' := [(3, .int x28), (0, .ref v0), (1, .int v1), (2, .int q27.1)]) dX7_walksOn_122 3 rfl (Option.some.inj ex28) (by decide) rfl ?_
        refine y_goto (tgt := 10) dX7_walksOn_125 (by decide) ?_
        refine y_pick [1, 2, 3, 0] rfl ?_
        exact ih _ _ _ _ hE K
      · rw [if_neg hc30] at hE
        obtain ⟨x29, ex29, hE⟩ := Option.bind_eq_some_iff.mp hE
        refine y_iinc (ls' := [(3, .int x29), (0, .ref v0), (1, .int v1), (2, .int v2)]) dX7_walksOn_122 3 rfl (Option.some.inj ex29) (by decide) rfl ?_
        refine y_goto (tgt := 10) dX7_walksOn_125 (by decide) ?_
        refine y_pick [1, 2, 3, 0] rfl ?_
        exact ih _ _ _ _ hE K
def f_X7_walksOn_L2 (n : Nat) (v0 : Nat) (v1 : Int32) : Nat → Int32 → xH → Option (xH)
  | 0, _, _ => none
  | k + 1, v2, h =>
    if v2 = 0 then
      some h
    else
      (f_X7_walksOn_L10 n v0 v1 n (0 : Int32) (0 : Int32) h).bind fun q32 =>
      f_X7_walksOn_L2 n v0 v1 k q32.1 q32.2
set_option maxRecDepth 100000 in
set_option maxHeartbeats 4000000 in
theorem l_X7_walksOn_2 {S : Nat × (Nat → Int32)} {rv : Option Value} {h0 h1 : xH} {mc ms : Nat} {cells slots : Nat} (hm : cells ≤ mc ∧ slots ≤ ms) (n : Nat) (v0 : Nat) (v1 : Int32) : ∀ (k : Nat) (v2 : Int32) (h : xH) (res : xH), f_X7_walksOn_L2 n v0 v1 k v2 h = some res → (∀ r9, res = r9 → Y S M_X7_walksOn h0 rv h1 mc ms 131 [] [] r9 cells slots) → Y S M_X7_walksOn h0 rv h1 mc ms 2 [(0, .ref v0), (1, .int v1), (2, .int v2)] [] h cells slots := by
  intro k
  induction k with
  | zero =>
    intro _ _ _ hE
    cases hE
  | succ k ih =>
    intro v2 h res hE K
    unfold f_X7_walksOn_L2 at hE
    refine y_iload_n dX7_walksOn_2 2 rfl ?_
    refine y_if_eq (tgt := 131) dX7_walksOn_3 (by decide) (fun hc33 => ?_) (fun hc33 => ?_)
    · rw [if_pos hc33] at hE
      obtain rfl := Option.some.inj hE
      exact y_pick [] rfl (K _ rfl)
    · rw [if_neg hc33] at hE
      refine y_iconst (v := (0 : Int32)) dX7_walksOn_6 (by decide) ?_
      refine y_istore_n (ls' := [(2, .int (0 : Int32)), (0, .ref v0), (1, .int v1)]) dX7_walksOn_7 (by decide) rfl rfl ?_
      refine y_iconst (v := (0 : Int32)) dX7_walksOn_8 (by decide) ?_
      refine y_istore_n (ls' := [(3, .int (0 : Int32)), (2, .int (0 : Int32)), (0, .ref v0), (1, .int v1)]) dX7_walksOn_9 (by decide) rfl rfl ?_
      obtain ⟨q32, eq32, hE⟩ := Option.bind_eq_some_iff.mp hE
      refine y_pick [2, 3, 1, 0] rfl ?_
      refine l_X7_walksOn_10 (S := S) hm n v0 v1 n (0 : Int32) (0 : Int32) h _ eq32 (fun r8 hr8 => ?_)
      subst hr8
      refine y_goto (tgt := 2) dX7_walksOn_128 (by decide) ?_
      refine y_pick [0, 1, 2] rfl ?_
      exact ih _ _ _ hE K
def f_X7_walksOn (n : Nat) (h : xH) (a0 : Nat) (p1 : Int32) : Option (xH) :=
  (f_X7_walksOn_L2 n a0 p1 n (1 : Int32) h).bind fun q34 =>
  some q34
set_option maxRecDepth 100000 in
set_option maxHeartbeats 4000000 in
theorem c_X7_walksOn {n : Nat} {h : xH} {a0 : Nat} {p1 : Int32} {hz : xH} (hE : f_X7_walksOn n h a0 p1 = some hz) : Ctr M_X7_walksOn [.ref a0, .int p1] h none hz 0 0 := by
  refine ctr_of (by decide) (fun _ _ => Nat.le_of_ble_eq_true rfl) (fun S => ?_)
  show Y S M_X7_walksOn h none hz 0 0 0 [(0, .ref a0), (1, .int p1)] [] h 0 0
  unfold f_X7_walksOn at hE
  refine y_iconst (v := (1 : Int32)) dX7_walksOn_0 (by decide) ?_
  refine y_istore_n (ls' := [(2, .int (1 : Int32)), (0, .ref a0), (1, .int p1)]) dX7_walksOn_1 (by decide) rfl rfl ?_
  obtain ⟨q34, eq34, hE⟩ := Option.bind_eq_some_iff.mp hE
  refine y_pick [1, 2, 0] rfl ?_
  refine l_X7_walksOn_2 (S := S) ⟨Nat.le_refl _, Nat.le_refl _⟩ n a0 p1 n (1 : Int32) h _ eq34 (fun r8 hr8 => ?_)
  subst hr8
  obtain rfl := Option.some.inj hE
  exact y_ret dX7_walksOn_131 (Nat.le_refl _) (Nat.le_refl _) rfl
def f_X7_opensOn_L79 (n : Nat) (v0 : Nat) (v1 : Int32) (v2 : Int32) (v4 : Int32) (v5 : Int32) (v6 : Int32) : Nat → Int32 → Int32 → xH → Option (Int32 × xH)
  | 0, _, _, _ => none
  | k + 1, v3, v7, h =>
    (x_gI h v0 7 32).bind fun x13 =>
    if x13 ≤ v7 then
      some (v3, h)
    else
      (x_gR h v0 7 13).bind fun a14 =>
      (x_ld h a14 v1).bind fun x15 =>
      (x_ob h v0 7).bind fun u16 =>
      (f_X7_canOpen h v0 v6 x15).bind fun q17 =>
      if q17 = 0 then
        some (v3, h)
      else
        (x_gR h v0 7 31).bind fun a18 =>
        (x_ld h a18 v7).bind fun x19 =>
        if (x19 &&& (v5 ^^^ (-1 : Int32))) = 0 then
          (x_gI h v0 7 11).bind fun x20 =>
          (x_gR h v0 7 31).bind fun a21 =>
          (x_ld h a21 v7).bind fun x22 =>
          (some ((x20 &&& (x22 ^^^ (-1 : Int32))) ||| (i_shl (1 : Int32) v6))).bind fun x23 =>
          (x_idiv v4 (8 : Int32)).bind fun x24 =>
          (x_idiv x24 (512 : Int32)).bind fun x25 =>
          (x_gR h v0 7 13).bind fun a26 =>
          (x_ld h a26 v1).bind fun x27 =>
          (x_ob h v0 7).bind fun u28 =>
          (f_X7_stateOf n h v0 x25 x23 x27).bind fun q29 =>
          if v2 = 0 then
            (x_ob h v0 7).bind fun u30 =>
            (f_X7_comes h v0 q29 (v2 + (1 : Int32)) v6).bind fun q31 =>
            (some (v3 ||| q31.1)).bind fun x32 =>
            (some (v7 + (1 : Int32))).bind fun x33 =>
            f_X7_opensOn_L79 n v0 v1 v2 v4 v5 v6 k x32 x33 q31.2
          else
            (x_gR h v0 7 28).bind fun a34 =>
            (x_ld h a34 v4).bind fun x35 =>
            (x_ob h v0 7).bind fun u36 =>
            (f_X7_comes h v0 q29 (v2 + (1 : Int32)) x35).bind fun q37 =>
            (some (v3 ||| q37.1)).bind fun x38 =>
            (some (v7 + (1 : Int32))).bind fun x39 =>
            f_X7_opensOn_L79 n v0 v1 v2 v4 v5 v6 k x38 x39 q37.2
        else
          (some (v7 + (1 : Int32))).bind fun x41 =>
          f_X7_opensOn_L79 n v0 v1 v2 v4 v5 v6 k v3 x41 h
set_option maxRecDepth 100000 in
set_option maxHeartbeats 4000000 in
theorem l_X7_opensOn_79 {S : Nat × (Nat → Int32)} {rv : Option Value} {h0 h1 : xH} {mc ms : Nat} {cells slots : Nat} (hm : cells ≤ mc ∧ slots ≤ ms) (n : Nat) (v0 : Nat) (v1 : Int32) (v2 : Int32) (v4 : Int32) (v5 : Int32) (v6 : Int32) : ∀ (k : Nat) (v3 : Int32) (v7 : Int32) (h : xH) (res : Int32 × xH), f_X7_opensOn_L79 n v0 v1 v2 v4 v5 v6 k v3 v7 h = some res → (∀ r9, res = r9 → Y S M_X7_opensOn h0 rv h1 mc ms 192 [(0, .ref v0), (1, .int v1), (2, .int v2), (3, .int r9.1), (4, .int v4), (5, .int v5), (6, .int v6)] [] r9.2 cells slots) → Y S M_X7_opensOn h0 rv h1 mc ms 79 [(0, .ref v0), (1, .int v1), (2, .int v2), (3, .int v3), (4, .int v4), (5, .int v5), (6, .int v6), (7, .int v7)] [] h cells slots := by
  intro k
  induction k with
  | zero =>
    intro _ _ _ _ hE
    cases hE
  | succ k ih =>
    intro v3 v7 h res hE K
    unfold f_X7_opensOn_L79 at hE
    refine y_iload dX7_opensOn_79 7 rfl ?_
    refine y_aload_n dX7_opensOn_81 0 rfl ?_
    obtain ⟨x13, ex13, hE⟩ := Option.bind_eq_some_iff.mp hE
    refine y_getI fl_X7_271 ex13 dX7_opensOn_82 ?_
    refine y_icmp_ge (tgt := 192) dX7_opensOn_85 (by decide) (fun hc44 => ?_) (fun hc44 => ?_)
    · rw [if_pos hc44] at hE
      obtain rfl := Option.some.inj hE
      exact y_pick [0, 1, 2, 3, 4, 5, 6] rfl (K _ rfl)
    · rw [if_neg hc44] at hE
      refine y_aload_n dX7_opensOn_88 0 rfl ?_
      refine y_iload dX7_opensOn_89 6 rfl ?_
      refine y_aload_n dX7_opensOn_91 0 rfl ?_
      obtain ⟨a14, ea14, hE⟩ := Option.bind_eq_some_iff.mp hE
      refine y_getR fl_X7_42 ea14 dX7_opensOn_92 ?_
      refine y_iload_n dX7_opensOn_95 1 rfl ?_
      obtain ⟨x15, ex15, hE⟩ := Option.bind_eq_some_iff.mp hE
      refine y_iald ex15 dX7_opensOn_96 ?_
      obtain ⟨u16, eu16, hE⟩ := Option.bind_eq_some_iff.mp hE
      obtain ⟨q17, eq17, hE⟩ := Option.bind_eq_some_iff.mp hE
      refine y_cVi0 (st := []) (as := [.int v6, .int x15]) (c_X7_canOpen eq17) lk_X7_219 in_X7_canOpen se_X7_canOpen rfl eu16 ⟨Nat.le_of_ble_eq_true rfl, Nat.le_of_ble_eq_true rfl⟩ (Nat.le_of_ble_eq_true rfl) dX7_opensOn_97 hm rfl ?_
      refine y_if_eq (tgt := 192) dX7_opensOn_100 (by decide) (fun hc43 => ?_) (fun hc43 => ?_)
      · rw [if_pos hc43] at hE
        obtain rfl := Option.some.inj hE
        exact y_pick [0, 1, 2, 3, 4, 5, 6] rfl (K _ rfl)
      · rw [if_neg hc43] at hE
        refine y_aload_n dX7_opensOn_103 0 rfl ?_
        obtain ⟨a18, ea18, hE⟩ := Option.bind_eq_some_iff.mp hE
        refine y_getR fl_X7_58 ea18 dX7_opensOn_104 ?_
        refine y_iload dX7_opensOn_107 7 rfl ?_
        obtain ⟨x19, ex19, hE⟩ := Option.bind_eq_some_iff.mp hE
        refine y_iald ex19 dX7_opensOn_109 ?_
        refine y_iload dX7_opensOn_110 5 rfl ?_
        refine y_iconst (v := (-1 : Int32)) dX7_opensOn_112 (by decide) ?_
        refine y_ixor dX7_opensOn_113 ?_
        refine y_iand dX7_opensOn_114 ?_
        refine y_if_ne (tgt := 186) dX7_opensOn_115 (by decide) (fun hc42 => ?_) (fun hc42 => ?_)
        · rw [if_pos hc42] at hE
          refine y_aload_n dX7_opensOn_118 0 rfl ?_
          obtain ⟨x20, ex20, hE⟩ := Option.bind_eq_some_iff.mp hE
          refine y_getI fl_X7_108 ex20 dX7_opensOn_119 ?_
          refine y_aload_n dX7_opensOn_122 0 rfl ?_
          obtain ⟨a21, ea21, hE⟩ := Option.bind_eq_some_iff.mp hE
          refine y_getR fl_X7_58 ea21 dX7_opensOn_123 ?_
          refine y_iload dX7_opensOn_126 7 rfl ?_
          obtain ⟨x22, ex22, hE⟩ := Option.bind_eq_some_iff.mp hE
          refine y_iald ex22 dX7_opensOn_128 ?_
          refine y_iconst (v := (-1 : Int32)) dX7_opensOn_129 (by decide) ?_
          refine y_ixor dX7_opensOn_130 ?_
          refine y_iand dX7_opensOn_131 ?_
          refine y_iconst (v := (1 : Int32)) dX7_opensOn_132 (by decide) ?_
          refine y_iload dX7_opensOn_133 6 rfl ?_
          refine y_ishl dX7_opensOn_135 ?_
          refine y_ior dX7_opensOn_136 ?_
          obtain ⟨x23, ex23, hE⟩ := Option.bind_eq_some_iff.mp hE
          refine y_istore (ls' := [(8, .int x23), (0, .ref v0), (1, .int v1), (2, .int v2), (3, .int v3), (4, .int v4), (5, .int v5), (6, .int v6), (7, .int v7)]) dX7_opensOn_137 (by decide) (Option.some.inj ex23) rfl ?_
          refine y_iload_n dX7_opensOn_139 4 rfl ?_
          refine y_aload_n dX7_opensOn_140 1 rfl ?_
          refine y_aload_n dX7_opensOn_141 1 rfl ?_
          refine y_iload dX7_opensOn_142 5 rfl ?_
          refine y_bipush (v := (8 : Int32)) dX7_opensOn_144 (by decide) ?_
          obtain ⟨x24, ex24, hE⟩ := Option.bind_eq_some_iff.mp hE
          refine y_div ex24 dX7_opensOn_146 ?_
          refine y_sipush (v := (512 : Int32)) dX7_opensOn_147 (by decide) ?_
          obtain ⟨x25, ex25, hE⟩ := Option.bind_eq_some_iff.mp hE
          refine y_div ex25 dX7_opensOn_150 ?_
          refine y_iload dX7_opensOn_151 0 rfl ?_
          refine y_aload_n dX7_opensOn_153 1 rfl ?_
          obtain ⟨a26, ea26, hE⟩ := Option.bind_eq_some_iff.mp hE
          refine y_getR fl_X7_42 ea26 dX7_opensOn_154 ?_
          refine y_iload_n dX7_opensOn_157 2 rfl ?_
          obtain ⟨x27, ex27, hE⟩ := Option.bind_eq_some_iff.mp hE
          refine y_iald ex27 dX7_opensOn_158 ?_
          obtain ⟨u28, eu28, hE⟩ := Option.bind_eq_some_iff.mp hE
          obtain ⟨q29, eq29, hE⟩ := Option.bind_eq_some_iff.mp hE
          refine y_cVi0 (st := [.ref v0, .int v3]) (as := [.int x25, .int x23, .int x27]) (c_X7_stateOf eq29) lk_X7_265 in_X7_stateOf se_X7_stateOf rfl eu28 ⟨Nat.le_of_ble_eq_true rfl, Nat.le_of_ble_eq_true rfl⟩ (Nat.le_of_ble_eq_true rfl) dX7_opensOn_159 hm rfl ?_
          refine y_iload_n dX7_opensOn_162 3 rfl ?_
          refine y_iconst (v := (1 : Int32)) dX7_opensOn_163 (by decide) ?_
          refine y_iadd dX7_opensOn_164 ?_
          refine y_iload_n dX7_opensOn_165 3 rfl ?_
          refine y_if_ne (tgt := 174) dX7_opensOn_166 (by decide) (fun hc40 => ?_) (fun hc40 => ?_)
          · rw [if_pos hc40] at hE
            refine y_iload dX7_opensOn_169 7 rfl ?_
            refine y_goto (tgt := 181) dX7_opensOn_171 (by decide) ?_
            obtain ⟨u30, eu30, hE⟩ := Option.bind_eq_some_iff.mp hE
            obtain ⟨q31, eq31, hE⟩ := Option.bind_eq_some_iff.mp hE
            refine y_cVi0 (st := [.int v3]) (as := [.int q29, .int (v2 + (1 : Int32)), .int v6]) (c_X7_comes eq31) lk_X7_268 in_X7_comes se_X7_comes rfl eu30 ⟨Nat.le_of_ble_eq_true rfl, Nat.le_of_ble_eq_true rfl⟩ (Nat.le_of_ble_eq_true rfl) dX7_opensOn_181 hm rfl ?_
            refine y_ior dX7_opensOn_184 ?_
            obtain ⟨x32, ex32, hE⟩ := Option.bind_eq_some_iff.mp hE
            refine y_istore_n (ls' := [(3, .int x32), (8, .int x23), (0, .ref v0), (1, .int v1), (2, .int v2), (4, .int v4), (5, .int v5), (6, .int v6), (7, .int v7)]) dX7_opensOn_185 (by decide) (Option.some.inj ex32) rfl ?_
            obtain ⟨x33, ex33, hE⟩ := Option.bind_eq_some_iff.mp hE
            refine y_iinc (ls' := [(7, .int x33), (3, .int x32), (8, .int x23), (0, .ref v0), (1, .int v1), (2, .int v2), (4, .int v4), (5, .int v5), (6, .int v6)]) dX7_opensOn_186 8 rfl (Option.some.inj ex33) (by decide) rfl ?_
            refine y_goto (tgt := 79) dX7_opensOn_189 (by decide) ?_
            refine y_pick [3, 4, 5, 1, 6, 7, 8, 0] rfl ?_
            exact ih _ _ _ _ hE K
          · rw [if_neg hc40] at hE
            refine y_aload_n dX7_opensOn_174 1 rfl ?_
            obtain ⟨a34, ea34, hE⟩ := Option.bind_eq_some_iff.mp hE
            refine y_getR fl_X7_262 ea34 dX7_opensOn_175 ?_
            refine y_iload dX7_opensOn_178 5 rfl ?_
            obtain ⟨x35, ex35, hE⟩ := Option.bind_eq_some_iff.mp hE
            refine y_iald ex35 dX7_opensOn_180 ?_
            obtain ⟨u36, eu36, hE⟩ := Option.bind_eq_some_iff.mp hE
            obtain ⟨q37, eq37, hE⟩ := Option.bind_eq_some_iff.mp hE
            refine y_cVi0 (st := [.int v3]) (as := [.int q29, .int (v2 + (1 : Int32)), .int x35]) (c_X7_comes eq37) lk_X7_268 in_X7_comes se_X7_comes rfl eu36 ⟨Nat.le_of_ble_eq_true rfl, Nat.le_of_ble_eq_true rfl⟩ (Nat.le_of_ble_eq_true rfl) dX7_opensOn_181 hm rfl ?_
            refine y_ior dX7_opensOn_184 ?_
            obtain ⟨x38, ex38, hE⟩ := Option.bind_eq_some_iff.mp hE
            refine y_istore_n (ls' := [(3, .int x38), (8, .int x23), (0, .ref v0), (1, .int v1), (2, .int v2), (4, .int v4), (5, .int v5), (6, .int v6), (7, .int v7)]) dX7_opensOn_185 (by decide) (Option.some.inj ex38) rfl ?_
            obtain ⟨x39, ex39, hE⟩ := Option.bind_eq_some_iff.mp hE
            refine y_iinc (ls' := [(7, .int x39), (3, .int x38), (8, .int x23), (0, .ref v0), (1, .int v1), (2, .int v2), (4, .int v4), (5, .int v5), (6, .int v6)]) dX7_opensOn_186 8 rfl (Option.some.inj ex39) (by decide) rfl ?_
            refine y_goto (tgt := 79) dX7_opensOn_189 (by decide) ?_
            refine y_pick [3, 4, 5, 1, 6, 7, 8, 0] rfl ?_
            exact ih _ _ _ _ hE K
        · rw [if_neg hc42] at hE
          obtain ⟨x41, ex41, hE⟩ := Option.bind_eq_some_iff.mp hE
          refine y_iinc (ls' := [(7, .int x41), (0, .ref v0), (1, .int v1), (2, .int v2), (3, .int v3), (4, .int v4), (5, .int v5), (6, .int v6)]) dX7_opensOn_186 7 rfl (Option.some.inj ex41) (by decide) rfl ?_
          refine y_goto (tgt := 79) dX7_opensOn_189 (by decide) ?_
          refine y_pick [1, 2, 3, 4, 5, 6, 7, 0] rfl ?_
          exact ih _ _ _ _ hE K
def f_X7_opensOn_L67 (n : Nat) (v0 : Nat) (v1 : Int32) (v2 : Int32) (v4 : Int32) (v5 : Int32) : Nat → Int32 → Int32 → xH → Option (Int32 × xH)
  | 0, _, _, _ => none
  | k + 1, v3, v6, h =>
    (x_gI h v0 7 9).bind fun x12 =>
    if x12 ≤ v6 then
      some (v3, h)
    else
      (f_X7_opensOn_L79 n v0 v1 v2 v4 v5 v6 n v3 (0 : Int32) h).bind fun q45 =>
      (some (v6 + (1 : Int32))).bind fun x46 =>
      f_X7_opensOn_L67 n v0 v1 v2 v4 v5 k q45.1 x46 q45.2
set_option maxRecDepth 100000 in
set_option maxHeartbeats 4000000 in
theorem l_X7_opensOn_67 {S : Nat × (Nat → Int32)} {rv : Option Value} {h0 h1 : xH} {mc ms : Nat} {cells slots : Nat} (hm : cells ≤ mc ∧ slots ≤ ms) (n : Nat) (v0 : Nat) (v1 : Int32) (v2 : Int32) (v4 : Int32) (v5 : Int32) : ∀ (k : Nat) (v3 : Int32) (v6 : Int32) (h : xH) (res : Int32 × xH), f_X7_opensOn_L67 n v0 v1 v2 v4 v5 k v3 v6 h = some res → (∀ r9, res = r9 → Y S M_X7_opensOn h0 rv h1 mc ms 198 [(0, .ref v0), (1, .int v1), (2, .int v2), (3, .int r9.1), (4, .int v4)] [] r9.2 cells slots) → Y S M_X7_opensOn h0 rv h1 mc ms 67 [(0, .ref v0), (1, .int v1), (2, .int v2), (3, .int v3), (4, .int v4), (5, .int v5), (6, .int v6)] [] h cells slots := by
  intro k
  induction k with
  | zero =>
    intro _ _ _ _ hE
    cases hE
  | succ k ih =>
    intro v3 v6 h res hE K
    unfold f_X7_opensOn_L67 at hE
    refine y_iload dX7_opensOn_67 6 rfl ?_
    refine y_aload_n dX7_opensOn_69 0 rfl ?_
    obtain ⟨x12, ex12, hE⟩ := Option.bind_eq_some_iff.mp hE
    refine y_getI fl_X7_61 ex12 dX7_opensOn_70 ?_
    refine y_icmp_ge (tgt := 198) dX7_opensOn_73 (by decide) (fun hc47 => ?_) (fun hc47 => ?_)
    · rw [if_pos hc47] at hE
      obtain rfl := Option.some.inj hE
      exact y_pick [0, 1, 2, 3, 4] rfl (K _ rfl)
    · rw [if_neg hc47] at hE
      refine y_iconst (v := (0 : Int32)) dX7_opensOn_76 (by decide) ?_
      refine y_istore (ls' := [(7, .int (0 : Int32)), (0, .ref v0), (1, .int v1), (2, .int v2), (3, .int v3), (4, .int v4), (5, .int v5), (6, .int v6)]) dX7_opensOn_77 (by decide) rfl rfl ?_
      obtain ⟨q45, eq45, hE⟩ := Option.bind_eq_some_iff.mp hE
      refine y_pick [1, 2, 3, 4, 5, 6, 7, 0] rfl ?_
      refine l_X7_opensOn_79 (S := S) hm n v0 v1 v2 v4 v5 v6 n v3 (0 : Int32) h _ eq45 (fun r8 hr8 => ?_)
      subst hr8
      obtain ⟨x46, ex46, hE⟩ := Option.bind_eq_some_iff.mp hE
      refine y_iinc (ls' := [(6, .int x46), (0, .ref v0), (1, .int v1), (2, .int v2), (3, .int q45.1), (4, .int v4), (5, .int v5)]) dX7_opensOn_192 6 rfl (Option.some.inj ex46) (by decide) rfl ?_
      refine y_goto (tgt := 67) dX7_opensOn_195 (by decide) ?_
      refine y_pick [1, 2, 3, 4, 5, 6, 0] rfl ?_
      exact ih _ _ _ _ hE K
def f_X7_opensOn_L5 (n : Nat) (v0 : Nat) (v1 : Int32) (v2 : Int32) : Nat → Int32 → Int32 → xH → Option (Int32 × xH)
  | 0, _, _, _ => none
  | k + 1, v3, v4, h =>
    (x_gI h v0 7 30).bind fun x1 =>
    if (((x1 + (1 : Int32)) * (512 : Int32)) * (8 : Int32)) ≤ v4 then
      some (v3, h)
    else
      (x_gR h v0 7 27).bind fun a2 =>
      (x_ld h a2 v4).bind fun x3 =>
      if x3 = v2 then
        (x_gR h v0 7 13).bind fun a4 =>
        (x_irem v4 (8 : Int32)).bind fun x5 =>
        (x_st h a4 v1 x5).bind fun h6 =>
        (x_idiv v4 (8 : Int32)).bind fun x7 =>
        (x_irem x7 (512 : Int32)).bind fun x8 =>
        (x_put h6 v0 7 11 (.int x8)).bind fun h9 =>
        (x_ob h9 v0 7).bind fun u10 =>
        (f_X7_shuttable n h9 v0).bind fun q11 =>
        (f_X7_opensOn_L67 n v0 v1 v2 v4 q11 n v3 (0 : Int32) h9).bind fun q48 =>
        (some (v4 + (1 : Int32))).bind fun x49 =>
        f_X7_opensOn_L5 n v0 v1 v2 k q48.1 x49 q48.2
      else
        (some (v4 + (1 : Int32))).bind fun x50 =>
        f_X7_opensOn_L5 n v0 v1 v2 k v3 x50 h
set_option maxRecDepth 100000 in
set_option maxHeartbeats 4000000 in
theorem l_X7_opensOn_5 {S : Nat × (Nat → Int32)} {rv : Option Value} {h0 h1 : xH} {mc ms : Nat} {cells slots : Nat} (hm : cells ≤ mc ∧ slots ≤ ms) (n : Nat) (v0 : Nat) (v1 : Int32) (v2 : Int32) : ∀ (k : Nat) (v3 : Int32) (v4 : Int32) (h : xH) (res : Int32 × xH), f_X7_opensOn_L5 n v0 v1 v2 k v3 v4 h = some res → (∀ r9, res = r9 → Y S M_X7_opensOn h0 rv h1 mc ms 204 [(3, .int r9.1)] [] r9.2 cells slots) → Y S M_X7_opensOn h0 rv h1 mc ms 5 [(0, .ref v0), (1, .int v1), (2, .int v2), (3, .int v3), (4, .int v4)] [] h cells slots := by
  intro k
  induction k with
  | zero =>
    intro _ _ _ _ hE
    cases hE
  | succ k ih =>
    intro v3 v4 h res hE K
    unfold f_X7_opensOn_L5 at hE
    refine y_iload dX7_opensOn_5 4 rfl ?_
    refine y_aload_n dX7_opensOn_7 0 rfl ?_
    obtain ⟨x1, ex1, hE⟩ := Option.bind_eq_some_iff.mp hE
    refine y_getI fl_X7_256 ex1 dX7_opensOn_8 ?_
    refine y_iconst (v := (1 : Int32)) dX7_opensOn_11 (by decide) ?_
    refine y_iadd dX7_opensOn_12 ?_
    refine y_sipush (v := (512 : Int32)) dX7_opensOn_13 (by decide) ?_
    refine y_imul dX7_opensOn_16 ?_
    refine y_bipush (v := (8 : Int32)) dX7_opensOn_17 (by decide) ?_
    refine y_imul dX7_opensOn_19 ?_
    refine y_icmp_ge (tgt := 204) dX7_opensOn_20 (by decide) (fun hc52 => ?_) (fun hc52 => ?_)
    · rw [if_pos hc52] at hE
      obtain rfl := Option.some.inj hE
      exact y_pick [3] rfl (K _ rfl)
    · rw [if_neg hc52] at hE
      refine y_aload_n dX7_opensOn_23 0 rfl ?_
      obtain ⟨a2, ea2, hE⟩ := Option.bind_eq_some_iff.mp hE
      refine y_getR fl_X7_259 ea2 dX7_opensOn_24 ?_
      refine y_iload dX7_opensOn_27 4 rfl ?_
      obtain ⟨x3, ex3, hE⟩ := Option.bind_eq_some_iff.mp hE
      refine y_iald ex3 dX7_opensOn_29 ?_
      refine y_iload_n dX7_opensOn_30 2 rfl ?_
      refine y_icmp_ne (tgt := 198) dX7_opensOn_31 (by decide) (fun hc51 => ?_) (fun hc51 => ?_)
      · rw [if_pos hc51] at hE
        refine y_aload_n dX7_opensOn_34 0 rfl ?_
        obtain ⟨a4, ea4, hE⟩ := Option.bind_eq_some_iff.mp hE
        refine y_getR fl_X7_42 ea4 dX7_opensOn_35 ?_
        refine y_iload_n dX7_opensOn_38 1 rfl ?_
        refine y_iload dX7_opensOn_39 4 rfl ?_
        refine y_bipush (v := (8 : Int32)) dX7_opensOn_41 (by decide) ?_
        obtain ⟨x5, ex5, hE⟩ := Option.bind_eq_some_iff.mp hE
        refine y_rem ex5 dX7_opensOn_43 ?_
        obtain ⟨h6, eh6, hE⟩ := Option.bind_eq_some_iff.mp hE
        refine y_iast eh6 dX7_opensOn_44 ?_
        refine y_aload_n dX7_opensOn_45 0 rfl ?_
        refine y_iload dX7_opensOn_46 4 rfl ?_
        refine y_bipush (v := (8 : Int32)) dX7_opensOn_48 (by decide) ?_
        obtain ⟨x7, ex7, hE⟩ := Option.bind_eq_some_iff.mp hE
        refine y_div ex7 dX7_opensOn_50 ?_
        refine y_sipush (v := (512 : Int32)) dX7_opensOn_51 (by decide) ?_
        obtain ⟨x8, ex8, hE⟩ := Option.bind_eq_some_iff.mp hE
        refine y_rem ex8 dX7_opensOn_54 ?_
        obtain ⟨h9, eh9, hE⟩ := Option.bind_eq_some_iff.mp hE
        refine y_putI fp_X7_108 eh9 dX7_opensOn_55 ?_
        refine y_aload_n dX7_opensOn_58 0 rfl ?_
        obtain ⟨u10, eu10, hE⟩ := Option.bind_eq_some_iff.mp hE
        obtain ⟨q11, eq11, hE⟩ := Option.bind_eq_some_iff.mp hE
        refine y_cVi0 (st := []) (as := []) (c_X7_shuttable eq11) lk_X7_100 in_X7_shuttable se_X7_shuttable rfl eu10 ⟨Nat.le_of_ble_eq_true rfl, Nat.le_of_ble_eq_true rfl⟩ (Nat.le_of_ble_eq_true rfl) dX7_opensOn_59 hm rfl ?_
        refine y_istore (ls' := [(5, .int q11), (0, .ref v0), (1, .int v1), (2, .int v2), (3, .int v3), (4, .int v4)]) dX7_opensOn_62 (by decide) rfl rfl ?_
        refine y_iconst (v := (0 : Int32)) dX7_opensOn_64 (by decide) ?_
        refine y_istore (ls' := [(6, .int (0 : Int32)), (5, .int q11), (0, .ref v0), (1, .int v1), (2, .int v2), (3, .int v3), (4, .int v4)]) dX7_opensOn_65 (by decide) rfl rfl ?_
        obtain ⟨q48, eq48, hE⟩ := Option.bind_eq_some_iff.mp hE
        refine y_pick [2, 3, 4, 5, 6, 1, 0] rfl ?_
        refine l_X7_opensOn_67 (S := S) hm n v0 v1 v2 v4 q11 n v3 (0 : Int32) h9 _ eq48 (fun r8 hr8 => ?_)
        subst hr8
        obtain ⟨x49, ex49, hE⟩ := Option.bind_eq_some_iff.mp hE
        refine y_iinc (ls' := [(4, .int x49), (0, .ref v0), (1, .int v1), (2, .int v2), (3, .int q48.1)]) dX7_opensOn_198 4 rfl (Option.some.inj ex49) (by decide) rfl ?_
        refine y_goto (tgt := 5) dX7_opensOn_201 (by decide) ?_
        refine y_pick [1, 2, 3, 4, 0] rfl ?_
        exact ih _ _ _ _ hE K
      · rw [if_neg hc51] at hE
        obtain ⟨x50, ex50, hE⟩ := Option.bind_eq_some_iff.mp hE
        refine y_iinc (ls' := [(4, .int x50), (0, .ref v0), (1, .int v1), (2, .int v2), (3, .int v3)]) dX7_opensOn_198 4 rfl (Option.some.inj ex50) (by decide) rfl ?_
        refine y_goto (tgt := 5) dX7_opensOn_201 (by decide) ?_
        refine y_pick [1, 2, 3, 4, 0] rfl ?_
        exact ih _ _ _ _ hE K
def f_X7_opensOn (n : Nat) (h : xH) (a0 : Nat) (p1 : Int32) (p2 : Int32) : Option (Int32 × xH) :=
  (f_X7_opensOn_L5 n a0 p1 p2 n (0 : Int32) (0 : Int32) h).bind fun q53 =>
  (x_bool q53.1).bind fun x54 =>
  some (x54, q53.2)
set_option maxRecDepth 100000 in
set_option maxHeartbeats 4000000 in
theorem c_X7_opensOn {n : Nat} {h : xH} {a0 : Nat} {p1 : Int32} {p2 : Int32} {r9 : Int32} {hz : xH} (hE : f_X7_opensOn n h a0 p1 p2 = some (r9, hz)) : Ctr M_X7_opensOn [.ref a0, .int p1, .int p2] h (some (.int r9)) hz 0 0 := by
  refine ctr_of (by decide) (fun _ _ => Nat.le_of_ble_eq_true rfl) (fun S => ?_)
  show Y S M_X7_opensOn h (some (.int r9)) hz 0 0 0 [(0, .ref a0), (1, .int p1), (2, .int p2)] [] h 0 0
  unfold f_X7_opensOn at hE
  refine y_iconst (v := (0 : Int32)) dX7_opensOn_0 (by decide) ?_
  refine y_istore_n (ls' := [(3, .int (0 : Int32)), (0, .ref a0), (1, .int p1), (2, .int p2)]) dX7_opensOn_1 (by decide) rfl rfl ?_
  refine y_iconst (v := (0 : Int32)) dX7_opensOn_2 (by decide) ?_
  refine y_istore (ls' := [(4, .int (0 : Int32)), (3, .int (0 : Int32)), (0, .ref a0), (1, .int p1), (2, .int p2)]) dX7_opensOn_3 (by decide) rfl rfl ?_
  obtain ⟨q53, eq53, hE⟩ := Option.bind_eq_some_iff.mp hE
  refine y_pick [2, 3, 4, 1, 0] rfl ?_
  refine l_X7_opensOn_5 (S := S) ⟨Nat.le_refl _, Nat.le_refl _⟩ n a0 p1 p2 n (0 : Int32) (0 : Int32) h _ eq53 (fun r8 hr8 => ?_)
  subst hr8
  refine y_iload_n dX7_opensOn_204 0 rfl ?_
  obtain ⟨x54, ex54, hE⟩ := Option.bind_eq_some_iff.mp hE
  obtain ⟨e9, hnb⟩ := x_bool.spec ex54
  rw [e9]
  obtain ⟨rfl, rfl⟩ := x_inj2 hE
  exact y_ret dX7_opensOn_205 (Nat.le_refl _) (Nat.le_refl _) ⟨_, rfl, hnb⟩
def f_X7_findComing_L40 (v0 : Nat) (v1 : Int32) (v2 : Int32) (v3 : Int32) : Nat → Int32 → xH → Option (xH)
  | 0, _, _ => none
  | k + 1, v4, h =>
    (x_gI h v0 7 30).bind fun x12 =>
    if (((x12 + (1 : Int32)) * (512 : Int32)) * (8 : Int32)) ≤ v4 then
      some h
    else
      (x_gR h v0 7 27).bind fun a13 =>
      (x_st h a13 v4 (-1 : Int32)).bind fun h14 =>
      (x_gR h14 v0 7 28).bind fun a15 =>
      (x_st h14 a15 v4 (14 : Int32)).bind fun h16 =>
      (some (v4 + (1 : Int32))).bind fun x17 =>
      f_X7_findComing_L40 v0 v1 v2 v3 k x17 h16
set_option maxRecDepth 100000 in
set_option maxHeartbeats 4000000 in
theorem l_X7_findComing_40 {S : Nat × (Nat → Int32)} {rv : Option Value} {h0 h1 : xH} {mc ms : Nat} {cells slots : Nat} (hm : cells ≤ mc ∧ slots ≤ ms) (v0 : Nat) (v1 : Int32) (v2 : Int32) (v3 : Int32) : ∀ (k : Nat) (v4 : Int32) (h : xH) (res : xH), f_X7_findComing_L40 v0 v1 v2 v3 k v4 h = some res → (∀ r9, res = r9 → Y S M_X7_findComing h0 rv h1 mc ms 81 [(0, .ref v0), (1, .int v1), (2, .int v2), (3, .int v3)] [] r9 cells slots) → Y S M_X7_findComing h0 rv h1 mc ms 40 [(0, .ref v0), (1, .int v1), (2, .int v2), (3, .int v3), (4, .int v4)] [] h cells slots := by
  intro k
  induction k with
  | zero =>
    intro _ _ _ hE
    cases hE
  | succ k ih =>
    intro v4 h res hE K
    unfold f_X7_findComing_L40 at hE
    refine y_iload dX7_findComing_40 4 rfl ?_
    refine y_aload_n dX7_findComing_42 0 rfl ?_
    obtain ⟨x12, ex12, hE⟩ := Option.bind_eq_some_iff.mp hE
    refine y_getI fl_X7_256 ex12 dX7_findComing_43 ?_
    refine y_iconst (v := (1 : Int32)) dX7_findComing_46 (by decide) ?_
    refine y_iadd dX7_findComing_47 ?_
    refine y_sipush (v := (512 : Int32)) dX7_findComing_48 (by decide) ?_
    refine y_imul dX7_findComing_51 ?_
    refine y_bipush (v := (8 : Int32)) dX7_findComing_52 (by decide) ?_
    refine y_imul dX7_findComing_54 ?_
    refine y_icmp_ge (tgt := 81) dX7_findComing_55 (by decide) (fun hc18 => ?_) (fun hc18 => ?_)
    · rw [if_pos hc18] at hE
      obtain rfl := Option.some.inj hE
      exact y_pick [0, 1, 2, 3] rfl (K _ rfl)
    · rw [if_neg hc18] at hE
      refine y_aload_n dX7_findComing_58 0 rfl ?_
      obtain ⟨a13, ea13, hE⟩ := Option.bind_eq_some_iff.mp hE
      refine y_getR fl_X7_259 ea13 dX7_findComing_59 ?_
      refine y_iload dX7_findComing_62 4 rfl ?_
      refine y_iconst (v := (-1 : Int32)) dX7_findComing_64 (by decide) ?_
      obtain ⟨h14, eh14, hE⟩ := Option.bind_eq_some_iff.mp hE
      refine y_iast eh14 dX7_findComing_65 ?_
      refine y_aload_n dX7_findComing_66 0 rfl ?_
      obtain ⟨a15, ea15, hE⟩ := Option.bind_eq_some_iff.mp hE
      refine y_getR fl_X7_262 ea15 dX7_findComing_67 ?_
      refine y_iload dX7_findComing_70 4 rfl ?_
      refine y_bipush (v := (14 : Int32)) dX7_findComing_72 (by decide) ?_
      obtain ⟨h16, eh16, hE⟩ := Option.bind_eq_some_iff.mp hE
      refine y_iast eh16 dX7_findComing_74 ?_
      obtain ⟨x17, ex17, hE⟩ := Option.bind_eq_some_iff.mp hE
      refine y_iinc (ls' := [(4, .int x17), (0, .ref v0), (1, .int v1), (2, .int v2), (3, .int v3)]) dX7_findComing_75 4 rfl (Option.some.inj ex17) (by decide) rfl ?_
      refine y_goto (tgt := 40) dX7_findComing_78 (by decide) ?_
      refine y_pick [1, 2, 3, 4, 0] rfl ?_
      exact ih _ _ _ hE K
def f_X7_findComing_L89 (n : Nat) (v0 : Nat) (v1 : Int32) (v2 : Int32) (v3 : Int32) : Nat → Int32 → xH → Option (xH)
  | 0, _, _ => none
  | k + 1, v4, h =>
    (x_gI h v0 7 9).bind fun x21 =>
    if (i_shl (1 : Int32) x21) ≤ v4 then
      some h
    else
      (x_ob h v0 7).bind fun u22 =>
      (f_X7_isEnough n h v0 v4).bind fun q23 =>
      if q23 = 0 then
        (some (v4 + (1 : Int32))).bind fun x24 =>
        f_X7_findComing_L89 n v0 v1 v2 v3 k x24 h
      else
        (x_gR h v0 7 31).bind fun a25 =>
        (x_gI h v0 7 32).bind fun x26 =>
        (x_put h v0 7 32 (.int (x26 + (1 : Int32)))).bind fun h27 =>
        (x_st h27 a25 x26 v4).bind fun h28 =>
        (some (v4 + (1 : Int32))).bind fun x29 =>
        f_X7_findComing_L89 n v0 v1 v2 v3 k x29 h28
set_option maxRecDepth 100000 in
set_option maxHeartbeats 4000000 in
theorem l_X7_findComing_89 {S : Nat × (Nat → Int32)} {rv : Option Value} {h0 h1 : xH} {mc ms : Nat} {cells slots : Nat} (hm : cells ≤ mc ∧ slots ≤ ms) (n : Nat) (v0 : Nat) (v1 : Int32) (v2 : Int32) (v3 : Int32) : ∀ (k : Nat) (v4 : Int32) (h : xH) (res : xH), f_X7_findComing_L89 n v0 v1 v2 v3 k v4 h = some res → (∀ r9, res = r9 → Y S M_X7_findComing h0 rv h1 mc ms 133 [(0, .ref v0), (1, .int v1), (2, .int v2), (3, .int v3)] [] r9 cells slots) → Y S M_X7_findComing h0 rv h1 mc ms 89 [(0, .ref v0), (1, .int v1), (2, .int v2), (3, .int v3), (4, .int v4)] [] h cells slots := by
  intro k
  induction k with
  | zero =>
    intro _ _ _ hE
    cases hE
  | succ k ih =>
    intro v4 h res hE K
    unfold f_X7_findComing_L89 at hE
    refine y_iload dX7_findComing_89 4 rfl ?_
    refine y_iconst (v := (1 : Int32)) dX7_findComing_91 (by decide) ?_
    refine y_aload_n dX7_findComing_92 0 rfl ?_
    obtain ⟨x21, ex21, hE⟩ := Option.bind_eq_some_iff.mp hE
    refine y_getI fl_X7_61 ex21 dX7_findComing_93 ?_
    refine y_ishl dX7_findComing_96 ?_
    refine y_icmp_ge (tgt := 133) dX7_findComing_97 (by decide) (fun hc31 => ?_) (fun hc31 => ?_)
    · rw [if_pos hc31] at hE
      obtain rfl := Option.some.inj hE
      exact y_pick [0, 1, 2, 3] rfl (K _ rfl)
    · rw [if_neg hc31] at hE
      refine y_aload_n dX7_findComing_100 0 rfl ?_
      refine y_iload dX7_findComing_101 4 rfl ?_
      obtain ⟨u22, eu22, hE⟩ := Option.bind_eq_some_iff.mp hE
      obtain ⟨q23, eq23, hE⟩ := Option.bind_eq_some_iff.mp hE
      refine y_cVi0 (st := []) (as := [.int v4]) (c_X7_isEnough eq23) lk_X7_222 in_X7_isEnough se_X7_isEnough rfl eu22 ⟨Nat.le_of_ble_eq_true rfl, Nat.le_of_ble_eq_true rfl⟩ (Nat.le_of_ble_eq_true rfl) dX7_findComing_103 hm rfl ?_
      refine y_if_eq (tgt := 127) dX7_findComing_106 (by decide) (fun hc30 => ?_) (fun hc30 => ?_)
      · rw [if_pos hc30] at hE
        obtain ⟨x24, ex24, hE⟩ := Option.bind_eq_some_iff.mp hE
        refine y_iinc (ls' := [(4, .int x24), (0, .ref v0), (1, .int v1), (2, .int v2), (3, .int v3)]) dX7_findComing_127 4 rfl (Option.some.inj ex24) (by decide) rfl ?_
        refine y_goto (tgt := 89) dX7_findComing_130 (by decide) ?_
        refine y_pick [1, 2, 3, 4, 0] rfl ?_
        exact ih _ _ _ hE K
      · rw [if_neg hc30] at hE
        refine y_aload_n dX7_findComing_109 0 rfl ?_
        obtain ⟨a25, ea25, hE⟩ := Option.bind_eq_some_iff.mp hE
        refine y_getR fl_X7_58 ea25 dX7_findComing_110 ?_
        refine y_aload_n dX7_findComing_113 0 rfl ?_
        refine y_dup dX7_findComing_114 rfl ?_
        obtain ⟨x26, ex26, hE⟩ := Option.bind_eq_some_iff.mp hE
        refine y_getI fl_X7_271 ex26 dX7_findComing_115 ?_
        refine y_dup_x1 dX7_findComing_118 rfl rfl ?_
        refine y_iconst (v := (1 : Int32)) dX7_findComing_119 (by decide) ?_
        refine y_iadd dX7_findComing_120 ?_
        obtain ⟨h27, eh27, hE⟩ := Option.bind_eq_some_iff.mp hE
        refine y_putI fp_X7_271 eh27 dX7_findComing_121 ?_
        refine y_iload dX7_findComing_124 4 rfl ?_
        obtain ⟨h28, eh28, hE⟩ := Option.bind_eq_some_iff.mp hE
        refine y_iast eh28 dX7_findComing_126 ?_
        obtain ⟨x29, ex29, hE⟩ := Option.bind_eq_some_iff.mp hE
        refine y_iinc (ls' := [(4, .int x29), (0, .ref v0), (1, .int v1), (2, .int v2), (3, .int v3)]) dX7_findComing_127 4 rfl (Option.some.inj ex29) (by decide) rfl ?_
        refine y_goto (tgt := 89) dX7_findComing_130 (by decide) ?_
        refine y_pick [1, 2, 3, 4, 0] rfl ?_
        exact ih _ _ _ hE K
def f_X7_findComing_L156 (n : Nat) (v0 : Nat) (v1 : Int32) (v2 : Int32) (v3 : Int32) : Nat → Int32 → xH → Option (xH)
  | 0, _, _ => none
  | k + 1, v4, h =>
    (x_ob h v0 7).bind fun u39 =>
    (f_X7_opensOn n h v0 v1 v4).bind fun q40 =>
    if q40.1 = 0 then
      some q40.2
    else
      (some (v4 + (1 : Int32))).bind fun x41 =>
      (x_ob q40.2 v0 7).bind fun u42 =>
      (f_X7_walksOn n q40.2 v0 x41).bind fun q43 =>
      f_X7_findComing_L156 n v0 v1 v2 v3 k x41 q43
set_option maxRecDepth 100000 in
set_option maxHeartbeats 4000000 in
theorem l_X7_findComing_156 {S : Nat × (Nat → Int32)} {rv : Option Value} {h0 h1 : xH} {mc ms : Nat} {cells slots : Nat} (hm : cells ≤ mc ∧ slots ≤ ms) (n : Nat) (v0 : Nat) (v1 : Int32) (v2 : Int32) (v3 : Int32) : ∀ (k : Nat) (v4 : Int32) (h : xH) (res : xH), f_X7_findComing_L156 n v0 v1 v2 v3 k v4 h = some res → (∀ r9, res = r9 → Y S M_X7_findComing h0 rv h1 mc ms 178 [(0, .ref v0), (1, .int v1), (2, .int v2), (3, .int v3)] [] r9 cells slots) → Y S M_X7_findComing h0 rv h1 mc ms 156 [(0, .ref v0), (1, .int v1), (2, .int v2), (3, .int v3), (4, .int v4)] [] h cells slots := by
  intro k
  induction k with
  | zero =>
    intro _ _ _ hE
    cases hE
  | succ k ih =>
    intro v4 h res hE K
    unfold f_X7_findComing_L156 at hE
    refine y_aload_n dX7_findComing_156 0 rfl ?_
    refine y_iload_n dX7_findComing_157 1 rfl ?_
    refine y_iload dX7_findComing_158 4 rfl ?_
    obtain ⟨u39, eu39, hE⟩ := Option.bind_eq_some_iff.mp hE
    obtain ⟨q40, eq40, hE⟩ := Option.bind_eq_some_iff.mp hE
    refine y_cVi0 (st := []) (as := [.int v1, .int v4]) (c_X7_opensOn eq40) lk_X7_278 in_X7_opensOn se_X7_opensOn rfl eu39 ⟨Nat.le_of_ble_eq_true rfl, Nat.le_of_ble_eq_true rfl⟩ (Nat.le_of_ble_eq_true rfl) dX7_findComing_160 hm rfl ?_
    refine y_if_eq (tgt := 178) dX7_findComing_163 (by decide) (fun hc44 => ?_) (fun hc44 => ?_)
    · rw [if_pos hc44] at hE
      obtain rfl := Option.some.inj hE
      exact y_pick [0, 1, 2, 3] rfl (K _ rfl)
    · rw [if_neg hc44] at hE
      obtain ⟨x41, ex41, hE⟩ := Option.bind_eq_some_iff.mp hE
      refine y_iinc (ls' := [(4, .int x41), (0, .ref v0), (1, .int v1), (2, .int v2), (3, .int v3)]) dX7_findComing_166 4 rfl (Option.some.inj ex41) (by decide) rfl ?_
      refine y_aload_n dX7_findComing_169 1 rfl ?_
      refine y_iload dX7_findComing_170 0 rfl ?_
      obtain ⟨u42, eu42, hE⟩ := Option.bind_eq_some_iff.mp hE
      obtain ⟨q43, eq43, hE⟩ := Option.bind_eq_some_iff.mp hE
      refine y_cVv0 (st := []) (as := [.int x41]) (c_X7_walksOn eq43) lk_X7_274 in_X7_walksOn se_X7_walksOn rfl eu42 ⟨Nat.le_of_ble_eq_true rfl, Nat.le_of_ble_eq_true rfl⟩ (Nat.le_of_ble_eq_true rfl) dX7_findComing_172 hm rfl ?_
      refine y_goto (tgt := 156) dX7_findComing_175 (by decide) ?_
      refine y_pick [1, 2, 3, 4, 0] rfl ?_
      exact ih _ _ _ hE K
def f_X7_findComing (n : Nat) (h : xH) (a0 : Nat) (p1 : Int32) : Option ((xH) × Nat × Nat) :=
  (x_gR h a0 7 13).bind fun a1 =>
  (x_ld h a1 p1).bind fun x2 =>
  (x_gI h a0 7 11).bind fun x3 =>
  (x_gN h a0 7 27).bind fun b4 =>
  (
    if b4 = false then
      x_add 1 20480 <|
      (x_put (h ++ [.inl (.int, 20480, .inl (fun _ => 0))]) a0 7 27 (.ref (h.length + 16))).bind fun h8 =>
      x_add 1 20480 <|
      (x_put (h8 ++ [.inl (.int, 20480, .inl (fun _ => 0))]) a0 7 28 (.ref (h8.length + 16))).bind fun h11 =>
      some (h11, 0, 0)
    else
      some (h, 0, 0)
  ).bind fun q5 =>
  x_add q5.2.1 q5.2.2 <|
  (f_X7_findComing_L40 a0 p1 x2 x3 n (0 : Int32) q5.1).bind fun q19 =>
  (x_put q19 a0 7 32 (.int (0 : Int32))).bind fun h20 =>
  (f_X7_findComing_L89 n a0 p1 x2 x3 n (1 : Int32) h20).bind fun q32 =>
  (x_ob q32 a0 7).bind fun u33 =>
  (f_X7_stateOf n q32 a0 (0 : Int32) x3 x2).bind fun q34 =>
  (x_ob q32 a0 7).bind fun u35 =>
  (f_X7_comes q32 a0 q34 (0 : Int32) (14 : Int32)).bind fun q36 =>
  (x_ob q36.2 a0 7).bind fun u37 =>
  (f_X7_walksOn n q36.2 a0 (0 : Int32)).bind fun q38 =>
  (f_X7_findComing_L156 n a0 p1 x2 x3 n (0 : Int32) q38).bind fun q45 =>
  (x_gR q45 a0 7 13).bind fun a46 =>
  (x_st q45 a46 p1 x2).bind fun h47 =>
  (x_put h47 a0 7 11 (.int x3)).bind fun h48 =>
  some (h48, 0, 0)
set_option maxRecDepth 100000 in
set_option maxHeartbeats 4000000 in
theorem c_X7_findComing {n : Nat} {h : xH} {a0 : Nat} {p1 : Int32} {hz : xH} {c9 s9 : Nat} (hE : f_X7_findComing n h a0 p1 = some (hz, c9, s9)) : Ctr M_X7_findComing [.ref a0, .int p1] h none hz c9 s9 := by
  refine ctr_of (by decide) (fun _ _ => Nat.le_of_ble_eq_true rfl) (fun S => ?_)
  show Y S M_X7_findComing h none hz c9 s9 0 [(0, .ref a0), (1, .int p1)] [] h 0 0
  unfold f_X7_findComing at hE
  refine y_aload_n dX7_findComing_0 0 rfl ?_
  obtain ⟨a1, ea1, hE⟩ := Option.bind_eq_some_iff.mp hE
  refine y_getR fl_X7_42 ea1 dX7_findComing_1 ?_
  refine y_iload_n dX7_findComing_4 1 rfl ?_
  obtain ⟨x2, ex2, hE⟩ := Option.bind_eq_some_iff.mp hE
  refine y_iald ex2 dX7_findComing_5 ?_
  refine y_istore_n (ls' := [(2, .int x2), (0, .ref a0), (1, .int p1)]) dX7_findComing_6 (by decide) rfl rfl ?_
  refine y_aload_n dX7_findComing_7 1 rfl ?_
  obtain ⟨x3, ex3, hE⟩ := Option.bind_eq_some_iff.mp hE
  refine y_getI fl_X7_108 ex3 dX7_findComing_8 ?_
  refine y_istore_n (ls' := [(3, .int x3), (2, .int x2), (0, .ref a0), (1, .int p1)]) dX7_findComing_11 (by decide) rfl rfl ?_
  refine y_aload_n dX7_findComing_12 2 rfl ?_
  obtain ⟨b4, eb4, hE⟩ := Option.bind_eq_some_iff.mp hE
  obtain ⟨q5, eJ, hE⟩ := Option.bind_eq_some_iff.mp hE
  obtain ⟨c49, s50, hN, ecc49, ess50⟩ := x_add.spec hE
  clear hE; have hE := hN; clear hN
  have hJ : Y S M_X7_findComing h none hz c9 s9 37 [(0, .ref a0), (1, .int p1), (2, .int x2), (3, .int x3)] [] q5.1 (0 + q5.2.1) (0 + q5.2.2) := by
    refine y_iconst (v := (0 : Int32)) dX7_findComing_37 (by decide) ?_
    refine y_istore (ls' := [(4, .int (0 : Int32)), (0, .ref a0), (1, .int p1), (2, .int x2), (3, .int x3)]) dX7_findComing_38 (by decide) rfl rfl ?_
    obtain ⟨q19, eq19, hE⟩ := Option.bind_eq_some_iff.mp hE
    refine y_pick [1, 2, 3, 4, 0] rfl ?_
    refine l_X7_findComing_40 (S := S) ⟨by omega, by omega⟩ a0 p1 x2 x3 n (0 : Int32) q5.1 _ eq19 (fun r8 hr8 => ?_)
    subst hr8
    refine y_aload_n dX7_findComing_81 0 rfl ?_
    refine y_iconst (v := (0 : Int32)) dX7_findComing_82 (by decide) ?_
    obtain ⟨h20, eh20, hE⟩ := Option.bind_eq_some_iff.mp hE
    refine y_putI fp_X7_271 eh20 dX7_findComing_83 ?_
    refine y_iconst (v := (1 : Int32)) dX7_findComing_86 (by decide) ?_
    refine y_istore (ls' := [(4, .int (1 : Int32)), (0, .ref a0), (1, .int p1), (2, .int x2), (3, .int x3)]) dX7_findComing_87 (by decide) rfl rfl ?_
    obtain ⟨q32, eq32, hE⟩ := Option.bind_eq_some_iff.mp hE
    refine y_pick [1, 2, 3, 4, 0] rfl ?_
    refine l_X7_findComing_89 (S := S) ⟨by omega, by omega⟩ n a0 p1 x2 x3 n (1 : Int32) h20 _ eq32 (fun r8 hr8 => ?_)
    subst hr8
    refine y_aload_n dX7_findComing_133 0 rfl ?_
    refine y_aload_n dX7_findComing_134 0 rfl ?_
    refine y_iconst (v := (0 : Int32)) dX7_findComing_135 (by decide) ?_
    refine y_iload_n dX7_findComing_136 3 rfl ?_
    refine y_iload_n dX7_findComing_137 2 rfl ?_
    obtain ⟨u33, eu33, hE⟩ := Option.bind_eq_some_iff.mp hE
    obtain ⟨q34, eq34, hE⟩ := Option.bind_eq_some_iff.mp hE
    refine y_cVi0 (st := [.ref a0]) (as := [.int (0 : Int32), .int x3, .int x2]) (c_X7_stateOf eq34) lk_X7_265 in_X7_stateOf se_X7_stateOf rfl eu33 ⟨Nat.le_of_ble_eq_true rfl, Nat.le_of_ble_eq_true rfl⟩ (Nat.le_of_ble_eq_true rfl) dX7_findComing_138 ⟨by omega, by omega⟩ rfl ?_
    refine y_iconst (v := (0 : Int32)) dX7_findComing_141 (by decide) ?_
    refine y_bipush (v := (14 : Int32)) dX7_findComing_142 (by decide) ?_
    obtain ⟨u35, eu35, hE⟩ := Option.bind_eq_some_iff.mp hE
    obtain ⟨q36, eq36, hE⟩ := Option.bind_eq_some_iff.mp hE
    refine y_cVi0 (st := []) (as := [.int q34, .int (0 : Int32), .int (14 : Int32)]) (c_X7_comes eq36) lk_X7_268 in_X7_comes se_X7_comes rfl eu35 ⟨Nat.le_of_ble_eq_true rfl, Nat.le_of_ble_eq_true rfl⟩ (Nat.le_of_ble_eq_true rfl) dX7_findComing_144 ⟨by omega, by omega⟩ rfl ?_
    refine y_pop dX7_findComing_147 rfl ?_
    refine y_aload_n dX7_findComing_148 0 rfl ?_
    refine y_iconst (v := (0 : Int32)) dX7_findComing_149 (by decide) ?_
    obtain ⟨u37, eu37, hE⟩ := Option.bind_eq_some_iff.mp hE
    obtain ⟨q38, eq38, hE⟩ := Option.bind_eq_some_iff.mp hE
    refine y_cVv0 (st := []) (as := [.int (0 : Int32)]) (c_X7_walksOn eq38) lk_X7_274 in_X7_walksOn se_X7_walksOn rfl eu37 ⟨Nat.le_of_ble_eq_true rfl, Nat.le_of_ble_eq_true rfl⟩ (Nat.le_of_ble_eq_true rfl) dX7_findComing_150 ⟨by omega, by omega⟩ rfl ?_
    refine y_iconst (v := (0 : Int32)) dX7_findComing_153 (by decide) ?_
    refine y_istore (ls' := [(4, .int (0 : Int32)), (0, .ref a0), (1, .int p1), (2, .int x2), (3, .int x3)]) dX7_findComing_154 (by decide) rfl rfl ?_
    obtain ⟨q45, eq45, hE⟩ := Option.bind_eq_some_iff.mp hE
    refine y_pick [1, 2, 3, 4, 0] rfl ?_
    refine l_X7_findComing_156 (S := S) ⟨by omega, by omega⟩ n a0 p1 x2 x3 n (0 : Int32) q38 _ eq45 (fun r8 hr8 => ?_)
    subst hr8
    refine y_aload_n dX7_findComing_178 0 rfl ?_
    obtain ⟨a46, ea46, hE⟩ := Option.bind_eq_some_iff.mp hE
    refine y_getR fl_X7_42 ea46 dX7_findComing_179 ?_
    refine y_iload_n dX7_findComing_182 1 rfl ?_
    refine y_iload_n dX7_findComing_183 2 rfl ?_
    obtain ⟨h47, eh47, hE⟩ := Option.bind_eq_some_iff.mp hE
    refine y_iast eh47 dX7_findComing_184 ?_
    refine y_aload_n dX7_findComing_185 0 rfl ?_
    refine y_iload_n dX7_findComing_186 3 rfl ?_
    obtain ⟨h48, eh48, hE⟩ := Option.bind_eq_some_iff.mp hE
    refine y_putI fp_X7_108 eh48 dX7_findComing_187 ?_
    obtain ⟨rfl, rfl, rfl⟩ := x_inj3 hE
    exact y_ret dX7_findComing_190 (by omega) (by omega) rfl
  clear hE
  have hE := eJ.trans (show some q5 = some (q5.1, q5.2.1, q5.2.2) from rfl)
  clear eJ
  cases b4 with
  | false =>
    rw [if_pos rfl] at hE
    refine y_get fl_X7_259 (x_gN.no eb4) dX7_findComing_13 ?_
    refine y_nonnullN dX7_findComing_16 ?_
    refine y_aload_n dX7_findComing_19 2 rfl ?_
    refine y_sipush (v := (20480 : Int32)) dX7_findComing_20 (by decide) ?_
    obtain ⟨c6, s7, hN, ecc6, ess7⟩ := x_add.spec hE
    clear hE; have hE := hN; clear hN
    refine y_newI (N := 20480) (x_wt (tb 92 (by decide +kernel)) rfl) (by decide) (by decide) (by decide) ⟨by omega, by omega⟩ dX7_findComing_23 ?_
    obtain ⟨h8, eh8, hE⟩ := Option.bind_eq_some_iff.mp hE
    refine y_putR fp_X7_259 (fun q => by first | rfl | cases q) (fun _ => rfl) (fun _ => rfl) eh8 dX7_findComing_25 ?_
    refine y_aload_n dX7_findComing_28 2 rfl ?_
    refine y_sipush (v := (20480 : Int32)) dX7_findComing_29 (by decide) ?_
    obtain ⟨c9, s10, hN, ecc9, ess10⟩ := x_add.spec hE
    clear hE; have hE := hN; clear hN
    refine y_newI (N := 20480) (x_wt (tb 92 (by decide +kernel)) rfl) (by decide) (by decide) (by decide) ⟨by omega, by omega⟩ dX7_findComing_32 ?_
    obtain ⟨h11, eh11, hE⟩ := Option.bind_eq_some_iff.mp hE
    refine y_putR fp_X7_262 (fun q => by first | rfl | cases q) (fun _ => rfl) (fun _ => rfl) eh11 dX7_findComing_34 ?_
    have e9 := Option.some.inj hE
    have e8 := congrArg Prod.fst e9
    have e7 := congrArg (fun z => z.2.1) e9
    have e6 := congrArg (fun z => z.2.2) e9
    dsimp only at e8 e7 e6
    rw [← e8] at hJ
    refine y_cnt (c2 := 0 + q5.2.1) (s2 := 0 + q5.2.2) (by omega) (by omega) ?_
    exact y_pick [2, 3, 1, 0] rfl hJ
  | true =>
    rw [if_neg (by decide)] at hE
    obtain ⟨_, e9⟩ := x_gN.yes eb4
    refine y_get fl_X7_259 e9 dX7_findComing_13 ?_
    refine y_nonnullR (tgt := 37) dX7_findComing_16 (by decide) ?_
    have e9 := Option.some.inj hE
    have e8 := congrArg Prod.fst e9
    have e7 := congrArg (fun z => z.2.1) e9
    have e6 := congrArg (fun z => z.2.2) e9
    dsimp only at e8 e7 e6
    rw [← e8] at hJ
    refine y_cnt (c2 := 0 + q5.2.1) (s2 := 0 + q5.2.2) (by omega) (by omega) ?_
    exact y_pick [2, 3, 1, 0] rfl hJ
def f_X7_fewest_L20 (v0 : Nat) : Nat → Int32 → Int32 → xH → Option (Int32 × xH)
  | 0, _, _, _ => none
  | k + 1, v1, v2, h =>
    (x_gI h v0 7 30).bind fun x4 =>
    if (((x4 + (1 : Int32)) * (512 : Int32)) * (8 : Int32)) ≤ v2 then
      some (v1, h)
    else
      (x_gR h v0 7 27).bind fun a5 =>
      (x_ld h a5 v2).bind fun x6 =>
      if x6 = (-1 : Int32) then
        (some (v2 + (1 : Int32))).bind fun x7 =>
        f_X7_fewest_L20 v0 k v1 x7 h
      else
        if v1 = (-1 : Int32) then
          (x_gR h v0 7 27).bind fun a8 =>
          (x_ld h a8 v2).bind fun x9 =>
          (x_gR h v0 7 28).bind fun a10 =>
          (x_ld h a10 v2).bind fun x11 =>
          (x_put h v0 7 33 (.int x11)).bind fun h12 =>
          (some (v2 + (1 : Int32))).bind fun x13 =>
          f_X7_fewest_L20 v0 k x9 x13 h12
        else
          (x_gR h v0 7 27).bind fun a14 =>
          (x_ld h a14 v2).bind fun x15 =>
          if x15 < v1 then
            (x_gR h v0 7 27).bind fun a16 =>
            (x_ld h a16 v2).bind fun x17 =>
            (x_gR h v0 7 28).bind fun a18 =>
            (x_ld h a18 v2).bind fun x19 =>
            (x_put h v0 7 33 (.int x19)).bind fun h20 =>
            (some (v2 + (1 : Int32))).bind fun x21 =>
            f_X7_fewest_L20 v0 k x17 x21 h20
          else
            (x_gR h v0 7 27).bind fun a22 =>
            (x_ld h a22 v2).bind fun x23 =>
            if x23 = v1 then
              (x_gR h v0 7 28).bind fun a24 =>
              (x_ld h a24 v2).bind fun x25 =>
              (x_gI h v0 7 33).bind fun x26 =>
              if x26 ≤ x25 then
                (some (v2 + (1 : Int32))).bind fun x27 =>
                f_X7_fewest_L20 v0 k v1 x27 h
              else
                (x_gR h v0 7 27).bind fun a28 =>
                (x_ld h a28 v2).bind fun x29 =>
                (x_gR h v0 7 28).bind fun a30 =>
                (x_ld h a30 v2).bind fun x31 =>
                (x_put h v0 7 33 (.int x31)).bind fun h32 =>
                (some (v2 + (1 : Int32))).bind fun x33 =>
                f_X7_fewest_L20 v0 k x29 x33 h32
            else
              (some (v2 + (1 : Int32))).bind fun x35 =>
              f_X7_fewest_L20 v0 k v1 x35 h
set_option maxRecDepth 100000 in
set_option maxHeartbeats 4000000 in
theorem l_X7_fewest_20 {S : Nat × (Nat → Int32)} {rv : Option Value} {h0 h1 : xH} {mc ms : Nat} {cells slots : Nat} (hm : cells ≤ mc ∧ slots ≤ ms) (v0 : Nat) : ∀ (k : Nat) (v1 : Int32) (v2 : Int32) (h : xH) (res : Int32 × xH), f_X7_fewest_L20 v0 k v1 v2 h = some res → (∀ r9, res = r9 → Y S M_X7_fewest h0 rv h1 mc ms 108 [(1, .int r9.1)] [] r9.2 cells slots) → Y S M_X7_fewest h0 rv h1 mc ms 20 [(0, .ref v0), (1, .int v1), (2, .int v2)] [] h cells slots := by
  intro k
  induction k with
  | zero =>
    intro _ _ _ _ hE
    cases hE
  | succ k ih =>
    intro v1 v2 h res hE K
    unfold f_X7_fewest_L20 at hE
    refine y_iload_n dX7_fewest_20 2 rfl ?_
    refine y_aload_n dX7_fewest_21 0 rfl ?_
    obtain ⟨x4, ex4, hE⟩ := Option.bind_eq_some_iff.mp hE
    refine y_getI fl_X7_256 ex4 dX7_fewest_22 ?_
    refine y_iconst (v := (1 : Int32)) dX7_fewest_25 (by decide) ?_
    refine y_iadd dX7_fewest_26 ?_
    refine y_sipush (v := (512 : Int32)) dX7_fewest_27 (by decide) ?_
    refine y_imul dX7_fewest_30 ?_
    refine y_bipush (v := (8 : Int32)) dX7_fewest_31 (by decide) ?_
    refine y_imul dX7_fewest_33 ?_
    refine y_icmp_ge (tgt := 108) dX7_fewest_34 (by decide) (fun hc40 => ?_) (fun hc40 => ?_)
    · rw [if_pos hc40] at hE
      obtain rfl := Option.some.inj hE
      exact y_pick [1] rfl (K _ rfl)
    · rw [if_neg hc40] at hE
      refine y_aload_n dX7_fewest_37 0 rfl ?_
      obtain ⟨a5, ea5, hE⟩ := Option.bind_eq_some_iff.mp hE
      refine y_getR fl_X7_259 ea5 dX7_fewest_38 ?_
      refine y_iload_n dX7_fewest_41 2 rfl ?_
      obtain ⟨x6, ex6, hE⟩ := Option.bind_eq_some_iff.mp hE
      refine y_iald ex6 dX7_fewest_42 ?_
      refine y_iconst (v := (-1 : Int32)) dX7_fewest_43 (by decide) ?_
      refine y_icmp_eq (tgt := 102) dX7_fewest_44 (by decide) (fun hc39 => ?_) (fun hc39 => ?_)
      · rw [if_pos hc39] at hE
        obtain ⟨x7, ex7, hE⟩ := Option.bind_eq_some_iff.mp hE
        refine y_iinc (ls' := [(2, .int x7), (0, .ref v0), (1, .int v1)]) dX7_fewest_102 2 rfl (Option.some.inj ex7) (by decide) rfl ?_
        refine y_goto (tgt := 20) dX7_fewest_105 (by decide) ?_
        refine y_pick [1, 2, 0] rfl ?_
        exact ih _ _ _ _ hE K
      · rw [if_neg hc39] at hE
        refine y_iload_n dX7_fewest_47 1 rfl ?_
        refine y_iconst (v := (-1 : Int32)) dX7_fewest_48 (by decide) ?_
        refine y_icmp_eq (tgt := 85) dX7_fewest_49 (by decide) (fun hc38 => ?_) (fun hc38 => ?_)
        · rw [if_pos hc38] at hE
          refine y_aload_n dX7_fewest_85 0 rfl ?_
          obtain ⟨a8, ea8, hE⟩ := Option.bind_eq_some_iff.mp hE
          refine y_getR fl_X7_259 ea8 dX7_fewest_86 ?_
          refine y_iload_n dX7_fewest_89 2 rfl ?_
          obtain ⟨x9, ex9, hE⟩ := Option.bind_eq_some_iff.mp hE
          refine y_iald ex9 dX7_fewest_90 ?_
          refine y_istore_n (ls' := [(1, .int x9), (0, .ref v0), (2, .int v2)]) dX7_fewest_91 (by decide) rfl rfl ?_
          refine y_aload_n dX7_fewest_92 1 rfl ?_
          refine y_aload_n dX7_fewest_93 1 rfl ?_
          obtain ⟨a10, ea10, hE⟩ := Option.bind_eq_some_iff.mp hE
          refine y_getR fl_X7_262 ea10 dX7_fewest_94 ?_
          refine y_iload_n dX7_fewest_97 2 rfl ?_
          obtain ⟨x11, ex11, hE⟩ := Option.bind_eq_some_iff.mp hE
          refine y_iald ex11 dX7_fewest_98 ?_
          obtain ⟨h12, eh12, hE⟩ := Option.bind_eq_some_iff.mp hE
          refine y_putI fp_X7_281 eh12 dX7_fewest_99 ?_
          obtain ⟨x13, ex13, hE⟩ := Option.bind_eq_some_iff.mp hE
          refine y_iinc (ls' := [(2, .int x13), (1, .int x9), (0, .ref v0)]) dX7_fewest_102 2 rfl (Option.some.inj ex13) (by decide) rfl ?_
          refine y_goto (tgt := 20) dX7_fewest_105 (by decide) ?_
          refine y_pick [2, 1, 0] rfl ?_
          exact ih _ _ _ _ hE K
        · rw [if_neg hc38] at hE
          refine y_aload_n dX7_fewest_52 0 rfl ?_
          obtain ⟨a14, ea14, hE⟩ := Option.bind_eq_some_iff.mp hE
          refine y_getR fl_X7_259 ea14 dX7_fewest_53 ?_
          refine y_iload_n dX7_fewest_56 2 rfl ?_
          obtain ⟨x15, ex15, hE⟩ := Option.bind_eq_some_iff.mp hE
          refine y_iald ex15 dX7_fewest_57 ?_
          refine y_iload_n dX7_fewest_58 1 rfl ?_
          refine y_icmp_lt (tgt := 85) dX7_fewest_59 (by decide) (fun hc37 => ?_) (fun hc37 => ?_)
          · rw [if_pos hc37] at hE
            refine y_aload_n dX7_fewest_85 0 rfl ?_
            obtain ⟨a16, ea16, hE⟩ := Option.bind_eq_some_iff.mp hE
            refine y_getR fl_X7_259 ea16 dX7_fewest_86 ?_
            refine y_iload_n dX7_fewest_89 2 rfl ?_
            obtain ⟨x17, ex17, hE⟩ := Option.bind_eq_some_iff.mp hE
            refine y_iald ex17 dX7_fewest_90 ?_
            refine y_istore_n (ls' := [(1, .int x17), (0, .ref v0), (2, .int v2)]) dX7_fewest_91 (by decide) rfl rfl ?_
            refine y_aload_n dX7_fewest_92 1 rfl ?_
            refine y_aload_n dX7_fewest_93 1 rfl ?_
            obtain ⟨a18, ea18, hE⟩ := Option.bind_eq_some_iff.mp hE
            refine y_getR fl_X7_262 ea18 dX7_fewest_94 ?_
            refine y_iload_n dX7_fewest_97 2 rfl ?_
            obtain ⟨x19, ex19, hE⟩ := Option.bind_eq_some_iff.mp hE
            refine y_iald ex19 dX7_fewest_98 ?_
            obtain ⟨h20, eh20, hE⟩ := Option.bind_eq_some_iff.mp hE
            refine y_putI fp_X7_281 eh20 dX7_fewest_99 ?_
            obtain ⟨x21, ex21, hE⟩ := Option.bind_eq_some_iff.mp hE
            refine y_iinc (ls' := [(2, .int x21), (1, .int x17), (0, .ref v0)]) dX7_fewest_102 2 rfl (Option.some.inj ex21) (by decide) rfl ?_
            refine y_goto (tgt := 20) dX7_fewest_105 (by decide) ?_
            refine y_pick [2, 1, 0] rfl ?_
            exact ih _ _ _ _ hE K
          · rw [if_neg hc37] at hE
            refine y_aload_n dX7_fewest_62 0 rfl ?_
            obtain ⟨a22, ea22, hE⟩ := Option.bind_eq_some_iff.mp hE
            refine y_getR fl_X7_259 ea22 dX7_fewest_63 ?_
            refine y_iload_n dX7_fewest_66 2 rfl ?_
            obtain ⟨x23, ex23, hE⟩ := Option.bind_eq_some_iff.mp hE
            refine y_iald ex23 dX7_fewest_67 ?_
            refine y_iload_n dX7_fewest_68 1 rfl ?_
            refine y_icmp_ne (tgt := 102) dX7_fewest_69 (by decide) (fun hc36 => ?_) (fun hc36 => ?_)
            · rw [if_pos hc36] at hE
              refine y_aload_n dX7_fewest_72 0 rfl ?_
              obtain ⟨a24, ea24, hE⟩ := Option.bind_eq_some_iff.mp hE
              refine y_getR fl_X7_262 ea24 dX7_fewest_73 ?_
              refine y_iload_n dX7_fewest_76 2 rfl ?_
              obtain ⟨x25, ex25, hE⟩ := Option.bind_eq_some_iff.mp hE
              refine y_iald ex25 dX7_fewest_77 ?_
              refine y_aload_n dX7_fewest_78 0 rfl ?_
              obtain ⟨x26, ex26, hE⟩ := Option.bind_eq_some_iff.mp hE
              refine y_getI fl_X7_281 ex26 dX7_fewest_79 ?_
              refine y_icmp_ge (tgt := 102) dX7_fewest_82 (by decide) (fun hc34 => ?_) (fun hc34 => ?_)
              · rw [if_pos hc34] at hE
                obtain ⟨x27, ex27, hE⟩ := Option.bind_eq_some_iff.mp hE
                refine y_iinc (ls' := [(2, .int x27), (0, .ref v0), (1, .int v1)]) dX7_fewest_102 2 rfl (Option.some.inj ex27) (by decide) rfl ?_
                refine y_goto (tgt := 20) dX7_fewest_105 (by decide) ?_
                refine y_pick [1, 2, 0] rfl ?_
                exact ih _ _ _ _ hE K
              · rw [if_neg hc34] at hE
                refine y_aload_n dX7_fewest_85 0 rfl ?_
                obtain ⟨a28, ea28, hE⟩ := Option.bind_eq_some_iff.mp hE
                refine y_getR fl_X7_259 ea28 dX7_fewest_86 ?_
                refine y_iload_n dX7_fewest_89 2 rfl ?_
                obtain ⟨x29, ex29, hE⟩ := Option.bind_eq_some_iff.mp hE
                refine y_iald ex29 dX7_fewest_90 ?_
                refine y_istore_n (ls' := [(1, .int x29), (0, .ref v0), (2, .int v2)]) dX7_fewest_91 (by decide) rfl rfl ?_
                refine y_aload_n dX7_fewest_92 1 rfl ?_
                refine y_aload_n dX7_fewest_93 1 rfl ?_
                obtain ⟨a30, ea30, hE⟩ := Option.bind_eq_some_iff.mp hE
                refine y_getR fl_X7_262 ea30 dX7_fewest_94 ?_
                refine y_iload_n dX7_fewest_97 2 rfl ?_
                obtain ⟨x31, ex31, hE⟩ := Option.bind_eq_some_iff.mp hE
                refine y_iald ex31 dX7_fewest_98 ?_
                obtain ⟨h32, eh32, hE⟩ := Option.bind_eq_some_iff.mp hE
                refine y_putI fp_X7_281 eh32 dX7_fewest_99 ?_
                obtain ⟨x33, ex33, hE⟩ := Option.bind_eq_some_iff.mp hE
                refine y_iinc (ls' := [(2, .int x33), (1, .int x29), (0, .ref v0)]) dX7_fewest_102 2 rfl (Option.some.inj ex33) (by decide) rfl ?_
                refine y_goto (tgt := 20) dX7_fewest_105 (by decide) ?_
                refine y_pick [2, 1, 0] rfl ?_
                exact ih _ _ _ _ hE K
            · rw [if_neg hc36] at hE
              obtain ⟨x35, ex35, hE⟩ := Option.bind_eq_some_iff.mp hE
              refine y_iinc (ls' := [(2, .int x35), (0, .ref v0), (1, .int v1)]) dX7_fewest_102 2 rfl (Option.some.inj ex35) (by decide) rfl ?_
              refine y_goto (tgt := 20) dX7_fewest_105 (by decide) ?_
              refine y_pick [1, 2, 0] rfl ?_
              exact ih _ _ _ _ hE K
def f_X7_fewest (n : Nat) (h : xH) (a0 : Nat) : Option (Int32 × xH) :=
  (x_put h a0 7 33 (.int (14 : Int32))).bind fun h1 =>
  (x_gI h1 a0 7 30).bind fun x2 =>
  (some ((x2 * (512 : Int32)) * (8 : Int32))).bind fun x3 =>
  (f_X7_fewest_L20 a0 n (-1 : Int32) x3 h1).bind fun q41 =>
  some (q41.1, q41.2)
set_option maxRecDepth 100000 in
set_option maxHeartbeats 4000000 in
theorem c_X7_fewest {n : Nat} {h : xH} {a0 : Nat} {r9 : Int32} {hz : xH} (hE : f_X7_fewest n h a0 = some (r9, hz)) : Ctr M_X7_fewest [.ref a0] h (some (.int r9)) hz 0 0 := by
  refine ctr_of (by decide) (fun _ _ => Nat.le_of_ble_eq_true rfl) (fun S => ?_)
  show Y S M_X7_fewest h (some (.int r9)) hz 0 0 0 [(0, .ref a0)] [] h 0 0
  unfold f_X7_fewest at hE
  refine y_iconst (v := (-1 : Int32)) dX7_fewest_0 (by decide) ?_
  refine y_istore_n (ls' := [(1, .int (-1 : Int32)), (0, .ref a0)]) dX7_fewest_1 (by decide) rfl rfl ?_
  refine y_aload_n dX7_fewest_2 1 rfl ?_
  refine y_bipush (v := (14 : Int32)) dX7_fewest_3 (by decide) ?_
  obtain ⟨h1, eh1, hE⟩ := Option.bind_eq_some_iff.mp hE
  refine y_putI fp_X7_281 eh1 dX7_fewest_5 ?_
  refine y_aload_n dX7_fewest_8 1 rfl ?_
  obtain ⟨x2, ex2, hE⟩ := Option.bind_eq_some_iff.mp hE
  refine y_getI fl_X7_256 ex2 dX7_fewest_9 ?_
  refine y_sipush (v := (512 : Int32)) dX7_fewest_12 (by decide) ?_
  refine y_imul dX7_fewest_15 ?_
  refine y_bipush (v := (8 : Int32)) dX7_fewest_16 (by decide) ?_
  refine y_imul dX7_fewest_18 ?_
  obtain ⟨x3, ex3, hE⟩ := Option.bind_eq_some_iff.mp hE
  refine y_istore_n (ls' := [(2, .int x3), (1, .int (-1 : Int32)), (0, .ref a0)]) dX7_fewest_19 (by decide) (Option.some.inj ex3) rfl ?_
  obtain ⟨q41, eq41, hE⟩ := Option.bind_eq_some_iff.mp hE
  refine y_pick [2, 1, 0] rfl ?_
  refine l_X7_fewest_20 (S := S) ⟨Nat.le_refl _, Nat.le_refl _⟩ a0 n (-1 : Int32) x3 h1 _ eq41 (fun r8 hr8 => ?_)
  subst hr8
  refine y_iload_n dX7_fewest_108 0 rfl ?_
  obtain ⟨rfl, rfl⟩ := x_inj2 hE
  exact y_ret dX7_fewest_109 (Nat.le_refl _) (Nat.le_refl _) ⟨_, rfl, rfl⟩
def f_X7_comingTo (n : Nat) (h : xH) (a0 : Nat) (p1 : Int32) (p2 : Int32) : Option ((Int32 × xH) × Nat × Nat) :=
  (x_gR h a0 7 29).bind fun a1 =>
  (x_st h a1 (0 : Int32) p2).bind fun h2 =>
  (x_put h2 a0 7 30 (.int (1 : Int32))).bind fun h3 =>
  (x_ob h3 a0 7).bind fun u4 =>
  (f_X7_findComing n h3 a0 p1).bind fun q5 =>
  x_add q5.2.1 q5.2.2 <|
  (x_ob q5.1 a0 7).bind fun u8 =>
  (f_X7_fewest n q5.1 a0).bind fun q9 =>
  some ((q9.1, q9.2), 0, 0)
set_option maxRecDepth 100000 in
set_option maxHeartbeats 4000000 in
theorem c_X7_comingTo {n : Nat} {h : xH} {a0 : Nat} {p1 : Int32} {p2 : Int32} {r9 : Int32} {hz : xH} {c9 s9 : Nat} (hE : f_X7_comingTo n h a0 p1 p2 = some ((r9, hz), c9, s9)) : Ctr M_X7_comingTo [.ref a0, .int p1, .int p2] h (some (.int r9)) hz c9 s9 := by
  refine ctr_of (by decide) (fun _ _ => Nat.le_of_ble_eq_true rfl) (fun S => ?_)
  show Y S M_X7_comingTo h (some (.int r9)) hz c9 s9 0 [(0, .ref a0), (1, .int p1), (2, .int p2)] [] h 0 0
  unfold f_X7_comingTo at hE
  refine y_aload_n dX7_comingTo_0 0 rfl ?_
  obtain ⟨a1, ea1, hE⟩ := Option.bind_eq_some_iff.mp hE
  refine y_getR fl_X7_55 ea1 dX7_comingTo_1 ?_
  refine y_iconst (v := (0 : Int32)) dX7_comingTo_4 (by decide) ?_
  refine y_iload_n dX7_comingTo_5 2 rfl ?_
  obtain ⟨h2, eh2, hE⟩ := Option.bind_eq_some_iff.mp hE
  refine y_iast eh2 dX7_comingTo_6 ?_
  refine y_aload_n dX7_comingTo_7 0 rfl ?_
  refine y_iconst (v := (1 : Int32)) dX7_comingTo_8 (by decide) ?_
  obtain ⟨h3, eh3, hE⟩ := Option.bind_eq_some_iff.mp hE
  refine y_putI fp_X7_256 eh3 dX7_comingTo_9 ?_
  refine y_aload_n dX7_comingTo_12 0 rfl ?_
  refine y_iload_n dX7_comingTo_13 1 rfl ?_
  obtain ⟨u4, eu4, hE⟩ := Option.bind_eq_some_iff.mp hE
  obtain ⟨q5, eq5, hE⟩ := Option.bind_eq_some_iff.mp hE
  obtain ⟨c6, s7, hN, ecc6, ess7⟩ := x_add.spec hE
  clear hE; have hE := hN; clear hN
  refine y_cVv1 (st := []) (as := [.int p1]) (c_X7_findComing (eq5.trans (show some q5 = some (q5.1, q5.2.1, q5.2.2) from rfl))) lk_X7_284 in_X7_findComing se_X7_findComing rfl eu4 ⟨Nat.le_of_ble_eq_true rfl, Nat.le_of_ble_eq_true rfl⟩ (Nat.le_of_ble_eq_true rfl) dX7_comingTo_14 ⟨by omega, by omega⟩ rfl ?_
  refine y_aload_n dX7_comingTo_17 0 rfl ?_
  obtain ⟨u8, eu8, hE⟩ := Option.bind_eq_some_iff.mp hE
  obtain ⟨q9, eq9, hE⟩ := Option.bind_eq_some_iff.mp hE
  refine y_cVi0 (st := []) (as := []) (c_X7_fewest eq9) lk_X7_287 in_X7_fewest se_X7_fewest rfl eu8 ⟨Nat.le_of_ble_eq_true rfl, Nat.le_of_ble_eq_true rfl⟩ (Nat.le_of_ble_eq_true rfl) dX7_comingTo_18 ⟨by omega, by omega⟩ rfl ?_
  obtain ⟨rfl, rfl, rfl, rfl⟩ := x_inj4 hE
  exact y_ret dX7_comingTo_21 (by omega) (by omega) ⟨_, rfl, rfl⟩
def f_X7_coming (n : Nat) (h : xH) (a0 : Nat) (p1 : Int32) (p2 : Int32) : Option ((Int32 × xH) × Nat × Nat) :=
  (x_ob h a0 7).bind fun u1 =>
  (f_X7_isOne h a0 p1).bind fun q2 =>
  if q2 = 0 then
    (x_ob h a0 7).bind fun u3 =>
    (f_X7_refuse h a0 (-2 : Int32)).bind fun q4 =>
    some ((q4.1, q4.2), 0, 0)
  else
    (f_X7_isRoom h p2.toInt64).bind fun q5 =>
    if q5 = 0 then
      (x_ob h a0 7).bind fun u6 =>
      (f_X7_refuse h a0 (-2 : Int32)).bind fun q7 =>
      some ((q7.1, q7.2), 0, 0)
    else
      (x_gI h a0 7 9).bind fun x8 =>
      if x8 ≤ (9 : Int32) then
        (x_ob h a0 7).bind fun u9 =>
        (f_X7_comingTo n h a0 p1 p2).bind fun q10 =>
        x_add q10.2.1 q10.2.2 <|
        some ((q10.1.1, q10.1.2), 0, 0)
      else
        (x_ob h a0 7).bind fun u13 =>
        (f_X7_refuse h a0 (-5 : Int32)).bind fun q14 =>
        some ((q14.1, q14.2), 0, 0)
set_option maxRecDepth 100000 in
set_option maxHeartbeats 4000000 in
theorem c_X7_coming {n : Nat} {h : xH} {a0 : Nat} {p1 : Int32} {p2 : Int32} {r9 : Int32} {hz : xH} {c9 s9 : Nat} (hE : f_X7_coming n h a0 p1 p2 = some ((r9, hz), c9, s9)) : Ctr M_X7_coming [.ref a0, .int p1, .int p2] h (some (.int r9)) hz c9 s9 := by
  refine ctr_of (by decide) (fun _ _ => Nat.le_of_ble_eq_true rfl) (fun S => ?_)
  show Y S M_X7_coming h (some (.int r9)) hz c9 s9 0 [(0, .ref a0), (1, .int p1), (2, .int p2)] [] h 0 0
  unfold f_X7_coming at hE
  refine y_aload_n dX7_coming_0 0 rfl ?_
  refine y_iload_n dX7_coming_1 1 rfl ?_
  obtain ⟨u1, eu1, hE⟩ := Option.bind_eq_some_iff.mp hE
  obtain ⟨q2, eq2, hE⟩ := Option.bind_eq_some_iff.mp hE
  refine y_cVi0 (st := []) (as := [.int p1]) (c_X7_isOne eq2) lk_X7_120 in_X7_isOne se_X7_isOne rfl eu1 ⟨Nat.le_of_ble_eq_true rfl, Nat.le_of_ble_eq_true rfl⟩ (Nat.le_of_ble_eq_true rfl) dX7_coming_2 ⟨by omega, by omega⟩ rfl ?_
  refine y_if_eq (tgt := 16) dX7_coming_5 (by decide) (fun hc17 => ?_) (fun hc17 => ?_)
  · rw [if_pos hc17] at hE
    refine y_aload_n dX7_coming_16 0 rfl ?_
    refine y_bipush (v := (-2 : Int32)) dX7_coming_17 (by decide) ?_
    obtain ⟨u3, eu3, hE⟩ := Option.bind_eq_some_iff.mp hE
    obtain ⟨q4, eq4, hE⟩ := Option.bind_eq_some_iff.mp hE
    refine y_cVi0 (st := []) (as := [.int (-2 : Int32)]) (c_X7_refuse eq4) lk_X7_77 in_X7_refuse se_X7_refuse rfl eu3 ⟨Nat.le_of_ble_eq_true rfl, Nat.le_of_ble_eq_true rfl⟩ (Nat.le_of_ble_eq_true rfl) dX7_coming_19 ⟨by omega, by omega⟩ rfl ?_
    obtain ⟨rfl, rfl, rfl, rfl⟩ := x_inj4 hE
    exact y_ret dX7_coming_22 (by omega) (by omega) ⟨_, rfl, rfl⟩
  · rw [if_neg hc17] at hE
    refine y_iload_n dX7_coming_8 2 rfl ?_
    refine y_i2l dX7_coming_9 ?_
    obtain ⟨q5, eq5, hE⟩ := Option.bind_eq_some_iff.mp hE
    refine y_cSi0 (st := []) (as := [.long p2.toInt64]) (c_X7_isRoom eq5) lk_X7_104 st_X7_isRoom ⟨Nat.le_of_ble_eq_true rfl, Nat.le_of_ble_eq_true rfl⟩ (Nat.le_of_ble_eq_true rfl) dX7_coming_10 ⟨by omega, by omega⟩ rfl ?_
    refine y_if_ne (tgt := 23) dX7_coming_13 (by decide) (fun hc16 => ?_) (fun hc16 => ?_)
    · rw [if_pos hc16] at hE
      refine y_aload_n dX7_coming_16 0 rfl ?_
      refine y_bipush (v := (-2 : Int32)) dX7_coming_17 (by decide) ?_
      obtain ⟨u6, eu6, hE⟩ := Option.bind_eq_some_iff.mp hE
      obtain ⟨q7, eq7, hE⟩ := Option.bind_eq_some_iff.mp hE
      refine y_cVi0 (st := []) (as := [.int (-2 : Int32)]) (c_X7_refuse eq7) lk_X7_77 in_X7_refuse se_X7_refuse rfl eu6 ⟨Nat.le_of_ble_eq_true rfl, Nat.le_of_ble_eq_true rfl⟩ (Nat.le_of_ble_eq_true rfl) dX7_coming_19 ⟨by omega, by omega⟩ rfl ?_
      obtain ⟨rfl, rfl, rfl, rfl⟩ := x_inj4 hE
      exact y_ret dX7_coming_22 (by omega) (by omega) ⟨_, rfl, rfl⟩
    · rw [if_neg hc16] at hE
      refine y_aload_n dX7_coming_23 0 rfl ?_
      obtain ⟨x8, ex8, hE⟩ := Option.bind_eq_some_iff.mp hE
      refine y_getI fl_X7_61 ex8 dX7_coming_24 ?_
      refine y_bipush (v := (9 : Int32)) dX7_coming_27 (by decide) ?_
      refine y_icmp_le (tgt := 41) dX7_coming_29 (by decide) (fun hc15 => ?_) (fun hc15 => ?_)
      · rw [if_pos hc15] at hE
        refine y_aload_n dX7_coming_41 0 rfl ?_
        refine y_iload_n dX7_coming_42 1 rfl ?_
        refine y_iload_n dX7_coming_43 2 rfl ?_
        obtain ⟨u9, eu9, hE⟩ := Option.bind_eq_some_iff.mp hE
        obtain ⟨q10, eq10, hE⟩ := Option.bind_eq_some_iff.mp hE
        obtain ⟨c11, s12, hN, ecc11, ess12⟩ := x_add.spec hE
        clear hE; have hE := hN; clear hN
        refine y_cVi1 (st := []) (as := [.int p1, .int p2]) (c_X7_comingTo (eq10.trans (show some q10 = some ((q10.1.1, q10.1.2), q10.2.1, q10.2.2) from rfl))) lk_X7_290 in_X7_comingTo se_X7_comingTo rfl eu9 ⟨Nat.le_of_ble_eq_true rfl, Nat.le_of_ble_eq_true rfl⟩ (Nat.le_of_ble_eq_true rfl) dX7_coming_44 ⟨by omega, by omega⟩ rfl ?_
        obtain ⟨rfl, rfl, rfl, rfl⟩ := x_inj4 hE
        exact y_ret dX7_coming_47 (by omega) (by omega) ⟨_, rfl, rfl⟩
      · rw [if_neg hc15] at hE
        refine y_aload_n dX7_coming_32 0 rfl ?_
        refine y_bipush (v := (-5 : Int32)) dX7_coming_33 (by decide) ?_
        obtain ⟨u13, eu13, hE⟩ := Option.bind_eq_some_iff.mp hE
        obtain ⟨q14, eq14, hE⟩ := Option.bind_eq_some_iff.mp hE
        refine y_cVi0 (st := []) (as := [.int (-5 : Int32)]) (c_X7_refuse eq14) lk_X7_77 in_X7_refuse se_X7_refuse rfl eu13 ⟨Nat.le_of_ble_eq_true rfl, Nat.le_of_ble_eq_true rfl⟩ (Nat.le_of_ble_eq_true rfl) dX7_coming_35 ⟨by omega, by omega⟩ rfl ?_
        refine y_goto (tgt := 47) dX7_coming_38 (by decide) ?_
        obtain ⟨rfl, rfl, rfl, rfl⟩ := x_inj4 hE
        exact y_ret dX7_coming_47 (by omega) (by omega) ⟨_, rfl, rfl⟩
def f_X7_all_L45 (h : xH) (v0 : Nat) : Nat → Int32 → Int32 → Option (Int32)
  | 0, _, _ => none
  | k + 1, v2, v3 =>
    if (4096 : Int32) ≤ v3 then
      some v2
    else
      (x_gR h v0 7 27).bind fun a11 =>
      (x_ld h a11 v3).bind fun x12 =>
      if x12 = (-1 : Int32) then
        (some (v2 ||| (0 : Int32))).bind fun x13 =>
        (some (v3 + (1 : Int32))).bind fun x14 =>
        f_X7_all_L45 h v0 k x13 x14
      else
        (x_irem v3 (8 : Int32)).bind fun x15 =>
        (some (v2 ||| (i_shl (1 : Int32) x15))).bind fun x16 =>
        (some (v3 + (1 : Int32))).bind fun x17 =>
        f_X7_all_L45 h v0 k x16 x17
set_option maxRecDepth 100000 in
set_option maxHeartbeats 4000000 in
theorem l_X7_all_45 {S : Nat × (Nat → Int32)} {rv : Option Value} {h0 h1 : xH} {mc ms : Nat} {cells slots : Nat} (hm : cells ≤ mc ∧ slots ≤ ms) (h : xH) (v0 : Nat) : ∀ (k : Nat) (v2 : Int32) (v3 : Int32) (res : Int32), f_X7_all_L45 h v0 k v2 v3 = some res → (∀ r9, res = r9 → Y S M_X7_all h0 rv h1 mc ms 81 [(2, .int r9)] [] h cells slots) → Y S M_X7_all h0 rv h1 mc ms 45 [(0, .ref v0), (2, .int v2), (3, .int v3)] [] h cells slots := by
  intro k
  induction k with
  | zero =>
    intro _ _ _ hE
    cases hE
  | succ k ih =>
    intro v2 v3 res hE K
    unfold f_X7_all_L45 at hE
    refine y_iload_n dX7_all_45 2 rfl ?_
    refine y_sipush (v := (4096 : Int32)) dX7_all_46 (by decide) ?_
    refine y_icmp_ge (tgt := 81) dX7_all_49 (by decide) (fun hc19 => ?_) (fun hc19 => ?_)
    · rw [if_pos hc19] at hE
      obtain rfl := Option.some.inj hE
      exact y_pick [1] rfl (K _ rfl)
    · rw [if_neg hc19] at hE
      refine y_iload_n dX7_all_52 1 rfl ?_
      refine y_aload_n dX7_all_53 0 rfl ?_
      obtain ⟨a11, ea11, hE⟩ := Option.bind_eq_some_iff.mp hE
      refine y_getR fl_X7_259 ea11 dX7_all_54 ?_
      refine y_iload_n dX7_all_57 2 rfl ?_
      obtain ⟨x12, ex12, hE⟩ := Option.bind_eq_some_iff.mp hE
      refine y_iald ex12 dX7_all_58 ?_
      refine y_iconst (v := (-1 : Int32)) dX7_all_59 (by decide) ?_
      refine y_icmp_eq (tgt := 72) dX7_all_60 (by decide) (fun hc18 => ?_) (fun hc18 => ?_)
      · rw [if_pos hc18] at hE
        refine y_iconst (v := (0 : Int32)) dX7_all_72 (by decide) ?_
        refine y_ior dX7_all_73 ?_
        obtain ⟨x13, ex13, hE⟩ := Option.bind_eq_some_iff.mp hE
        refine y_istore_n (ls' := [(2, .int x13), (0, .ref v0), (3, .int v3)]) dX7_all_74 (by decide) (Option.some.inj ex13) rfl ?_
        obtain ⟨x14, ex14, hE⟩ := Option.bind_eq_some_iff.mp hE
        refine y_iinc (ls' := [(3, .int x14), (2, .int x13), (0, .ref v0)]) dX7_all_75 2 rfl (Option.some.inj ex14) (by decide) rfl ?_
        refine y_goto (tgt := 45) dX7_all_78 (by decide) ?_
        refine y_pick [2, 1, 0] rfl ?_
        exact ih _ _ _ hE K
      · rw [if_neg hc18] at hE
        refine y_iconst (v := (1 : Int32)) dX7_all_63 (by decide) ?_
        refine y_iload_n dX7_all_64 2 rfl ?_
        refine y_bipush (v := (8 : Int32)) dX7_all_65 (by decide) ?_
        obtain ⟨x15, ex15, hE⟩ := Option.bind_eq_some_iff.mp hE
        refine y_rem ex15 dX7_all_67 ?_
        refine y_ishl dX7_all_68 ?_
        refine y_goto (tgt := 73) dX7_all_69 (by decide) ?_
        refine y_ior dX7_all_73 ?_
        obtain ⟨x16, ex16, hE⟩ := Option.bind_eq_some_iff.mp hE
        refine y_istore_n (ls' := [(2, .int x16), (0, .ref v0), (3, .int v3)]) dX7_all_74 (by decide) (Option.some.inj ex16) rfl ?_
        obtain ⟨x17, ex17, hE⟩ := Option.bind_eq_some_iff.mp hE
        refine y_iinc (ls' := [(3, .int x17), (2, .int x16), (0, .ref v0)]) dX7_all_75 2 rfl (Option.some.inj ex17) (by decide) rfl ?_
        refine y_goto (tgt := 45) dX7_all_78 (by decide) ?_
        refine y_pick [2, 1, 0] rfl ?_
        exact ih _ _ _ hE K
def f_X7_all (n : Nat) (h : xH) (a0 : Nat) (p1 : Int32) : Option ((Int32 × xH) × Nat × Nat) :=
  (x_ob h a0 7).bind fun u1 =>
  (f_X7_isOne h a0 p1).bind fun q2 =>
  if q2 = 0 then
    (x_ob h a0 7).bind fun u3 =>
    (f_X7_refuse h a0 (-2 : Int32)).bind fun q4 =>
    some ((q4.1, q4.2), 0, 0)
  else
    (x_gI h a0 7 9).bind fun x5 =>
    if x5 ≤ (9 : Int32) then
      (x_put h a0 7 30 (.int (0 : Int32))).bind fun h6 =>
      (x_ob h6 a0 7).bind fun u7 =>
      (f_X7_findComing n h6 a0 p1).bind fun q8 =>
      x_add q8.2.1 q8.2.2 <|
      (f_X7_all_L45 q8.1 a0 n (0 : Int32) (0 : Int32)).bind fun q20 =>
      some ((q20, q8.1), 0, 0)
    else
      (x_ob h a0 7).bind fun u21 =>
      (f_X7_refuse h a0 (-5 : Int32)).bind fun q22 =>
      some ((q22.1, q22.2), 0, 0)
set_option maxRecDepth 100000 in
set_option maxHeartbeats 4000000 in
theorem c_X7_all {n : Nat} {h : xH} {a0 : Nat} {p1 : Int32} {r9 : Int32} {hz : xH} {c9 s9 : Nat} (hE : f_X7_all n h a0 p1 = some ((r9, hz), c9, s9)) : Ctr M_X7_all [.ref a0, .int p1] h (some (.int r9)) hz c9 s9 := by
  refine ctr_of (by decide) (fun _ _ => Nat.le_of_ble_eq_true rfl) (fun S => ?_)
  show Y S M_X7_all h (some (.int r9)) hz c9 s9 0 [(0, .ref a0), (1, .int p1)] [] h 0 0
  unfold f_X7_all at hE
  refine y_aload_n dX7_all_0 0 rfl ?_
  refine y_iload_n dX7_all_1 1 rfl ?_
  obtain ⟨u1, eu1, hE⟩ := Option.bind_eq_some_iff.mp hE
  obtain ⟨q2, eq2, hE⟩ := Option.bind_eq_some_iff.mp hE
  refine y_cVi0 (st := []) (as := [.int p1]) (c_X7_isOne eq2) lk_X7_120 in_X7_isOne se_X7_isOne rfl eu1 ⟨Nat.le_of_ble_eq_true rfl, Nat.le_of_ble_eq_true rfl⟩ (Nat.le_of_ble_eq_true rfl) dX7_all_2 ⟨by omega, by omega⟩ rfl ?_
  refine y_if_ne (tgt := 15) dX7_all_5 (by decide) (fun hc24 => ?_) (fun hc24 => ?_)
  · rw [if_pos hc24] at hE
    refine y_aload_n dX7_all_8 0 rfl ?_
    refine y_bipush (v := (-2 : Int32)) dX7_all_9 (by decide) ?_
    obtain ⟨u3, eu3, hE⟩ := Option.bind_eq_some_iff.mp hE
    obtain ⟨q4, eq4, hE⟩ := Option.bind_eq_some_iff.mp hE
    refine y_cVi0 (st := []) (as := [.int (-2 : Int32)]) (c_X7_refuse eq4) lk_X7_77 in_X7_refuse se_X7_refuse rfl eu3 ⟨Nat.le_of_ble_eq_true rfl, Nat.le_of_ble_eq_true rfl⟩ (Nat.le_of_ble_eq_true rfl) dX7_all_11 ⟨by omega, by omega⟩ rfl ?_
    obtain ⟨rfl, rfl, rfl, rfl⟩ := x_inj4 hE
    exact y_ret dX7_all_14 (by omega) (by omega) ⟨_, rfl, rfl⟩
  · rw [if_neg hc24] at hE
    refine y_aload_n dX7_all_15 0 rfl ?_
    obtain ⟨x5, ex5, hE⟩ := Option.bind_eq_some_iff.mp hE
    refine y_getI fl_X7_61 ex5 dX7_all_16 ?_
    refine y_bipush (v := (9 : Int32)) dX7_all_19 (by decide) ?_
    refine y_icmp_le (tgt := 31) dX7_all_21 (by decide) (fun hc23 => ?_) (fun hc23 => ?_)
    · rw [if_pos hc23] at hE
      refine y_aload_n dX7_all_31 0 rfl ?_
      refine y_iconst (v := (0 : Int32)) dX7_all_32 (by decide) ?_
      obtain ⟨h6, eh6, hE⟩ := Option.bind_eq_some_iff.mp hE
      refine y_putI fp_X7_256 eh6 dX7_all_33 ?_
      refine y_aload_n dX7_all_36 0 rfl ?_
      refine y_iload_n dX7_all_37 1 rfl ?_
      obtain ⟨u7, eu7, hE⟩ := Option.bind_eq_some_iff.mp hE
      obtain ⟨q8, eq8, hE⟩ := Option.bind_eq_some_iff.mp hE
      obtain ⟨c9, s10, hN, ecc9, ess10⟩ := x_add.spec hE
      clear hE; have hE := hN; clear hN
      refine y_cVv1 (st := []) (as := [.int p1]) (c_X7_findComing (eq8.trans (show some q8 = some (q8.1, q8.2.1, q8.2.2) from rfl))) lk_X7_284 in_X7_findComing se_X7_findComing rfl eu7 ⟨Nat.le_of_ble_eq_true rfl, Nat.le_of_ble_eq_true rfl⟩ (Nat.le_of_ble_eq_true rfl) dX7_all_38 ⟨by omega, by omega⟩ rfl ?_
      refine y_iconst (v := (0 : Int32)) dX7_all_41 (by decide) ?_
      refine y_istore_n (ls' := [(2, .int (0 : Int32)), (0, .ref a0), (1, .int p1)]) dX7_all_42 (by decide) rfl rfl ?_
      refine y_iconst (v := (0 : Int32)) dX7_all_43 (by decide) ?_
      refine y_istore_n (ls' := [(3, .int (0 : Int32)), (2, .int (0 : Int32)), (0, .ref a0), (1, .int p1)]) dX7_all_44 (by decide) rfl rfl ?_
      obtain ⟨q20, eq20, hE⟩ := Option.bind_eq_some_iff.mp hE
      refine y_pick [2, 1, 0] rfl ?_
      refine l_X7_all_45 (S := S) ⟨by omega, by omega⟩ q8.1 a0 n (0 : Int32) (0 : Int32) _ eq20 (fun r8 hr8 => ?_)
      subst hr8
      refine y_iload_n dX7_all_81 0 rfl ?_
      obtain ⟨rfl, rfl, rfl, rfl⟩ := x_inj4 hE
      exact y_ret dX7_all_82 (by omega) (by omega) ⟨_, rfl, rfl⟩
    · rw [if_neg hc23] at hE
      refine y_aload_n dX7_all_24 0 rfl ?_
      refine y_bipush (v := (-5 : Int32)) dX7_all_25 (by decide) ?_
      obtain ⟨u21, eu21, hE⟩ := Option.bind_eq_some_iff.mp hE
      obtain ⟨q22, eq22, hE⟩ := Option.bind_eq_some_iff.mp hE
      refine y_cVi0 (st := []) (as := [.int (-5 : Int32)]) (c_X7_refuse eq22) lk_X7_77 in_X7_refuse se_X7_refuse rfl eu21 ⟨Nat.le_of_ble_eq_true rfl, Nat.le_of_ble_eq_true rfl⟩ (Nat.le_of_ble_eq_true rfl) dX7_all_27 ⟨by omega, by omega⟩ rfl ?_
      obtain ⟨rfl, rfl, rfl, rfl⟩ := x_inj4 hE
      exact y_ret dX7_all_30 (by omega) (by omega) ⟨_, rfl, rfl⟩
def f_X7_first (n : Nat) (h : xH) (a0 : Nat) (p1 : Int32) (p2 : Int32) : Option ((Int32 × xH) × Nat × Nat) :=
  (x_ob h a0 7).bind fun u1 =>
  (f_X7_isOne h a0 p1).bind fun q2 =>
  if q2 = 0 then
    (x_ob h a0 7).bind fun u3 =>
    (f_X7_refuse h a0 (-2 : Int32)).bind fun q4 =>
    some ((q4.1, q4.2), 0, 0)
  else
    (f_X7_isRoom h p2.toInt64).bind fun q5 =>
    if q5 = 0 then
      (x_ob h a0 7).bind fun u6 =>
      (f_X7_refuse h a0 (-2 : Int32)).bind fun q7 =>
      some ((q7.1, q7.2), 0, 0)
    else
      (x_gI h a0 7 9).bind fun x8 =>
      if x8 ≤ (9 : Int32) then
        (x_ob h a0 7).bind fun u9 =>
        (f_X7_comingTo n h a0 p1 p2).bind fun q10 =>
        x_add q10.2.1 q10.2.2 <|
        if q10.1.1 ≤ 0 then
          some (((-1 : Int32), q10.1.2), 0, 0)
        else
          (x_gI q10.1.2 a0 7 33).bind fun x13 =>
          some ((x13, q10.1.2), 0, 0)
      else
        (x_ob h a0 7).bind fun u15 =>
        (f_X7_refuse h a0 (-5 : Int32)).bind fun q16 =>
        some ((q16.1, q16.2), 0, 0)
set_option maxRecDepth 100000 in
set_option maxHeartbeats 4000000 in
theorem c_X7_first {n : Nat} {h : xH} {a0 : Nat} {p1 : Int32} {p2 : Int32} {r9 : Int32} {hz : xH} {c9 s9 : Nat} (hE : f_X7_first n h a0 p1 p2 = some ((r9, hz), c9, s9)) : Ctr M_X7_first [.ref a0, .int p1, .int p2] h (some (.int r9)) hz c9 s9 := by
  refine ctr_of (by decide) (fun _ _ => Nat.le_of_ble_eq_true rfl) (fun S => ?_)
  show Y S M_X7_first h (some (.int r9)) hz c9 s9 0 [(0, .ref a0), (1, .int p1), (2, .int p2)] [] h 0 0
  unfold f_X7_first at hE
  refine y_aload_n dX7_first_0 0 rfl ?_
  refine y_iload_n dX7_first_1 1 rfl ?_
  obtain ⟨u1, eu1, hE⟩ := Option.bind_eq_some_iff.mp hE
  obtain ⟨q2, eq2, hE⟩ := Option.bind_eq_some_iff.mp hE
  refine y_cVi0 (st := []) (as := [.int p1]) (c_X7_isOne eq2) lk_X7_120 in_X7_isOne se_X7_isOne rfl eu1 ⟨Nat.le_of_ble_eq_true rfl, Nat.le_of_ble_eq_true rfl⟩ (Nat.le_of_ble_eq_true rfl) dX7_first_2 ⟨by omega, by omega⟩ rfl ?_
  refine y_if_eq (tgt := 16) dX7_first_5 (by decide) (fun hc19 => ?_) (fun hc19 => ?_)
  · rw [if_pos hc19] at hE
    refine y_aload_n dX7_first_16 0 rfl ?_
    refine y_bipush (v := (-2 : Int32)) dX7_first_17 (by decide) ?_
    obtain ⟨u3, eu3, hE⟩ := Option.bind_eq_some_iff.mp hE
    obtain ⟨q4, eq4, hE⟩ := Option.bind_eq_some_iff.mp hE
    refine y_cVi0 (st := []) (as := [.int (-2 : Int32)]) (c_X7_refuse eq4) lk_X7_77 in_X7_refuse se_X7_refuse rfl eu3 ⟨Nat.le_of_ble_eq_true rfl, Nat.le_of_ble_eq_true rfl⟩ (Nat.le_of_ble_eq_true rfl) dX7_first_19 ⟨by omega, by omega⟩ rfl ?_
    obtain ⟨rfl, rfl, rfl, rfl⟩ := x_inj4 hE
    exact y_ret dX7_first_22 (by omega) (by omega) ⟨_, rfl, rfl⟩
  · rw [if_neg hc19] at hE
    refine y_iload_n dX7_first_8 2 rfl ?_
    refine y_i2l dX7_first_9 ?_
    obtain ⟨q5, eq5, hE⟩ := Option.bind_eq_some_iff.mp hE
    refine y_cSi0 (st := []) (as := [.long p2.toInt64]) (c_X7_isRoom eq5) lk_X7_104 st_X7_isRoom ⟨Nat.le_of_ble_eq_true rfl, Nat.le_of_ble_eq_true rfl⟩ (Nat.le_of_ble_eq_true rfl) dX7_first_10 ⟨by omega, by omega⟩ rfl ?_
    refine y_if_ne (tgt := 23) dX7_first_13 (by decide) (fun hc18 => ?_) (fun hc18 => ?_)
    · rw [if_pos hc18] at hE
      refine y_aload_n dX7_first_16 0 rfl ?_
      refine y_bipush (v := (-2 : Int32)) dX7_first_17 (by decide) ?_
      obtain ⟨u6, eu6, hE⟩ := Option.bind_eq_some_iff.mp hE
      obtain ⟨q7, eq7, hE⟩ := Option.bind_eq_some_iff.mp hE
      refine y_cVi0 (st := []) (as := [.int (-2 : Int32)]) (c_X7_refuse eq7) lk_X7_77 in_X7_refuse se_X7_refuse rfl eu6 ⟨Nat.le_of_ble_eq_true rfl, Nat.le_of_ble_eq_true rfl⟩ (Nat.le_of_ble_eq_true rfl) dX7_first_19 ⟨by omega, by omega⟩ rfl ?_
      obtain ⟨rfl, rfl, rfl, rfl⟩ := x_inj4 hE
      exact y_ret dX7_first_22 (by omega) (by omega) ⟨_, rfl, rfl⟩
    · rw [if_neg hc18] at hE
      refine y_aload_n dX7_first_23 0 rfl ?_
      obtain ⟨x8, ex8, hE⟩ := Option.bind_eq_some_iff.mp hE
      refine y_getI fl_X7_61 ex8 dX7_first_24 ?_
      refine y_bipush (v := (9 : Int32)) dX7_first_27 (by decide) ?_
      refine y_icmp_le (tgt := 39) dX7_first_29 (by decide) (fun hc17 => ?_) (fun hc17 => ?_)
      · rw [if_pos hc17] at hE
        refine y_aload_n dX7_first_39 0 rfl ?_
        refine y_iload_n dX7_first_40 1 rfl ?_
        refine y_iload_n dX7_first_41 2 rfl ?_
        obtain ⟨u9, eu9, hE⟩ := Option.bind_eq_some_iff.mp hE
        obtain ⟨q10, eq10, hE⟩ := Option.bind_eq_some_iff.mp hE
        obtain ⟨c11, s12, hN, ecc11, ess12⟩ := x_add.spec hE
        clear hE; have hE := hN; clear hN
        refine y_cVi1 (st := []) (as := [.int p1, .int p2]) (c_X7_comingTo (eq10.trans (show some q10 = some ((q10.1.1, q10.1.2), q10.2.1, q10.2.2) from rfl))) lk_X7_290 in_X7_comingTo se_X7_comingTo rfl eu9 ⟨Nat.le_of_ble_eq_true rfl, Nat.le_of_ble_eq_true rfl⟩ (Nat.le_of_ble_eq_true rfl) dX7_first_42 ⟨by omega, by omega⟩ rfl ?_
        refine y_if_le (tgt := 55) dX7_first_45 (by decide) (fun hc14 => ?_) (fun hc14 => ?_)
        · rw [if_pos hc14] at hE
          refine y_iconst (v := (-1 : Int32)) dX7_first_55 (by decide) ?_
          obtain ⟨rfl, rfl, rfl, rfl⟩ := x_inj4 hE
          exact y_ret dX7_first_56 (by omega) (by omega) ⟨_, rfl, rfl⟩
        · rw [if_neg hc14] at hE
          refine y_aload_n dX7_first_48 0 rfl ?_
          obtain ⟨x13, ex13, hE⟩ := Option.bind_eq_some_iff.mp hE
          refine y_getI fl_X7_281 ex13 dX7_first_49 ?_
          refine y_goto (tgt := 56) dX7_first_52 (by decide) ?_
          obtain ⟨rfl, rfl, rfl, rfl⟩ := x_inj4 hE
          exact y_ret dX7_first_56 (by omega) (by omega) ⟨_, rfl, rfl⟩
      · rw [if_neg hc17] at hE
        refine y_aload_n dX7_first_32 0 rfl ?_
        refine y_bipush (v := (-5 : Int32)) dX7_first_33 (by decide) ?_
        obtain ⟨u15, eu15, hE⟩ := Option.bind_eq_some_iff.mp hE
        obtain ⟨q16, eq16, hE⟩ := Option.bind_eq_some_iff.mp hE
        refine y_cVi0 (st := []) (as := [.int (-5 : Int32)]) (c_X7_refuse eq16) lk_X7_77 in_X7_refuse se_X7_refuse rfl eu15 ⟨Nat.le_of_ble_eq_true rfl, Nat.le_of_ble_eq_true rfl⟩ (Nat.le_of_ble_eq_true rfl) dX7_first_35 ⟨by omega, by omega⟩ rfl ?_
        obtain ⟨rfl, rfl, rfl, rfl⟩ := x_inj4 hE
        exact y_ret dX7_first_38 (by omega) (by omega) ⟨_, rfl, rfl⟩
