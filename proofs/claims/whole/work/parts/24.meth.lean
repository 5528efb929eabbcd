theorem dX3_arrive_0 : decode cX3_arrive 0 = .ok (.aload_n 0, 1) := by decide +kernel
theorem dX3_arrive_1 : decode cX3_arrive 1 = .ok (.getfield 18, 3) := by decide +kernel
theorem dX3_arrive_4 : decode cX3_arrive 4 = .ok (.iload_n 1, 1) := by decide +kernel
theorem dX3_arrive_5 : decode cX3_arrive 5 = .ok (.iload_n 2, 1) := by decide +kernel
theorem dX3_arrive_6 : decode cX3_arrive 6 = .ok (.invokevirtual 50, 3) := by decide +kernel
theorem dX3_arrive_9 : decode cX3_arrive 9 = .ok (.istore 5, 2) := by decide +kernel
theorem dX3_arrive_11 : decode cX3_arrive 11 = .ok (.aload_n 0, 1) := by decide +kernel
theorem dX3_arrive_12 : decode cX3_arrive 12 = .ok (.dup, 1) := by decide +kernel
theorem dX3_arrive_13 : decode cX3_arrive 13 = .ok (.getfield 68, 3) := by decide +kernel
theorem dX3_arrive_16 : decode cX3_arrive 16 = .ok (.iload 5, 2) := by decide +kernel
theorem dX3_arrive_18 : decode cX3_arrive 18 = .ok (.ior, 1) := by decide +kernel
theorem dX3_arrive_19 : decode cX3_arrive 19 = .ok (.putfield 68, 3) := by decide +kernel
theorem dX3_arrive_22 : decode cX3_arrive 22 = .ok (.iload_n 3, 1) := by decide +kernel
theorem dX3_arrive_23 : decode cX3_arrive 23 = .ok (.istore 6, 2) := by decide +kernel
theorem dX3_arrive_25 : decode cX3_arrive 25 = .ok (.iload 6, 2) := by decide +kernel
theorem dX3_arrive_27 : decode cX3_arrive 27 = .ok (.aload_n 0, 1) := by decide +kernel
theorem dX3_arrive_28 : decode cX3_arrive 28 = .ok (.getfield 32, 3) := by decide +kernel
theorem dX3_arrive_31 : decode cX3_arrive 31 = .ok (.if_icmp .ge 24, 3) := by decide +kernel
theorem dX3_arrive_34 : decode cX3_arrive 34 = .ok (.iload 5, 2) := by decide +kernel
theorem dX3_arrive_36 : decode cX3_arrive 36 = .ok (.aload_n 0, 1) := by decide +kernel
theorem dX3_arrive_37 : decode cX3_arrive 37 = .ok (.getfield 11, 3) := by decide +kernel
theorem dX3_arrive_40 : decode cX3_arrive 40 = .ok (.iload 6, 2) := by decide +kernel
theorem dX3_arrive_42 : decode cX3_arrive 42 = .ok (.iaload, 1) := by decide +kernel
theorem dX3_arrive_43 : decode cX3_arrive 43 = .ok (.ishr, 1) := by decide +kernel
theorem dX3_arrive_44 : decode cX3_arrive 44 = .ok (.iconst 1, 1) := by decide +kernel
theorem dX3_arrive_45 : decode cX3_arrive 45 = .ok (.iand, 1) := by decide +kernel
theorem dX3_arrive_46 : decode cX3_arrive 46 = .ok (.ifCond .eq 9, 3) := by decide +kernel
theorem dX3_arrive_49 : decode cX3_arrive 49 = .ok (.iinc 6 1, 3) := by decide +kernel
theorem dX3_arrive_52 : decode cX3_arrive 52 = .ok (.goto (-27), 3) := by decide +kernel
theorem dX3_arrive_55 : decode cX3_arrive 55 = .ok (.iload 6, 2) := by decide +kernel
theorem dX3_arrive_57 : decode cX3_arrive 57 = .ok (.aload_n 0, 1) := by decide +kernel
theorem dX3_arrive_58 : decode cX3_arrive 58 = .ok (.getfield 32, 3) := by decide +kernel
theorem dX3_arrive_61 : decode cX3_arrive 61 = .ok (.if_icmp .ne 20, 3) := by decide +kernel
theorem dX3_arrive_64 : decode cX3_arrive 64 = .ok (.aload_n 0, 1) := by decide +kernel
theorem dX3_arrive_65 : decode cX3_arrive 65 = .ok (.iconst 1, 1) := by decide +kernel
theorem dX3_arrive_66 : decode cX3_arrive 66 = .ok (.putfield 91, 3) := by decide +kernel
theorem dX3_arrive_69 : decode cX3_arrive 69 = .ok (.aload_n 0, 1) := by decide +kernel
theorem dX3_arrive_70 : decode cX3_arrive 70 = .ok (.dup, 1) := by decide +kernel
theorem dX3_arrive_71 : decode cX3_arrive 71 = .ok (.getfield 71, 3) := by decide +kernel
theorem dX3_arrive_74 : decode cX3_arrive 74 = .ok (.iload 4, 2) := by decide +kernel
theorem dX3_arrive_76 : decode cX3_arrive 76 = .ok (.ior, 1) := by decide +kernel
theorem dX3_arrive_77 : decode cX3_arrive 77 = .ok (.putfield 71, 3) := by decide +kernel
theorem dX3_arrive_80 : decode cX3_arrive 80 = .ok (.return_, 1) := by decide +kernel
theorem dX3_arrive_81 : decode cX3_arrive 81 = .ok (.iload 6, 2) := by decide +kernel
theorem dX3_arrive_83 : decode cX3_arrive 83 = .ok (.aload_n 0, 1) := by decide +kernel
theorem dX3_arrive_84 : decode cX3_arrive 84 = .ok (.getfield 18, 3) := by decide +kernel
theorem dX3_arrive_87 : decode cX3_arrive 87 = .ok (.getfield 47, 3) := by decide +kernel
theorem dX3_arrive_90 : decode cX3_arrive 90 = .ok (.ishl, 1) := by decide +kernel
theorem dX3_arrive_91 : decode cX3_arrive 91 = .ok (.iload_n 1, 1) := by decide +kernel
theorem dX3_arrive_92 : decode cX3_arrive 92 = .ok (.iadd, 1) := by decide +kernel
theorem dX3_arrive_93 : decode cX3_arrive 93 = .ok (.bipush 8, 2) := by decide +kernel
theorem dX3_arrive_95 : decode cX3_arrive 95 = .ok (.imul, 1) := by decide +kernel
theorem dX3_arrive_96 : decode cX3_arrive 96 = .ok (.iload 5, 2) := by decide +kernel
theorem dX3_arrive_98 : decode cX3_arrive 98 = .ok (.invokestatic 74, 3) := by decide +kernel
theorem dX3_arrive_101 : decode cX3_arrive 101 = .ok (.iadd, 1) := by decide +kernel
theorem dX3_arrive_102 : decode cX3_arrive 102 = .ok (.istore 7, 2) := by decide +kernel
theorem dX3_arrive_104 : decode cX3_arrive 104 = .ok (.iload 7, 2) := by decide +kernel
theorem dX3_arrive_106 : decode cX3_arrive 106 = .ok (.ifCond .lt 13, 3) := by decide +kernel
theorem dX3_arrive_109 : decode cX3_arrive 109 = .ok (.iload 7, 2) := by decide +kernel
theorem dX3_arrive_111 : decode cX3_arrive 111 = .ok (.aload_n 0, 1) := by decide +kernel
theorem dX3_arrive_112 : decode cX3_arrive 112 = .ok (.getfield 22, 3) := by decide +kernel
theorem dX3_arrive_115 : decode cX3_arrive 115 = .ok (.arraylength, 1) := by decide +kernel
theorem dX3_arrive_116 : decode cX3_arrive 116 = .ok (.if_icmp .lt 4, 3) := by decide +kernel
theorem dX3_arrive_119 : decode cX3_arrive 119 = .ok (.return_, 1) := by decide +kernel
theorem dX3_arrive_120 : decode cX3_arrive 120 = .ok (.aload_n 0, 1) := by decide +kernel
theorem dX3_arrive_121 : decode cX3_arrive 121 = .ok (.getfield 22, 3) := by decide +kernel
theorem dX3_arrive_124 : decode cX3_arrive 124 = .ok (.iload 7, 2) := by decide +kernel
theorem dX3_arrive_126 : decode cX3_arrive 126 = .ok (.iaload, 1) := by decide +kernel
theorem dX3_arrive_127 : decode cX3_arrive 127 = .ok (.aload_n 0, 1) := by decide +kernel
theorem dX3_arrive_128 : decode cX3_arrive 128 = .ok (.getfield 28, 3) := by decide +kernel
theorem dX3_arrive_131 : decode cX3_arrive 131 = .ok (.isub, 1) := by decide +kernel
theorem dX3_arrive_132 : decode cX3_arrive 132 = .ok (.istore 8, 2) := by decide +kernel
theorem dX3_arrive_134 : decode cX3_arrive 134 = .ok (.iload 8, 2) := by decide +kernel
theorem dX3_arrive_136 : decode cX3_arrive 136 = .ok (.ifCond .ge 61, 3) := by decide +kernel
theorem dX3_arrive_139 : decode cX3_arrive 139 = .ok (.aload_n 0, 1) := by decide +kernel
theorem dX3_arrive_140 : decode cX3_arrive 140 = .ok (.getfield 85, 3) := by decide +kernel
theorem dX3_arrive_143 : decode cX3_arrive 143 = .ok (.aload_n 0, 1) := by decide +kernel
theorem dX3_arrive_144 : decode cX3_arrive 144 = .ok (.getfield 25, 3) := by decide +kernel
theorem dX3_arrive_147 : decode cX3_arrive 147 = .ok (.arraylength, 1) := by decide +kernel
theorem dX3_arrive_148 : decode cX3_arrive 148 = .ok (.if_icmp .ge 49, 3) := by decide +kernel
theorem dX3_arrive_151 : decode cX3_arrive 151 = .ok (.aload_n 0, 1) := by decide +kernel
theorem dX3_arrive_152 : decode cX3_arrive 152 = .ok (.getfield 22, 3) := by decide +kernel
theorem dX3_arrive_155 : decode cX3_arrive 155 = .ok (.iload 7, 2) := by decide +kernel
theorem dX3_arrive_157 : decode cX3_arrive 157 = .ok (.aload_n 0, 1) := by decide +kernel
theorem dX3_arrive_158 : decode cX3_arrive 158 = .ok (.getfield 28, 3) := by decide +kernel
theorem dX3_arrive_161 : decode cX3_arrive 161 = .ok (.aload_n 0, 1) := by decide +kernel
theorem dX3_arrive_162 : decode cX3_arrive 162 = .ok (.getfield 85, 3) := by decide +kernel
theorem dX3_arrive_165 : decode cX3_arrive 165 = .ok (.iadd, 1) := by decide +kernel
theorem dX3_arrive_166 : decode cX3_arrive 166 = .ok (.iastore, 1) := by decide +kernel
theorem dX3_arrive_167 : decode cX3_arrive 167 = .ok (.aload_n 0, 1) := by decide +kernel
theorem dX3_arrive_168 : decode cX3_arrive 168 = .ok (.getfield 25, 3) := by decide +kernel
theorem dX3_arrive_171 : decode cX3_arrive 171 = .ok (.aload_n 0, 1) := by decide +kernel
theorem dX3_arrive_172 : decode cX3_arrive 172 = .ok (.getfield 85, 3) := by decide +kernel
theorem dX3_arrive_175 : decode cX3_arrive 175 = .ok (.iload 4, 2) := by decide +kernel
theorem dX3_arrive_177 : decode cX3_arrive 177 = .ok (.bipush 14, 2) := by decide +kernel
theorem dX3_arrive_179 : decode cX3_arrive 179 = .ok (.ishl, 1) := by decide +kernel
theorem dX3_arrive_180 : decode cX3_arrive 180 = .ok (.iload 7, 2) := by decide +kernel
theorem dX3_arrive_182 : decode cX3_arrive 182 = .ok (.ior, 1) := by decide +kernel
theorem dX3_arrive_183 : decode cX3_arrive 183 = .ok (.iastore, 1) := by decide +kernel
theorem dX3_arrive_184 : decode cX3_arrive 184 = .ok (.aload_n 0, 1) := by decide +kernel
theorem dX3_arrive_185 : decode cX3_arrive 185 = .ok (.dup, 1) := by decide +kernel
theorem dX3_arrive_186 : decode cX3_arrive 186 = .ok (.getfield 85, 3) := by decide +kernel
theorem dX3_arrive_189 : decode cX3_arrive 189 = .ok (.iconst 1, 1) := by decide +kernel
theorem dX3_arrive_190 : decode cX3_arrive 190 = .ok (.iadd, 1) := by decide +kernel
theorem dX3_arrive_191 : decode cX3_arrive 191 = .ok (.putfield 85, 3) := by decide +kernel
theorem dX3_arrive_194 : decode cX3_arrive 194 = .ok (.goto 36, 3) := by decide +kernel
theorem dX3_arrive_197 : decode cX3_arrive 197 = .ok (.iload 8, 2) := by decide +kernel
theorem dX3_arrive_199 : decode cX3_arrive 199 = .ok (.aload_n 0, 1) := by decide +kernel
theorem dX3_arrive_200 : decode cX3_arrive 200 = .ok (.getfield 88, 3) := by decide +kernel
theorem dX3_arrive_203 : decode cX3_arrive 203 = .ok (.if_icmp .lt 27, 3) := by decide +kernel
theorem dX3_arrive_206 : decode cX3_arrive 206 = .ok (.iload 8, 2) := by decide +kernel
theorem dX3_arrive_208 : decode cX3_arrive 208 = .ok (.aload_n 0, 1) := by decide +kernel
theorem dX3_arrive_209 : decode cX3_arrive 209 = .ok (.getfield 85, 3) := by decide +kernel
theorem dX3_arrive_212 : decode cX3_arrive 212 = .ok (.if_icmp .ge 18, 3) := by decide +kernel
theorem dX3_arrive_215 : decode cX3_arrive 215 = .ok (.aload_n 0, 1) := by decide +kernel
theorem dX3_arrive_216 : decode cX3_arrive 216 = .ok (.getfield 25, 3) := by decide +kernel
theorem dX3_arrive_219 : decode cX3_arrive 219 = .ok (.iload 8, 2) := by decide +kernel
theorem dX3_arrive_221 : decode cX3_arrive 221 = .ok (.dup2, 1) := by decide +kernel
theorem dX3_arrive_222 : decode cX3_arrive 222 = .ok (.iaload, 1) := by decide +kernel
theorem dX3_arrive_223 : decode cX3_arrive 223 = .ok (.iload 4, 2) := by decide +kernel
theorem dX3_arrive_225 : decode cX3_arrive 225 = .ok (.bipush 14, 2) := by decide +kernel
theorem dX3_arrive_227 : decode cX3_arrive 227 = .ok (.ishl, 1) := by decide +kernel
theorem dX3_arrive_228 : decode cX3_arrive 228 = .ok (.ior, 1) := by decide +kernel
theorem dX3_arrive_229 : decode cX3_arrive 229 = .ok (.iastore, 1) := by decide +kernel
theorem dX3_arrive_230 : decode cX3_arrive 230 = .ok (.return_, 1) := by decide +kernel
theorem dX3_leaveFrom_0 : decode cX3_leaveFrom 0 = .ok (.iload_n 2, 1) := by decide +kernel
theorem dX3_leaveFrom_1 : decode cX3_leaveFrom 1 = .ok (.iconst 3, 1) := by decide +kernel
theorem dX3_leaveFrom_2 : decode cX3_leaveFrom 2 = .ok (.ishr, 1) := by decide +kernel
theorem dX3_leaveFrom_3 : decode cX3_leaveFrom 3 = .ok (.iconst 1, 1) := by decide +kernel
theorem dX3_leaveFrom_4 : decode cX3_leaveFrom 4 = .ok (.aload_n 0, 1) := by decide +kernel
theorem dX3_leaveFrom_5 : decode cX3_leaveFrom 5 = .ok (.getfield 18, 3) := by decide +kernel
theorem dX3_leaveFrom_8 : decode cX3_leaveFrom 8 = .ok (.getfield 47, 3) := by decide +kernel
theorem dX3_leaveFrom_11 : decode cX3_leaveFrom 11 = .ok (.ishl, 1) := by decide +kernel
theorem dX3_leaveFrom_12 : decode cX3_leaveFrom 12 = .ok (.iconst 1, 1) := by decide +kernel
theorem dX3_leaveFrom_13 : decode cX3_leaveFrom 13 = .ok (.isub, 1) := by decide +kernel
theorem dX3_leaveFrom_14 : decode cX3_leaveFrom 14 = .ok (.iand, 1) := by decide +kernel
theorem dX3_leaveFrom_15 : decode cX3_leaveFrom 15 = .ok (.istore 4, 2) := by decide +kernel
theorem dX3_leaveFrom_17 : decode cX3_leaveFrom 17 = .ok (.iload_n 2, 1) := by decide +kernel
theorem dX3_leaveFrom_18 : decode cX3_leaveFrom 18 = .ok (.iconst 3, 1) := by decide +kernel
theorem dX3_leaveFrom_19 : decode cX3_leaveFrom 19 = .ok (.aload_n 0, 1) := by decide +kernel
theorem dX3_leaveFrom_20 : decode cX3_leaveFrom 20 = .ok (.getfield 18, 3) := by decide +kernel
theorem dX3_leaveFrom_23 : decode cX3_leaveFrom 23 = .ok (.getfield 47, 3) := by decide +kernel
theorem dX3_leaveFrom_26 : decode cX3_leaveFrom 26 = .ok (.iadd, 1) := by decide +kernel
theorem dX3_leaveFrom_27 : decode cX3_leaveFrom 27 = .ok (.ishr, 1) := by decide +kernel
theorem dX3_leaveFrom_28 : decode cX3_leaveFrom 28 = .ok (.istore 5, 2) := by decide +kernel
theorem dX3_leaveFrom_30 : decode cX3_leaveFrom 30 = .ok (.aload_n 0, 1) := by decide +kernel
theorem dX3_leaveFrom_31 : decode cX3_leaveFrom 31 = .ok (.getfield 18, 3) := by decide +kernel
theorem dX3_leaveFrom_34 : decode cX3_leaveFrom 34 = .ok (.getfield 103, 3) := by decide +kernel
theorem dX3_leaveFrom_37 : decode cX3_leaveFrom 37 = .ok (.iload_n 1, 1) := by decide +kernel
theorem dX3_leaveFrom_38 : decode cX3_leaveFrom 38 = .ok (.iaload, 1) := by decide +kernel
theorem dX3_leaveFrom_39 : decode cX3_leaveFrom 39 = .ok (.iload 4, 2) := by decide +kernel
theorem dX3_leaveFrom_41 : decode cX3_leaveFrom 41 = .ok (.iconst (-1), 1) := by decide +kernel
theorem dX3_leaveFrom_42 : decode cX3_leaveFrom 42 = .ok (.ixor, 1) := by decide +kernel
theorem dX3_leaveFrom_43 : decode cX3_leaveFrom 43 = .ok (.iand, 1) := by decide +kernel
theorem dX3_leaveFrom_44 : decode cX3_leaveFrom 44 = .ok (.istore 6, 2) := by decide +kernel
theorem dX3_leaveFrom_46 : decode cX3_leaveFrom 46 = .ok (.iload 4, 2) := by decide +kernel
theorem dX3_leaveFrom_48 : decode cX3_leaveFrom 48 = .ok (.aload_n 0, 1) := by decide +kernel
theorem dX3_leaveFrom_49 : decode cX3_leaveFrom 49 = .ok (.getfield 18, 3) := by decide +kernel
theorem dX3_leaveFrom_52 : decode cX3_leaveFrom 52 = .ok (.getfield 106, 3) := by decide +kernel
theorem dX3_leaveFrom_55 : decode cX3_leaveFrom 55 = .ok (.iload_n 1, 1) := by decide +kernel
theorem dX3_leaveFrom_56 : decode cX3_leaveFrom 56 = .ok (.iaload, 1) := by decide +kernel
theorem dX3_leaveFrom_57 : decode cX3_leaveFrom 57 = .ok (.aload_n 0, 1) := by decide +kernel
theorem dX3_leaveFrom_58 : decode cX3_leaveFrom 58 = .ok (.getfield 18, 3) := by decide +kernel
theorem dX3_leaveFrom_61 : decode cX3_leaveFrom 61 = .ok (.getfield 109, 3) := by decide +kernel
theorem dX3_leaveFrom_64 : decode cX3_leaveFrom 64 = .ok (.ior, 1) := by decide +kernel
theorem dX3_leaveFrom_65 : decode cX3_leaveFrom 65 = .ok (.iand, 1) := by decide +kernel
theorem dX3_leaveFrom_66 : decode cX3_leaveFrom 66 = .ok (.istore 7, 2) := by decide +kernel
theorem dX3_leaveFrom_68 : decode cX3_leaveFrom 68 = .ok (.iload 6, 2) := by decide +kernel
theorem dX3_leaveFrom_70 : decode cX3_leaveFrom 70 = .ok (.ifCond .eq 22, 3) := by decide +kernel
theorem dX3_leaveFrom_73 : decode cX3_leaveFrom 73 = .ok (.aload_n 0, 1) := by decide +kernel
theorem dX3_leaveFrom_74 : decode cX3_leaveFrom 74 = .ok (.getfield 18, 3) := by decide +kernel
theorem dX3_leaveFrom_77 : decode cX3_leaveFrom 77 = .ok (.iload 7, 2) := by decide +kernel
theorem dX3_leaveFrom_79 : decode cX3_leaveFrom 79 = .ok (.invokevirtual 112, 3) := by decide +kernel
theorem dX3_leaveFrom_82 : decode cX3_leaveFrom 82 = .ok (.aload_n 0, 1) := by decide +kernel
theorem dX3_leaveFrom_83 : decode cX3_leaveFrom 83 = .ok (.getfield 18, 3) := by decide +kernel
theorem dX3_leaveFrom_86 : decode cX3_leaveFrom 86 = .ok (.getfield 115, 3) := by decide +kernel
theorem dX3_leaveFrom_89 : decode cX3_leaveFrom 89 = .ok (.if_icmp .ge 4, 3) := by decide +kernel
theorem dX3_leaveFrom_92 : decode cX3_leaveFrom 92 = .ok (.return_, 1) := by decide +kernel
theorem dX3_leaveFrom_93 : decode cX3_leaveFrom 93 = .ok (.aload_n 0, 1) := by decide +kernel
theorem dX3_leaveFrom_94 : decode cX3_leaveFrom 94 = .ok (.getfield 18, 3) := by decide +kernel
theorem dX3_leaveFrom_97 : decode cX3_leaveFrom 97 = .ok (.iload 4, 2) := by decide +kernel
theorem dX3_leaveFrom_99 : decode cX3_leaveFrom 99 = .ok (.iload_n 2, 1) := by decide +kernel
theorem dX3_leaveFrom_100 : decode cX3_leaveFrom 100 = .ok (.bipush 7, 2) := by decide +kernel
theorem dX3_leaveFrom_102 : decode cX3_leaveFrom 102 = .ok (.iand, 1) := by decide +kernel
theorem dX3_leaveFrom_103 : decode cX3_leaveFrom 103 = .ok (.invokevirtual 50, 3) := by decide +kernel
theorem dX3_leaveFrom_106 : decode cX3_leaveFrom 106 = .ok (.iload_n 1, 1) := by decide +kernel
theorem dX3_leaveFrom_107 : decode cX3_leaveFrom 107 = .ok (.ishr, 1) := by decide +kernel
theorem dX3_leaveFrom_108 : decode cX3_leaveFrom 108 = .ok (.iconst 1, 1) := by decide +kernel
theorem dX3_leaveFrom_109 : decode cX3_leaveFrom 109 = .ok (.iand, 1) := by decide +kernel
theorem dX3_leaveFrom_110 : decode cX3_leaveFrom 110 = .ok (.ifCond .ne 4, 3) := by decide +kernel
theorem dX3_leaveFrom_113 : decode cX3_leaveFrom 113 = .ok (.return_, 1) := by decide +kernel
theorem dX3_leaveFrom_114 : decode cX3_leaveFrom 114 = .ok (.iconst 0, 1) := by decide +kernel
theorem dX3_leaveFrom_115 : decode cX3_leaveFrom 115 = .ok (.istore 8, 2) := by decide +kernel
theorem dX3_leaveFrom_117 : decode cX3_leaveFrom 117 = .ok (.iload 8, 2) := by decide +kernel
theorem dX3_leaveFrom_119 : decode cX3_leaveFrom 119 = .ok (.aload_n 0, 1) := by decide +kernel
theorem dX3_leaveFrom_120 : decode cX3_leaveFrom 120 = .ok (.getfield 18, 3) := by decide +kernel
theorem dX3_leaveFrom_123 : decode cX3_leaveFrom 123 = .ok (.getfield 118, 3) := by decide +kernel
theorem dX3_leaveFrom_126 : decode cX3_leaveFrom 126 = .ok (.if_icmp .ge 93, 3) := by decide +kernel
theorem dX3_leaveFrom_129 : decode cX3_leaveFrom 129 = .ok (.aload_n 0, 1) := by decide +kernel
theorem dX3_leaveFrom_130 : decode cX3_leaveFrom 130 = .ok (.getfield 18, 3) := by decide +kernel
theorem dX3_leaveFrom_133 : decode cX3_leaveFrom 133 = .ok (.getfield 121, 3) := by decide +kernel
theorem dX3_leaveFrom_136 : decode cX3_leaveFrom 136 = .ok (.iload 8, 2) := by decide +kernel
theorem dX3_leaveFrom_138 : decode cX3_leaveFrom 138 = .ok (.iaload, 1) := by decide +kernel
theorem dX3_leaveFrom_139 : decode cX3_leaveFrom 139 = .ok (.istore 9, 2) := by decide +kernel
theorem dX3_leaveFrom_141 : decode cX3_leaveFrom 141 = .ok (.iconst 0, 1) := by decide +kernel
theorem dX3_leaveFrom_142 : decode cX3_leaveFrom 142 = .ok (.istore 10, 2) := by decide +kernel
theorem dX3_leaveFrom_144 : decode cX3_leaveFrom 144 = .ok (.iload 10, 2) := by decide +kernel
theorem dX3_leaveFrom_146 : decode cX3_leaveFrom 146 = .ok (.aload_n 0, 1) := by decide +kernel
theorem dX3_leaveFrom_147 : decode cX3_leaveFrom 147 = .ok (.getfield 18, 3) := by decide +kernel
theorem dX3_leaveFrom_150 : decode cX3_leaveFrom 150 = .ok (.getfield 47, 3) := by decide +kernel
theorem dX3_leaveFrom_153 : decode cX3_leaveFrom 153 = .ok (.if_icmp .ge 60, 3) := by decide +kernel
theorem dX3_leaveFrom_156 : decode cX3_leaveFrom 156 = .ok (.iload 9, 2) := by decide +kernel
theorem dX3_leaveFrom_158 : decode cX3_leaveFrom 158 = .ok (.iload 7, 2) := by decide +kernel
theorem dX3_leaveFrom_160 : decode cX3_leaveFrom 160 = .ok (.iconst (-1), 1) := by decide +kernel
theorem dX3_leaveFrom_161 : decode cX3_leaveFrom 161 = .ok (.ixor, 1) := by decide +kernel
theorem dX3_leaveFrom_162 : decode cX3_leaveFrom 162 = .ok (.iand, 1) := by decide +kernel
theorem dX3_leaveFrom_163 : decode cX3_leaveFrom 163 = .ok (.ifCond .ne 50, 3) := by decide +kernel
theorem dX3_leaveFrom_166 : decode cX3_leaveFrom 166 = .ok (.iload 6, 2) := by decide +kernel
theorem dX3_leaveFrom_168 : decode cX3_leaveFrom 168 = .ok (.iload 10, 2) := by decide +kernel
theorem dX3_leaveFrom_170 : decode cX3_leaveFrom 170 = .ok (.ishr, 1) := by decide +kernel
theorem dX3_leaveFrom_171 : decode cX3_leaveFrom 171 = .ok (.iconst 1, 1) := by decide +kernel
theorem dX3_leaveFrom_172 : decode cX3_leaveFrom 172 = .ok (.iand, 1) := by decide +kernel
theorem dX3_leaveFrom_173 : decode cX3_leaveFrom 173 = .ok (.ifCond .eq 34, 3) := by decide +kernel
theorem dX3_leaveFrom_176 : decode cX3_leaveFrom 176 = .ok (.aload_n 0, 1) := by decide +kernel
theorem dX3_leaveFrom_177 : decode cX3_leaveFrom 177 = .ok (.iload 4, 2) := by decide +kernel
theorem dX3_leaveFrom_179 : decode cX3_leaveFrom 179 = .ok (.iload 9, 2) := by decide +kernel
theorem dX3_leaveFrom_181 : decode cX3_leaveFrom 181 = .ok (.iconst (-1), 1) := by decide +kernel
theorem dX3_leaveFrom_182 : decode cX3_leaveFrom 182 = .ok (.ixor, 1) := by decide +kernel
theorem dX3_leaveFrom_183 : decode cX3_leaveFrom 183 = .ok (.iand, 1) := by decide +kernel
theorem dX3_leaveFrom_184 : decode cX3_leaveFrom 184 = .ok (.iconst 1, 1) := by decide +kernel
theorem dX3_leaveFrom_185 : decode cX3_leaveFrom 185 = .ok (.iload 10, 2) := by decide +kernel
theorem dX3_leaveFrom_187 : decode cX3_leaveFrom 187 = .ok (.ishl, 1) := by decide +kernel
theorem dX3_leaveFrom_188 : decode cX3_leaveFrom 188 = .ok (.ior, 1) := by decide +kernel
theorem dX3_leaveFrom_189 : decode cX3_leaveFrom 189 = .ok (.iload_n 1, 1) := by decide +kernel
theorem dX3_leaveFrom_190 : decode cX3_leaveFrom 190 = .ok (.iload 5, 2) := by decide +kernel
theorem dX3_leaveFrom_192 : decode cX3_leaveFrom 192 = .ok (.iload_n 3, 1) := by decide +kernel
theorem dX3_leaveFrom_193 : decode cX3_leaveFrom 193 = .ok (.ifCond .ne 10, 3) := by decide +kernel
theorem dX3_leaveFrom_196 : decode cX3_leaveFrom 196 = .ok (.iconst 1, 1) := by decide +kernel
theorem dX3_leaveFrom_197 : decode cX3_leaveFrom 197 = .ok (.iload 10, 2) := by decide +kernel
theorem dX3_leaveFrom_199 : decode cX3_leaveFrom 199 = .ok (.ishl, 1) := by decide +kernel
theorem dX3_leaveFrom_200 : decode cX3_leaveFrom 200 = .ok (.goto 4, 3) := by decide +kernel
theorem dX3_leaveFrom_203 : decode cX3_leaveFrom 203 = .ok (.iload_n 3, 1) := by decide +kernel
theorem dX3_leaveFrom_204 : decode cX3_leaveFrom 204 = .ok (.invokevirtual 95, 3) := by decide +kernel
theorem dX3_leaveFrom_207 : decode cX3_leaveFrom 207 = .ok (.iinc 10 1, 3) := by decide +kernel
theorem dX3_leaveFrom_210 : decode cX3_leaveFrom 210 = .ok (.goto (-66), 3) := by decide +kernel
theorem dX3_leaveFrom_213 : decode cX3_leaveFrom 213 = .ok (.iinc 8 1, 3) := by decide +kernel
theorem dX3_leaveFrom_216 : decode cX3_leaveFrom 216 = .ok (.goto (-99), 3) := by decide +kernel
theorem dX3_leaveFrom_219 : decode cX3_leaveFrom 219 = .ok (.return_, 1) := by decide +kernel
theorem dX3_spread_0 : decode cX3_spread 0 = .ok (.aload_n 0, 1) := by decide +kernel
theorem dX3_spread_1 : decode cX3_spread 1 = .ok (.iload_n 1, 1) := by decide +kernel
theorem dX3_spread_2 : decode cX3_spread 2 = .ok (.iload_n 2, 1) := by decide +kernel
theorem dX3_spread_3 : decode cX3_spread 3 = .ok (.iconst 0, 1) := by decide +kernel
theorem dX3_spread_4 : decode cX3_spread 4 = .ok (.iconst 0, 1) := by decide +kernel
theorem dX3_spread_5 : decode cX3_spread 5 = .ok (.invokevirtual 95, 3) := by decide +kernel
theorem dX3_spread_8 : decode cX3_spread 8 = .ok (.iconst 0, 1) := by decide +kernel
theorem dX3_spread_9 : decode cX3_spread 9 = .ok (.istore 4, 2) := by decide +kernel
theorem dX3_spread_11 : decode cX3_spread 11 = .ok (.iconst 0, 1) := by decide +kernel
theorem dX3_spread_12 : decode cX3_spread 12 = .ok (.istore 5, 2) := by decide +kernel
theorem dX3_spread_14 : decode cX3_spread 14 = .ok (.aload_n 0, 1) := by decide +kernel
theorem dX3_spread_15 : decode cX3_spread 15 = .ok (.getfield 91, 3) := by decide +kernel
theorem dX3_spread_18 : decode cX3_spread 18 = .ok (.ifCond .ne 102, 3) := by decide +kernel
theorem dX3_spread_21 : decode cX3_spread 21 = .ok (.iload 4, 2) := by decide +kernel
theorem dX3_spread_23 : decode cX3_spread 23 = .ok (.aload_n 0, 1) := by decide +kernel
theorem dX3_spread_24 : decode cX3_spread 24 = .ok (.getfield 85, 3) := by decide +kernel
theorem dX3_spread_27 : decode cX3_spread 27 = .ok (.if_icmp .ge 93, 3) := by decide +kernel
theorem dX3_spread_30 : decode cX3_spread 30 = .ok (.aload_n 0, 1) := by decide +kernel
theorem dX3_spread_31 : decode cX3_spread 31 = .ok (.getfield 68, 3) := by decide +kernel
theorem dX3_spread_34 : decode cX3_spread 34 = .ok (.iload_n 3, 1) := by decide +kernel
theorem dX3_spread_35 : decode cX3_spread 35 = .ok (.if_icmp .eq 85, 3) := by decide +kernel
theorem dX3_spread_38 : decode cX3_spread 38 = .ok (.iload 5, 2) := by decide +kernel
theorem dX3_spread_40 : decode cX3_spread 40 = .ok (.aload_n 0, 1) := by decide +kernel
theorem dX3_spread_41 : decode cX3_spread 41 = .ok (.getfield 25, 3) := by decide +kernel
theorem dX3_spread_44 : decode cX3_spread 44 = .ok (.arraylength, 1) := by decide +kernel
theorem dX3_spread_45 : decode cX3_spread 45 = .ok (.if_icmp .ge 75, 3) := by decide +kernel
theorem dX3_spread_48 : decode cX3_spread 48 = .ok (.aload_n 0, 1) := by decide +kernel
theorem dX3_spread_49 : decode cX3_spread 49 = .ok (.aload_n 0, 1) := by decide +kernel
theorem dX3_spread_50 : decode cX3_spread 50 = .ok (.getfield 85, 3) := by decide +kernel
theorem dX3_spread_53 : decode cX3_spread 53 = .ok (.putfield 88, 3) := by decide +kernel
theorem dX3_spread_56 : decode cX3_spread 56 = .ok (.iload 4, 2) := by decide +kernel
theorem dX3_spread_58 : decode cX3_spread 58 = .ok (.aload_n 0, 1) := by decide +kernel
theorem dX3_spread_59 : decode cX3_spread 59 = .ok (.getfield 88, 3) := by decide +kernel
theorem dX3_spread_62 : decode cX3_spread 62 = .ok (.if_icmp .ge 52, 3) := by decide +kernel
theorem dX3_spread_65 : decode cX3_spread 65 = .ok (.iconst 0, 1) := by decide +kernel
theorem dX3_spread_66 : decode cX3_spread 66 = .ok (.istore 6, 2) := by decide +kernel
theorem dX3_spread_68 : decode cX3_spread 68 = .ok (.iload 6, 2) := by decide +kernel
theorem dX3_spread_70 : decode cX3_spread 70 = .ok (.bipush 8, 2) := by decide +kernel
theorem dX3_spread_72 : decode cX3_spread 72 = .ok (.if_icmp .ge 36, 3) := by decide +kernel
theorem dX3_spread_75 : decode cX3_spread 75 = .ok (.aload_n 0, 1) := by decide +kernel
theorem dX3_spread_76 : decode cX3_spread 76 = .ok (.iload 6, 2) := by decide +kernel
theorem dX3_spread_78 : decode cX3_spread 78 = .ok (.aload_n 0, 1) := by decide +kernel
theorem dX3_spread_79 : decode cX3_spread 79 = .ok (.getfield 25, 3) := by decide +kernel
theorem dX3_spread_82 : decode cX3_spread 82 = .ok (.iload 4, 2) := by decide +kernel
theorem dX3_spread_84 : decode cX3_spread 84 = .ok (.iaload, 1) := by decide +kernel
theorem dX3_spread_85 : decode cX3_spread 85 = .ok (.sipush 16383, 3) := by decide +kernel
theorem dX3_spread_88 : decode cX3_spread 88 = .ok (.iand, 1) := by decide +kernel
theorem dX3_spread_89 : decode cX3_spread 89 = .ok (.aload_n 0, 1) := by decide +kernel
theorem dX3_spread_90 : decode cX3_spread 90 = .ok (.getfield 25, 3) := by decide +kernel
theorem dX3_spread_93 : decode cX3_spread 93 = .ok (.iload 4, 2) := by decide +kernel
theorem dX3_spread_95 : decode cX3_spread 95 = .ok (.iaload, 1) := by decide +kernel
theorem dX3_spread_96 : decode cX3_spread 96 = .ok (.bipush 14, 2) := by decide +kernel
theorem dX3_spread_98 : decode cX3_spread 98 = .ok (.ishr, 1) := by decide +kernel
theorem dX3_spread_99 : decode cX3_spread 99 = .ok (.invokevirtual 99, 3) := by decide +kernel
theorem dX3_spread_102 : decode cX3_spread 102 = .ok (.iinc 6 1, 3) := by decide +kernel
theorem dX3_spread_105 : decode cX3_spread 105 = .ok (.goto (-37), 3) := by decide +kernel
theorem dX3_spread_108 : decode cX3_spread 108 = .ok (.iinc 4 1, 3) := by decide +kernel
theorem dX3_spread_111 : decode cX3_spread 111 = .ok (.goto (-55), 3) := by decide +kernel
theorem dX3_spread_114 : decode cX3_spread 114 = .ok (.iinc 5 1, 3) := by decide +kernel
theorem dX3_spread_117 : decode cX3_spread 117 = .ok (.goto (-103), 3) := by decide +kernel
theorem dX3_spread_120 : decode cX3_spread 120 = .ok (.aload_n 0, 1) := by decide +kernel
theorem dX3_spread_121 : decode cX3_spread 121 = .ok (.dup, 1) := by decide +kernel
theorem dX3_spread_122 : decode cX3_spread 122 = .ok (.getfield 28, 3) := by decide +kernel
theorem dX3_spread_125 : decode cX3_spread 125 = .ok (.aload_n 0, 1) := by decide +kernel
theorem dX3_spread_126 : decode cX3_spread 126 = .ok (.getfield 85, 3) := by decide +kernel
theorem dX3_spread_129 : decode cX3_spread 129 = .ok (.iadd, 1) := by decide +kernel
theorem dX3_spread_130 : decode cX3_spread 130 = .ok (.putfield 28, 3) := by decide +kernel
theorem dX3_spread_133 : decode cX3_spread 133 = .ok (.aload_n 0, 1) := by decide +kernel
theorem dX3_spread_134 : decode cX3_spread 134 = .ok (.getfield 91, 3) := by decide +kernel
theorem dX3_spread_137 : decode cX3_spread 137 = .ok (.ifCond .eq 8, 3) := by decide +kernel
theorem dX3_spread_140 : decode cX3_spread 140 = .ok (.iload 5, 2) := by decide +kernel
theorem dX3_spread_142 : decode cX3_spread 142 = .ok (.goto 4, 3) := by decide +kernel
theorem dX3_spread_145 : decode cX3_spread 145 = .ok (.iconst (-1), 1) := by decide +kernel
theorem dX3_spread_146 : decode cX3_spread 146 = .ok (.ireturn, 1) := by decide +kernel
theorem dX3_fewestFor_0 : decode cX3_fewestFor 0 = .ok (.aload_n 0, 1) := by decide +kernel
theorem dX3_fewestFor_1 : decode cX3_fewestFor 1 = .ok (.getfield 18, 3) := by decide +kernel
theorem dX3_fewestFor_4 : decode cX3_fewestFor 4 = .ok (.aload_n 1, 1) := by decide +kernel
theorem dX3_fewestFor_5 : decode cX3_fewestFor 5 = .ok (.iload_n 2, 1) := by decide +kernel
theorem dX3_fewestFor_6 : decode cX3_fewestFor 6 = .ok (.invokevirtual 35, 3) := by decide +kernel
theorem dX3_fewestFor_9 : decode cX3_fewestFor 9 = .ok (.aload_n 0, 1) := by decide +kernel
theorem dX3_fewestFor_10 : decode cX3_fewestFor 10 = .ok (.invokevirtual 39, 3) := by decide +kernel
theorem dX3_fewestFor_13 : decode cX3_fewestFor 13 = .ok (.aload_n 1, 1) := by decide +kernel
theorem dX3_fewestFor_14 : decode cX3_fewestFor 14 = .ok (.getfield 42, 3) := by decide +kernel
theorem dX3_fewestFor_17 : decode cX3_fewestFor 17 = .ok (.iload_n 2, 1) := by decide +kernel
theorem dX3_fewestFor_18 : decode cX3_fewestFor 18 = .ok (.iaload, 1) := by decide +kernel
theorem dX3_fewestFor_19 : decode cX3_fewestFor 19 = .ok (.istore_n 3, 1) := by decide +kernel
theorem dX3_fewestFor_20 : decode cX3_fewestFor 20 = .ok (.aload_n 0, 1) := by decide +kernel
theorem dX3_fewestFor_21 : decode cX3_fewestFor 21 = .ok (.getfield 18, 3) := by decide +kernel
theorem dX3_fewestFor_24 : decode cX3_fewestFor 24 = .ok (.iconst 1, 1) := by decide +kernel
theorem dX3_fewestFor_25 : decode cX3_fewestFor 25 = .ok (.aload_n 0, 1) := by decide +kernel
theorem dX3_fewestFor_26 : decode cX3_fewestFor 26 = .ok (.getfield 18, 3) := by decide +kernel
theorem dX3_fewestFor_29 : decode cX3_fewestFor 29 = .ok (.getfield 47, 3) := by decide +kernel
theorem dX3_fewestFor_32 : decode cX3_fewestFor 32 = .ok (.ishl, 1) := by decide +kernel
theorem dX3_fewestFor_33 : decode cX3_fewestFor 33 = .ok (.iconst 1, 1) := by decide +kernel
theorem dX3_fewestFor_34 : decode cX3_fewestFor 34 = .ok (.isub, 1) := by decide +kernel
theorem dX3_fewestFor_35 : decode cX3_fewestFor 35 = .ok (.iload_n 3, 1) := by decide +kernel
theorem dX3_fewestFor_36 : decode cX3_fewestFor 36 = .ok (.invokevirtual 50, 3) := by decide +kernel
theorem dX3_fewestFor_39 : decode cX3_fewestFor 39 = .ok (.istore 4, 2) := by decide +kernel
theorem dX3_fewestFor_41 : decode cX3_fewestFor 41 = .ok (.iconst 0, 1) := by decide +kernel
theorem dX3_fewestFor_42 : decode cX3_fewestFor 42 = .ok (.istore 5, 2) := by decide +kernel
theorem dX3_fewestFor_44 : decode cX3_fewestFor 44 = .ok (.iload 5, 2) := by decide +kernel
theorem dX3_fewestFor_46 : decode cX3_fewestFor 46 = .ok (.aload_n 0, 1) := by decide +kernel
theorem dX3_fewestFor_47 : decode cX3_fewestFor 47 = .ok (.getfield 32, 3) := by decide +kernel
theorem dX3_fewestFor_50 : decode cX3_fewestFor 50 = .ok (.if_icmp .ge 26, 3) := by decide +kernel
theorem dX3_fewestFor_53 : decode cX3_fewestFor 53 = .ok (.iload 4, 2) := by decide +kernel
theorem dX3_fewestFor_55 : decode cX3_fewestFor 55 = .ok (.aload_n 0, 1) := by decide +kernel
theorem dX3_fewestFor_56 : decode cX3_fewestFor 56 = .ok (.getfield 11, 3) := by decide +kernel
theorem dX3_fewestFor_59 : decode cX3_fewestFor 59 = .ok (.iload 5, 2) := by decide +kernel
theorem dX3_fewestFor_61 : decode cX3_fewestFor 61 = .ok (.iaload, 1) := by decide +kernel
theorem dX3_fewestFor_62 : decode cX3_fewestFor 62 = .ok (.ishr, 1) := by decide +kernel
theorem dX3_fewestFor_63 : decode cX3_fewestFor 63 = .ok (.iconst 1, 1) := by decide +kernel
theorem dX3_fewestFor_64 : decode cX3_fewestFor 64 = .ok (.iand, 1) := by decide +kernel
theorem dX3_fewestFor_65 : decode cX3_fewestFor 65 = .ok (.ifCond .ne 5, 3) := by decide +kernel
theorem dX3_fewestFor_68 : decode cX3_fewestFor 68 = .ok (.iconst (-1), 1) := by decide +kernel
theorem dX3_fewestFor_69 : decode cX3_fewestFor 69 = .ok (.ireturn, 1) := by decide +kernel
theorem dX3_fewestFor_70 : decode cX3_fewestFor 70 = .ok (.iinc 5 1, 3) := by decide +kernel
theorem dX3_fewestFor_73 : decode cX3_fewestFor 73 = .ok (.goto (-29), 3) := by decide +kernel
theorem dX3_fewestFor_76 : decode cX3_fewestFor 76 = .ok (.aload_n 0, 1) := by decide +kernel
theorem dX3_fewestFor_77 : decode cX3_fewestFor 77 = .ok (.aload_n 1, 1) := by decide +kernel
theorem dX3_fewestFor_78 : decode cX3_fewestFor 78 = .ok (.getfield 54, 3) := by decide +kernel
theorem dX3_fewestFor_81 : decode cX3_fewestFor 81 = .ok (.iload_n 3, 1) := by decide +kernel
theorem dX3_fewestFor_82 : decode cX3_fewestFor 82 = .ok (.iconst 0, 1) := by decide +kernel
theorem dX3_fewestFor_83 : decode cX3_fewestFor 83 = .ok (.invokevirtual 57, 3) := by decide +kernel
theorem dX3_fewestFor_86 : decode cX3_fewestFor 86 = .ok (.ireturn, 1) := by decide +kernel
theorem dX3_roomsFor_0 : decode cX3_roomsFor 0 = .ok (.aload_n 0, 1) := by decide +kernel
theorem dX3_roomsFor_1 : decode cX3_roomsFor 1 = .ok (.invokevirtual 61, 3) := by decide +kernel
theorem dX3_roomsFor_4 : decode cX3_roomsFor 4 = .ok (.aload_n 0, 1) := by decide +kernel
theorem dX3_roomsFor_5 : decode cX3_roomsFor 5 = .ok (.bipush 8, 2) := by decide +kernel
theorem dX3_roomsFor_7 : decode cX3_roomsFor 7 = .ok (.invokevirtual 64, 3) := by decide +kernel
theorem dX3_roomsFor_10 : decode cX3_roomsFor 10 = .ok (.aload_n 0, 1) := by decide +kernel
theorem dX3_roomsFor_11 : decode cX3_roomsFor 11 = .ok (.getfield 18, 3) := by decide +kernel
theorem dX3_roomsFor_14 : decode cX3_roomsFor 14 = .ok (.aload_n 1, 1) := by decide +kernel
theorem dX3_roomsFor_15 : decode cX3_roomsFor 15 = .ok (.iload_n 2, 1) := by decide +kernel
theorem dX3_roomsFor_16 : decode cX3_roomsFor 16 = .ok (.invokevirtual 35, 3) := by decide +kernel
theorem dX3_roomsFor_19 : decode cX3_roomsFor 19 = .ok (.aload_n 0, 1) := by decide +kernel
theorem dX3_roomsFor_20 : decode cX3_roomsFor 20 = .ok (.invokevirtual 39, 3) := by decide +kernel
theorem dX3_roomsFor_23 : decode cX3_roomsFor 23 = .ok (.aload_n 1, 1) := by decide +kernel
theorem dX3_roomsFor_24 : decode cX3_roomsFor 24 = .ok (.getfield 42, 3) := by decide +kernel
theorem dX3_roomsFor_27 : decode cX3_roomsFor 27 = .ok (.iload_n 2, 1) := by decide +kernel
theorem dX3_roomsFor_28 : decode cX3_roomsFor 28 = .ok (.iaload, 1) := by decide +kernel
theorem dX3_roomsFor_29 : decode cX3_roomsFor 29 = .ok (.istore_n 3, 1) := by decide +kernel
theorem dX3_roomsFor_30 : decode cX3_roomsFor 30 = .ok (.aload_n 0, 1) := by decide +kernel
theorem dX3_roomsFor_31 : decode cX3_roomsFor 31 = .ok (.aload_n 1, 1) := by decide +kernel
theorem dX3_roomsFor_32 : decode cX3_roomsFor 32 = .ok (.getfield 54, 3) := by decide +kernel
theorem dX3_roomsFor_35 : decode cX3_roomsFor 35 = .ok (.iload_n 3, 1) := by decide +kernel
theorem dX3_roomsFor_36 : decode cX3_roomsFor 36 = .ok (.aload_n 0, 1) := by decide +kernel
theorem dX3_roomsFor_37 : decode cX3_roomsFor 37 = .ok (.getfield 18, 3) := by decide +kernel
theorem dX3_roomsFor_40 : decode cX3_roomsFor 40 = .ok (.iconst 1, 1) := by decide +kernel
theorem dX3_roomsFor_41 : decode cX3_roomsFor 41 = .ok (.aload_n 0, 1) := by decide +kernel
theorem dX3_roomsFor_42 : decode cX3_roomsFor 42 = .ok (.getfield 18, 3) := by decide +kernel
theorem dX3_roomsFor_45 : decode cX3_roomsFor 45 = .ok (.getfield 47, 3) := by decide +kernel
theorem dX3_roomsFor_48 : decode cX3_roomsFor 48 = .ok (.ishl, 1) := by decide +kernel
theorem dX3_roomsFor_49 : decode cX3_roomsFor 49 = .ok (.iconst 1, 1) := by decide +kernel
theorem dX3_roomsFor_50 : decode cX3_roomsFor 50 = .ok (.isub, 1) := by decide +kernel
theorem dX3_roomsFor_51 : decode cX3_roomsFor 51 = .ok (.iload_n 3, 1) := by decide +kernel
theorem dX3_roomsFor_52 : decode cX3_roomsFor 52 = .ok (.invokevirtual 50, 3) := by decide +kernel
theorem dX3_roomsFor_55 : decode cX3_roomsFor 55 = .ok (.invokevirtual 57, 3) := by decide +kernel
theorem dX3_roomsFor_58 : decode cX3_roomsFor 58 = .ok (.pop, 1) := by decide +kernel
theorem dX3_roomsFor_59 : decode cX3_roomsFor 59 = .ok (.aload_n 0, 1) := by decide +kernel
theorem dX3_roomsFor_60 : decode cX3_roomsFor 60 = .ok (.getfield 68, 3) := by decide +kernel
theorem dX3_roomsFor_63 : decode cX3_roomsFor 63 = .ok (.ireturn, 1) := by decide +kernel
theorem dX3_leastFirst_0 : decode cX3_leastFirst 0 = .ok (.aload_n 0, 1) := by decide +kernel
theorem dX3_leastFirst_1 : decode cX3_leastFirst 1 = .ok (.getfield 71, 3) := by decide +kernel
theorem dX3_leastFirst_4 : decode cX3_leastFirst 4 = .ok (.ifCond .ne 7, 3) := by decide +kernel
theorem dX3_leastFirst_7 : decode cX3_leastFirst 7 = .ok (.iconst (-1), 1) := by decide +kernel
theorem dX3_leastFirst_8 : decode cX3_leastFirst 8 = .ok (.goto 10, 3) := by decide +kernel
theorem dX3_leastFirst_11 : decode cX3_leastFirst 11 = .ok (.aload_n 0, 1) := by decide +kernel
theorem dX3_leastFirst_12 : decode cX3_leastFirst 12 = .ok (.getfield 71, 3) := by decide +kernel
theorem dX3_leastFirst_15 : decode cX3_leastFirst 15 = .ok (.invokestatic 74, 3) := by decide +kernel
theorem dX3_leastFirst_18 : decode cX3_leastFirst 18 = .ok (.ireturn, 1) := by decide +kernel
theorem dX4_init_0 : decode cX4_init 0 = .ok (.aload_n 0, 1) := by decide +kernel
theorem dX4_init_1 : decode cX4_init 1 = .ok (.invokespecial 3, 3) := by decide +kernel
theorem dX4_init_4 : decode cX4_init 4 = .ok (.aload_n 0, 1) := by decide +kernel
theorem dX4_init_5 : decode cX4_init 5 = .ok (.iconst (-1), 1) := by decide +kernel
theorem dX4_init_6 : decode cX4_init 6 = .ok (.putfield 9, 3) := by decide +kernel
theorem dX4_init_9 : decode cX4_init 9 = .ok (.aload_n 0, 1) := by decide +kernel
theorem dX4_init_10 : decode cX4_init 10 = .ok (.bipush 40, 2) := by decide +kernel
theorem dX4_init_12 : decode cX4_init 12 = .ok (.newarray .long, 2) := by decide +kernel
theorem dX4_init_14 : decode cX4_init 14 = .ok (.putfield 15, 3) := by decide +kernel
theorem dX4_init_17 : decode cX4_init 17 = .ok (.return_, 1) := by decide +kernel
theorem dX4_isEmpty_0 : decode cX4_isEmpty 0 = .ok (.aload_n 0, 1) := by decide +kernel
theorem dX4_isEmpty_1 : decode cX4_isEmpty 1 = .ok (.getfield 9, 3) := by decide +kernel
theorem dX4_isEmpty_4 : decode cX4_isEmpty 4 = .ok (.iconst (-1), 1) := by decide +kernel
theorem dX4_isEmpty_5 : decode cX4_isEmpty 5 = .ok (.if_icmp .ne 7, 3) := by decide +kernel
theorem dX4_isEmpty_8 : decode cX4_isEmpty 8 = .ok (.iconst 1, 1) := by decide +kernel
theorem dX4_isEmpty_9 : decode cX4_isEmpty 9 = .ok (.goto 4, 3) := by decide +kernel
theorem dX4_isEmpty_12 : decode cX4_isEmpty 12 = .ok (.iconst 0, 1) := by decide +kernel
theorem dX4_isEmpty_13 : decode cX4_isEmpty 13 = .ok (.ireturn, 1) := by decide +kernel
theorem dX4_holdsDoor_0 : decode cX4_holdsDoor 0 = .ok (.aload_n 0, 1) := by decide +kernel
theorem dX4_holdsDoor_1 : decode cX4_holdsDoor 1 = .ok (.getfield 9, 3) := by decide +kernel
theorem dX4_holdsDoor_4 : decode cX4_holdsDoor 4 = .ok (.bipush 10, 2) := by decide +kernel
theorem dX4_holdsDoor_6 : decode cX4_holdsDoor 6 = .ok (.if_icmp .lt 7, 3) := by decide +kernel
theorem dX4_holdsDoor_9 : decode cX4_holdsDoor 9 = .ok (.iconst 1, 1) := by decide +kernel
theorem dX4_holdsDoor_10 : decode cX4_holdsDoor 10 = .ok (.goto 4, 3) := by decide +kernel
theorem dX4_holdsDoor_13 : decode cX4_holdsDoor 13 = .ok (.iconst 0, 1) := by decide +kernel
theorem dX4_holdsDoor_14 : decode cX4_holdsDoor 14 = .ok (.ireturn, 1) := by decide +kernel
theorem dX4_heldDoor_0 : decode cX4_heldDoor 0 = .ok (.aload_n 0, 1) := by decide +kernel
theorem dX4_heldDoor_1 : decode cX4_heldDoor 1 = .ok (.getfield 9, 3) := by decide +kernel
theorem dX4_heldDoor_4 : decode cX4_heldDoor 4 = .ok (.bipush 10, 2) := by decide +kernel
theorem dX4_heldDoor_6 : decode cX4_heldDoor 6 = .ok (.isub, 1) := by decide +kernel
theorem dX4_heldDoor_7 : decode cX4_heldDoor 7 = .ok (.ireturn, 1) := by decide +kernel
theorem dX4_clear_0 : decode cX4_clear 0 = .ok (.aload_n 0, 1) := by decide +kernel
theorem dX4_clear_1 : decode cX4_clear 1 = .ok (.iconst (-1), 1) := by decide +kernel
theorem dX4_clear_2 : decode cX4_clear 2 = .ok (.putfield 9, 3) := by decide +kernel
theorem dX4_clear_5 : decode cX4_clear 5 = .ok (.aload_n 0, 1) := by decide +kernel
theorem dX4_clear_6 : decode cX4_clear 6 = .ok (.iconst 0, 1) := by decide +kernel
theorem dX4_clear_7 : decode cX4_clear 7 = .ok (.putfield 19, 3) := by decide +kernel
theorem dX4_clear_10 : decode cX4_clear 10 = .ok (.return_, 1) := by decide +kernel
def f_X3_arrive_L25 (h : xH) (v0 : Nat) (v1 : Int32) (v4 : Int32) (v5 : Int32) : Nat → Int32 → Option (Int32)
  | 0, _ => none
  | k + 1, v6 =>
    (x_gI h v0 3 1).bind fun x6 =>
    if x6 ≤ v6 then
      some v6
    else
      (x_gR h v0 3 0).bind fun a7 =>
      (x_ld h a7 v6).bind fun x8 =>
      if ((i_shr v5 x8) &&& (1 : Int32)) = 0 then
        some v6
      else
        (some (v6 + (1 : Int32))).bind fun x9 =>
        f_X3_arrive_L25 h v0 v1 v4 v5 k x9
set_option maxRecDepth 100000 in
set_option maxHeartbeats 4000000 in
theorem l_X3_arrive_25 {S : Nat × (Nat → Int32)} {rv : Option Value} {h0 h1 : xH} {mc ms : Nat} {cells slots : Nat} (hm : cells ≤ mc ∧ slots ≤ ms) (h : xH) (v0 : Nat) (v1 : Int32) (v4 : Int32) (v5 : Int32) : ∀ (k : Nat) (v6 : Int32) (res : Int32), f_X3_arrive_L25 h v0 v1 v4 v5 k v6 = some res → (∀ r9, res = r9 → Y S M_X3_arrive h0 rv h1 mc ms 55 [(0, .ref v0), (1, .int v1), (4, .int v4), (5, .int v5), (6, .int r9)] [] h cells slots) → Y S M_X3_arrive h0 rv h1 mc ms 25 [(0, .ref v0), (1, .int v1), (4, .int v4), (5, .int v5), (6, .int v6)] [] h cells slots := by
  intro k
  induction k with
  | zero =>
    intro _ _ hE
    cases hE
  | succ k ih =>
    intro v6 res hE K
    unfold f_X3_arrive_L25 at hE
    refine y_iload dX3_arrive_25 4 rfl ?_
    refine y_aload_n dX3_arrive_27 0 rfl ?_
    obtain ⟨x6, ex6, hE⟩ := Option.bind_eq_some_iff.mp hE
    refine y_getI fl_X3_32 ex6 dX3_arrive_28 ?_
    refine y_icmp_ge (tgt := 55) dX3_arrive_31 (by decide) (fun hc11 => ?_) (fun hc11 => ?_)
    · rw [if_pos hc11] at hE
      obtain rfl := Option.some.inj hE
      exact y_pick [0, 1, 2, 3, 4] rfl (K _ rfl)
    · rw [if_neg hc11] at hE
      refine y_iload dX3_arrive_34 3 rfl ?_
      refine y_aload_n dX3_arrive_36 0 rfl ?_
      obtain ⟨a7, ea7, hE⟩ := Option.bind_eq_some_iff.mp hE
      refine y_getR fl_X3_11 ea7 dX3_arrive_37 ?_
      refine y_iload dX3_arrive_40 4 rfl ?_
      obtain ⟨x8, ex8, hE⟩ := Option.bind_eq_some_iff.mp hE
      refine y_iald ex8 dX3_arrive_42 ?_
      refine y_ishr dX3_arrive_43 ?_
      refine y_iconst (v := (1 : Int32)) dX3_arrive_44 (by decide) ?_
      refine y_iand dX3_arrive_45 ?_
      refine y_if_eq (tgt := 55) dX3_arrive_46 (by decide) (fun hc10 => ?_) (fun hc10 => ?_)
      · rw [if_pos hc10] at hE
        obtain rfl := Option.some.inj hE
        exact y_pick [0, 1, 2, 3, 4] rfl (K _ rfl)
      · rw [if_neg hc10] at hE
        obtain ⟨x9, ex9, hE⟩ := Option.bind_eq_some_iff.mp hE
        refine y_iinc (ls' := [(6, .int x9), (0, .ref v0), (1, .int v1), (4, .int v4), (5, .int v5)]) dX3_arrive_49 4 rfl (Option.some.inj ex9) (by decide) rfl ?_
        refine y_goto (tgt := 25) dX3_arrive_52 (by decide) ?_
        refine y_pick [1, 2, 3, 4, 0] rfl ?_
        exact ih _ _ hE K
def f_X3_arrive_J197 (n : Nat) (h : xH) (v0 : Nat) (v4 : Int32) (v8 : Int32) : Option (xH) :=
  (x_gI h v0 3 7).bind fun x27 =>
  if v8 < x27 then
    some h
  else
    (x_gI h v0 3 6).bind fun x28 =>
    if x28 ≤ v8 then
      some h
    else
      (x_gR h v0 3 4).bind fun a29 =>
      (x_ld h a29 v8).bind fun x30 =>
      (x_st h a29 v8 (x30 ||| (i_shl v4 (14 : Int32)))).bind fun h31 =>
      some h31
set_option maxRecDepth 100000 in
set_option maxHeartbeats 4000000 in
theorem j_X3_arrive_197 {S : Nat × (Nat → Int32)} {h0 : xH} {mc ms cells slots : Nat} {n : Nat} {h : xH} {v0 : Nat} {v4 : Int32} {v8 : Int32} {hz : xH} (hE : f_X3_arrive_J197 n h v0 v4 v8 = some hz) (hm : cells ≤ mc ∧ slots ≤ ms) : Y S M_X3_arrive h0 none hz mc ms 197 [(0, .ref v0), (4, .int v4), (8, .int v8)] [] h cells slots := by
  unfold f_X3_arrive_J197 at hE
  refine y_iload dX3_arrive_197 2 rfl ?_
  refine y_aload_n dX3_arrive_199 0 rfl ?_
  obtain ⟨x27, ex27, hE⟩ := Option.bind_eq_some_iff.mp hE
  refine y_getI fl_X3_88 ex27 dX3_arrive_200 ?_
  refine y_icmp_lt (tgt := 230) dX3_arrive_203 (by decide) (fun hc33 => ?_) (fun hc33 => ?_)
  · rw [if_pos hc33] at hE
    obtain rfl := Option.some.inj hE
    exact y_ret dX3_arrive_230 hm.1 hm.2 rfl
  · rw [if_neg hc33] at hE
    refine y_iload dX3_arrive_206 2 rfl ?_
    refine y_aload_n dX3_arrive_208 0 rfl ?_
    obtain ⟨x28, ex28, hE⟩ := Option.bind_eq_some_iff.mp hE
    refine y_getI fl_X3_85 ex28 dX3_arrive_209 ?_
    refine y_icmp_ge (tgt := 230) dX3_arrive_212 (by decide) (fun hc32 => ?_) (fun hc32 => ?_)
    · rw [if_pos hc32] at hE
      obtain rfl := Option.some.inj hE
      exact y_ret dX3_arrive_230 hm.1 hm.2 rfl
    · rw [if_neg hc32] at hE
      refine y_aload_n dX3_arrive_215 0 rfl ?_
      obtain ⟨a29, ea29, hE⟩ := Option.bind_eq_some_iff.mp hE
      refine y_getR fl_X3_25 ea29 dX3_arrive_216 ?_
      refine y_iload dX3_arrive_219 2 rfl ?_
      refine y_dup2 dX3_arrive_221 rfl rfl ?_
      obtain ⟨x30, ex30, hE⟩ := Option.bind_eq_some_iff.mp hE
      refine y_iald ex30 dX3_arrive_222 ?_
      refine y_iload dX3_arrive_223 1 rfl ?_
      refine y_bipush (v := (14 : Int32)) dX3_arrive_225 (by decide) ?_
      refine y_ishl dX3_arrive_227 ?_
      refine y_ior dX3_arrive_228 ?_
      obtain ⟨h31, eh31, hE⟩ := Option.bind_eq_some_iff.mp hE
      refine y_iast eh31 dX3_arrive_229 ?_
      obtain rfl := Option.some.inj hE
      exact y_ret dX3_arrive_230 hm.1 hm.2 rfl
def f_X3_arrive (n : Nat) (h : xH) (a0 : Nat) (p1 : Int32) (p2 : Int32) (p3 : Int32) (p4 : Int32) : Option (xH) :=
  (x_gR h a0 3 2).bind fun a1 =>
  (x_ob h a1 2).bind fun u2 =>
  (f_X2_partOf n h a1 p1 p2).bind fun q3 =>
  (x_gI q3.2 a0 3 10).bind fun x4 =>
  (x_put q3.2 a0 3 10 (.int (x4 ||| q3.1))).bind fun h5 =>
  (f_X3_arrive_L25 h5 a0 p1 p4 q3.1 n p3).bind fun q12 =>
  (x_gI h5 a0 3 1).bind fun x13 =>
  if q12 = x13 then
    (x_put h5 a0 3 8 (.int (1 : Int32))).bind fun h14 =>
    (x_gI h14 a0 3 9).bind fun x15 =>
    (x_put h14 a0 3 9 (.int (x15 ||| p4))).bind fun h16 =>
    some h16
  else
    (x_gR h5 a0 3 2).bind fun a17 =>
    (x_gI h5 a17 2 6).bind fun x18 =>
    (f_J6_numberOfTrailingZeros_0f7a4 q3.1).bind fun q19 =>
    (some ((((i_shl q12 x18) + p1) * (8 : Int32)) + q19)).bind fun x20 =>
    if x20 < 0 then
      some h5
    else
      (x_gR h5 a0 3 3).bind fun a21 =>
      (x_len h5 a21).bind fun x22 =>
      if x20 < x22 then
        (x_gR h5 a0 3 3).bind fun a23 =>
        (x_ld h5 a23 x20).bind fun x24 =>
        (x_gI h5 a0 3 5).bind fun x25 =>
        (some (x24 - x25)).bind fun x26 =>
        if 0 ≤ x26 then
          f_X3_arrive_J197 n h5 a0 p4 x26
        else
          (x_gI h5 a0 3 6).bind fun x34 =>
          (x_gR h5 a0 3 4).bind fun a35 =>
          (x_len h5 a35).bind fun x36 =>
          if x36 ≤ x34 then
            f_X3_arrive_J197 n h5 a0 p4 x26
          else
            (x_gR h5 a0 3 3).bind fun a37 =>
            (x_gI h5 a0 3 5).bind fun x38 =>
            (x_gI h5 a0 3 6).bind fun x39 =>
            (x_st h5 a37 x20 (x38 + x39)).bind fun h40 =>
            (x_gR h40 a0 3 4).bind fun a41 =>
            (x_gI h40 a0 3 6).bind fun x42 =>
            (x_st h40 a41 x42 ((i_shl p4 (14 : Int32)) ||| x20)).bind fun h43 =>
            (x_gI h43 a0 3 6).bind fun x44 =>
            (x_put h43 a0 3 6 (.int (x44 + (1 : Int32)))).bind fun h45 =>
            some h45
      else
        some h5
set_option maxRecDepth 100000 in
set_option maxHeartbeats 4000000 in
theorem c_X3_arrive {n : Nat} {h : xH} {a0 : Nat} {p1 : Int32} {p2 : Int32} {p3 : Int32} {p4 : Int32} {hz : xH} (hE : f_X3_arrive n h a0 p1 p2 p3 p4 = some hz) : Ctr M_X3_arrive [.ref a0, .int p1, .int p2, .int p3, .int p4] h none hz 0 0 := by
  refine ctr_of (by decide) (fun _ _ => Nat.le_of_ble_eq_true rfl) (fun S => ?_)
  show Y S M_X3_arrive h none hz 0 0 0 [(0, .ref a0), (1, .int p1), (2, .int p2), (3, .int p3), (4, .int p4)] [] h 0 0
  unfold f_X3_arrive at hE
  refine y_aload_n dX3_arrive_0 0 rfl ?_
  obtain ⟨a1, ea1, hE⟩ := Option.bind_eq_some_iff.mp hE
  refine y_getR fl_X3_18 ea1 dX3_arrive_1 ?_
  refine y_iload_n dX3_arrive_4 1 rfl ?_
  refine y_iload_n dX3_arrive_5 2 rfl ?_
  obtain ⟨u2, eu2, hE⟩ := Option.bind_eq_some_iff.mp hE
  obtain ⟨q3, eq3, hE⟩ := Option.bind_eq_some_iff.mp hE
  refine y_cVi0 (st := []) (as := [.int p1, .int p2]) (c_X2_partOf eq3) lk_X3_50 in_X2_partOf se_X2_partOf rfl eu2 ⟨Nat.le_of_ble_eq_true rfl, Nat.le_of_ble_eq_true rfl⟩ (Nat.le_of_ble_eq_true rfl) dX3_arrive_6 ⟨Nat.le_refl _, Nat.le_refl _⟩ rfl ?_
  refine y_istore (ls' := [(5, .int q3.1), (0, .ref a0), (1, .int p1), (2, .int p2), (3, .int p3), (4, .int p4)]) dX3_arrive_9 (by decide) rfl rfl ?_
  refine y_aload_n dX3_arrive_11 1 rfl ?_
  refine y_dup dX3_arrive_12 rfl ?_
  obtain ⟨x4, ex4, hE⟩ := Option.bind_eq_some_iff.mp hE
  refine y_getI fl_X3_68 ex4 dX3_arrive_13 ?_
  refine y_iload dX3_arrive_16 0 rfl ?_
  refine y_ior dX3_arrive_18 ?_
  obtain ⟨h5, eh5, hE⟩ := Option.bind_eq_some_iff.mp hE
  refine y_putI fp_X3_68 eh5 dX3_arrive_19 ?_
  refine y_iload_n dX3_arrive_22 4 rfl ?_
  refine y_istore (ls' := [(6, .int p3), (5, .int q3.1), (0, .ref a0), (1, .int p1), (2, .int p2), (3, .int p3), (4, .int p4)]) dX3_arrive_23 (by decide) rfl rfl ?_
  obtain ⟨q12, eq12, hE⟩ := Option.bind_eq_some_iff.mp hE
  refine y_pick [2, 3, 6, 1, 0] rfl ?_
  refine l_X3_arrive_25 (S := S) ⟨Nat.le_refl _, Nat.le_refl _⟩ h5 a0 p1 p4 q3.1 n p3 _ eq12 (fun r8 hr8 => ?_)
  subst hr8
  refine y_iload dX3_arrive_55 4 rfl ?_
  refine y_aload_n dX3_arrive_57 0 rfl ?_
  obtain ⟨x13, ex13, hE⟩ := Option.bind_eq_some_iff.mp hE
  refine y_getI fl_X3_32 ex13 dX3_arrive_58 ?_
  refine y_icmp_ne (tgt := 81) dX3_arrive_61 (by decide) (fun hc50 => ?_) (fun hc50 => ?_)
  · rw [if_pos hc50] at hE
    refine y_aload_n dX3_arrive_64 0 rfl ?_
    refine y_iconst (v := (1 : Int32)) dX3_arrive_65 (by decide) ?_
    obtain ⟨h14, eh14, hE⟩ := Option.bind_eq_some_iff.mp hE
    refine y_putZ fp_X3_91 rfl rfl eh14 dX3_arrive_66 ?_
    refine y_aload_n dX3_arrive_69 0 rfl ?_
    refine y_dup dX3_arrive_70 rfl ?_
    obtain ⟨x15, ex15, hE⟩ := Option.bind_eq_some_iff.mp hE
    refine y_getI fl_X3_71 ex15 dX3_arrive_71 ?_
    refine y_iload dX3_arrive_74 2 rfl ?_
    refine y_ior dX3_arrive_76 ?_
    obtain ⟨h16, eh16, hE⟩ := Option.bind_eq_some_iff.mp hE
    refine y_putI fp_X3_71 eh16 dX3_arrive_77 ?_
    obtain rfl := Option.some.inj hE
    exact y_ret dX3_arrive_80 (Nat.le_refl _) (Nat.le_refl _) rfl
  · rw [if_neg hc50] at hE
    refine y_iload dX3_arrive_81 4 rfl ?_
    refine y_aload_n dX3_arrive_83 0 rfl ?_
    obtain ⟨a17, ea17, hE⟩ := Option.bind_eq_some_iff.mp hE
    refine y_getR fl_X3_18 ea17 dX3_arrive_84 ?_
    obtain ⟨x18, ex18, hE⟩ := Option.bind_eq_some_iff.mp hE
    refine y_getI fl_X3_47 ex18 dX3_arrive_87 ?_
    refine y_ishl dX3_arrive_90 ?_
    refine y_iload_n dX3_arrive_91 1 rfl ?_
    refine y_iadd dX3_arrive_92 ?_
    refine y_bipush (v := (8 : Int32)) dX3_arrive_93 (by decide) ?_
    refine y_imul dX3_arrive_95 ?_
    refine y_iload dX3_arrive_96 3 rfl ?_
    obtain ⟨q19, eq19, hE⟩ := Option.bind_eq_some_iff.mp hE
    refine y_cSi0 (st := [.int (((i_shl q12 x18) + p1) * (8 : Int32))]) (as := [.int q3.1]) (c_J6_numberOfTrailingZeros_0f7a4 eq19) lk_X3_74 st_J6_numberOfTrailingZeros_0f7a4 ⟨Nat.le_of_ble_eq_true rfl, Nat.le_of_ble_eq_true rfl⟩ (Nat.le_of_ble_eq_true rfl) dX3_arrive_98 ⟨Nat.le_refl _, Nat.le_refl _⟩ rfl ?_
    refine y_iadd dX3_arrive_101 ?_
    obtain ⟨x20, ex20, hE⟩ := Option.bind_eq_some_iff.mp hE
    refine y_istore (ls' := [(7, .int x20), (0, .ref a0), (1, .int p1), (4, .int p4), (5, .int q3.1), (6, .int q12)]) dX3_arrive_102 (by decide) (Option.some.inj ex20) rfl ?_
    refine y_iload dX3_arrive_104 0 rfl ?_
    refine y_if_lt (tgt := 119) dX3_arrive_106 (by decide) (fun hc49 => ?_) (fun hc49 => ?_)
    · rw [if_pos hc49] at hE
      obtain rfl := Option.some.inj hE
      exact y_ret dX3_arrive_119 (Nat.le_refl _) (Nat.le_refl _) rfl
    · rw [if_neg hc49] at hE
      refine y_iload dX3_arrive_109 0 rfl ?_
      refine y_aload_n dX3_arrive_111 1 rfl ?_
      obtain ⟨a21, ea21, hE⟩ := Option.bind_eq_some_iff.mp hE
      refine y_getR fl_X3_22 ea21 dX3_arrive_112 ?_
      obtain ⟨x22, ex22, hE⟩ := Option.bind_eq_some_iff.mp hE
      refine y_alen ex22 dX3_arrive_115 ?_
      refine y_icmp_lt (tgt := 120) dX3_arrive_116 (by decide) (fun hc48 => ?_) (fun hc48 => ?_)
      · rw [if_pos hc48] at hE
        refine y_aload_n dX3_arrive_120 1 rfl ?_
        obtain ⟨a23, ea23, hE⟩ := Option.bind_eq_some_iff.mp hE
        refine y_getR fl_X3_22 ea23 dX3_arrive_121 ?_
        refine y_iload dX3_arrive_124 0 rfl ?_
        obtain ⟨x24, ex24, hE⟩ := Option.bind_eq_some_iff.mp hE
        refine y_iald ex24 dX3_arrive_126 ?_
        refine y_aload_n dX3_arrive_127 1 rfl ?_
        obtain ⟨x25, ex25, hE⟩ := Option.bind_eq_some_iff.mp hE
        refine y_getI fl_X3_28 ex25 dX3_arrive_128 ?_
        refine y_isub dX3_arrive_131 ?_
        obtain ⟨x26, ex26, hE⟩ := Option.bind_eq_some_iff.mp hE
        refine y_istore (ls' := [(8, .int x26), (7, .int x20), (0, .ref a0), (1, .int p1), (4, .int p4), (5, .int q3.1), (6, .int q12)]) dX3_arrive_132 (by decide) (Option.some.inj ex26) rfl ?_
        refine y_iload dX3_arrive_134 0 rfl ?_
        refine y_if_ge (tgt := 197) dX3_arrive_136 (by decide) (fun hc47 => ?_) (fun hc47 => ?_)
        · rw [if_pos hc47] at hE
          refine y_pick [2, 4, 0] rfl ?_
          exact j_X3_arrive_197 hE ⟨Nat.le_refl _, Nat.le_refl _⟩
        · rw [if_neg hc47] at hE
          refine y_aload_n dX3_arrive_139 2 rfl ?_
          obtain ⟨x34, ex34, hE⟩ := Option.bind_eq_some_iff.mp hE
          refine y_getI fl_X3_85 ex34 dX3_arrive_140 ?_
          refine y_aload_n dX3_arrive_143 2 rfl ?_
          obtain ⟨a35, ea35, hE⟩ := Option.bind_eq_some_iff.mp hE
          refine y_getR fl_X3_25 ea35 dX3_arrive_144 ?_
          obtain ⟨x36, ex36, hE⟩ := Option.bind_eq_some_iff.mp hE
          refine y_alen ex36 dX3_arrive_147 ?_
          refine y_icmp_ge (tgt := 197) dX3_arrive_148 (by decide) (fun hc46 => ?_) (fun hc46 => ?_)
          · rw [if_pos hc46] at hE
            refine y_pick [2, 4, 0] rfl ?_
            exact j_X3_arrive_197 hE ⟨Nat.le_refl _, Nat.le_refl _⟩
          · rw [if_neg hc46] at hE
            refine y_aload_n dX3_arrive_151 2 rfl ?_
            obtain ⟨a37, ea37, hE⟩ := Option.bind_eq_some_iff.mp hE
            refine y_getR fl_X3_22 ea37 dX3_arrive_152 ?_
            refine y_iload dX3_arrive_155 1 rfl ?_
            refine y_aload_n dX3_arrive_157 2 rfl ?_
            obtain ⟨x38, ex38, hE⟩ := Option.bind_eq_some_iff.mp hE
            refine y_getI fl_X3_28 ex38 dX3_arrive_158 ?_
            refine y_aload_n dX3_arrive_161 2 rfl ?_
            obtain ⟨x39, ex39, hE⟩ := Option.bind_eq_some_iff.mp hE
            refine y_getI fl_X3_85 ex39 dX3_arrive_162 ?_
            refine y_iadd dX3_arrive_165 ?_
            obtain ⟨h40, eh40, hE⟩ := Option.bind_eq_some_iff.mp hE
            refine y_iast eh40 dX3_arrive_166 ?_
            refine y_aload_n dX3_arrive_167 2 rfl ?_
            obtain ⟨a41, ea41, hE⟩ := Option.bind_eq_some_iff.mp hE
            refine y_getR fl_X3_25 ea41 dX3_arrive_168 ?_
            refine y_aload_n dX3_arrive_171 2 rfl ?_
            obtain ⟨x42, ex42, hE⟩ := Option.bind_eq_some_iff.mp hE
            refine y_getI fl_X3_85 ex42 dX3_arrive_172 ?_
            refine y_iload dX3_arrive_175 4 rfl ?_
            refine y_bipush (v := (14 : Int32)) dX3_arrive_177 (by decide) ?_
            refine y_ishl dX3_arrive_179 ?_
            refine y_iload dX3_arrive_180 1 rfl ?_
            refine y_ior dX3_arrive_182 ?_
            obtain ⟨h43, eh43, hE⟩ := Option.bind_eq_some_iff.mp hE
            refine y_iast eh43 dX3_arrive_183 ?_
            refine y_aload_n dX3_arrive_184 2 rfl ?_
            refine y_dup dX3_arrive_185 rfl ?_
            obtain ⟨x44, ex44, hE⟩ := Option.bind_eq_some_iff.mp hE
            refine y_getI fl_X3_85 ex44 dX3_arrive_186 ?_
            refine y_iconst (v := (1 : Int32)) dX3_arrive_189 (by decide) ?_
            refine y_iadd dX3_arrive_190 ?_
            obtain ⟨h45, eh45, hE⟩ := Option.bind_eq_some_iff.mp hE
            refine y_putI fp_X3_85 eh45 dX3_arrive_191 ?_
            refine y_goto (tgt := 230) dX3_arrive_194 (by decide) ?_
            obtain rfl := Option.some.inj hE
            exact y_ret dX3_arrive_230 (Nat.le_refl _) (Nat.le_refl _) rfl
      · rw [if_neg hc48] at hE
        obtain rfl := Option.some.inj hE
        exact y_ret dX3_arrive_119 (Nat.le_refl _) (Nat.le_refl _) rfl
def f_X3_leaveFrom_L144 (n : Nat) (v0 : Nat) (v1 : Int32) (v3 : Int32) (v4 : Int32) (v5 : Int32) (v6 : Int32) (v7 : Int32) (v8 : Int32) (v9 : Int32) : Nat → Int32 → xH → Option (xH)
  | 0, _, _ => none
  | k + 1, v10, h =>
    (x_gR h v0 3 2).bind fun a30 =>
    (x_gI h a30 2 6).bind fun x31 =>
    if x31 ≤ v10 then
      some h
    else
      if (v9 &&& (v7 ^^^ (-1 : Int32))) = 0 then
        if ((i_shr v6 v10) &&& (1 : Int32)) = 0 then
          (some (v10 + (1 : Int32))).bind fun x32 =>
          f_X3_leaveFrom_L144 n v0 v1 v3 v4 v5 v6 v7 v8 v9 k x32 h
        else
          if v3 = 0 then
            (x_ob h v0 3).bind fun u33 =>
            (f_X3_arrive n h v0 ((v4 &&& (v9 ^^^ (-1 : Int32))) ||| (i_shl (1 : Int32) v10)) v1 v5 (i_shl (1 : Int32) v10)).bind fun q34 =>
            (some (v10 + (1 : Int32))).bind fun x35 =>
            f_X3_leaveFrom_L144 n v0 v1 v3 v4 v5 v6 v7 v8 v9 k x35 q34
          else
            (x_ob h v0 3).bind fun u36 =>
            (f_X3_arrive n h v0 ((v4 &&& (v9 ^^^ (-1 : Int32))) ||| (i_shl (1 : Int32) v10)) v1 v5 v3).bind fun q37 =>
            (some (v10 + (1 : Int32))).bind fun x38 =>
            f_X3_leaveFrom_L144 n v0 v1 v3 v4 v5 v6 v7 v8 v9 k x38 q37
      else
        some h
set_option maxRecDepth 100000 in
set_option maxHeartbeats 4000000 in
theorem l_X3_leaveFrom_144 {S : Nat × (Nat → Int32)} {rv : Option Value} {h0 h1 : xH} {mc ms : Nat} {cells slots : Nat} (hm : cells ≤ mc ∧ slots ≤ ms) (n : Nat) (v0 : Nat) (v1 : Int32) (v3 : Int32) (v4 : Int32) (v5 : Int32) (v6 : Int32) (v7 : Int32) (v8 : Int32) (v9 : Int32) : ∀ (k : Nat) (v10 : Int32) (h : xH) (res : xH), f_X3_leaveFrom_L144 n v0 v1 v3 v4 v5 v6 v7 v8 v9 k v10 h = some res → (∀ r9, res = r9 → Y S M_X3_leaveFrom h0 rv h1 mc ms 213 [(0, .ref v0), (1, .int v1), (3, .int v3), (4, .int v4), (5, .int v5), (6, .int v6), (7, .int v7), (8, .int v8)] [] r9 cells slots) → Y S M_X3_leaveFrom h0 rv h1 mc ms 144 [(0, .ref v0), (1, .int v1), (3, .int v3), (4, .int v4), (5, .int v5), (6, .int v6), (7, .int v7), (8, .int v8), (9, .int v9), (10, .int v10)] [] h cells slots := by
  intro k
  induction k with
  | zero =>
    intro _ _ _ hE
    cases hE
  | succ k ih =>
    intro v10 h res hE K
    unfold f_X3_leaveFrom_L144 at hE
    refine y_iload dX3_leaveFrom_144 9 rfl ?_
    refine y_aload_n dX3_leaveFrom_146 0 rfl ?_
    obtain ⟨a30, ea30, hE⟩ := Option.bind_eq_some_iff.mp hE
    refine y_getR fl_X3_18 ea30 dX3_leaveFrom_147 ?_
    obtain ⟨x31, ex31, hE⟩ := Option.bind_eq_some_iff.mp hE
    refine y_getI fl_X3_47 ex31 dX3_leaveFrom_150 ?_
    refine y_icmp_ge (tgt := 213) dX3_leaveFrom_153 (by decide) (fun hc42 => ?_) (fun hc42 => ?_)
    · rw [if_pos hc42] at hE
      obtain rfl := Option.some.inj hE
      exact y_pick [0, 1, 2, 3, 4, 5, 6, 7] rfl (K _ rfl)
    · rw [if_neg hc42] at hE
      refine y_iload dX3_leaveFrom_156 8 rfl ?_
      refine y_iload dX3_leaveFrom_158 6 rfl ?_
      refine y_iconst (v := (-1 : Int32)) dX3_leaveFrom_160 (by decide) ?_
      refine y_ixor dX3_leaveFrom_161 ?_
      refine y_iand dX3_leaveFrom_162 ?_
      refine y_if_ne (tgt := 213) dX3_leaveFrom_163 (by decide) (fun hc41 => ?_) (fun hc41 => ?_)
      · rw [if_pos hc41] at hE
        refine y_iload dX3_leaveFrom_166 5 rfl ?_
        refine y_iload dX3_leaveFrom_168 9 rfl ?_
        refine y_ishr dX3_leaveFrom_170 ?_
        refine y_iconst (v := (1 : Int32)) dX3_leaveFrom_171 (by decide) ?_
        refine y_iand dX3_leaveFrom_172 ?_
        refine y_if_eq (tgt := 207) dX3_leaveFrom_173 (by decide) (fun hc40 => ?_) (fun hc40 => ?_)
        · rw [if_pos hc40] at hE
          obtain ⟨x32, ex32, hE⟩ := Option.bind_eq_some_iff.mp hE
          refine y_iinc (ls' := [(10, .int x32), (0, .ref v0), (1, .int v1), (3, .int v3), (4, .int v4), (5, .int v5), (6, .int v6), (7, .int v7), (8, .int v8), (9, .int v9)]) dX3_leaveFrom_207 9 rfl (Option.some.inj ex32) (by decide) rfl ?_
          refine y_goto (tgt := 144) dX3_leaveFrom_210 (by decide) ?_
          refine y_pick [1, 2, 3, 4, 5, 6, 7, 8, 9, 0] rfl ?_
          exact ih _ _ _ hE K
        · rw [if_neg hc40] at hE
          refine y_aload_n dX3_leaveFrom_176 0 rfl ?_
          refine y_iload dX3_leaveFrom_177 3 rfl ?_
          refine y_iload dX3_leaveFrom_179 8 rfl ?_
          refine y_iconst (v := (-1 : Int32)) dX3_leaveFrom_181 (by decide) ?_
          refine y_ixor dX3_leaveFrom_182 ?_
          refine y_iand dX3_leaveFrom_183 ?_
          refine y_iconst (v := (1 : Int32)) dX3_leaveFrom_184 (by decide) ?_
          refine y_iload dX3_leaveFrom_185 9 rfl ?_
          refine y_ishl dX3_leaveFrom_187 ?_
          refine y_ior dX3_leaveFrom_188 ?_
          refine y_iload_n dX3_leaveFrom_189 1 rfl ?_
          refine y_iload dX3_leaveFrom_190 4 rfl ?_
          refine y_iload_n dX3_leaveFrom_192 2 rfl ?_
          refine y_if_ne (tgt := 203) dX3_leaveFrom_193 (by decide) (fun hc39 => ?_) (fun hc39 => ?_)
          · rw [if_pos hc39] at hE
            refine y_iconst (v := (1 : Int32)) dX3_leaveFrom_196 (by decide) ?_
            refine y_iload dX3_leaveFrom_197 9 rfl ?_
            refine y_ishl dX3_leaveFrom_199 ?_
            refine y_goto (tgt := 204) dX3_leaveFrom_200 (by decide) ?_
            obtain ⟨u33, eu33, hE⟩ := Option.bind_eq_some_iff.mp hE
            obtain ⟨q34, eq34, hE⟩ := Option.bind_eq_some_iff.mp hE
            refine y_cVv0 (st := []) (as := [.int ((v4 &&& (v9 ^^^ (-1 : Int32))) ||| (i_shl (1 : Int32) v10)), .int v1, .int v5, .int (i_shl (1 : Int32) v10)]) (c_X3_arrive eq34) lk_X3_95 in_X3_arrive se_X3_arrive rfl eu33 ⟨Nat.le_of_ble_eq_true rfl, Nat.le_of_ble_eq_true rfl⟩ (Nat.le_of_ble_eq_true rfl) dX3_leaveFrom_204 hm rfl ?_
            obtain ⟨x35, ex35, hE⟩ := Option.bind_eq_some_iff.mp hE
            refine y_iinc (ls' := [(10, .int x35), (0, .ref v0), (1, .int v1), (3, .int v3), (4, .int v4), (5, .int v5), (6, .int v6), (7, .int v7), (8, .int v8), (9, .int v9)]) dX3_leaveFrom_207 9 rfl (Option.some.inj ex35) (by decide) rfl ?_
            refine y_goto (tgt := 144) dX3_leaveFrom_210 (by decide) ?_
            refine y_pick [1, 2, 3, 4, 5, 6, 7, 8, 9, 0] rfl ?_
            exact ih _ _ _ hE K
          · rw [if_neg hc39] at hE
            refine y_iload_n dX3_leaveFrom_203 2 rfl ?_
            obtain ⟨u36, eu36, hE⟩ := Option.bind_eq_some_iff.mp hE
            obtain ⟨q37, eq37, hE⟩ := Option.bind_eq_some_iff.mp hE
            refine y_cVv0 (st := []) (as := [.int ((v4 &&& (v9 ^^^ (-1 : Int32))) ||| (i_shl (1 : Int32) v10)), .int v1, .int v5, .int v3]) (c_X3_arrive eq37) lk_X3_95 in_X3_arrive se_X3_arrive rfl eu36 ⟨Nat.le_of_ble_eq_true rfl, Nat.le_of_ble_eq_true rfl⟩ (Nat.le_of_ble_eq_true rfl) dX3_leaveFrom_204 hm rfl ?_
            obtain ⟨x38, ex38, hE⟩ := Option.bind_eq_some_iff.mp hE
            refine y_iinc (ls' := [(10, .int x38), (0, .ref v0), (1, .int v1), (3, .int v3), (4, .int v4), (5, .int v5), (6, .int v6), (7, .int v7), (8, .int v8), (9, .int v9)]) dX3_leaveFrom_207 9 rfl (Option.some.inj ex38) (by decide) rfl ?_
            refine y_goto (tgt := 144) dX3_leaveFrom_210 (by decide) ?_
            refine y_pick [1, 2, 3, 4, 5, 6, 7, 8, 9, 0] rfl ?_
            exact ih _ _ _ hE K
      · rw [if_neg hc41] at hE
        obtain rfl := Option.some.inj hE
        exact y_pick [0, 1, 2, 3, 4, 5, 6, 7] rfl (K _ rfl)
def f_X3_leaveFrom_L117 (n : Nat) (v0 : Nat) (v1 : Int32) (v3 : Int32) (v4 : Int32) (v5 : Int32) (v6 : Int32) (v7 : Int32) : Nat → Int32 → xH → Option (xH)
  | 0, _, _ => none
  | k + 1, v8, h =>
    (x_gR h v0 3 2).bind fun a25 =>
    (x_gI h a25 2 5).bind fun x26 =>
    if x26 ≤ v8 then
      some h
    else
      (x_gR h v0 3 2).bind fun a27 =>
      (x_gR h a27 2 3).bind fun a28 =>
      (x_ld h a28 v8).bind fun x29 =>
      (f_X3_leaveFrom_L144 n v0 v1 v3 v4 v5 v6 v7 v8 x29 n (0 : Int32) h).bind fun q43 =>
      (some (v8 + (1 : Int32))).bind fun x44 =>
      f_X3_leaveFrom_L117 n v0 v1 v3 v4 v5 v6 v7 k x44 q43
set_option maxRecDepth 100000 in
set_option maxHeartbeats 4000000 in
theorem l_X3_leaveFrom_117 {S : Nat × (Nat → Int32)} {rv : Option Value} {h0 h1 : xH} {mc ms : Nat} {cells slots : Nat} (hm : cells ≤ mc ∧ slots ≤ ms) (n : Nat) (v0 : Nat) (v1 : Int32) (v3 : Int32) (v4 : Int32) (v5 : Int32) (v6 : Int32) (v7 : Int32) : ∀ (k : Nat) (v8 : Int32) (h : xH) (res : xH), f_X3_leaveFrom_L117 n v0 v1 v3 v4 v5 v6 v7 k v8 h = some res → (∀ r9, res = r9 → Y S M_X3_leaveFrom h0 rv h1 mc ms 219 [] [] r9 cells slots) → Y S M_X3_leaveFrom h0 rv h1 mc ms 117 [(0, .ref v0), (1, .int v1), (3, .int v3), (4, .int v4), (5, .int v5), (6, .int v6), (7, .int v7), (8, .int v8)] [] h cells slots := by
  intro k
  induction k with
  | zero =>
    intro _ _ _ hE
    cases hE
  | succ k ih =>
    intro v8 h res hE K
    unfold f_X3_leaveFrom_L117 at hE
    refine y_iload dX3_leaveFrom_117 7 rfl ?_
    refine y_aload_n dX3_leaveFrom_119 0 rfl ?_
    obtain ⟨a25, ea25, hE⟩ := Option.bind_eq_some_iff.mp hE
    refine y_getR fl_X3_18 ea25 dX3_leaveFrom_120 ?_
    obtain ⟨x26, ex26, hE⟩ := Option.bind_eq_some_iff.mp hE
    refine y_getI fl_X3_118 ex26 dX3_leaveFrom_123 ?_
    refine y_icmp_ge (tgt := 219) dX3_leaveFrom_126 (by decide) (fun hc45 => ?_) (fun hc45 => ?_)
    · rw [if_pos hc45] at hE
      obtain rfl := Option.some.inj hE
      exact y_pick [] rfl (K _ rfl)
    · rw [if_neg hc45] at hE
      refine y_aload_n dX3_leaveFrom_129 0 rfl ?_
      obtain ⟨a27, ea27, hE⟩ := Option.bind_eq_some_iff.mp hE
      refine y_getR fl_X3_18 ea27 dX3_leaveFrom_130 ?_
      obtain ⟨a28, ea28, hE⟩ := Option.bind_eq_some_iff.mp hE
      refine y_getR fl_X3_121 ea28 dX3_leaveFrom_133 ?_
      refine y_iload dX3_leaveFrom_136 7 rfl ?_
      obtain ⟨x29, ex29, hE⟩ := Option.bind_eq_some_iff.mp hE
      refine y_iald ex29 dX3_leaveFrom_138 ?_
      refine y_istore (ls' := [(9, .int x29), (0, .ref v0), (1, .int v1), (3, .int v3), (4, .int v4), (5, .int v5), (6, .int v6), (7, .int v7), (8, .int v8)]) dX3_leaveFrom_139 (by decide) rfl rfl ?_
      refine y_iconst (v := (0 : Int32)) dX3_leaveFrom_141 (by decide) ?_
      refine y_istore (ls' := [(10, .int (0 : Int32)), (9, .int x29), (0, .ref v0), (1, .int v1), (3, .int v3), (4, .int v4), (5, .int v5), (6, .int v6), (7, .int v7), (8, .int v8)]) dX3_leaveFrom_142 (by decide) rfl rfl ?_
      obtain ⟨q43, eq43, hE⟩ := Option.bind_eq_some_iff.mp hE
      refine y_pick [2, 3, 4, 5, 6, 7, 8, 9, 1, 0] rfl ?_
      refine l_X3_leaveFrom_144 (S := S) hm n v0 v1 v3 v4 v5 v6 v7 v8 x29 n (0 : Int32) h _ eq43 (fun r8 hr8 => ?_)
      subst hr8
      obtain ⟨x44, ex44, hE⟩ := Option.bind_eq_some_iff.mp hE
      refine y_iinc (ls' := [(8, .int x44), (0, .ref v0), (1, .int v1), (3, .int v3), (4, .int v4), (5, .int v5), (6, .int v6), (7, .int v7)]) dX3_leaveFrom_213 7 rfl (Option.some.inj ex44) (by decide) rfl ?_
      refine y_goto (tgt := 117) dX3_leaveFrom_216 (by decide) ?_
      refine y_pick [1, 2, 3, 4, 5, 6, 7, 0] rfl ?_
      exact ih _ _ _ hE K
def f_X3_leaveFrom (n : Nat) (h : xH) (a0 : Nat) (p1 : Int32) (p2 : Int32) (p3 : Int32) : Option (xH) :=
  (x_gR h a0 3 2).bind fun a1 =>
  (x_gI h a1 2 6).bind fun x2 =>
  (some ((i_shr p2 (3 : Int32)) &&& ((i_shl (1 : Int32) x2) - (1 : Int32)))).bind fun x3 =>
  (x_gR h a0 3 2).bind fun a4 =>
  (x_gI h a4 2 6).bind fun x5 =>
  (some (i_shr p2 ((3 : Int32) + x5))).bind fun x6 =>
  (x_gR h a0 3 2).bind fun a7 =>
  (x_gR h a7 2 2).bind fun a8 =>
  (x_ld h a8 p1).bind fun x9 =>
  (some (x9 &&& (x3 ^^^ (-1 : Int32)))).bind fun x10 =>
  (x_gR h a0 3 2).bind fun a11 =>
  (x_gR h a11 2 1).bind fun a12 =>
  (x_ld h a12 p1).bind fun x13 =>
  (x_gR h a0 3 2).bind fun a14 =>
  (x_gI h a14 2 10).bind fun x15 =>
  (some (x3 &&& (x13 ||| x15))).bind fun x16 =>
  if x10 = 0 then
    some h
  else
    (x_gR h a0 3 2).bind fun a17 =>
    (x_ob h a17 2).bind fun u18 =>
    (f_X2_weigh h a17 x16).bind fun q19 =>
    (x_gR h a0 3 2).bind fun a20 =>
    (x_gI h a20 2 7).bind fun x21 =>
    if x21 ≤ q19 then
      (x_gR h a0 3 2).bind fun a22 =>
      (x_ob h a22 2).bind fun u23 =>
      (f_X2_partOf n h a22 x3 (p2 &&& (7 : Int32))).bind fun q24 =>
      if ((i_shr q24.1 p1) &&& (1 : Int32)) = 0 then
        some q24.2
      else
        (f_X3_leaveFrom_L117 n a0 p1 p3 x3 x6 x10 x16 n (0 : Int32) q24.2).bind fun q46 =>
        some q46
    else
      some h
set_option maxRecDepth 100000 in
set_option maxHeartbeats 4000000 in
theorem c_X3_leaveFrom {n : Nat} {h : xH} {a0 : Nat} {p1 : Int32} {p2 : Int32} {p3 : Int32} {hz : xH} (hE : f_X3_leaveFrom n h a0 p1 p2 p3 = some hz) : Ctr M_X3_leaveFrom [.ref a0, .int p1, .int p2, .int p3] h none hz 0 0 := by
  refine ctr_of (by decide) (fun _ _ => Nat.le_of_ble_eq_true rfl) (fun S => ?_)
  show Y S M_X3_leaveFrom h none hz 0 0 0 [(0, .ref a0), (1, .int p1), (2, .int p2), (3, .int p3)] [] h 0 0
  unfold f_X3_leaveFrom at hE
  refine y_iload_n dX3_leaveFrom_0 2 rfl ?_
  refine y_iconst (v := (3 : Int32)) dX3_leaveFrom_1 (by decide) ?_
  refine y_ishr dX3_leaveFrom_2 ?_
  refine y_iconst (v := (1 : Int32)) dX3_leaveFrom_3 (by decide) ?_
  refine y_aload_n dX3_leaveFrom_4 0 rfl ?_
  obtain ⟨a1, ea1, hE⟩ := Option.bind_eq_some_iff.mp hE
  refine y_getR fl_X3_18 ea1 dX3_leaveFrom_5 ?_
  obtain ⟨x2, ex2, hE⟩ := Option.bind_eq_some_iff.mp hE
  refine y_getI fl_X3_47 ex2 dX3_leaveFrom_8 ?_
  refine y_ishl dX3_leaveFrom_11 ?_
  refine y_iconst (v := (1 : Int32)) dX3_leaveFrom_12 (by decide) ?_
  refine y_isub dX3_leaveFrom_13 ?_
  refine y_iand dX3_leaveFrom_14 ?_
  obtain ⟨x3, ex3, hE⟩ := Option.bind_eq_some_iff.mp hE
  refine y_istore (ls' := [(4, .int x3), (0, .ref a0), (1, .int p1), (2, .int p2), (3, .int p3)]) dX3_leaveFrom_15 (by decide) (Option.some.inj ex3) rfl ?_
  refine y_iload_n dX3_leaveFrom_17 3 rfl ?_
  refine y_iconst (v := (3 : Int32)) dX3_leaveFrom_18 (by decide) ?_
  refine y_aload_n dX3_leaveFrom_19 1 rfl ?_
  obtain ⟨a4, ea4, hE⟩ := Option.bind_eq_some_iff.mp hE
  refine y_getR fl_X3_18 ea4 dX3_leaveFrom_20 ?_
  obtain ⟨x5, ex5, hE⟩ := Option.bind_eq_some_iff.mp hE
  refine y_getI fl_X3_47 ex5 dX3_leaveFrom_23 ?_
  refine y_iadd dX3_leaveFrom_26 ?_
  refine y_ishr dX3_leaveFrom_27 ?_
  obtain ⟨x6, ex6, hE⟩ := Option.bind_eq_some_iff.mp hE
  refine y_istore (ls' := [(5, .int x6), (4, .int x3), (0, .ref a0), (1, .int p1), (2, .int p2), (3, .int p3)]) dX3_leaveFrom_28 (by decide) (Option.some.inj ex6) rfl ?_
  refine y_aload_n dX3_leaveFrom_30 2 rfl ?_
  obtain ⟨a7, ea7, hE⟩ := Option.bind_eq_some_iff.mp hE
  refine y_getR fl_X3_18 ea7 dX3_leaveFrom_31 ?_
  obtain ⟨a8, ea8, hE⟩ := Option.bind_eq_some_iff.mp hE
  refine y_getR fl_X3_103 ea8 dX3_leaveFrom_34 ?_
  refine y_iload_n dX3_leaveFrom_37 3 rfl ?_
  obtain ⟨x9, ex9, hE⟩ := Option.bind_eq_some_iff.mp hE
  refine y_iald ex9 dX3_leaveFrom_38 ?_
  refine y_iload dX3_leaveFrom_39 1 rfl ?_
  refine y_iconst (v := (-1 : Int32)) dX3_leaveFrom_41 (by decide) ?_
  refine y_ixor dX3_leaveFrom_42 ?_
  refine y_iand dX3_leaveFrom_43 ?_
  obtain ⟨x10, ex10, hE⟩ := Option.bind_eq_some_iff.mp hE
  refine y_istore (ls' := [(6, .int x10), (5, .int x6), (4, .int x3), (0, .ref a0), (1, .int p1), (2, .int p2), (3, .int p3)]) dX3_leaveFrom_44 (by decide) (Option.some.inj ex10) rfl ?_
  refine y_iload dX3_leaveFrom_46 2 rfl ?_
  refine y_aload_n dX3_leaveFrom_48 3 rfl ?_
  obtain ⟨a11, ea11, hE⟩ := Option.bind_eq_some_iff.mp hE
  refine y_getR fl_X3_18 ea11 dX3_leaveFrom_49 ?_
  obtain ⟨a12, ea12, hE⟩ := Option.bind_eq_some_iff.mp hE
  refine y_getR fl_X3_106 ea12 dX3_leaveFrom_52 ?_
  refine y_iload_n dX3_leaveFrom_55 4 rfl ?_
  obtain ⟨x13, ex13, hE⟩ := Option.bind_eq_some_iff.mp hE
  refine y_iald ex13 dX3_leaveFrom_56 ?_
  refine y_aload_n dX3_leaveFrom_57 3 rfl ?_
  obtain ⟨a14, ea14, hE⟩ := Option.bind_eq_some_iff.mp hE
  refine y_getR fl_X3_18 ea14 dX3_leaveFrom_58 ?_
  obtain ⟨x15, ex15, hE⟩ := Option.bind_eq_some_iff.mp hE
  refine y_getI fl_X3_109 ex15 dX3_leaveFrom_61 ?_
  refine y_ior dX3_leaveFrom_64 ?_
  refine y_iand dX3_leaveFrom_65 ?_
  obtain ⟨x16, ex16, hE⟩ := Option.bind_eq_some_iff.mp hE
  refine y_istore (ls' := [(7, .int x16), (6, .int x10), (5, .int x6), (4, .int x3), (0, .ref a0), (1, .int p1), (2, .int p2), (3, .int p3)]) dX3_leaveFrom_66 (by decide) (Option.some.inj ex16) rfl ?_
  refine y_iload dX3_leaveFrom_68 1 rfl ?_
  refine y_if_eq (tgt := 92) dX3_leaveFrom_70 (by decide) (fun hc49 => ?_) (fun hc49 => ?_)
  · rw [if_pos hc49] at hE
    obtain rfl := Option.some.inj hE
    exact y_ret dX3_leaveFrom_92 (Nat.le_refl _) (Nat.le_refl _) rfl
  · rw [if_neg hc49] at hE
    refine y_aload_n dX3_leaveFrom_73 4 rfl ?_
    obtain ⟨a17, ea17, hE⟩ := Option.bind_eq_some_iff.mp hE
    refine y_getR fl_X3_18 ea17 dX3_leaveFrom_74 ?_
    refine y_iload dX3_leaveFrom_77 0 rfl ?_
    obtain ⟨u18, eu18, hE⟩ := Option.bind_eq_some_iff.mp hE
    obtain ⟨q19, eq19, hE⟩ := Option.bind_eq_some_iff.mp hE
    refine y_cVi0 (st := []) (as := [.int x16]) (c_X2_weigh eq19) lk_X3_112 in_X2_weigh se_X2_weigh rfl eu18 ⟨Nat.le_of_ble_eq_true rfl, Nat.le_of_ble_eq_true rfl⟩ (Nat.le_of_ble_eq_true rfl) dX3_leaveFrom_79 ⟨Nat.le_refl _, Nat.le_refl _⟩ rfl ?_
    refine y_aload_n dX3_leaveFrom_82 4 rfl ?_
    obtain ⟨a20, ea20, hE⟩ := Option.bind_eq_some_iff.mp hE
    refine y_getR fl_X3_18 ea20 dX3_leaveFrom_83 ?_
    obtain ⟨x21, ex21, hE⟩ := Option.bind_eq_some_iff.mp hE
    refine y_getI fl_X3_115 ex21 dX3_leaveFrom_86 ?_
    refine y_icmp_ge (tgt := 93) dX3_leaveFrom_89 (by decide) (fun hc48 => ?_) (fun hc48 => ?_)
    · rw [if_pos hc48] at hE
      refine y_aload_n dX3_leaveFrom_93 4 rfl ?_
      obtain ⟨a22, ea22, hE⟩ := Option.bind_eq_some_iff.mp hE
      refine y_getR fl_X3_18 ea22 dX3_leaveFrom_94 ?_
      refine y_iload dX3_leaveFrom_97 3 rfl ?_
      refine y_iload_n dX3_leaveFrom_99 6 rfl ?_
      refine y_bipush (v := (7 : Int32)) dX3_leaveFrom_100 (by decide) ?_
      refine y_iand dX3_leaveFrom_102 ?_
      obtain ⟨u23, eu23, hE⟩ := Option.bind_eq_some_iff.mp hE
      obtain ⟨q24, eq24, hE⟩ := Option.bind_eq_some_iff.mp hE
      refine y_cVi0 (st := []) (as := [.int x3, .int (p2 &&& (7 : Int32))]) (c_X2_partOf eq24) lk_X3_50 in_X2_partOf se_X2_partOf rfl eu23 ⟨Nat.le_of_ble_eq_true rfl, Nat.le_of_ble_eq_true rfl⟩ (Nat.le_of_ble_eq_true rfl) dX3_leaveFrom_103 ⟨Nat.le_refl _, Nat.le_refl _⟩ rfl ?_
      refine y_iload_n dX3_leaveFrom_106 5 rfl ?_
      refine y_ishr dX3_leaveFrom_107 ?_
      refine y_iconst (v := (1 : Int32)) dX3_leaveFrom_108 (by decide) ?_
      refine y_iand dX3_leaveFrom_109 ?_
      refine y_if_ne (tgt := 114) dX3_leaveFrom_110 (by decide) (fun hc47 => ?_) (fun hc47 => ?_)
      · rw [if_pos hc47] at hE
        obtain rfl := Option.some.inj hE
        exact y_ret dX3_leaveFrom_113 (Nat.le_refl _) (Nat.le_refl _) rfl
      · rw [if_neg hc47] at hE
        refine y_iconst (v := (0 : Int32)) dX3_leaveFrom_114 (by decide) ?_
        refine y_istore (ls' := [(8, .int (0 : Int32)), (7, .int x16), (6, .int x10), (5, .int x6), (4, .int x3), (0, .ref a0), (1, .int p1), (2, .int p2), (3, .int p3)]) dX3_leaveFrom_115 (by decide) rfl rfl ?_
        obtain ⟨q46, eq46, hE⟩ := Option.bind_eq_some_iff.mp hE
        refine y_pick [5, 6, 8, 4, 3, 2, 1, 0] rfl ?_
        refine l_X3_leaveFrom_117 (S := S) ⟨Nat.le_refl _, Nat.le_refl _⟩ n a0 p1 p3 x3 x6 x10 x16 n (0 : Int32) q24.2 _ eq46 (fun r8 hr8 => ?_)
        subst hr8
        obtain rfl := Option.some.inj hE
        exact y_ret dX3_leaveFrom_219 (Nat.le_refl _) (Nat.le_refl _) rfl
    · rw [if_neg hc48] at hE
      obtain rfl := Option.some.inj hE
      exact y_ret dX3_leaveFrom_92 (Nat.le_refl _) (Nat.le_refl _) rfl
def f_X3_spread_L68 (n : Nat) (v0 : Nat) (v3 : Int32) (v4 : Int32) (v5 : Int32) : Nat → Int32 → xH → Option (xH)
  | 0, _, _ => none
  | k + 1, v6, h =>
    if (8 : Int32) ≤ v6 then
      some h
    else
      (x_gR h v0 3 4).bind fun a11 =>
      (x_ld h a11 v4).bind fun x12 =>
      (x_gR h v0 3 4).bind fun a13 =>
      (x_ld h a13 v4).bind fun x14 =>
      (x_ob h v0 3).bind fun u15 =>
      (f_X3_leaveFrom n h v0 v6 (x12 &&& (16383 : Int32)) (i_shr x14 (14 : Int32))).bind fun q16 =>
      (some (v6 + (1 : Int32))).bind fun x17 =>
      f_X3_spread_L68 n v0 v3 v4 v5 k x17 q16
set_option maxRecDepth 100000 in
set_option maxHeartbeats 4000000 in
theorem l_X3_spread_68 {S : Nat × (Nat → Int32)} {rv : Option Value} {h0 h1 : xH} {mc ms : Nat} {cells slots : Nat} (hm : cells ≤ mc ∧ slots ≤ ms) (n : Nat) (v0 : Nat) (v3 : Int32) (v4 : Int32) (v5 : Int32) : ∀ (k : Nat) (v6 : Int32) (h : xH) (res : xH), f_X3_spread_L68 n v0 v3 v4 v5 k v6 h = some res → (∀ r9, res = r9 → Y S M_X3_spread h0 rv h1 mc ms 108 [(0, .ref v0), (3, .int v3), (4, .int v4), (5, .int v5)] [] r9 cells slots) → Y S M_X3_spread h0 rv h1 mc ms 68 [(0, .ref v0), (3, .int v3), (4, .int v4), (5, .int v5), (6, .int v6)] [] h cells slots := by
  intro k
  induction k with
  | zero =>
    intro _ _ _ hE
    cases hE
  | succ k ih =>
    intro v6 h res hE K
    unfold f_X3_spread_L68 at hE
    refine y_iload dX3_spread_68 4 rfl ?_
    refine y_bipush (v := (8 : Int32)) dX3_spread_70 (by decide) ?_
    refine y_icmp_ge (tgt := 108) dX3_spread_72 (by decide) (fun hc18 => ?_) (fun hc18 => ?_)
    · rw [if_pos hc18] at hE
      obtain rfl := Option.some.inj hE
      exact y_pick [0, 1, 2, 3] rfl (K _ rfl)
    · rw [if_neg hc18] at hE
      refine y_aload_n dX3_spread_75 0 rfl ?_
      refine y_iload dX3_spread_76 4 rfl ?_
      refine y_aload_n dX3_spread_78 0 rfl ?_
      obtain ⟨a11, ea11, hE⟩ := Option.bind_eq_some_iff.mp hE
      refine y_getR fl_X3_25 ea11 dX3_spread_79 ?_
      refine y_iload dX3_spread_82 2 rfl ?_
      obtain ⟨x12, ex12, hE⟩ := Option.bind_eq_some_iff.mp hE
      refine y_iald ex12 dX3_spread_84 ?_
      refine y_sipush (v := (16383 : Int32)) dX3_spread_85 (by decide) ?_
      refine y_iand dX3_spread_88 ?_
      refine y_aload_n dX3_spread_89 0 rfl ?_
      obtain ⟨a13, ea13, hE⟩ := Option.bind_eq_some_iff.mp hE
      refine y_getR fl_X3_25 ea13 dX3_spread_90 ?_
      refine y_iload dX3_spread_93 2 rfl ?_
      obtain ⟨x14, ex14, hE⟩ := Option.bind_eq_some_iff.mp hE
      refine y_iald ex14 dX3_spread_95 ?_
      refine y_bipush (v := (14 : Int32)) dX3_spread_96 (by decide) ?_
      refine y_ishr dX3_spread_98 ?_
      obtain ⟨u15, eu15, hE⟩ := Option.bind_eq_some_iff.mp hE
      obtain ⟨q16, eq16, hE⟩ := Option.bind_eq_some_iff.mp hE
      refine y_cVv0 (st := []) (as := [.int v6, .int (x12 &&& (16383 : Int32)), .int (i_shr x14 (14 : Int32))]) (c_X3_leaveFrom eq16) lk_X3_99 in_X3_leaveFrom se_X3_leaveFrom rfl eu15 ⟨Nat.le_of_ble_eq_true rfl, Nat.le_of_ble_eq_true rfl⟩ (Nat.le_of_ble_eq_true rfl) dX3_spread_99 hm rfl ?_
      obtain ⟨x17, ex17, hE⟩ := Option.bind_eq_some_iff.mp hE
      refine y_iinc (ls' := [(6, .int x17), (0, .ref v0), (3, .int v3), (4, .int v4), (5, .int v5)]) dX3_spread_102 4 rfl (Option.some.inj ex17) (by decide) rfl ?_
      refine y_goto (tgt := 68) dX3_spread_105 (by decide) ?_
      refine y_pick [1, 2, 3, 4, 0] rfl ?_
      exact ih _ _ _ hE K
def f_X3_spread_L56 (n : Nat) (v0 : Nat) (v3 : Int32) (v5 : Int32) : Nat → Int32 → xH → Option (Int32 × xH)
  | 0, _, _ => none
  | k + 1, v4, h =>
    (x_gI h v0 3 7).bind fun x10 =>
    if x10 ≤ v4 then
      some (v4, h)
    else
      (f_X3_spread_L68 n v0 v3 v4 v5 n (0 : Int32) h).bind fun q19 =>
      (some (v4 + (1 : Int32))).bind fun x20 =>
      f_X3_spread_L56 n v0 v3 v5 k x20 q19
set_option maxRecDepth 100000 in
set_option maxHeartbeats 4000000 in
theorem l_X3_spread_56 {S : Nat × (Nat → Int32)} {rv : Option Value} {h0 h1 : xH} {mc ms : Nat} {cells slots : Nat} (hm : cells ≤ mc ∧ slots ≤ ms) (n : Nat) (v0 : Nat) (v3 : Int32) (v5 : Int32) : ∀ (k : Nat) (v4 : Int32) (h : xH) (res : Int32 × xH), f_X3_spread_L56 n v0 v3 v5 k v4 h = some res → (∀ r9, res = r9 → Y S M_X3_spread h0 rv h1 mc ms 114 [(0, .ref v0), (3, .int v3), (4, .int r9.1), (5, .int v5)] [] r9.2 cells slots) → Y S M_X3_spread h0 rv h1 mc ms 56 [(0, .ref v0), (3, .int v3), (4, .int v4), (5, .int v5)] [] h cells slots := by
  intro k
  induction k with
  | zero =>
    intro _ _ _ hE
    cases hE
  | succ k ih =>
    intro v4 h res hE K
    unfold f_X3_spread_L56 at hE
    refine y_iload dX3_spread_56 2 rfl ?_
    refine y_aload_n dX3_spread_58 0 rfl ?_
    obtain ⟨x10, ex10, hE⟩ := Option.bind_eq_some_iff.mp hE
    refine y_getI fl_X3_88 ex10 dX3_spread_59 ?_
    refine y_icmp_ge (tgt := 114) dX3_spread_62 (by decide) (fun hc21 => ?_) (fun hc21 => ?_)
    · rw [if_pos hc21] at hE
      obtain rfl := Option.some.inj hE
      exact y_pick [0, 1, 2, 3] rfl (K _ rfl)
    · rw [if_neg hc21] at hE
      refine y_iconst (v := (0 : Int32)) dX3_spread_65 (by decide) ?_
      refine y_istore (ls' := [(6, .int (0 : Int32)), (0, .ref v0), (3, .int v3), (4, .int v4), (5, .int v5)]) dX3_spread_66 (by decide) rfl rfl ?_
      obtain ⟨q19, eq19, hE⟩ := Option.bind_eq_some_iff.mp hE
      refine y_pick [1, 2, 3, 4, 0] rfl ?_
      refine l_X3_spread_68 (S := S) hm n v0 v3 v4 v5 n (0 : Int32) h _ eq19 (fun r8 hr8 => ?_)
      subst hr8
      obtain ⟨x20, ex20, hE⟩ := Option.bind_eq_some_iff.mp hE
      refine y_iinc (ls' := [(4, .int x20), (0, .ref v0), (3, .int v3), (5, .int v5)]) dX3_spread_108 2 rfl (Option.some.inj ex20) (by decide) rfl ?_
      refine y_goto (tgt := 56) dX3_spread_111 (by decide) ?_
      refine y_pick [1, 2, 0, 3] rfl ?_
      exact ih _ _ _ hE K
def f_X3_spread_L14 (n : Nat) (v0 : Nat) (v3 : Int32) : Nat → Int32 → Int32 → xH → Option (Int32 × xH)
  | 0, _, _, _ => none
  | k + 1, v4, v5, h =>
    (x_gI h v0 3 8).bind fun x3 =>
    if x3 = 0 then
      (x_gI h v0 3 6).bind fun x4 =>
      if x4 ≤ v4 then
        some (v5, h)
      else
        (x_gI h v0 3 10).bind fun x5 =>
        if x5 = v3 then
          some (v5, h)
        else
          (x_gR h v0 3 4).bind fun a6 =>
          (x_len h a6).bind fun x7 =>
          if x7 ≤ v5 then
            some (v5, h)
          else
            (x_gI h v0 3 6).bind fun x8 =>
            (x_put h v0 3 7 (.int x8)).bind fun h9 =>
            (f_X3_spread_L56 n v0 v3 v5 n v4 h9).bind fun q22 =>
            (some (v5 + (1 : Int32))).bind fun x23 =>
            f_X3_spread_L14 n v0 v3 k q22.1 x23 q22.2
    else
      some (v5, h)
set_option maxRecDepth 100000 in
set_option maxHeartbeats 4000000 in
theorem l_X3_spread_14 {S : Nat × (Nat → Int32)} {rv : Option Value} {h0 h1 : xH} {mc ms : Nat} {cells slots : Nat} (hm : cells ≤ mc ∧ slots ≤ ms) (n : Nat) (v0 : Nat) (v3 : Int32) : ∀ (k : Nat) (v4 : Int32) (v5 : Int32) (h : xH) (res : Int32 × xH), f_X3_spread_L14 n v0 v3 k v4 v5 h = some res → (∀ r9, res = r9 → Y S M_X3_spread h0 rv h1 mc ms 120 [(0, .ref v0), (5, .int r9.1)] [] r9.2 cells slots) → Y S M_X3_spread h0 rv h1 mc ms 14 [(0, .ref v0), (3, .int v3), (4, .int v4), (5, .int v5)] [] h cells slots := by
  intro k
  induction k with
  | zero =>
    intro _ _ _ _ hE
    cases hE
  | succ k ih =>
    intro v4 v5 h res hE K
    unfold f_X3_spread_L14 at hE
    refine y_aload_n dX3_spread_14 0 rfl ?_
    obtain ⟨x3, ex3, hE⟩ := Option.bind_eq_some_iff.mp hE
    refine y_getI fl_X3_91 ex3 dX3_spread_15 ?_
    refine y_if_ne (tgt := 120) dX3_spread_18 (by decide) (fun hc27 => ?_) (fun hc27 => ?_)
    · rw [if_pos hc27] at hE
      refine y_iload dX3_spread_21 2 rfl ?_
      refine y_aload_n dX3_spread_23 0 rfl ?_
      obtain ⟨x4, ex4, hE⟩ := Option.bind_eq_some_iff.mp hE
      refine y_getI fl_X3_85 ex4 dX3_spread_24 ?_
      refine y_icmp_ge (tgt := 120) dX3_spread_27 (by decide) (fun hc26 => ?_) (fun hc26 => ?_)
      · rw [if_pos hc26] at hE
        obtain rfl := Option.some.inj hE
        exact y_pick [0, 3] rfl (K _ rfl)
      · rw [if_neg hc26] at hE
        refine y_aload_n dX3_spread_30 0 rfl ?_
        obtain ⟨x5, ex5, hE⟩ := Option.bind_eq_some_iff.mp hE
        refine y_getI fl_X3_68 ex5 dX3_spread_31 ?_
        refine y_iload_n dX3_spread_34 1 rfl ?_
        refine y_icmp_eq (tgt := 120) dX3_spread_35 (by decide) (fun hc25 => ?_) (fun hc25 => ?_)
        · rw [if_pos hc25] at hE
          obtain rfl := Option.some.inj hE
          exact y_pick [0, 3] rfl (K _ rfl)
        · rw [if_neg hc25] at hE
          refine y_iload dX3_spread_38 3 rfl ?_
          refine y_aload_n dX3_spread_40 0 rfl ?_
          obtain ⟨a6, ea6, hE⟩ := Option.bind_eq_some_iff.mp hE
          refine y_getR fl_X3_25 ea6 dX3_spread_41 ?_
          obtain ⟨x7, ex7, hE⟩ := Option.bind_eq_some_iff.mp hE
          refine y_alen ex7 dX3_spread_44 ?_
          refine y_icmp_ge (tgt := 120) dX3_spread_45 (by decide) (fun hc24 => ?_) (fun hc24 => ?_)
          · rw [if_pos hc24] at hE
            obtain rfl := Option.some.inj hE
            exact y_pick [0, 3] rfl (K _ rfl)
          · rw [if_neg hc24] at hE
            refine y_aload_n dX3_spread_48 0 rfl ?_
            refine y_aload_n dX3_spread_49 0 rfl ?_
            obtain ⟨x8, ex8, hE⟩ := Option.bind_eq_some_iff.mp hE
            refine y_getI fl_X3_85 ex8 dX3_spread_50 ?_
            obtain ⟨h9, eh9, hE⟩ := Option.bind_eq_some_iff.mp hE
            refine y_putI fp_X3_88 eh9 dX3_spread_53 ?_
            obtain ⟨q22, eq22, hE⟩ := Option.bind_eq_some_iff.mp hE
            refine y_pick [0, 1, 2, 3] rfl ?_
            refine l_X3_spread_56 (S := S) hm n v0 v3 v5 n v4 h9 _ eq22 (fun r8 hr8 => ?_)
            subst hr8
            obtain ⟨x23, ex23, hE⟩ := Option.bind_eq_some_iff.mp hE
            refine y_iinc (ls' := [(5, .int x23), (0, .ref v0), (3, .int v3), (4, .int q22.1)]) dX3_spread_114 3 rfl (Option.some.inj ex23) (by decide) rfl ?_
            refine y_goto (tgt := 14) dX3_spread_117 (by decide) ?_
            refine y_pick [1, 2, 3, 0] rfl ?_
            exact ih _ _ _ _ hE K
    · rw [if_neg hc27] at hE
      obtain rfl := Option.some.inj hE
      exact y_pick [0, 3] rfl (K _ rfl)
def f_X3_spread (n : Nat) (h : xH) (a0 : Nat) (p1 : Int32) (p2 : Int32) (p3 : Int32) : Option (Int32 × xH) :=
  (x_ob h a0 3).bind fun u1 =>
  (f_X3_arrive n h a0 p1 p2 (0 : Int32) (0 : Int32)).bind fun q2 =>
  (f_X3_spread_L14 n a0 p3 n (0 : Int32) (0 : Int32) q2).bind fun q28 =>
  (x_gI q28.2 a0 3 5).bind fun x29 =>
  (x_gI q28.2 a0 3 6).bind fun x30 =>
  (x_put q28.2 a0 3 5 (.int (x29 + x30))).bind fun h31 =>
  (x_gI h31 a0 3 8).bind fun x32 =>
  if x32 = 0 then
    some ((-1 : Int32), h31)
  else
    some (q28.1, h31)
set_option maxRecDepth 100000 in
set_option maxHeartbeats 4000000 in
theorem c_X3_spread {n : Nat} {h : xH} {a0 : Nat} {p1 : Int32} {p2 : Int32} {p3 : Int32} {r9 : Int32} {hz : xH} (hE : f_X3_spread n h a0 p1 p2 p3 = some (r9, hz)) : Ctr M_X3_spread [.ref a0, .int p1, .int p2, .int p3] h (some (.int r9)) hz 0 0 := by
  refine ctr_of (by decide) (fun _ _ => Nat.le_of_ble_eq_true rfl) (fun S => ?_)
  show Y S M_X3_spread h (some (.int r9)) hz 0 0 0 [(0, .ref a0), (1, .int p1), (2, .int p2), (3, .int p3)] [] h 0 0
  unfold f_X3_spread at hE
  refine y_aload_n dX3_spread_0 0 rfl ?_
  refine y_iload_n dX3_spread_1 1 rfl ?_
  refine y_iload_n dX3_spread_2 2 rfl ?_
  refine y_iconst (v := (0 : Int32)) dX3_spread_3 (by decide) ?_
  refine y_iconst (v := (0 : Int32)) dX3_spread_4 (by decide) ?_
  obtain ⟨u1, eu1, hE⟩ := Option.bind_eq_some_iff.mp hE
  obtain ⟨q2, eq2, hE⟩ := Option.bind_eq_some_iff.mp hE
  refine y_cVv0 (st := []) (as := [.int p1, .int p2, .int (0 : Int32), .int (0 : Int32)]) (c_X3_arrive eq2) lk_X3_95 in_X3_arrive se_X3_arrive rfl eu1 ⟨Nat.le_of_ble_eq_true rfl, Nat.le_of_ble_eq_true rfl⟩ (Nat.le_of_ble_eq_true rfl) dX3_spread_5 ⟨Nat.le_refl _, Nat.le_refl _⟩ rfl ?_
  refine y_iconst (v := (0 : Int32)) dX3_spread_8 (by decide) ?_
  refine y_istore (ls' := [(4, .int (0 : Int32)), (0, .ref a0), (1, .int p1), (2, .int p2), (3, .int p3)]) dX3_spread_9 (by decide) rfl rfl ?_
  refine y_iconst (v := (0 : Int32)) dX3_spread_11 (by decide) ?_
  refine y_istore (ls' := [(5, .int (0 : Int32)), (4, .int (0 : Int32)), (0, .ref a0), (1, .int p1), (2, .int p2), (3, .int p3)]) dX3_spread_12 (by decide) rfl rfl ?_
  obtain ⟨q28, eq28, hE⟩ := Option.bind_eq_some_iff.mp hE
  refine y_pick [2, 5, 1, 0] rfl ?_
  refine l_X3_spread_14 (S := S) ⟨Nat.le_refl _, Nat.le_refl _⟩ n a0 p3 n (0 : Int32) (0 : Int32) q2 _ eq28 (fun r8 hr8 => ?_)
  subst hr8
  refine y_aload_n dX3_spread_120 0 rfl ?_
  refine y_dup dX3_spread_121 rfl ?_
  obtain ⟨x29, ex29, hE⟩ := Option.bind_eq_some_iff.mp hE
  refine y_getI fl_X3_28 ex29 dX3_spread_122 ?_
  refine y_aload_n dX3_spread_125 0 rfl ?_
  obtain ⟨x30, ex30, hE⟩ := Option.bind_eq_some_iff.mp hE
  refine y_getI fl_X3_85 ex30 dX3_spread_126 ?_
  refine y_iadd dX3_spread_129 ?_
  obtain ⟨h31, eh31, hE⟩ := Option.bind_eq_some_iff.mp hE
  refine y_putI fp_X3_28 eh31 dX3_spread_130 ?_
  refine y_aload_n dX3_spread_133 0 rfl ?_
  obtain ⟨x32, ex32, hE⟩ := Option.bind_eq_some_iff.mp hE
  refine y_getI fl_X3_91 ex32 dX3_spread_134 ?_
  refine y_if_eq (tgt := 145) dX3_spread_137 (by decide) (fun hc33 => ?_) (fun hc33 => ?_)
  · rw [if_pos hc33] at hE
    refine y_iconst (v := (-1 : Int32)) dX3_spread_145 (by decide) ?_
    obtain ⟨rfl, rfl⟩ := x_inj2 hE
    exact y_ret dX3_spread_146 (Nat.le_refl _) (Nat.le_refl _) ⟨_, rfl, rfl⟩
  · rw [if_neg hc33] at hE
    refine y_iload dX3_spread_140 1 rfl ?_
    refine y_goto (tgt := 146) dX3_spread_142 (by decide) ?_
    obtain ⟨rfl, rfl⟩ := x_inj2 hE
    exact y_ret dX3_spread_146 (Nat.le_refl _) (Nat.le_refl _) ⟨_, rfl, rfl⟩
def f_X3_fewestFor_L44 (h : xH) (v0 : Nat) (v1 : Nat) (v3 : Int32) (v4 : Int32) : Nat → Int32 → Option (Sum (Int32) (Unit))
  | 0, _ => none
  | k + 1, v5 =>
    (x_gI h v0 3 1).bind fun x17 =>
    if x17 ≤ v5 then
      some (.inr ())
    else
      (x_gR h v0 3 0).bind fun a18 =>
      (x_ld h a18 v5).bind fun x19 =>
      if ((i_shr v4 x19) &&& (1 : Int32)) = 0 then
        some (.inl (-1 : Int32))
      else
        (some (v5 + (1 : Int32))).bind fun x20 =>
        f_X3_fewestFor_L44 h v0 v1 v3 v4 k x20
set_option maxRecDepth 100000 in
set_option maxHeartbeats 4000000 in
theorem l_X3_fewestFor_44 {S : Nat × (Nat → Int32)} {rv : Option Value} {h0 h1 : xH} {mc ms : Nat} {cells slots : Nat} (hm : cells ≤ mc ∧ slots ≤ ms) (h : xH) (v0 : Nat) (v1 : Nat) (v3 : Int32) (v4 : Int32) : ∀ (k : Nat) (v5 : Int32) (res : Sum (Int32) (Unit)), f_X3_fewestFor_L44 h v0 v1 v3 v4 k v5 = some res → (∀ r9, res = .inl r9 → rv = some (.int r9) ∧ h1 = h) → (∀ r9, res = .inr r9 → Y S M_X3_fewestFor h0 rv h1 mc ms 76 [(0, .ref v0), (1, .ref v1), (3, .int v3)] [] h cells slots) → Y S M_X3_fewestFor h0 rv h1 mc ms 44 [(0, .ref v0), (1, .ref v1), (3, .int v3), (4, .int v4), (5, .int v5)] [] h cells slots := by
  intro k
  induction k with
  | zero =>
    intro _ _ hE
    cases hE
  | succ k ih =>
    intro v5 res hE KR K
    unfold f_X3_fewestFor_L44 at hE
    refine y_iload dX3_fewestFor_44 4 rfl ?_
    refine y_aload_n dX3_fewestFor_46 0 rfl ?_
    obtain ⟨x17, ex17, hE⟩ := Option.bind_eq_some_iff.mp hE
    refine y_getI fl_X3_32 ex17 dX3_fewestFor_47 ?_
    refine y_icmp_ge (tgt := 76) dX3_fewestFor_50 (by decide) (fun hc22 => ?_) (fun hc22 => ?_)
    · rw [if_pos hc22] at hE
      obtain rfl := Option.some.inj hE
      exact y_pick [0, 1, 2] rfl (K _ rfl)
    · rw [if_neg hc22] at hE
      refine y_iload dX3_fewestFor_53 3 rfl ?_
      refine y_aload_n dX3_fewestFor_55 0 rfl ?_
      obtain ⟨a18, ea18, hE⟩ := Option.bind_eq_some_iff.mp hE
      refine y_getR fl_X3_11 ea18 dX3_fewestFor_56 ?_
      refine y_iload dX3_fewestFor_59 4 rfl ?_
      obtain ⟨x19, ex19, hE⟩ := Option.bind_eq_some_iff.mp hE
      refine y_iald ex19 dX3_fewestFor_61 ?_
      refine y_ishr dX3_fewestFor_62 ?_
      refine y_iconst (v := (1 : Int32)) dX3_fewestFor_63 (by decide) ?_
      refine y_iand dX3_fewestFor_64 ?_
      refine y_if_ne (tgt := 70) dX3_fewestFor_65 (by decide) (fun hc21 => ?_) (fun hc21 => ?_)
      · rw [if_pos hc21] at hE
        refine y_iconst (v := (-1 : Int32)) dX3_fewestFor_68 (by decide) ?_
        obtain rfl := Option.some.inj hE
        obtain ⟨rfl, rfl⟩ := KR _ rfl
        exact y_ret dX3_fewestFor_69 hm.1 hm.2 ⟨_, rfl, rfl⟩
      · rw [if_neg hc21] at hE
        obtain ⟨x20, ex20, hE⟩ := Option.bind_eq_some_iff.mp hE
        refine y_iinc (ls' := [(5, .int x20), (0, .ref v0), (1, .ref v1), (3, .int v3), (4, .int v4)]) dX3_fewestFor_70 4 rfl (Option.some.inj ex20) (by decide) rfl ?_
        refine y_goto (tgt := 44) dX3_fewestFor_73 (by decide) ?_
        refine y_pick [1, 2, 3, 4, 0] rfl ?_
        exact ih _ _ hE KR K
def f_X3_fewestFor (n : Nat) (h : xH) (a0 : Nat) (o1 : Nat) (p2 : Int32) : Option ((Int32 × xH) × Nat × Nat) :=
  (x_gR h a0 3 2).bind fun a1 =>
  (x_ob h a1 2).bind fun u2 =>
  (f_X2_lay n h a1 o1 p2).bind fun q3 =>
  x_add q3.2.1 q3.2.2 <|
  (x_ob q3.1 a0 3).bind fun u6 =>
  (f_X3_begin q3.1 a0).bind fun q7 =>
  x_add q7.2.1 q7.2.2 <|
  (x_gR q7.1 o1 0 3).bind fun a10 =>
  (x_ld q7.1 a10 p2).bind fun x11 =>
  (x_gR q7.1 a0 3 2).bind fun a12 =>
  (x_gR q7.1 a0 3 2).bind fun a13 =>
  (x_gI q7.1 a13 2 6).bind fun x14 =>
  (x_ob q7.1 a12 2).bind fun u15 =>
  (f_X2_partOf n q7.1 a12 ((i_shl (1 : Int32) x14) - (1 : Int32)) x11).bind fun q16 =>
  (f_X3_fewestFor_L44 q16.2 a0 o1 x11 q16.1 n (0 : Int32)).bind fun q23 =>
  match q23 with
  | .inl r24 => some ((r24, q16.2), 0, 0)
  | .inr e25 =>
    (x_gI q16.2 o1 0 5).bind fun x26 =>
    (x_ob q16.2 a0 3).bind fun u27 =>
    (f_X3_spread n q16.2 a0 x26 x11 (0 : Int32)).bind fun q28 =>
    some ((q28.1, q28.2), 0, 0)
set_option maxRecDepth 100000 in
set_option maxHeartbeats 4000000 in
theorem c_X3_fewestFor {n : Nat} {h : xH} {a0 : Nat} {o1 : Nat} {p2 : Int32} {r9 : Int32} {hz : xH} {c9 s9 : Nat} (hE : f_X3_fewestFor n h a0 o1 p2 = some ((r9, hz), c9, s9)) : Ctr M_X3_fewestFor [.ref a0, .ref o1, .int p2] h (some (.int r9)) hz c9 s9 := by
  refine ctr_of (by decide) (fun _ _ => Nat.le_of_ble_eq_true rfl) (fun S => ?_)
  show Y S M_X3_fewestFor h (some (.int r9)) hz c9 s9 0 [(0, .ref a0), (1, .ref o1), (2, .int p2)] [] h 0 0
  unfold f_X3_fewestFor at hE
  refine y_aload_n dX3_fewestFor_0 0 rfl ?_
  obtain ⟨a1, ea1, hE⟩ := Option.bind_eq_some_iff.mp hE
  refine y_getR fl_X3_18 ea1 dX3_fewestFor_1 ?_
  refine y_aload_n dX3_fewestFor_4 1 rfl ?_
  refine y_iload_n dX3_fewestFor_5 2 rfl ?_
  obtain ⟨u2, eu2, hE⟩ := Option.bind_eq_some_iff.mp hE
  obtain ⟨q3, eq3, hE⟩ := Option.bind_eq_some_iff.mp hE
  obtain ⟨c4, s5, hN, ecc4, ess5⟩ := x_add.spec hE
  clear hE; have hE := hN; clear hN
  refine y_cVv1 (st := []) (as := [.ref o1, .int p2]) (c_X2_lay (eq3.trans (show some q3 = some (q3.1, q3.2.1, q3.2.2) from rfl))) lk_X3_35 in_X2_lay se_X2_lay rfl eu2 ⟨Nat.le_of_ble_eq_true rfl, Nat.le_of_ble_eq_true rfl⟩ (Nat.le_of_ble_eq_true rfl) dX3_fewestFor_6 ⟨by omega, by omega⟩ rfl ?_
  refine y_aload_n dX3_fewestFor_9 0 rfl ?_
  obtain ⟨u6, eu6, hE⟩ := Option.bind_eq_some_iff.mp hE
  obtain ⟨q7, eq7, hE⟩ := Option.bind_eq_some_iff.mp hE
  obtain ⟨c8, s9, hN, ecc8, ess9⟩ := x_add.spec hE
  clear hE; have hE := hN; clear hN
  refine y_cVv1 (st := []) (as := []) (c_X3_begin (eq7.trans (show some q7 = some (q7.1, q7.2.1, q7.2.2) from rfl))) lk_X3_39 in_X3_begin se_X3_begin rfl eu6 ⟨Nat.le_of_ble_eq_true rfl, Nat.le_of_ble_eq_true rfl⟩ (Nat.le_of_ble_eq_true rfl) dX3_fewestFor_10 ⟨by omega, by omega⟩ rfl ?_
  refine y_aload_n dX3_fewestFor_13 1 rfl ?_
  obtain ⟨a10, ea10, hE⟩ := Option.bind_eq_some_iff.mp hE
  refine y_getR fl_X3_42 ea10 dX3_fewestFor_14 ?_
  refine y_iload_n dX3_fewestFor_17 2 rfl ?_
  obtain ⟨x11, ex11, hE⟩ := Option.bind_eq_some_iff.mp hE
  refine y_iald ex11 dX3_fewestFor_18 ?_
  refine y_istore_n (ls' := [(3, .int x11), (0, .ref a0), (1, .ref o1), (2, .int p2)]) dX3_fewestFor_19 (by decide) rfl rfl ?_
  refine y_aload_n dX3_fewestFor_20 1 rfl ?_
  obtain ⟨a12, ea12, hE⟩ := Option.bind_eq_some_iff.mp hE
  refine y_getR fl_X3_18 ea12 dX3_fewestFor_21 ?_
  refine y_iconst (v := (1 : Int32)) dX3_fewestFor_24 (by decide) ?_
  refine y_aload_n dX3_fewestFor_25 1 rfl ?_
  obtain ⟨a13, ea13, hE⟩ := Option.bind_eq_some_iff.mp hE
  refine y_getR fl_X3_18 ea13 dX3_fewestFor_26 ?_
  obtain ⟨x14, ex14, hE⟩ := Option.bind_eq_some_iff.mp hE
  refine y_getI fl_X3_47 ex14 dX3_fewestFor_29 ?_
  refine y_ishl dX3_fewestFor_32 ?_
  refine y_iconst (v := (1 : Int32)) dX3_fewestFor_33 (by decide) ?_
  refine y_isub dX3_fewestFor_34 ?_
  refine y_iload_n dX3_fewestFor_35 0 rfl ?_
  obtain ⟨u15, eu15, hE⟩ := Option.bind_eq_some_iff.mp hE
  obtain ⟨q16, eq16, hE⟩ := Option.bind_eq_some_iff.mp hE
  refine y_cVi0 (st := []) (as := [.int ((i_shl (1 : Int32) x14) - (1 : Int32)), .int x11]) (c_X2_partOf eq16) lk_X3_50 in_X2_partOf se_X2_partOf rfl eu15 ⟨Nat.le_of_ble_eq_true rfl, Nat.le_of_ble_eq_true rfl⟩ (Nat.le_of_ble_eq_true rfl) dX3_fewestFor_36 ⟨by omega, by omega⟩ rfl ?_
  refine y_istore (ls' := [(4, .int q16.1), (3, .int x11), (0, .ref a0), (1, .ref o1), (2, .int p2)]) dX3_fewestFor_39 (by decide) rfl rfl ?_
  refine y_iconst (v := (0 : Int32)) dX3_fewestFor_41 (by decide) ?_
  refine y_istore (ls' := [(5, .int (0 : Int32)), (4, .int q16.1), (3, .int x11), (0, .ref a0), (1, .ref o1), (2, .int p2)]) dX3_fewestFor_42 (by decide) rfl rfl ?_
  obtain ⟨q23, eq23, hE⟩ := Option.bind_eq_some_iff.mp hE
  refine y_pick [3, 4, 2, 1, 0] rfl ?_
  cases q23 with
  | inl r24 =>
    dsimp only at hE
    cases hE
    exact l_X3_fewestFor_44 (S := S) ⟨by omega, by omega⟩ q16.2 a0 o1 x11 q16.1 n (0 : Int32) _ eq23 (fun r8 hr8 => by cases hr8; exact ⟨rfl, rfl⟩) (fun r8 hr8 => by cases hr8)
  | inr e25 =>
    dsimp only at hE
    refine l_X3_fewestFor_44 (S := S) ⟨by omega, by omega⟩ q16.2 a0 o1 x11 q16.1 n (0 : Int32) _ eq23 (fun r8 hr8 => by cases hr8) (fun r8 hr8 => ?_)
    cases hr8
    refine y_aload_n dX3_fewestFor_76 0 rfl ?_
    refine y_aload_n dX3_fewestFor_77 1 rfl ?_
    obtain ⟨x26, ex26, hE⟩ := Option.bind_eq_some_iff.mp hE
    refine y_getI fl_X3_54 ex26 dX3_fewestFor_78 ?_
    refine y_iload_n dX3_fewestFor_81 2 rfl ?_
    refine y_iconst (v := (0 : Int32)) dX3_fewestFor_82 (by decide) ?_
    obtain ⟨u27, eu27, hE⟩ := Option.bind_eq_some_iff.mp hE
    obtain ⟨q28, eq28, hE⟩ := Option.bind_eq_some_iff.mp hE
    refine y_cVi0 (st := []) (as := [.int x26, .int x11, .int (0 : Int32)]) (c_X3_spread eq28) lk_X3_57 in_X3_spread se_X3_spread rfl eu27 ⟨Nat.le_of_ble_eq_true rfl, Nat.le_of_ble_eq_true rfl⟩ (Nat.le_of_ble_eq_true rfl) dX3_fewestFor_83 ⟨by omega, by omega⟩ rfl ?_
    obtain ⟨rfl, rfl, rfl, rfl⟩ := x_inj4 hE
    exact y_ret dX3_fewestFor_86 (by omega) (by omega) ⟨_, rfl, rfl⟩
def f_X3_roomsFor (n : Nat) (h : xH) (a0 : Nat) (o1 : Nat) (p2 : Int32) : Option ((Int32 × xH) × Nat × Nat) :=
  (x_ob h a0 3).bind fun u1 =>
  (f_X3_forgetGoals h a0).bind fun q2 =>
  (x_ob q2 a0 3).bind fun u3 =>
  (f_X3_addGoal q2 a0 (8 : Int32)).bind fun q4 =>
  (x_gR q4 a0 3 2).bind fun a5 =>
  (x_ob q4 a5 2).bind fun u6 =>
  (f_X2_lay n q4 a5 o1 p2).bind fun q7 =>
  x_add q7.2.1 q7.2.2 <|
  (x_ob q7.1 a0 3).bind fun u10 =>
  (f_X3_begin q7.1 a0).bind fun q11 =>
  x_add q11.2.1 q11.2.2 <|
  (x_gR q11.1 o1 0 3).bind fun a14 =>
  (x_ld q11.1 a14 p2).bind fun x15 =>
  (x_gI q11.1 o1 0 5).bind fun x16 =>
  (x_gR q11.1 a0 3 2).bind fun a17 =>
  (x_gR q11.1 a0 3 2).bind fun a18 =>
  (x_gI q11.1 a18 2 6).bind fun x19 =>
  (x_ob q11.1 a17 2).bind fun u20 =>
  (f_X2_partOf n q11.1 a17 ((i_shl (1 : Int32) x19) - (1 : Int32)) x15).bind fun q21 =>
  (x_ob q21.2 a0 3).bind fun u22 =>
  (f_X3_spread n q21.2 a0 x16 x15 q21.1).bind fun q23 =>
  (x_gI q23.2 a0 3 10).bind fun x24 =>
  some ((x24, q23.2), 0, 0)
set_option maxRecDepth 100000 in
set_option maxHeartbeats 4000000 in
theorem c_X3_roomsFor {n : Nat} {h : xH} {a0 : Nat} {o1 : Nat} {p2 : Int32} {r9 : Int32} {hz : xH} {c9 s9 : Nat} (hE : f_X3_roomsFor n h a0 o1 p2 = some ((r9, hz), c9, s9)) : Ctr M_X3_roomsFor [.ref a0, .ref o1, .int p2] h (some (.int r9)) hz c9 s9 := by
  refine ctr_of (by decide) (fun _ _ => Nat.le_of_ble_eq_true rfl) (fun S => ?_)
  show Y S M_X3_roomsFor h (some (.int r9)) hz c9 s9 0 [(0, .ref a0), (1, .ref o1), (2, .int p2)] [] h 0 0
  unfold f_X3_roomsFor at hE
  refine y_aload_n dX3_roomsFor_0 0 rfl ?_
  obtain ⟨u1, eu1, hE⟩ := Option.bind_eq_some_iff.mp hE
  obtain ⟨q2, eq2, hE⟩ := Option.bind_eq_some_iff.mp hE
  refine y_cVv0 (st := []) (as := []) (c_X3_forgetGoals eq2) lk_X3_61 in_X3_forgetGoals se_X3_forgetGoals rfl eu1 ⟨Nat.le_of_ble_eq_true rfl, Nat.le_of_ble_eq_true rfl⟩ (Nat.le_of_ble_eq_true rfl) dX3_roomsFor_1 ⟨by omega, by omega⟩ rfl ?_
  refine y_aload_n dX3_roomsFor_4 0 rfl ?_
  refine y_bipush (v := (8 : Int32)) dX3_roomsFor_5 (by decide) ?_
  obtain ⟨u3, eu3, hE⟩ := Option.bind_eq_some_iff.mp hE
  obtain ⟨q4, eq4, hE⟩ := Option.bind_eq_some_iff.mp hE
  refine y_cVv0 (st := []) (as := [.int (8 : Int32)]) (c_X3_addGoal eq4) lk_X3_64 in_X3_addGoal se_X3_addGoal rfl eu3 ⟨Nat.le_of_ble_eq_true rfl, Nat.le_of_ble_eq_true rfl⟩ (Nat.le_of_ble_eq_true rfl) dX3_roomsFor_7 ⟨by omega, by omega⟩ rfl ?_
  refine y_aload_n dX3_roomsFor_10 0 rfl ?_
  obtain ⟨a5, ea5, hE⟩ := Option.bind_eq_some_iff.mp hE
  refine y_getR fl_X3_18 ea5 dX3_roomsFor_11 ?_
  refine y_aload_n dX3_roomsFor_14 1 rfl ?_
  refine y_iload_n dX3_roomsFor_15 2 rfl ?_
  obtain ⟨u6, eu6, hE⟩ := Option.bind_eq_some_iff.mp hE
  obtain ⟨q7, eq7, hE⟩ := Option.bind_eq_some_iff.mp hE
  obtain ⟨c8, s9, hN, ecc8, ess9⟩ := x_add.spec hE
  clear hE; have hE := hN; clear hN
  refine y_cVv1 (st := []) (as := [.ref o1, .int p2]) (c_X2_lay (eq7.trans (show some q7 = some (q7.1, q7.2.1, q7.2.2) from rfl))) lk_X3_35 in_X2_lay se_X2_lay rfl eu6 ⟨Nat.le_of_ble_eq_true rfl, Nat.le_of_ble_eq_true rfl⟩ (Nat.le_of_ble_eq_true rfl) dX3_roomsFor_16 ⟨by omega, by omega⟩ rfl ?_
  refine y_aload_n dX3_roomsFor_19 0 rfl ?_
  obtain ⟨u10, eu10, hE⟩ := Option.bind_eq_some_iff.mp hE
  obtain ⟨q11, eq11, hE⟩ := Option.bind_eq_some_iff.mp hE
  obtain ⟨c12, s13, hN, ecc12, ess13⟩ := x_add.spec hE
  clear hE; have hE := hN; clear hN
  refine y_cVv1 (st := []) (as := []) (c_X3_begin (eq11.trans (show some q11 = some (q11.1, q11.2.1, q11.2.2) from rfl))) lk_X3_39 in_X3_begin se_X3_begin rfl eu10 ⟨Nat.le_of_ble_eq_true rfl, Nat.le_of_ble_eq_true rfl⟩ (Nat.le_of_ble_eq_true rfl) dX3_roomsFor_20 ⟨by omega, by omega⟩ rfl ?_
  refine y_aload_n dX3_roomsFor_23 1 rfl ?_
  obtain ⟨a14, ea14, hE⟩ := Option.bind_eq_some_iff.mp hE
  refine y_getR fl_X3_42 ea14 dX3_roomsFor_24 ?_
  refine y_iload_n dX3_roomsFor_27 2 rfl ?_
  obtain ⟨x15, ex15, hE⟩ := Option.bind_eq_some_iff.mp hE
  refine y_iald ex15 dX3_roomsFor_28 ?_
  refine y_istore_n (ls' := [(3, .int x15), (0, .ref a0), (1, .ref o1), (2, .int p2)]) dX3_roomsFor_29 (by decide) rfl rfl ?_
  refine y_aload_n dX3_roomsFor_30 1 rfl ?_
  refine y_aload_n dX3_roomsFor_31 2 rfl ?_
  obtain ⟨x16, ex16, hE⟩ := Option.bind_eq_some_iff.mp hE
  refine y_getI fl_X3_54 ex16 dX3_roomsFor_32 ?_
  refine y_iload_n dX3_roomsFor_35 0 rfl ?_
  refine y_aload_n dX3_roomsFor_36 1 rfl ?_
  obtain ⟨a17, ea17, hE⟩ := Option.bind_eq_some_iff.mp hE
  refine y_getR fl_X3_18 ea17 dX3_roomsFor_37 ?_
  refine y_iconst (v := (1 : Int32)) dX3_roomsFor_40 (by decide) ?_
  refine y_aload_n dX3_roomsFor_41 1 rfl ?_
  obtain ⟨a18, ea18, hE⟩ := Option.bind_eq_some_iff.mp hE
  refine y_getR fl_X3_18 ea18 dX3_roomsFor_42 ?_
  obtain ⟨x19, ex19, hE⟩ := Option.bind_eq_some_iff.mp hE
  refine y_getI fl_X3_47 ex19 dX3_roomsFor_45 ?_
  refine y_ishl dX3_roomsFor_48 ?_
  refine y_iconst (v := (1 : Int32)) dX3_roomsFor_49 (by decide) ?_
  refine y_isub dX3_roomsFor_50 ?_
  refine y_iload_n dX3_roomsFor_51 0 rfl ?_
  obtain ⟨u20, eu20, hE⟩ := Option.bind_eq_some_iff.mp hE
  obtain ⟨q21, eq21, hE⟩ := Option.bind_eq_some_iff.mp hE
  refine y_cVi0 (st := [.int x15, .int x16, .ref a0]) (as := [.int ((i_shl (1 : Int32) x19) - (1 : Int32)), .int x15]) (c_X2_partOf eq21) lk_X3_50 in_X2_partOf se_X2_partOf rfl eu20 ⟨Nat.le_of_ble_eq_true rfl, Nat.le_of_ble_eq_true rfl⟩ (Nat.le_of_ble_eq_true rfl) dX3_roomsFor_52 ⟨by omega, by omega⟩ rfl ?_
  obtain ⟨u22, eu22, hE⟩ := Option.bind_eq_some_iff.mp hE
  obtain ⟨q23, eq23, hE⟩ := Option.bind_eq_some_iff.mp hE
  refine y_cVi0 (st := []) (as := [.int x16, .int x15, .int q21.1]) (c_X3_spread eq23) lk_X3_57 in_X3_spread se_X3_spread rfl eu22 ⟨Nat.le_of_ble_eq_true rfl, Nat.le_of_ble_eq_true rfl⟩ (Nat.le_of_ble_eq_true rfl) dX3_roomsFor_55 ⟨by omega, by omega⟩ rfl ?_
  refine y_pop dX3_roomsFor_58 rfl ?_
  refine y_aload_n dX3_roomsFor_59 1 rfl ?_
  obtain ⟨x24, ex24, hE⟩ := Option.bind_eq_some_iff.mp hE
  refine y_getI fl_X3_68 ex24 dX3_roomsFor_60 ?_
  obtain ⟨rfl, rfl, rfl, rfl⟩ := x_inj4 hE
  exact y_ret dX3_roomsFor_63 (by omega) (by omega) ⟨_, rfl, rfl⟩
def f_X3_leastFirst (h : xH) (a0 : Nat) : Option (Int32) :=
  (x_gI h a0 3 9).bind fun x1 =>
  if x1 = 0 then
    some (-1 : Int32)
  else
    (x_gI h a0 3 9).bind fun x2 =>
    (f_J6_numberOfTrailingZeros_0f7a4 x2).bind fun q3 =>
    some q3
set_option maxRecDepth 100000 in
set_option maxHeartbeats 4000000 in
theorem c_X3_leastFirst {h : xH} {a0 : Nat} {r9 : Int32} (hE : f_X3_leastFirst h a0 = some r9) : Ctr M_X3_leastFirst [.ref a0] h (some (.int r9)) h 0 0 := by
  refine ctr_of (by decide) (fun _ _ => Nat.le_of_ble_eq_true rfl) (fun S => ?_)
  show Y S M_X3_leastFirst h (some (.int r9)) h 0 0 0 [(0, .ref a0)] [] h 0 0
  unfold f_X3_leastFirst at hE
  refine y_aload_n dX3_leastFirst_0 0 rfl ?_
  obtain ⟨x1, ex1, hE⟩ := Option.bind_eq_some_iff.mp hE
  refine y_getI fl_X3_71 ex1 dX3_leastFirst_1 ?_
  refine y_if_ne (tgt := 11) dX3_leastFirst_4 (by decide) (fun hc4 => ?_) (fun hc4 => ?_)
  · rw [if_pos hc4] at hE
    refine y_iconst (v := (-1 : Int32)) dX3_leastFirst_7 (by decide) ?_
    refine y_goto (tgt := 18) dX3_leastFirst_8 (by decide) ?_
    obtain rfl := Option.some.inj hE
    exact y_ret dX3_leastFirst_18 (Nat.le_refl _) (Nat.le_refl _) ⟨_, rfl, rfl⟩
  · rw [if_neg hc4] at hE
    refine y_aload_n dX3_leastFirst_11 0 rfl ?_
    obtain ⟨x2, ex2, hE⟩ := Option.bind_eq_some_iff.mp hE
    refine y_getI fl_X3_71 ex2 dX3_leastFirst_12 ?_
    obtain ⟨q3, eq3, hE⟩ := Option.bind_eq_some_iff.mp hE
    refine y_cSi0 (st := []) (as := [.int x2]) (c_J6_numberOfTrailingZeros_0f7a4 eq3) lk_X3_74 st_J6_numberOfTrailingZeros_0f7a4 ⟨Nat.le_of_ble_eq_true rfl, Nat.le_of_ble_eq_true rfl⟩ (Nat.le_of_ble_eq_true rfl) dX3_leastFirst_15 ⟨Nat.le_refl _, Nat.le_refl _⟩ rfl ?_
    obtain rfl := Option.some.inj hE
    exact y_ret dX3_leastFirst_18 (Nat.le_refl _) (Nat.le_refl _) ⟨_, rfl, rfl⟩
def f_X4_init (h : xH) (a0 : Nat) : Option ((xH) × Nat × Nat) :=
  (x_put h a0 4 0 (.int (-1 : Int32))).bind fun h1 =>
  x_add 1 40 <|
  (x_put (h1 ++ [.inl (.long, 40, .inr (.inl (fun _ => 0)))]) a0 4 2 (.ref (h1.length + 16))).bind fun h4 =>
  some (h4, 0, 0)
set_option maxRecDepth 100000 in
set_option maxHeartbeats 4000000 in
theorem c_X4_init {h : xH} {a0 : Nat} {hz : xH} {c9 s9 : Nat} (hE : f_X4_init h a0 = some (hz, c9, s9)) : Ctr M_X4_init [.ref a0] h none hz c9 s9 := by
  refine ctr_of (by decide) (fun _ _ => Nat.le_of_ble_eq_true rfl) (fun S => ?_)
  show Y S M_X4_init h none hz c9 s9 0 [(0, .ref a0)] [] h 0 0
  unfold f_X4_init at hE
  refine y_aload_n dX4_init_0 0 rfl ?_
  refine y_objInit (x_wt (tb 240 (by decide +kernel)) rfl) (x_wt (tb 22 (by decide +kernel)) rfl) (x_wt (tb 23 (by decide +kernel)) rfl) (by decide) (Nat.le_of_ble_eq_true rfl) dX4_init_1 ?_
  refine y_aload_n dX4_init_4 0 rfl ?_
  refine y_iconst (v := (-1 : Int32)) dX4_init_5 (by decide) ?_
  obtain ⟨h1, eh1, hE⟩ := Option.bind_eq_some_iff.mp hE
  refine y_putI fp_X4_9 eh1 dX4_init_6 ?_
  refine y_aload_n dX4_init_9 0 rfl ?_
  refine y_bipush (v := (40 : Int32)) dX4_init_10 (by decide) ?_
  obtain ⟨c2, s3, hN, ecc2, ess3⟩ := x_add.spec hE
  clear hE; have hE := hN; clear hN
  refine y_newL (N := 40) (x_wt (tb 254 (by decide +kernel)) rfl) (by decide) (by decide) (by decide) ⟨by omega, by omega⟩ dX4_init_12 ?_
  obtain ⟨h4, eh4, hE⟩ := Option.bind_eq_some_iff.mp hE
  refine y_putR fp_X4_15 (fun q => by first | rfl | cases q) (fun _ => rfl) (fun _ => rfl) eh4 dX4_init_14 ?_
  obtain ⟨rfl, rfl, rfl⟩ := x_inj3 hE
  exact y_ret dX4_init_17 (by omega) (by omega) rfl
def f_X4_isEmpty (h : xH) (a0 : Nat) : Option (Int32) :=
  (x_gI h a0 4 0).bind fun x1 =>
  if x1 = (-1 : Int32) then
    some (1 : Int32)
  else
    some (0 : Int32)
set_option maxRecDepth 100000 in
set_option maxHeartbeats 4000000 in
theorem c_X4_isEmpty {h : xH} {a0 : Nat} {r9 : Int32} (hE : f_X4_isEmpty h a0 = some r9) : Ctr M_X4_isEmpty [.ref a0] h (some (.int r9)) h 0 0 := by
  refine ctr_of (by decide) (fun _ _ => Nat.le_of_ble_eq_true rfl) (fun S => ?_)
  show Y S M_X4_isEmpty h (some (.int r9)) h 0 0 0 [(0, .ref a0)] [] h 0 0
  unfold f_X4_isEmpty at hE
  refine y_aload_n dX4_isEmpty_0 0 rfl ?_
  obtain ⟨x1, ex1, hE⟩ := Option.bind_eq_some_iff.mp hE
  refine y_getI fl_X4_9 ex1 dX4_isEmpty_1 ?_
  refine y_iconst (v := (-1 : Int32)) dX4_isEmpty_4 (by decide) ?_
  refine y_icmp_ne (tgt := 12) dX4_isEmpty_5 (by decide) (fun hc2 => ?_) (fun hc2 => ?_)
  · rw [if_pos hc2] at hE
    refine y_iconst (v := (1 : Int32)) dX4_isEmpty_8 (by decide) ?_
    refine y_goto (tgt := 13) dX4_isEmpty_9 (by decide) ?_
    obtain rfl := Option.some.inj hE
    exact y_ret dX4_isEmpty_13 (Nat.le_refl _) (Nat.le_refl _) ⟨_, rfl, rfl⟩
  · rw [if_neg hc2] at hE
    refine y_iconst (v := (0 : Int32)) dX4_isEmpty_12 (by decide) ?_
    obtain rfl := Option.some.inj hE
    exact y_ret dX4_isEmpty_13 (Nat.le_refl _) (Nat.le_refl _) ⟨_, rfl, rfl⟩
def f_X4_holdsDoor (h : xH) (a0 : Nat) : Option (Int32) :=
  (x_gI h a0 4 0).bind fun x1 =>
  if x1 < (10 : Int32) then
    some (0 : Int32)
  else
    some (1 : Int32)
set_option maxRecDepth 100000 in
set_option maxHeartbeats 4000000 in
theorem c_X4_holdsDoor {h : xH} {a0 : Nat} {r9 : Int32} (hE : f_X4_holdsDoor h a0 = some r9) : Ctr M_X4_holdsDoor [.ref a0] h (some (.int r9)) h 0 0 := by
  refine ctr_of (by decide) (fun _ _ => Nat.le_of_ble_eq_true rfl) (fun S => ?_)
  show Y S M_X4_holdsDoor h (some (.int r9)) h 0 0 0 [(0, .ref a0)] [] h 0 0
  unfold f_X4_holdsDoor at hE
  refine y_aload_n dX4_holdsDoor_0 0 rfl ?_
  obtain ⟨x1, ex1, hE⟩ := Option.bind_eq_some_iff.mp hE
  refine y_getI fl_X4_9 ex1 dX4_holdsDoor_1 ?_
  refine y_bipush (v := (10 : Int32)) dX4_holdsDoor_4 (by decide) ?_
  refine y_icmp_lt (tgt := 13) dX4_holdsDoor_6 (by decide) (fun hc2 => ?_) (fun hc2 => ?_)
  · rw [if_pos hc2] at hE
    refine y_iconst (v := (0 : Int32)) dX4_holdsDoor_13 (by decide) ?_
    obtain rfl := Option.some.inj hE
    exact y_ret dX4_holdsDoor_14 (Nat.le_refl _) (Nat.le_refl _) ⟨_, rfl, rfl⟩
  · rw [if_neg hc2] at hE
    refine y_iconst (v := (1 : Int32)) dX4_holdsDoor_9 (by decide) ?_
    refine y_goto (tgt := 14) dX4_holdsDoor_10 (by decide) ?_
    obtain rfl := Option.some.inj hE
    exact y_ret dX4_holdsDoor_14 (Nat.le_refl _) (Nat.le_refl _) ⟨_, rfl, rfl⟩
def f_X4_heldDoor (h : xH) (a0 : Nat) : Option (Int32) :=
  (x_gI h a0 4 0).bind fun x1 =>
  some (x1 - (10 : Int32))
set_option maxRecDepth 100000 in
set_option maxHeartbeats 4000000 in
theorem c_X4_heldDoor {h : xH} {a0 : Nat} {r9 : Int32} (hE : f_X4_heldDoor h a0 = some r9) : Ctr M_X4_heldDoor [.ref a0] h (some (.int r9)) h 0 0 := by
  refine ctr_of (by decide) (fun _ _ => Nat.le_of_ble_eq_true rfl) (fun S => ?_)
  show Y S M_X4_heldDoor h (some (.int r9)) h 0 0 0 [(0, .ref a0)] [] h 0 0
  unfold f_X4_heldDoor at hE
  refine y_aload_n dX4_heldDoor_0 0 rfl ?_
  obtain ⟨x1, ex1, hE⟩ := Option.bind_eq_some_iff.mp hE
  refine y_getI fl_X4_9 ex1 dX4_heldDoor_1 ?_
  refine y_bipush (v := (10 : Int32)) dX4_heldDoor_4 (by decide) ?_
  refine y_isub dX4_heldDoor_6 ?_
  obtain rfl := Option.some.inj hE
  exact y_ret dX4_heldDoor_7 (Nat.le_refl _) (Nat.le_refl _) ⟨_, rfl, rfl⟩
def f_X4_clear (h : xH) (a0 : Nat) : Option (xH) :=
  (x_put h a0 4 0 (.int (-1 : Int32))).bind fun h1 =>
  (x_put h1 a0 4 1 (.int (0 : Int32))).bind fun h2 =>
  some h2
set_option maxRecDepth 100000 in
set_option maxHeartbeats 4000000 in
theorem c_X4_clear {h : xH} {a0 : Nat} {hz : xH} (hE : f_X4_clear h a0 = some hz) : Ctr M_X4_clear [.ref a0] h none hz 0 0 := by
  refine ctr_of (by decide) (fun _ _ => Nat.le_of_ble_eq_true rfl) (fun S => ?_)
  show Y S M_X4_clear h none hz 0 0 0 [(0, .ref a0)] [] h 0 0
  unfold f_X4_clear at hE
  refine y_aload_n dX4_clear_0 0 rfl ?_
  refine y_iconst (v := (-1 : Int32)) dX4_clear_1 (by decide) ?_
  obtain ⟨h1, eh1, hE⟩ := Option.bind_eq_some_iff.mp hE
  refine y_putI fp_X4_9 eh1 dX4_clear_2 ?_
  refine y_aload_n dX4_clear_5 0 rfl ?_
  refine y_iconst (v := (0 : Int32)) dX4_clear_6 (by decide) ?_
  obtain ⟨h2, eh2, hE⟩ := Option.bind_eq_some_iff.mp hE
  refine y_putI fp_X4_19 eh2 dX4_clear_7 ?_
  obtain rfl := Option.some.inj hE
  exact y_ret dX4_clear_10 (Nat.le_refl _) (Nat.le_refl _) rfl
