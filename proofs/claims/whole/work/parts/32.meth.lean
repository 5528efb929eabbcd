theorem dX7_feed_0 : decode cX7_feed 0 = .ok (.iload_n 2, 1) := by decide +kernel
theorem dX7_feed_1 : decode cX7_feed 1 = .ok (.i2l, 1) := by decide +kernel
theorem dX7_feed_2 : decode cX7_feed 2 = .ok (.lconst 1, 1) := by decide +kernel
theorem dX7_feed_3 : decode cX7_feed 3 = .ok (.ldc2_w 73, 3) := by decide +kernel
theorem dX7_feed_6 : decode cX7_feed 6 = .ok (.invokestatic 64, 3) := by decide +kernel
theorem dX7_feed_9 : decode cX7_feed 9 = .ok (.ifCond .ne 10, 3) := by decide +kernel
theorem dX7_feed_12 : decode cX7_feed 12 = .ok (.aload_n 0, 1) := by decide +kernel
theorem dX7_feed_13 : decode cX7_feed 13 = .ok (.bipush (-2), 2) := by decide +kernel
theorem dX7_feed_15 : decode cX7_feed 15 = .ok (.invokevirtual 77, 3) := by decide +kernel
theorem dX7_feed_18 : decode cX7_feed 18 = .ok (.ireturn, 1) := by decide +kernel
theorem dX7_feed_19 : decode cX7_feed 19 = .ok (.iload_n 2, 1) := by decide +kernel
theorem dX7_feed_20 : decode cX7_feed 20 = .ok (.sipush 250, 3) := by decide +kernel
theorem dX7_feed_23 : decode cX7_feed 23 = .ok (.aload_n 0, 1) := by decide +kernel
theorem dX7_feed_24 : decode cX7_feed 24 = .ok (.getfield 123, 3) := by decide +kernel
theorem dX7_feed_27 : decode cX7_feed 27 = .ok (.isub, 1) := by decide +kernel
theorem dX7_feed_28 : decode cX7_feed 28 = .ok (.if_icmp .le 10, 3) := by decide +kernel
theorem dX7_feed_31 : decode cX7_feed 31 = .ok (.aload_n 0, 1) := by decide +kernel
theorem dX7_feed_32 : decode cX7_feed 32 = .ok (.bipush (-6), 2) := by decide +kernel
theorem dX7_feed_34 : decode cX7_feed 34 = .ok (.invokevirtual 77, 3) := by decide +kernel
theorem dX7_feed_37 : decode cX7_feed 37 = .ok (.ireturn, 1) := by decide +kernel
theorem dX7_feed_38 : decode cX7_feed 38 = .ok (.iload_n 2, 1) := by decide +kernel
theorem dX7_feed_39 : decode cX7_feed 39 = .ok (.iconst 1, 1) := by decide +kernel
theorem dX7_feed_40 : decode cX7_feed 40 = .ok (.isub, 1) := by decide +kernel
theorem dX7_feed_41 : decode cX7_feed 41 = .ok (.istore_n 3, 1) := by decide +kernel
theorem dX7_feed_42 : decode cX7_feed 42 = .ok (.iload_n 3, 1) := by decide +kernel
theorem dX7_feed_43 : decode cX7_feed 43 = .ok (.ifCond .lt 35, 3) := by decide +kernel
theorem dX7_feed_46 : decode cX7_feed 46 = .ok (.aload_n 0, 1) := by decide +kernel
theorem dX7_feed_47 : decode cX7_feed 47 = .ok (.getfield 31, 3) := by decide +kernel
theorem dX7_feed_50 : decode cX7_feed 50 = .ok (.aload_n 0, 1) := by decide +kernel
theorem dX7_feed_51 : decode cX7_feed 51 = .ok (.dup, 1) := by decide +kernel
theorem dX7_feed_52 : decode cX7_feed 52 = .ok (.getfield 123, 3) := by decide +kernel
theorem dX7_feed_55 : decode cX7_feed 55 = .ok (.dup_x1, 1) := by decide +kernel
theorem dX7_feed_56 : decode cX7_feed 56 = .ok (.iconst 1, 1) := by decide +kernel
theorem dX7_feed_57 : decode cX7_feed 57 = .ok (.iadd, 1) := by decide +kernel
theorem dX7_feed_58 : decode cX7_feed 58 = .ok (.putfield 123, 3) := by decide +kernel
theorem dX7_feed_61 : decode cX7_feed 61 = .ok (.iload_n 1, 1) := by decide +kernel
theorem dX7_feed_62 : decode cX7_feed 62 = .ok (.bipush 8, 2) := by decide +kernel
theorem dX7_feed_64 : decode cX7_feed 64 = .ok (.iload_n 3, 1) := by decide +kernel
theorem dX7_feed_65 : decode cX7_feed 65 = .ok (.imul, 1) := by decide +kernel
theorem dX7_feed_66 : decode cX7_feed 66 = .ok (.ishr, 1) := by decide +kernel
theorem dX7_feed_67 : decode cX7_feed 67 = .ok (.sipush 255, 3) := by decide +kernel
theorem dX7_feed_70 : decode cX7_feed 70 = .ok (.iand, 1) := by decide +kernel
theorem dX7_feed_71 : decode cX7_feed 71 = .ok (.iastore, 1) := by decide +kernel
theorem dX7_feed_72 : decode cX7_feed 72 = .ok (.iinc 3 (-1), 3) := by decide +kernel
theorem dX7_feed_75 : decode cX7_feed 75 = .ok (.goto (-33), 3) := by decide +kernel
theorem dX7_feed_78 : decode cX7_feed 78 = .ok (.aload_n 0, 1) := by decide +kernel
theorem dX7_feed_79 : decode cX7_feed 79 = .ok (.getfield 123, 3) := by decide +kernel
theorem dX7_feed_82 : decode cX7_feed 82 = .ok (.ireturn, 1) := by decide +kernel
theorem dX7_wipe_0 : decode cX7_wipe 0 = .ok (.aload_n 0, 1) := by decide +kernel
theorem dX7_wipe_1 : decode cX7_wipe 1 = .ok (.getfield 123, 3) := by decide +kernel
theorem dX7_wipe_4 : decode cX7_wipe 4 = .ok (.istore_n 1, 1) := by decide +kernel
theorem dX7_wipe_5 : decode cX7_wipe 5 = .ok (.aload_n 0, 1) := by decide +kernel
theorem dX7_wipe_6 : decode cX7_wipe 6 = .ok (.iconst 0, 1) := by decide +kernel
theorem dX7_wipe_7 : decode cX7_wipe 7 = .ok (.putfield 123, 3) := by decide +kernel
theorem dX7_wipe_10 : decode cX7_wipe 10 = .ok (.iload_n 1, 1) := by decide +kernel
theorem dX7_wipe_11 : decode cX7_wipe 11 = .ok (.ireturn, 1) := by decide +kernel
theorem dX7_isLetter_0 : decode cX7_isLetter 0 = .ok (.iload_n 0, 1) := by decide +kernel
theorem dX7_isLetter_1 : decode cX7_isLetter 1 = .ok (.bipush 97, 2) := by decide +kernel
theorem dX7_isLetter_3 : decode cX7_isLetter 3 = .ok (.if_icmp .lt 13, 3) := by decide +kernel
theorem dX7_isLetter_6 : decode cX7_isLetter 6 = .ok (.iload_n 0, 1) := by decide +kernel
theorem dX7_isLetter_7 : decode cX7_isLetter 7 = .ok (.bipush 122, 2) := by decide +kernel
theorem dX7_isLetter_9 : decode cX7_isLetter 9 = .ok (.if_icmp .gt 7, 3) := by decide +kernel
theorem dX7_isLetter_12 : decode cX7_isLetter 12 = .ok (.iconst 1, 1) := by decide +kernel
theorem dX7_isLetter_13 : decode cX7_isLetter 13 = .ok (.goto 4, 3) := by decide +kernel
theorem dX7_isLetter_16 : decode cX7_isLetter 16 = .ok (.iconst 0, 1) := by decide +kernel
theorem dX7_isLetter_17 : decode cX7_isLetter 17 = .ok (.ireturn, 1) := by decide +kernel
theorem dX7_isDigit_0 : decode cX7_isDigit 0 = .ok (.iload_n 0, 1) := by decide +kernel
theorem dX7_isDigit_1 : decode cX7_isDigit 1 = .ok (.bipush 48, 2) := by decide +kernel
theorem dX7_isDigit_3 : decode cX7_isDigit 3 = .ok (.if_icmp .lt 13, 3) := by decide +kernel
theorem dX7_isDigit_6 : decode cX7_isDigit 6 = .ok (.iload_n 0, 1) := by decide +kernel
theorem dX7_isDigit_7 : decode cX7_isDigit 7 = .ok (.bipush 57, 2) := by decide +kernel
theorem dX7_isDigit_9 : decode cX7_isDigit 9 = .ok (.if_icmp .gt 7, 3) := by decide +kernel
theorem dX7_isDigit_12 : decode cX7_isDigit 12 = .ok (.iconst 1, 1) := by decide +kernel
theorem dX7_isDigit_13 : decode cX7_isDigit 13 = .ok (.goto 4, 3) := by decide +kernel
theorem dX7_isDigit_16 : decode cX7_isDigit 16 = .ok (.iconst 0, 1) := by decide +kernel
theorem dX7_isDigit_17 : decode cX7_isDigit 17 = .ok (.ireturn, 1) := by decide +kernel
theorem dX7_look_0 : decode cX7_look 0 = .ok (.aload_n 0, 1) := by decide +kernel
theorem dX7_look_1 : decode cX7_look 1 = .ok (.getfield 126, 3) := by decide +kernel
theorem dX7_look_4 : decode cX7_look 4 = .ok (.aload_n 0, 1) := by decide +kernel
theorem dX7_look_5 : decode cX7_look 5 = .ok (.getfield 123, 3) := by decide +kernel
theorem dX7_look_8 : decode cX7_look 8 = .ok (.if_icmp .ge 30, 3) := by decide +kernel
theorem dX7_look_11 : decode cX7_look 11 = .ok (.aload_n 0, 1) := by decide +kernel
theorem dX7_look_12 : decode cX7_look 12 = .ok (.getfield 31, 3) := by decide +kernel
theorem dX7_look_15 : decode cX7_look 15 = .ok (.aload_n 0, 1) := by decide +kernel
theorem dX7_look_16 : decode cX7_look 16 = .ok (.getfield 126, 3) := by decide +kernel
theorem dX7_look_19 : decode cX7_look 19 = .ok (.iaload, 1) := by decide +kernel
theorem dX7_look_20 : decode cX7_look 20 = .ok (.bipush 32, 2) := by decide +kernel
theorem dX7_look_22 : decode cX7_look 22 = .ok (.if_icmp .ne 16, 3) := by decide +kernel
theorem dX7_look_25 : decode cX7_look 25 = .ok (.aload_n 0, 1) := by decide +kernel
theorem dX7_look_26 : decode cX7_look 26 = .ok (.dup, 1) := by decide +kernel
theorem dX7_look_27 : decode cX7_look 27 = .ok (.getfield 126, 3) := by decide +kernel
theorem dX7_look_30 : decode cX7_look 30 = .ok (.iconst 1, 1) := by decide +kernel
theorem dX7_look_31 : decode cX7_look 31 = .ok (.iadd, 1) := by decide +kernel
theorem dX7_look_32 : decode cX7_look 32 = .ok (.putfield 126, 3) := by decide +kernel
theorem dX7_look_35 : decode cX7_look 35 = .ok (.goto (-35), 3) := by decide +kernel
theorem dX7_look_38 : decode cX7_look 38 = .ok (.aload_n 0, 1) := by decide +kernel
theorem dX7_look_39 : decode cX7_look 39 = .ok (.aload_n 0, 1) := by decide +kernel
theorem dX7_look_40 : decode cX7_look 40 = .ok (.getfield 126, 3) := by decide +kernel
theorem dX7_look_43 : decode cX7_look 43 = .ok (.putfield 129, 3) := by decide +kernel
theorem dX7_look_46 : decode cX7_look 46 = .ok (.aload_n 0, 1) := by decide +kernel
theorem dX7_look_47 : decode cX7_look 47 = .ok (.iconst 0, 1) := by decide +kernel
theorem dX7_look_48 : decode cX7_look 48 = .ok (.putfield 132, 3) := by decide +kernel
theorem dX7_look_51 : decode cX7_look 51 = .ok (.aload_n 0, 1) := by decide +kernel
theorem dX7_look_52 : decode cX7_look 52 = .ok (.getfield 126, 3) := by decide +kernel
theorem dX7_look_55 : decode cX7_look 55 = .ok (.aload_n 0, 1) := by decide +kernel
theorem dX7_look_56 : decode cX7_look 56 = .ok (.getfield 123, 3) := by decide +kernel
theorem dX7_look_59 : decode cX7_look 59 = .ok (.if_icmp .ne 11, 3) := by decide +kernel
theorem dX7_look_62 : decode cX7_look 62 = .ok (.aload_n 0, 1) := by decide +kernel
theorem dX7_look_63 : decode cX7_look 63 = .ok (.iconst 0, 1) := by decide +kernel
theorem dX7_look_64 : decode cX7_look 64 = .ok (.putfield 135, 3) := by decide +kernel
theorem dX7_look_67 : decode cX7_look 67 = .ok (.goto 196, 3) := by decide +kernel
theorem dX7_look_70 : decode cX7_look 70 = .ok (.aload_n 0, 1) := by decide +kernel
theorem dX7_look_71 : decode cX7_look 71 = .ok (.getfield 31, 3) := by decide +kernel
theorem dX7_look_74 : decode cX7_look 74 = .ok (.aload_n 0, 1) := by decide +kernel
theorem dX7_look_75 : decode cX7_look 75 = .ok (.getfield 126, 3) := by decide +kernel
theorem dX7_look_78 : decode cX7_look 78 = .ok (.iaload, 1) := by decide +kernel
theorem dX7_look_79 : decode cX7_look 79 = .ok (.invokestatic 138, 3) := by decide +kernel
theorem dX7_look_82 : decode cX7_look 82 = .ok (.ifCond .eq 47, 3) := by decide +kernel
theorem dX7_look_85 : decode cX7_look 85 = .ok (.aload_n 0, 1) := by decide +kernel
theorem dX7_look_86 : decode cX7_look 86 = .ok (.iconst 1, 1) := by decide +kernel
theorem dX7_look_87 : decode cX7_look 87 = .ok (.putfield 135, 3) := by decide +kernel
theorem dX7_look_90 : decode cX7_look 90 = .ok (.aload_n 0, 1) := by decide +kernel
theorem dX7_look_91 : decode cX7_look 91 = .ok (.getfield 126, 3) := by decide +kernel
theorem dX7_look_94 : decode cX7_look 94 = .ok (.aload_n 0, 1) := by decide +kernel
theorem dX7_look_95 : decode cX7_look 95 = .ok (.getfield 123, 3) := by decide +kernel
theorem dX7_look_98 : decode cX7_look 98 = .ok (.if_icmp .ge 165, 3) := by decide +kernel
theorem dX7_look_101 : decode cX7_look 101 = .ok (.aload_n 0, 1) := by decide +kernel
theorem dX7_look_102 : decode cX7_look 102 = .ok (.getfield 31, 3) := by decide +kernel
theorem dX7_look_105 : decode cX7_look 105 = .ok (.aload_n 0, 1) := by decide +kernel
theorem dX7_look_106 : decode cX7_look 106 = .ok (.getfield 126, 3) := by decide +kernel
theorem dX7_look_109 : decode cX7_look 109 = .ok (.iaload, 1) := by decide +kernel
theorem dX7_look_110 : decode cX7_look 110 = .ok (.invokestatic 138, 3) := by decide +kernel
theorem dX7_look_113 : decode cX7_look 113 = .ok (.ifCond .eq 150, 3) := by decide +kernel
theorem dX7_look_116 : decode cX7_look 116 = .ok (.aload_n 0, 1) := by decide +kernel
theorem dX7_look_117 : decode cX7_look 117 = .ok (.dup, 1) := by decide +kernel
theorem dX7_look_118 : decode cX7_look 118 = .ok (.getfield 126, 3) := by decide +kernel
theorem dX7_look_121 : decode cX7_look 121 = .ok (.iconst 1, 1) := by decide +kernel
theorem dX7_look_122 : decode cX7_look 122 = .ok (.iadd, 1) := by decide +kernel
theorem dX7_look_123 : decode cX7_look 123 = .ok (.putfield 126, 3) := by decide +kernel
theorem dX7_look_126 : decode cX7_look 126 = .ok (.goto (-36), 3) := by decide +kernel
theorem dX7_look_129 : decode cX7_look 129 = .ok (.aload_n 0, 1) := by decide +kernel
theorem dX7_look_130 : decode cX7_look 130 = .ok (.getfield 31, 3) := by decide +kernel
theorem dX7_look_133 : decode cX7_look 133 = .ok (.aload_n 0, 1) := by decide +kernel
theorem dX7_look_134 : decode cX7_look 134 = .ok (.getfield 126, 3) := by decide +kernel
theorem dX7_look_137 : decode cX7_look 137 = .ok (.iaload, 1) := by decide +kernel
theorem dX7_look_138 : decode cX7_look 138 = .ok (.invokestatic 141, 3) := by decide +kernel
theorem dX7_look_141 : decode cX7_look 141 = .ok (.ifCond .eq 89, 3) := by decide +kernel
theorem dX7_look_144 : decode cX7_look 144 = .ok (.aload_n 0, 1) := by decide +kernel
theorem dX7_look_145 : decode cX7_look 145 = .ok (.iconst 2, 1) := by decide +kernel
theorem dX7_look_146 : decode cX7_look 146 = .ok (.putfield 135, 3) := by decide +kernel
theorem dX7_look_149 : decode cX7_look 149 = .ok (.aload_n 0, 1) := by decide +kernel
theorem dX7_look_150 : decode cX7_look 150 = .ok (.getfield 126, 3) := by decide +kernel
theorem dX7_look_153 : decode cX7_look 153 = .ok (.aload_n 0, 1) := by decide +kernel
theorem dX7_look_154 : decode cX7_look 154 = .ok (.getfield 123, 3) := by decide +kernel
theorem dX7_look_157 : decode cX7_look 157 = .ok (.if_icmp .ge 106, 3) := by decide +kernel
theorem dX7_look_160 : decode cX7_look 160 = .ok (.aload_n 0, 1) := by decide +kernel
theorem dX7_look_161 : decode cX7_look 161 = .ok (.getfield 31, 3) := by decide +kernel
theorem dX7_look_164 : decode cX7_look 164 = .ok (.aload_n 0, 1) := by decide +kernel
theorem dX7_look_165 : decode cX7_look 165 = .ok (.getfield 126, 3) := by decide +kernel
theorem dX7_look_168 : decode cX7_look 168 = .ok (.iaload, 1) := by decide +kernel
theorem dX7_look_169 : decode cX7_look 169 = .ok (.invokestatic 141, 3) := by decide +kernel
theorem dX7_look_172 : decode cX7_look 172 = .ok (.ifCond .eq 91, 3) := by decide +kernel
theorem dX7_look_175 : decode cX7_look 175 = .ok (.aload_n 0, 1) := by decide +kernel
theorem dX7_look_176 : decode cX7_look 176 = .ok (.aload_n 0, 1) := by decide +kernel
theorem dX7_look_177 : decode cX7_look 177 = .ok (.getfield 126, 3) := by decide +kernel
theorem dX7_look_180 : decode cX7_look 180 = .ok (.aload_n 0, 1) := by decide +kernel
theorem dX7_look_181 : decode cX7_look 181 = .ok (.getfield 129, 3) := by decide +kernel
theorem dX7_look_184 : decode cX7_look 184 = .ok (.isub, 1) := by decide +kernel
theorem dX7_look_185 : decode cX7_look 185 = .ok (.iconst 2, 1) := by decide +kernel
theorem dX7_look_186 : decode cX7_look 186 = .ok (.if_icmp .ge 26, 3) := by decide +kernel
theorem dX7_look_189 : decode cX7_look 189 = .ok (.aload_n 0, 1) := by decide +kernel
theorem dX7_look_190 : decode cX7_look 190 = .ok (.getfield 132, 3) := by decide +kernel
theorem dX7_look_193 : decode cX7_look 193 = .ok (.bipush 10, 2) := by decide +kernel
theorem dX7_look_195 : decode cX7_look 195 = .ok (.imul, 1) := by decide +kernel
theorem dX7_look_196 : decode cX7_look 196 = .ok (.aload_n 0, 1) := by decide +kernel
theorem dX7_look_197 : decode cX7_look 197 = .ok (.getfield 31, 3) := by decide +kernel
theorem dX7_look_200 : decode cX7_look 200 = .ok (.aload_n 0, 1) := by decide +kernel
theorem dX7_look_201 : decode cX7_look 201 = .ok (.getfield 126, 3) := by decide +kernel
theorem dX7_look_204 : decode cX7_look 204 = .ok (.iaload, 1) := by decide +kernel
theorem dX7_look_205 : decode cX7_look 205 = .ok (.iadd, 1) := by decide +kernel
theorem dX7_look_206 : decode cX7_look 206 = .ok (.bipush 48, 2) := by decide +kernel
theorem dX7_look_208 : decode cX7_look 208 = .ok (.isub, 1) := by decide +kernel
theorem dX7_look_209 : decode cX7_look 209 = .ok (.goto 5, 3) := by decide +kernel
theorem dX7_look_212 : decode cX7_look 212 = .ok (.ldc 144, 2) := by decide +kernel
theorem dX7_look_214 : decode cX7_look 214 = .ok (.putfield 132, 3) := by decide +kernel
theorem dX7_look_217 : decode cX7_look 217 = .ok (.aload_n 0, 1) := by decide +kernel
theorem dX7_look_218 : decode cX7_look 218 = .ok (.dup, 1) := by decide +kernel
theorem dX7_look_219 : decode cX7_look 219 = .ok (.getfield 126, 3) := by decide +kernel
theorem dX7_look_222 : decode cX7_look 222 = .ok (.iconst 1, 1) := by decide +kernel
theorem dX7_look_223 : decode cX7_look 223 = .ok (.iadd, 1) := by decide +kernel
theorem dX7_look_224 : decode cX7_look 224 = .ok (.putfield 126, 3) := by decide +kernel
theorem dX7_look_227 : decode cX7_look 227 = .ok (.goto (-78), 3) := by decide +kernel
theorem dX7_look_230 : decode cX7_look 230 = .ok (.aload_n 0, 1) := by decide +kernel
theorem dX7_look_231 : decode cX7_look 231 = .ok (.aload_n 0, 1) := by decide +kernel
theorem dX7_look_232 : decode cX7_look 232 = .ok (.getfield 31, 3) := by decide +kernel
theorem dX7_look_235 : decode cX7_look 235 = .ok (.aload_n 0, 1) := by decide +kernel
theorem dX7_look_236 : decode cX7_look 236 = .ok (.getfield 126, 3) := by decide +kernel
theorem dX7_look_239 : decode cX7_look 239 = .ok (.iaload, 1) := by decide +kernel
theorem dX7_look_240 : decode cX7_look 240 = .ok (.bipush 59, 2) := by decide +kernel
theorem dX7_look_242 : decode cX7_look 242 = .ok (.if_icmp .ne 7, 3) := by decide +kernel
theorem dX7_look_245 : decode cX7_look 245 = .ok (.iconst 3, 1) := by decide +kernel
theorem dX7_look_246 : decode cX7_look 246 = .ok (.goto 4, 3) := by decide +kernel
theorem dX7_look_249 : decode cX7_look 249 = .ok (.iconst 4, 1) := by decide +kernel
theorem dX7_look_250 : decode cX7_look 250 = .ok (.putfield 135, 3) := by decide +kernel
theorem dX7_look_253 : decode cX7_look 253 = .ok (.aload_n 0, 1) := by decide +kernel
theorem dX7_look_254 : decode cX7_look 254 = .ok (.dup, 1) := by decide +kernel
theorem dX7_look_255 : decode cX7_look 255 = .ok (.getfield 126, 3) := by decide +kernel
theorem dX7_look_258 : decode cX7_look 258 = .ok (.iconst 1, 1) := by decide +kernel
theorem dX7_look_259 : decode cX7_look 259 = .ok (.iadd, 1) := by decide +kernel
theorem dX7_look_260 : decode cX7_look 260 = .ok (.putfield 126, 3) := by decide +kernel
theorem dX7_look_263 : decode cX7_look 263 = .ok (.return_, 1) := by decide +kernel
theorem dX7_wrong_0 : decode cX7_wrong 0 = .ok (.aload_n 0, 1) := by decide +kernel
theorem dX7_wrong_1 : decode cX7_wrong 1 = .ok (.aload_n 0, 1) := by decide +kernel
theorem dX7_wrong_2 : decode cX7_wrong 2 = .ok (.getfield 129, 3) := by decide +kernel
theorem dX7_wrong_5 : decode cX7_wrong 5 = .ok (.putfield 145, 3) := by decide +kernel
theorem dX7_wrong_8 : decode cX7_wrong 8 = .ok (.iconst 0, 1) := by decide +kernel
theorem dX7_wrong_9 : decode cX7_wrong 9 = .ok (.ireturn, 1) := by decide +kernel
theorem dX7_isWord_0 : decode cX7_isWord 0 = .ok (.aload_n 0, 1) := by decide +kernel
theorem dX7_isWord_1 : decode cX7_isWord 1 = .ok (.getfield 135, 3) := by decide +kernel
theorem dX7_isWord_4 : decode cX7_isWord 4 = .ok (.iconst 1, 1) := by decide +kernel
theorem dX7_isWord_5 : decode cX7_isWord 5 = .ok (.if_icmp .ne 19, 3) := by decide +kernel
theorem dX7_isWord_8 : decode cX7_isWord 8 = .ok (.aload_n 0, 1) := by decide +kernel
theorem dX7_isWord_9 : decode cX7_isWord 9 = .ok (.getfield 126, 3) := by decide +kernel
theorem dX7_isWord_12 : decode cX7_isWord 12 = .ok (.aload_n 0, 1) := by decide +kernel
theorem dX7_isWord_13 : decode cX7_isWord 13 = .ok (.getfield 129, 3) := by decide +kernel
theorem dX7_isWord_16 : decode cX7_isWord 16 = .ok (.isub, 1) := by decide +kernel
theorem dX7_isWord_17 : decode cX7_isWord 17 = .ok (.aload_n 1, 1) := by decide +kernel
theorem dX7_isWord_18 : decode cX7_isWord 18 = .ok (.invokevirtual 148, 3) := by decide +kernel
theorem dX7_isWord_21 : decode cX7_isWord 21 = .ok (.if_icmp .eq 5, 3) := by decide +kernel
theorem dX7_isWord_24 : decode cX7_isWord 24 = .ok (.iconst 0, 1) := by decide +kernel
theorem dX7_isWord_25 : decode cX7_isWord 25 = .ok (.ireturn, 1) := by decide +kernel
theorem dX7_isWord_26 : decode cX7_isWord 26 = .ok (.iconst 0, 1) := by decide +kernel
theorem dX7_isWord_27 : decode cX7_isWord 27 = .ok (.istore_n 2, 1) := by decide +kernel
theorem dX7_isWord_28 : decode cX7_isWord 28 = .ok (.iload_n 2, 1) := by decide +kernel
theorem dX7_isWord_29 : decode cX7_isWord 29 = .ok (.aload_n 1, 1) := by decide +kernel
theorem dX7_isWord_30 : decode cX7_isWord 30 = .ok (.invokevirtual 148, 3) := by decide +kernel
theorem dX7_isWord_33 : decode cX7_isWord 33 = .ok (.if_icmp .ge 30, 3) := by decide +kernel
theorem dX7_isWord_36 : decode cX7_isWord 36 = .ok (.aload_n 0, 1) := by decide +kernel
theorem dX7_isWord_37 : decode cX7_isWord 37 = .ok (.getfield 31, 3) := by decide +kernel
theorem dX7_isWord_40 : decode cX7_isWord 40 = .ok (.aload_n 0, 1) := by decide +kernel
theorem dX7_isWord_41 : decode cX7_isWord 41 = .ok (.getfield 129, 3) := by decide +kernel
theorem dX7_isWord_44 : decode cX7_isWord 44 = .ok (.iload_n 2, 1) := by decide +kernel
theorem dX7_isWord_45 : decode cX7_isWord 45 = .ok (.iadd, 1) := by decide +kernel
theorem dX7_isWord_46 : decode cX7_isWord 46 = .ok (.iaload, 1) := by decide +kernel
theorem dX7_isWord_47 : decode cX7_isWord 47 = .ok (.aload_n 1, 1) := by decide +kernel
theorem dX7_isWord_48 : decode cX7_isWord 48 = .ok (.iload_n 2, 1) := by decide +kernel
theorem dX7_isWord_49 : decode cX7_isWord 49 = .ok (.invokevirtual 153, 3) := by decide +kernel
theorem dX7_isWord_52 : decode cX7_isWord 52 = .ok (.if_icmp .eq 5, 3) := by decide +kernel
theorem dX7_isWord_55 : decode cX7_isWord 55 = .ok (.iconst 0, 1) := by decide +kernel
theorem dX7_isWord_56 : decode cX7_isWord 56 = .ok (.ireturn, 1) := by decide +kernel
theorem dX7_isWord_57 : decode cX7_isWord 57 = .ok (.iinc 2 1, 3) := by decide +kernel
theorem dX7_isWord_60 : decode cX7_isWord 60 = .ok (.goto (-32), 3) := by decide +kernel
theorem dX7_isWord_63 : decode cX7_isWord 63 = .ok (.iconst 1, 1) := by decide +kernel
theorem dX7_isWord_64 : decode cX7_isWord 64 = .ok (.ireturn, 1) := by decide +kernel
theorem dX7_number_0 : decode cX7_number 0 = .ok (.aload_n 0, 1) := by decide +kernel
theorem dX7_number_1 : decode cX7_number 1 = .ok (.getfield 135, 3) := by decide +kernel
theorem dX7_number_4 : decode cX7_number 4 = .ok (.iconst 2, 1) := by decide +kernel
theorem dX7_number_5 : decode cX7_number 5 = .ok (.if_icmp .ne 18, 3) := by decide +kernel
theorem dX7_number_8 : decode cX7_number 8 = .ok (.aload_n 0, 1) := by decide +kernel
theorem dX7_number_9 : decode cX7_number 9 = .ok (.getfield 132, 3) := by decide +kernel
theorem dX7_number_12 : decode cX7_number 12 = .ok (.i2l, 1) := by decide +kernel
theorem dX7_number_13 : decode cX7_number 13 = .ok (.iload_n 2, 1) := by decide +kernel
theorem dX7_number_14 : decode cX7_number 14 = .ok (.i2l, 1) := by decide +kernel
theorem dX7_number_15 : decode cX7_number 15 = .ok (.iload_n 3, 1) := by decide +kernel
theorem dX7_number_16 : decode cX7_number 16 = .ok (.i2l, 1) := by decide +kernel
theorem dX7_number_17 : decode cX7_number 17 = .ok (.invokestatic 64, 3) := by decide +kernel
theorem dX7_number_20 : decode cX7_number 20 = .ok (.ifCond .ne 8, 3) := by decide +kernel
theorem dX7_number_23 : decode cX7_number 23 = .ok (.aload_n 0, 1) := by decide +kernel
theorem dX7_number_24 : decode cX7_number 24 = .ok (.invokevirtual 157, 3) := by decide +kernel
theorem dX7_number_27 : decode cX7_number 27 = .ok (.ireturn, 1) := by decide +kernel
theorem dX7_number_28 : decode cX7_number 28 = .ok (.aload_n 0, 1) := by decide +kernel
theorem dX7_number_29 : decode cX7_number 29 = .ok (.getfield 52, 3) := by decide +kernel
theorem dX7_number_32 : decode cX7_number 32 = .ok (.iload_n 1, 1) := by decide +kernel
theorem dX7_number_33 : decode cX7_number 33 = .ok (.aload_n 0, 1) := by decide +kernel
theorem dX7_number_34 : decode cX7_number 34 = .ok (.getfield 132, 3) := by decide +kernel
theorem dX7_number_37 : decode cX7_number 37 = .ok (.iastore, 1) := by decide +kernel
theorem dX7_number_38 : decode cX7_number 38 = .ok (.aload_n 0, 1) := by decide +kernel
theorem dX7_number_39 : decode cX7_number 39 = .ok (.invokevirtual 161, 3) := by decide +kernel
theorem dX7_number_42 : decode cX7_number 42 = .ok (.iconst 1, 1) := by decide +kernel
theorem dX7_number_43 : decode cX7_number 43 = .ok (.ireturn, 1) := by decide +kernel
theorem dX7_tells_0 : decode cX7_tells 0 = .ok (.aload_n 0, 1) := by decide +kernel
theorem dX7_tells_1 : decode cX7_tells 1 = .ok (.aload_n 1, 1) := by decide +kernel
theorem dX7_tells_2 : decode cX7_tells 2 = .ok (.invokevirtual 164, 3) := by decide +kernel
theorem dX7_tells_5 : decode cX7_tells 5 = .ok (.ifCond .ne 8, 3) := by decide +kernel
theorem dX7_tells_8 : decode cX7_tells 8 = .ok (.aload_n 0, 1) := by decide +kernel
theorem dX7_tells_9 : decode cX7_tells 9 = .ok (.invokevirtual 157, 3) := by decide +kernel
theorem dX7_tells_12 : decode cX7_tells 12 = .ok (.ireturn, 1) := by decide +kernel
theorem dX7_tells_13 : decode cX7_tells 13 = .ok (.aload_n 0, 1) := by decide +kernel
theorem dX7_tells_14 : decode cX7_tells 14 = .ok (.invokevirtual 161, 3) := by decide +kernel
theorem dX7_tells_17 : decode cX7_tells 17 = .ok (.aload_n 0, 1) := by decide +kernel
theorem dX7_tells_18 : decode cX7_tells 18 = .ok (.iload_n 2, 1) := by decide +kernel
theorem dX7_tells_19 : decode cX7_tells 19 = .ok (.iload_n 3, 1) := by decide +kernel
theorem dX7_tells_20 : decode cX7_tells 20 = .ok (.iload 4, 2) := by decide +kernel
theorem dX7_tells_22 : decode cX7_tells 22 = .ok (.invokevirtual 168, 3) := by decide +kernel
theorem dX7_tells_25 : decode cX7_tells 25 = .ok (.ireturn, 1) := by decide +kernel
theorem dX7_doorTold_0 : decode cX7_doorTold 0 = .ok (.aload_n 0, 1) := by decide +kernel
theorem dX7_doorTold_1 : decode cX7_doorTold 1 = .ok (.ldc 172, 2) := by decide +kernel
theorem dX7_doorTold_3 : decode cX7_doorTold 3 = .ok (.iconst 0, 1) := by decide +kernel
theorem dX7_doorTold_4 : decode cX7_doorTold 4 = .ok (.iconst 0, 1) := by decide +kernel
theorem dX7_doorTold_5 : decode cX7_doorTold 5 = .ok (.iconst 5, 1) := by decide +kernel
theorem dX7_doorTold_6 : decode cX7_doorTold 6 = .ok (.invokevirtual 173, 3) := by decide +kernel
theorem dX7_doorTold_9 : decode cX7_doorTold 9 = .ok (.ifCond .eq 14, 3) := by decide +kernel
theorem dX7_doorTold_12 : decode cX7_doorTold 12 = .ok (.aload_n 0, 1) := by decide +kernel
theorem dX7_doorTold_13 : decode cX7_doorTold 13 = .ok (.iconst 1, 1) := by decide +kernel
theorem dX7_doorTold_14 : decode cX7_doorTold 14 = .ok (.iconst 0, 1) := by decide +kernel
theorem dX7_doorTold_15 : decode cX7_doorTold 15 = .ok (.bipush 7, 2) := by decide +kernel
theorem dX7_doorTold_17 : decode cX7_doorTold 17 = .ok (.invokevirtual 168, 3) := by decide +kernel
theorem dX7_doorTold_20 : decode cX7_doorTold 20 = .ok (.ifCond .ne 5, 3) := by decide +kernel
theorem dX7_doorTold_23 : decode cX7_doorTold 23 = .ok (.iconst 0, 1) := by decide +kernel
theorem dX7_doorTold_24 : decode cX7_doorTold 24 = .ok (.ireturn, 1) := by decide +kernel
theorem dX7_doorTold_25 : decode cX7_doorTold 25 = .ok (.aload_n 0, 1) := by decide +kernel
theorem dX7_doorTold_26 : decode cX7_doorTold 26 = .ok (.getfield 52, 3) := by decide +kernel
theorem dX7_doorTold_29 : decode cX7_doorTold 29 = .ok (.iconst 0, 1) := by decide +kernel
theorem dX7_doorTold_30 : decode cX7_doorTold 30 = .ok (.iaload, 1) := by decide +kernel
theorem dX7_doorTold_31 : decode cX7_doorTold 31 = .ok (.iconst 1, 1) := by decide +kernel
theorem dX7_doorTold_32 : decode cX7_doorTold 32 = .ok (.if_icmp .eq 29, 3) := by decide +kernel
theorem dX7_doorTold_35 : decode cX7_doorTold 35 = .ok (.aload_n 0, 1) := by decide +kernel
theorem dX7_doorTold_36 : decode cX7_doorTold 36 = .ok (.getfield 135, 3) := by decide +kernel
theorem dX7_doorTold_39 : decode cX7_doorTold 39 = .ok (.iconst 2, 1) := by decide +kernel
theorem dX7_doorTold_40 : decode cX7_doorTold 40 = .ok (.if_icmp .ne 21, 3) := by decide +kernel
theorem dX7_doorTold_43 : decode cX7_doorTold 43 = .ok (.aload_n 0, 1) := by decide +kernel
theorem dX7_doorTold_44 : decode cX7_doorTold 44 = .ok (.getfield 132, 3) := by decide +kernel
theorem dX7_doorTold_47 : decode cX7_doorTold 47 = .ok (.aload_n 0, 1) := by decide +kernel
theorem dX7_doorTold_48 : decode cX7_doorTold 48 = .ok (.getfield 52, 3) := by decide +kernel
theorem dX7_doorTold_51 : decode cX7_doorTold 51 = .ok (.iconst 1, 1) := by decide +kernel
theorem dX7_doorTold_52 : decode cX7_doorTold 52 = .ok (.iaload, 1) := by decide +kernel
theorem dX7_doorTold_53 : decode cX7_doorTold 53 = .ok (.if_icmp .ne 8, 3) := by decide +kernel
theorem dX7_doorTold_56 : decode cX7_doorTold 56 = .ok (.aload_n 0, 1) := by decide +kernel
theorem dX7_doorTold_57 : decode cX7_doorTold 57 = .ok (.invokevirtual 157, 3) := by decide +kernel
theorem dX7_doorTold_60 : decode cX7_doorTold 60 = .ok (.ireturn, 1) := by decide +kernel
theorem dX7_doorTold_61 : decode cX7_doorTold 61 = .ok (.aload_n 0, 1) := by decide +kernel
theorem dX7_doorTold_62 : decode cX7_doorTold 62 = .ok (.iconst 2, 1) := by decide +kernel
theorem dX7_doorTold_63 : decode cX7_doorTold 63 = .ok (.iconst 0, 1) := by decide +kernel
theorem dX7_doorTold_64 : decode cX7_doorTold 64 = .ok (.bipush 7, 2) := by decide +kernel
theorem dX7_doorTold_66 : decode cX7_doorTold 66 = .ok (.invokevirtual 168, 3) := by decide +kernel
theorem dX7_doorTold_69 : decode cX7_doorTold 69 = .ok (.ifCond .ne 5, 3) := by decide +kernel
theorem dX7_doorTold_72 : decode cX7_doorTold 72 = .ok (.iconst 0, 1) := by decide +kernel
theorem dX7_doorTold_73 : decode cX7_doorTold 73 = .ok (.ireturn, 1) := by decide +kernel
theorem dX7_doorTold_74 : decode cX7_doorTold 74 = .ok (.aload_n 0, 1) := by decide +kernel
theorem dX7_doorTold_75 : decode cX7_doorTold 75 = .ok (.aload_n 0, 1) := by decide +kernel
theorem dX7_doorTold_76 : decode cX7_doorTold 76 = .ok (.getfield 52, 3) := by decide +kernel
theorem dX7_doorTold_79 : decode cX7_doorTold 79 = .ok (.iconst 0, 1) := by decide +kernel
theorem dX7_doorTold_80 : decode cX7_doorTold 80 = .ok (.iaload, 1) := by decide +kernel
theorem dX7_doorTold_81 : decode cX7_doorTold 81 = .ok (.aload_n 0, 1) := by decide +kernel
theorem dX7_doorTold_82 : decode cX7_doorTold 82 = .ok (.getfield 52, 3) := by decide +kernel
theorem dX7_doorTold_85 : decode cX7_doorTold 85 = .ok (.iconst 1, 1) := by decide +kernel
theorem dX7_doorTold_86 : decode cX7_doorTold 86 = .ok (.iaload, 1) := by decide +kernel
theorem dX7_doorTold_87 : decode cX7_doorTold 87 = .ok (.aload_n 0, 1) := by decide +kernel
theorem dX7_doorTold_88 : decode cX7_doorTold 88 = .ok (.getfield 52, 3) := by decide +kernel
theorem dX7_doorTold_91 : decode cX7_doorTold 91 = .ok (.iconst 2, 1) := by decide +kernel
theorem dX7_doorTold_92 : decode cX7_doorTold 92 = .ok (.iaload, 1) := by decide +kernel
theorem dX7_doorTold_93 : decode cX7_doorTold 93 = .ok (.invokevirtual 177, 3) := by decide +kernel
theorem dX7_doorTold_96 : decode cX7_doorTold 96 = .ok (.istore_n 1, 1) := by decide +kernel
theorem dX7_doorTold_97 : decode cX7_doorTold 97 = .ok (.aload_n 0, 1) := by decide +kernel
theorem dX7_doorTold_98 : decode cX7_doorTold 98 = .ok (.ldc 180, 2) := by decide +kernel
theorem dX7_doorTold_100 : decode cX7_doorTold 100 = .ok (.invokevirtual 164, 3) := by decide +kernel
theorem dX7_doorTold_103 : decode cX7_doorTold 103 = .ok (.ifCond .eq 19, 3) := by decide +kernel
theorem dX7_doorTold_106 : decode cX7_doorTold 106 = .ok (.aload_n 0, 1) := by decide +kernel
theorem dX7_doorTold_107 : decode cX7_doorTold 107 = .ok (.invokevirtual 161, 3) := by decide +kernel
theorem dX7_doorTold_110 : decode cX7_doorTold 110 = .ok (.aload_n 0, 1) := by decide +kernel
theorem dX7_doorTold_111 : decode cX7_doorTold 111 = .ok (.dup, 1) := by decide +kernel
theorem dX7_doorTold_112 : decode cX7_doorTold 112 = .ok (.getfield 108, 3) := by decide +kernel
theorem dX7_doorTold_115 : decode cX7_doorTold 115 = .ok (.iconst 1, 1) := by decide +kernel
theorem dX7_doorTold_116 : decode cX7_doorTold 116 = .ok (.iload_n 1, 1) := by decide +kernel
theorem dX7_doorTold_117 : decode cX7_doorTold 117 = .ok (.ishl, 1) := by decide +kernel
theorem dX7_doorTold_118 : decode cX7_doorTold 118 = .ok (.ior, 1) := by decide +kernel
theorem dX7_doorTold_119 : decode cX7_doorTold 119 = .ok (.putfield 108, 3) := by decide +kernel
theorem dX7_doorTold_122 : decode cX7_doorTold 122 = .ok (.iconst 1, 1) := by decide +kernel
theorem dX7_doorTold_123 : decode cX7_doorTold 123 = .ok (.ireturn, 1) := by decide +kernel
theorem dX7_statement_0 : decode cX7_statement 0 = .ok (.aload_n 0, 1) := by decide +kernel
theorem dX7_statement_1 : decode cX7_statement 1 = .ok (.ldc 172, 2) := by decide +kernel
theorem dX7_statement_3 : decode cX7_statement 3 = .ok (.invokevirtual 164, 3) := by decide +kernel
theorem dX7_statement_6 : decode cX7_statement 6 = .ok (.ifCond .eq 17, 3) := by decide +kernel
theorem dX7_statement_9 : decode cX7_statement 9 = .ok (.aload_n 0, 1) := by decide +kernel
theorem dX7_statement_10 : decode cX7_statement 10 = .ok (.getfield 61, 3) := by decide +kernel
theorem dX7_statement_13 : decode cX7_statement 13 = .ok (.bipush 14, 2) := by decide +kernel
theorem dX7_statement_15 : decode cX7_statement 15 = .ok (.if_icmp .ge 8, 3) := by decide +kernel
theorem dX7_statement_18 : decode cX7_statement 18 = .ok (.aload_n 0, 1) := by decide +kernel
theorem dX7_statement_19 : decode cX7_statement 19 = .ok (.invokevirtual 182, 3) := by decide +kernel
theorem dX7_statement_22 : decode cX7_statement 22 = .ok (.ireturn, 1) := by decide +kernel
theorem dX7_statement_23 : decode cX7_statement 23 = .ok (.aload_n 0, 1) := by decide +kernel
theorem dX7_statement_24 : decode cX7_statement 24 = .ok (.ldc 185, 2) := by decide +kernel
theorem dX7_statement_26 : decode cX7_statement 26 = .ok (.invokevirtual 164, 3) := by decide +kernel
theorem dX7_statement_29 : decode cX7_statement 29 = .ok (.ifCond .eq 39, 3) := by decide +kernel
theorem dX7_statement_32 : decode cX7_statement 32 = .ok (.aload_n 0, 1) := by decide +kernel
theorem dX7_statement_33 : decode cX7_statement 33 = .ok (.getfield 68, 3) := by decide +kernel
theorem dX7_statement_36 : decode cX7_statement 36 = .ok (.iconst 4, 1) := by decide +kernel
theorem dX7_statement_37 : decode cX7_statement 37 = .ok (.if_icmp .ge 31, 3) := by decide +kernel
theorem dX7_statement_40 : decode cX7_statement 40 = .ok (.aload_n 0, 1) := by decide +kernel
theorem dX7_statement_41 : decode cX7_statement 41 = .ok (.ldc 185, 2) := by decide +kernel
theorem dX7_statement_43 : decode cX7_statement 43 = .ok (.iconst 0, 1) := by decide +kernel
theorem dX7_statement_44 : decode cX7_statement 44 = .ok (.iconst 0, 1) := by decide +kernel
theorem dX7_statement_45 : decode cX7_statement 45 = .ok (.bipush 7, 2) := by decide +kernel
theorem dX7_statement_47 : decode cX7_statement 47 = .ok (.invokevirtual 173, 3) := by decide +kernel
theorem dX7_statement_50 : decode cX7_statement 50 = .ok (.istore_n 1, 1) := by decide +kernel
theorem dX7_statement_51 : decode cX7_statement 51 = .ok (.iload_n 1, 1) := by decide +kernel
theorem dX7_statement_52 : decode cX7_statement 52 = .ok (.ifCond .eq 14, 3) := by decide +kernel
theorem dX7_statement_55 : decode cX7_statement 55 = .ok (.aload_n 0, 1) := by decide +kernel
theorem dX7_statement_56 : decode cX7_statement 56 = .ok (.aload_n 0, 1) := by decide +kernel
theorem dX7_statement_57 : decode cX7_statement 57 = .ok (.getfield 52, 3) := by decide +kernel
theorem dX7_statement_60 : decode cX7_statement 60 = .ok (.iconst 0, 1) := by decide +kernel
theorem dX7_statement_61 : decode cX7_statement 61 = .ok (.iaload, 1) := by decide +kernel
theorem dX7_statement_62 : decode cX7_statement 62 = .ok (.invokevirtual 187, 3) := by decide +kernel
theorem dX7_statement_65 : decode cX7_statement 65 = .ok (.pop, 1) := by decide +kernel
theorem dX7_statement_66 : decode cX7_statement 66 = .ok (.iload_n 1, 1) := by decide +kernel
theorem dX7_statement_67 : decode cX7_statement 67 = .ok (.ireturn, 1) := by decide +kernel
theorem dX7_statement_68 : decode cX7_statement 68 = .ok (.aload_n 0, 1) := by decide +kernel
theorem dX7_statement_69 : decode cX7_statement 69 = .ok (.ldc 189, 2) := by decide +kernel
theorem dX7_statement_71 : decode cX7_statement 71 = .ok (.invokevirtual 164, 3) := by decide +kernel
theorem dX7_statement_74 : decode cX7_statement 74 = .ok (.ifCond .eq 36, 3) := by decide +kernel
theorem dX7_statement_77 : decode cX7_statement 77 = .ok (.aload_n 0, 1) := by decide +kernel
theorem dX7_statement_78 : decode cX7_statement 78 = .ok (.ldc 189, 2) := by decide +kernel
theorem dX7_statement_80 : decode cX7_statement 80 = .ok (.iconst 0, 1) := by decide +kernel
theorem dX7_statement_81 : decode cX7_statement 81 = .ok (.iconst 1, 1) := by decide +kernel
theorem dX7_statement_82 : decode cX7_statement 82 = .ok (.iconst 4, 1) := by decide +kernel
theorem dX7_statement_83 : decode cX7_statement 83 = .ok (.invokevirtual 173, 3) := by decide +kernel
theorem dX7_statement_86 : decode cX7_statement 86 = .ok (.istore_n 1, 1) := by decide +kernel
theorem dX7_statement_87 : decode cX7_statement 87 = .ok (.aload_n 0, 1) := by decide +kernel
theorem dX7_statement_88 : decode cX7_statement 88 = .ok (.iload_n 1, 1) := by decide +kernel
theorem dX7_statement_89 : decode cX7_statement 89 = .ok (.ifCond .eq 12, 3) := by decide +kernel
theorem dX7_statement_92 : decode cX7_statement 92 = .ok (.aload_n 0, 1) := by decide +kernel
theorem dX7_statement_93 : decode cX7_statement 93 = .ok (.getfield 52, 3) := by decide +kernel
theorem dX7_statement_96 : decode cX7_statement 96 = .ok (.iconst 0, 1) := by decide +kernel
theorem dX7_statement_97 : decode cX7_statement 97 = .ok (.iaload, 1) := by decide +kernel
theorem dX7_statement_98 : decode cX7_statement 98 = .ok (.goto 7, 3) := by decide +kernel
theorem dX7_statement_101 : decode cX7_statement 101 = .ok (.aload_n 0, 1) := by decide +kernel
theorem dX7_statement_102 : decode cX7_statement 102 = .ok (.getfield 45, 3) := by decide +kernel
theorem dX7_statement_105 : decode cX7_statement 105 = .ok (.putfield 45, 3) := by decide +kernel
theorem dX7_statement_108 : decode cX7_statement 108 = .ok (.iload_n 1, 1) := by decide +kernel
theorem dX7_statement_109 : decode cX7_statement 109 = .ok (.ireturn, 1) := by decide +kernel
theorem dX7_statement_110 : decode cX7_statement 110 = .ok (.aload_n 0, 1) := by decide +kernel
theorem dX7_statement_111 : decode cX7_statement 111 = .ok (.ldc 190, 2) := by decide +kernel
theorem dX7_statement_113 : decode cX7_statement 113 = .ok (.invokevirtual 164, 3) := by decide +kernel
theorem dX7_statement_116 : decode cX7_statement 116 = .ok (.ifCond .eq 37, 3) := by decide +kernel
theorem dX7_statement_119 : decode cX7_statement 119 = .ok (.aload_n 0, 1) := by decide +kernel
theorem dX7_statement_120 : decode cX7_statement 120 = .ok (.ldc 190, 2) := by decide +kernel
theorem dX7_statement_122 : decode cX7_statement 122 = .ok (.iconst 0, 1) := by decide +kernel
theorem dX7_statement_123 : decode cX7_statement 123 = .ok (.iconst 0, 1) := by decide +kernel
theorem dX7_statement_124 : decode cX7_statement 124 = .ok (.bipush 99, 2) := by decide +kernel
theorem dX7_statement_126 : decode cX7_statement 126 = .ok (.invokevirtual 173, 3) := by decide +kernel
theorem dX7_statement_129 : decode cX7_statement 129 = .ok (.istore_n 1, 1) := by decide +kernel
theorem dX7_statement_130 : decode cX7_statement 130 = .ok (.aload_n 0, 1) := by decide +kernel
theorem dX7_statement_131 : decode cX7_statement 131 = .ok (.iload_n 1, 1) := by decide +kernel
theorem dX7_statement_132 : decode cX7_statement 132 = .ok (.ifCond .eq 12, 3) := by decide +kernel
theorem dX7_statement_135 : decode cX7_statement 135 = .ok (.aload_n 0, 1) := by decide +kernel
theorem dX7_statement_136 : decode cX7_statement 136 = .ok (.getfield 52, 3) := by decide +kernel
theorem dX7_statement_139 : decode cX7_statement 139 = .ok (.iconst 0, 1) := by decide +kernel
theorem dX7_statement_140 : decode cX7_statement 140 = .ok (.iaload, 1) := by decide +kernel
theorem dX7_statement_141 : decode cX7_statement 141 = .ok (.goto 7, 3) := by decide +kernel
theorem dX7_statement_144 : decode cX7_statement 144 = .ok (.aload_n 0, 1) := by decide +kernel
theorem dX7_statement_145 : decode cX7_statement 145 = .ok (.getfield 113, 3) := by decide +kernel
theorem dX7_statement_148 : decode cX7_statement 148 = .ok (.putfield 113, 3) := by decide +kernel
theorem dX7_statement_151 : decode cX7_statement 151 = .ok (.iload_n 1, 1) := by decide +kernel
theorem dX7_statement_152 : decode cX7_statement 152 = .ok (.ireturn, 1) := by decide +kernel
theorem dX7_statement_153 : decode cX7_statement 153 = .ok (.aload_n 0, 1) := by decide +kernel
theorem dX7_statement_154 : decode cX7_statement 154 = .ok (.ldc 191, 2) := by decide +kernel
theorem dX7_statement_156 : decode cX7_statement 156 = .ok (.iconst 0, 1) := by decide +kernel
theorem dX7_statement_157 : decode cX7_statement 157 = .ok (.iconst 0, 1) := by decide +kernel
theorem dX7_statement_158 : decode cX7_statement 158 = .ok (.aload_n 0, 1) := by decide +kernel
theorem dX7_statement_159 : decode cX7_statement 159 = .ok (.getfield 68, 3) := by decide +kernel
theorem dX7_statement_162 : decode cX7_statement 162 = .ok (.iconst 1, 1) := by decide +kernel
theorem dX7_statement_163 : decode cX7_statement 163 = .ok (.isub, 1) := by decide +kernel
theorem dX7_statement_164 : decode cX7_statement 164 = .ok (.invokevirtual 173, 3) := by decide +kernel
theorem dX7_statement_167 : decode cX7_statement 167 = .ok (.ifCond .eq 14, 3) := by decide +kernel
theorem dX7_statement_170 : decode cX7_statement 170 = .ok (.aload_n 0, 1) := by decide +kernel
theorem dX7_statement_171 : decode cX7_statement 171 = .ok (.iconst 1, 1) := by decide +kernel
theorem dX7_statement_172 : decode cX7_statement 172 = .ok (.iconst 0, 1) := by decide +kernel
theorem dX7_statement_173 : decode cX7_statement 173 = .ok (.bipush 7, 2) := by decide +kernel
theorem dX7_statement_175 : decode cX7_statement 175 = .ok (.invokevirtual 168, 3) := by decide +kernel
theorem dX7_statement_178 : decode cX7_statement 178 = .ok (.ifCond .ne 5, 3) := by decide +kernel
theorem dX7_statement_181 : decode cX7_statement 181 = .ok (.iconst 0, 1) := by decide +kernel
theorem dX7_statement_182 : decode cX7_statement 182 = .ok (.ireturn, 1) := by decide +kernel
theorem dX7_statement_183 : decode cX7_statement 183 = .ok (.aload_n 0, 1) := by decide +kernel
theorem dX7_statement_184 : decode cX7_statement 184 = .ok (.getfield 42, 3) := by decide +kernel
theorem dX7_statement_187 : decode cX7_statement 187 = .ok (.aload_n 0, 1) := by decide +kernel
theorem dX7_statement_188 : decode cX7_statement 188 = .ok (.getfield 52, 3) := by decide +kernel
theorem dX7_statement_191 : decode cX7_statement 191 = .ok (.iconst 0, 1) := by decide +kernel
theorem dX7_statement_192 : decode cX7_statement 192 = .ok (.iaload, 1) := by decide +kernel
theorem dX7_statement_193 : decode cX7_statement 193 = .ok (.aload_n 0, 1) := by decide +kernel
theorem dX7_statement_194 : decode cX7_statement 194 = .ok (.getfield 52, 3) := by decide +kernel
theorem dX7_statement_197 : decode cX7_statement 197 = .ok (.iconst 1, 1) := by decide +kernel
theorem dX7_statement_198 : decode cX7_statement 198 = .ok (.iaload, 1) := by decide +kernel
theorem dX7_statement_199 : decode cX7_statement 199 = .ok (.iastore, 1) := by decide +kernel
theorem dX7_statement_200 : decode cX7_statement 200 = .ok (.iconst 1, 1) := by decide +kernel
theorem dX7_statement_201 : decode cX7_statement 201 = .ok (.ireturn, 1) := by decide +kernel
def f_X7_feed_L42 (v0 : Nat) (v1 : Int32) : Nat → Int32 → xH → Option (xH)
  | 0, _, _ => none
  | k + 1, v3, h =>
    if v3 < 0 then
      some h
    else
      (x_gR h v0 7 6).bind fun a6 =>
      (x_gI h v0 7 7).bind fun x7 =>
      (x_put h v0 7 7 (.int (x7 + (1 : Int32)))).bind fun h8 =>
      (x_st h8 a6 x7 ((i_shr v1 ((8 : Int32) * v3)) &&& (255 : Int32))).bind fun h9 =>
      (some (v3 + (-1 : Int32))).bind fun x10 =>
      f_X7_feed_L42 v0 v1 k x10 h9
set_option maxRecDepth 100000 in
set_option maxHeartbeats 4000000 in
theorem l_X7_feed_42 {S : Nat × (Nat → Int32)} {rv : Option Value} {h0 h1 : xH} {mc ms : Nat} {cells slots : Nat} (hm : cells ≤ mc ∧ slots ≤ ms) (v0 : Nat) (v1 : Int32) : ∀ (k : Nat) (v3 : Int32) (h : xH) (res : xH), f_X7_feed_L42 v0 v1 k v3 h = some res → (∀ r9, res = r9 → Y S M_X7_feed h0 rv h1 mc ms 78 [(0, .ref v0)] [] r9 cells slots) → Y S M_X7_feed h0 rv h1 mc ms 42 [(0, .ref v0), (1, .int v1), (3, .int v3)] [] h cells slots := by
  intro k
  induction k with
  | zero =>
    intro _ _ _ hE
    cases hE
  | succ k ih =>
    intro v3 h res hE K
    unfold f_X7_feed_L42 at hE
    refine y_iload_n dX7_feed_42 2 rfl ?_
    refine y_if_lt (tgt := 78) dX7_feed_43 (by decide) (fun hc11 => ?_) (fun hc11 => ?_)
    · rw [if_pos hc11] at hE
      obtain rfl := Option.some.inj hE
      exact y_pick [0] rfl (K _ rfl)
    · rw [if_neg hc11] at hE
      refine y_aload_n dX7_feed_46 0 rfl ?_
      obtain ⟨a6, ea6, hE⟩ := Option.bind_eq_some_iff.mp hE
      refine y_getR fl_X7_31 ea6 dX7_feed_47 ?_
      refine y_aload_n dX7_feed_50 0 rfl ?_
      refine y_dup dX7_feed_51 rfl ?_
      obtain ⟨x7, ex7, hE⟩ := Option.bind_eq_some_iff.mp hE
      refine y_getI fl_X7_123 ex7 dX7_feed_52 ?_
      refine y_dup_x1 dX7_feed_55 rfl rfl ?_
      refine y_iconst (v := (1 : Int32)) dX7_feed_56 (by decide) ?_
      refine y_iadd dX7_feed_57 ?_
      obtain ⟨h8, eh8, hE⟩ := Option.bind_eq_some_iff.mp hE
      refine y_putI fp_X7_123 eh8 dX7_feed_58 ?_
      refine y_iload_n dX7_feed_61 1 rfl ?_
      refine y_bipush (v := (8 : Int32)) dX7_feed_62 (by decide) ?_
      refine y_iload_n dX7_feed_64 2 rfl ?_
      refine y_imul dX7_feed_65 ?_
      refine y_ishr dX7_feed_66 ?_
      refine y_sipush (v := (255 : Int32)) dX7_feed_67 (by decide) ?_
      refine y_iand dX7_feed_70 ?_
      obtain ⟨h9, eh9, hE⟩ := Option.bind_eq_some_iff.mp hE
      refine y_iast eh9 dX7_feed_71 ?_
      obtain ⟨x10, ex10, hE⟩ := Option.bind_eq_some_iff.mp hE
      refine y_iinc (ls' := [(3, .int x10), (0, .ref v0), (1, .int v1)]) dX7_feed_72 2 rfl (Option.some.inj ex10) (by decide) rfl ?_
      refine y_goto (tgt := 42) dX7_feed_75 (by decide) ?_
      refine y_pick [1, 2, 0] rfl ?_
      exact ih _ _ _ hE K
def f_X7_feed (n : Nat) (h : xH) (a0 : Nat) (p1 : Int32) (p2 : Int32) : Option (Int32 × xH) :=
  (f_X7_in h p2.toInt64 (1 : Int64) (4 : Int64)).bind fun q1 =>
  if q1 = 0 then
    (x_ob h a0 7).bind fun u2 =>
    (f_X7_refuse h a0 (-2 : Int32)).bind fun q3 =>
    some (q3.1, q3.2)
  else
    (x_gI h a0 7 7).bind fun x4 =>
    if p2 ≤ ((250 : Int32) - x4) then
      (some (p2 - (1 : Int32))).bind fun x5 =>
      (f_X7_feed_L42 a0 p1 n x5 h).bind fun q12 =>
      (x_gI q12 a0 7 7).bind fun x13 =>
      some (x13, q12)
    else
      (x_ob h a0 7).bind fun u14 =>
      (f_X7_refuse h a0 (-6 : Int32)).bind fun q15 =>
      some (q15.1, q15.2)
set_option maxRecDepth 100000 in
set_option maxHeartbeats 4000000 in
theorem c_X7_feed {n : Nat} {h : xH} {a0 : Nat} {p1 : Int32} {p2 : Int32} {r9 : Int32} {hz : xH} (hE : f_X7_feed n h a0 p1 p2 = some (r9, hz)) : Ctr M_X7_feed [.ref a0, .int p1, .int p2] h (some (.int r9)) hz 0 0 := by
  refine ctr_of (by decide) (fun _ _ => Nat.le_of_ble_eq_true rfl) (fun S => ?_)
  show Y S M_X7_feed h (some (.int r9)) hz 0 0 0 [(0, .ref a0), (1, .int p1), (2, .int p2)] [] h 0 0
  unfold f_X7_feed at hE
  refine y_iload_n dX7_feed_0 2 rfl ?_
  refine y_i2l dX7_feed_1 ?_
  refine y_lconst (v := (1 : Int64)) dX7_feed_2 (by decide) ?_
  refine y_ldc2 (v := (4 : Int64)) (x_wt (tb 1055 (by decide +kernel)) rfl) dX7_feed_3 ?_
  obtain ⟨q1, eq1, hE⟩ := Option.bind_eq_some_iff.mp hE
  refine y_cSi0 (st := []) (as := [.long p2.toInt64, .long (1 : Int64), .long (4 : Int64)]) (c_X7_in eq1) lk_X7_64 st_X7_in ⟨Nat.le_of_ble_eq_true rfl, Nat.le_of_ble_eq_true rfl⟩ (Nat.le_of_ble_eq_true rfl) dX7_feed_6 ⟨Nat.le_refl _, Nat.le_refl _⟩ rfl ?_
  refine y_if_ne (tgt := 19) dX7_feed_9 (by decide) (fun hc17 => ?_) (fun hc17 => ?_)
  · rw [if_pos hc17] at hE
    refine y_aload_n dX7_feed_12 0 rfl ?_
    refine y_bipush (v := (-2 : Int32)) dX7_feed_13 (by decide) ?_
    obtain ⟨u2, eu2, hE⟩ := Option.bind_eq_some_iff.mp hE
    obtain ⟨q3, eq3, hE⟩ := Option.bind_eq_some_iff.mp hE
    refine y_cVi0 (st := []) (as := [.int (-2 : Int32)]) (c_X7_refuse eq3) lk_X7_77 in_X7_refuse se_X7_refuse rfl eu2 ⟨Nat.le_of_ble_eq_true rfl, Nat.le_of_ble_eq_true rfl⟩ (Nat.le_of_ble_eq_true rfl) dX7_feed_15 ⟨Nat.le_refl _, Nat.le_refl _⟩ rfl ?_
    obtain ⟨rfl, rfl⟩ := x_inj2 hE
    exact y_ret dX7_feed_18 (Nat.le_refl _) (Nat.le_refl _) ⟨_, rfl, rfl⟩
  · rw [if_neg hc17] at hE
    refine y_iload_n dX7_feed_19 2 rfl ?_
    refine y_sipush (v := (250 : Int32)) dX7_feed_20 (by decide) ?_
    refine y_aload_n dX7_feed_23 0 rfl ?_
    obtain ⟨x4, ex4, hE⟩ := Option.bind_eq_some_iff.mp hE
    refine y_getI fl_X7_123 ex4 dX7_feed_24 ?_
    refine y_isub dX7_feed_27 ?_
    refine y_icmp_le (tgt := 38) dX7_feed_28 (by decide) (fun hc16 => ?_) (fun hc16 => ?_)
    · rw [if_pos hc16] at hE
      refine y_iload_n dX7_feed_38 2 rfl ?_
      refine y_iconst (v := (1 : Int32)) dX7_feed_39 (by decide) ?_
      refine y_isub dX7_feed_40 ?_
      obtain ⟨x5, ex5, hE⟩ := Option.bind_eq_some_iff.mp hE
      refine y_istore_n (ls' := [(3, .int x5), (0, .ref a0), (1, .int p1), (2, .int p2)]) dX7_feed_41 (by decide) (Option.some.inj ex5) rfl ?_
      obtain ⟨q12, eq12, hE⟩ := Option.bind_eq_some_iff.mp hE
      refine y_pick [1, 2, 0] rfl ?_
      refine l_X7_feed_42 (S := S) ⟨Nat.le_refl _, Nat.le_refl _⟩ a0 p1 n x5 h _ eq12 (fun r8 hr8 => ?_)
      subst hr8
      refine y_aload_n dX7_feed_78 0 rfl ?_
      obtain ⟨x13, ex13, hE⟩ := Option.bind_eq_some_iff.mp hE
      refine y_getI fl_X7_123 ex13 dX7_feed_79 ?_
      obtain ⟨rfl, rfl⟩ := x_inj2 hE
      exact y_ret dX7_feed_82 (Nat.le_refl _) (Nat.le_refl _) ⟨_, rfl, rfl⟩
    · rw [if_neg hc16] at hE
      refine y_aload_n dX7_feed_31 0 rfl ?_
      refine y_bipush (v := (-6 : Int32)) dX7_feed_32 (by decide) ?_
      obtain ⟨u14, eu14, hE⟩ := Option.bind_eq_some_iff.mp hE
      obtain ⟨q15, eq15, hE⟩ := Option.bind_eq_some_iff.mp hE
      refine y_cVi0 (st := []) (as := [.int (-6 : Int32)]) (c_X7_refuse eq15) lk_X7_77 in_X7_refuse se_X7_refuse rfl eu14 ⟨Nat.le_of_ble_eq_true rfl, Nat.le_of_ble_eq_true rfl⟩ (Nat.le_of_ble_eq_true rfl) dX7_feed_34 ⟨Nat.le_refl _, Nat.le_refl _⟩ rfl ?_
      obtain ⟨rfl, rfl⟩ := x_inj2 hE
      exact y_ret dX7_feed_37 (Nat.le_refl _) (Nat.le_refl _) ⟨_, rfl, rfl⟩
def f_X7_wipe (h : xH) (a0 : Nat) : Option (Int32 × xH) :=
  (x_gI h a0 7 7).bind fun x1 =>
  (x_put h a0 7 7 (.int (0 : Int32))).bind fun h2 =>
  some (x1, h2)
set_option maxRecDepth 100000 in
set_option maxHeartbeats 4000000 in
theorem c_X7_wipe {h : xH} {a0 : Nat} {r9 : Int32} {hz : xH} (hE : f_X7_wipe h a0 = some (r9, hz)) : Ctr M_X7_wipe [.ref a0] h (some (.int r9)) hz 0 0 := by
  refine ctr_of (by decide) (fun _ _ => Nat.le_of_ble_eq_true rfl) (fun S => ?_)
  show Y S M_X7_wipe h (some (.int r9)) hz 0 0 0 [(0, .ref a0)] [] h 0 0
  unfold f_X7_wipe at hE
  refine y_aload_n dX7_wipe_0 0 rfl ?_
  obtain ⟨x1, ex1, hE⟩ := Option.bind_eq_some_iff.mp hE
  refine y_getI fl_X7_123 ex1 dX7_wipe_1 ?_
  refine y_istore_n (ls' := [(1, .int x1), (0, .ref a0)]) dX7_wipe_4 (by decide) rfl rfl ?_
  refine y_aload_n dX7_wipe_5 1 rfl ?_
  refine y_iconst (v := (0 : Int32)) dX7_wipe_6 (by decide) ?_
  obtain ⟨h2, eh2, hE⟩ := Option.bind_eq_some_iff.mp hE
  refine y_putI fp_X7_123 eh2 dX7_wipe_7 ?_
  refine y_iload_n dX7_wipe_10 0 rfl ?_
  obtain ⟨rfl, rfl⟩ := x_inj2 hE
  exact y_ret dX7_wipe_11 (Nat.le_refl _) (Nat.le_refl _) ⟨_, rfl, rfl⟩
def f_X7_isLetter (h : xH) (p0 : Int32) : Option (Int32) :=
  if p0 < (97 : Int32) then
    some (0 : Int32)
  else
    if (122 : Int32) < p0 then
      some (0 : Int32)
    else
      some (1 : Int32)
set_option maxRecDepth 100000 in
set_option maxHeartbeats 4000000 in
theorem c_X7_isLetter {h : xH} {p0 : Int32} {r9 : Int32} (hE : f_X7_isLetter h p0 = some r9) : Ctr M_X7_isLetter [.int p0] h (some (.int r9)) h 0 0 := by
  refine ctr_of (by decide) (fun _ _ => Nat.le_of_ble_eq_true rfl) (fun S => ?_)
  show Y S M_X7_isLetter h (some (.int r9)) h 0 0 0 [(0, .int p0)] [] h 0 0
  unfold f_X7_isLetter at hE
  refine y_iload_n dX7_isLetter_0 0 rfl ?_
  refine y_bipush (v := (97 : Int32)) dX7_isLetter_1 (by decide) ?_
  refine y_icmp_lt (tgt := 16) dX7_isLetter_3 (by decide) (fun hc2 => ?_) (fun hc2 => ?_)
  · rw [if_pos hc2] at hE
    refine y_iconst (v := (0 : Int32)) dX7_isLetter_16 (by decide) ?_
    obtain rfl := Option.some.inj hE
    exact y_ret dX7_isLetter_17 (Nat.le_refl _) (Nat.le_refl _) ⟨_, rfl, rfl⟩
  · rw [if_neg hc2] at hE
    refine y_iload_n dX7_isLetter_6 0 rfl ?_
    refine y_bipush (v := (122 : Int32)) dX7_isLetter_7 (by decide) ?_
    refine y_icmp_gt (tgt := 16) dX7_isLetter_9 (by decide) (fun hc1 => ?_) (fun hc1 => ?_)
    · rw [if_pos hc1] at hE
      refine y_iconst (v := (0 : Int32)) dX7_isLetter_16 (by decide) ?_
      obtain rfl := Option.some.inj hE
      exact y_ret dX7_isLetter_17 (Nat.le_refl _) (Nat.le_refl _) ⟨_, rfl, rfl⟩
    · rw [if_neg hc1] at hE
      refine y_iconst (v := (1 : Int32)) dX7_isLetter_12 (by decide) ?_
      refine y_goto (tgt := 17) dX7_isLetter_13 (by decide) ?_
      obtain rfl := Option.some.inj hE
      exact y_ret dX7_isLetter_17 (Nat.le_refl _) (Nat.le_refl _) ⟨_, rfl, rfl⟩
def f_X7_isDigit (h : xH) (p0 : Int32) : Option (Int32) :=
  if p0 < (48 : Int32) then
    some (0 : Int32)
  else
    if (57 : Int32) < p0 then
      some (0 : Int32)
    else
      some (1 : Int32)
set_option maxRecDepth 100000 in
set_option maxHeartbeats 4000000 in
theorem c_X7_isDigit {h : xH} {p0 : Int32} {r9 : Int32} (hE : f_X7_isDigit h p0 = some r9) : Ctr M_X7_isDigit [.int p0] h (some (.int r9)) h 0 0 := by
  refine ctr_of (by decide) (fun _ _ => Nat.le_of_ble_eq_true rfl) (fun S => ?_)
  show Y S M_X7_isDigit h (some (.int r9)) h 0 0 0 [(0, .int p0)] [] h 0 0
  unfold f_X7_isDigit at hE
  refine y_iload_n dX7_isDigit_0 0 rfl ?_
  refine y_bipush (v := (48 : Int32)) dX7_isDigit_1 (by decide) ?_
  refine y_icmp_lt (tgt := 16) dX7_isDigit_3 (by decide) (fun hc2 => ?_) (fun hc2 => ?_)
  · rw [if_pos hc2] at hE
    refine y_iconst (v := (0 : Int32)) dX7_isDigit_16 (by decide) ?_
    obtain rfl := Option.some.inj hE
    exact y_ret dX7_isDigit_17 (Nat.le_refl _) (Nat.le_refl _) ⟨_, rfl, rfl⟩
  · rw [if_neg hc2] at hE
    refine y_iload_n dX7_isDigit_6 0 rfl ?_
    refine y_bipush (v := (57 : Int32)) dX7_isDigit_7 (by decide) ?_
    refine y_icmp_gt (tgt := 16) dX7_isDigit_9 (by decide) (fun hc1 => ?_) (fun hc1 => ?_)
    · rw [if_pos hc1] at hE
      refine y_iconst (v := (0 : Int32)) dX7_isDigit_16 (by decide) ?_
      obtain rfl := Option.some.inj hE
      exact y_ret dX7_isDigit_17 (Nat.le_refl _) (Nat.le_refl _) ⟨_, rfl, rfl⟩
    · rw [if_neg hc1] at hE
      refine y_iconst (v := (1 : Int32)) dX7_isDigit_12 (by decide) ?_
      refine y_goto (tgt := 17) dX7_isDigit_13 (by decide) ?_
      obtain rfl := Option.some.inj hE
      exact y_ret dX7_isDigit_17 (Nat.le_refl _) (Nat.le_refl _) ⟨_, rfl, rfl⟩
def f_X7_look_L0 (v0 : Nat) : Nat → xH → Option (xH)
  | 0, _ => none
  | k + 1, h =>
    (x_gI h v0 7 20).bind fun x1 =>
    (x_gI h v0 7 7).bind fun x2 =>
    if x2 ≤ x1 then
      some h
    else
      (x_gR h v0 7 6).bind fun a3 =>
      (x_gI h v0 7 20).bind fun x4 =>
      (x_ld h a3 x4).bind fun x5 =>
      if x5 = (32 : Int32) then
        (x_gI h v0 7 20).bind fun x6 =>
        (x_put h v0 7 20 (.int (x6 + (1 : Int32)))).bind fun h7 =>
        f_X7_look_L0 v0 k h7
      else
        some h
set_option maxRecDepth 100000 in
set_option maxHeartbeats 4000000 in
theorem l_X7_look_0 {S : Nat × (Nat → Int32)} {rv : Option Value} {h0 h1 : xH} {mc ms : Nat} {cells slots : Nat} (hm : cells ≤ mc ∧ slots ≤ ms) (v0 : Nat) : ∀ (k : Nat) (h : xH) (res : xH), f_X7_look_L0 v0 k h = some res → (∀ r9, res = r9 → Y S M_X7_look h0 rv h1 mc ms 38 [(0, .ref v0)] [] r9 cells slots) → Y S M_X7_look h0 rv h1 mc ms 0 [(0, .ref v0)] [] h cells slots := by
  intro k
  induction k with
  | zero =>
    intro _ _ hE
    cases hE
  | succ k ih =>
    intro h res hE K
    unfold f_X7_look_L0 at hE
    refine y_aload_n dX7_look_0 0 rfl ?_
    obtain ⟨x1, ex1, hE⟩ := Option.bind_eq_some_iff.mp hE
    refine y_getI fl_X7_126 ex1 dX7_look_1 ?_
    refine y_aload_n dX7_look_4 0 rfl ?_
    obtain ⟨x2, ex2, hE⟩ := Option.bind_eq_some_iff.mp hE
    refine y_getI fl_X7_123 ex2 dX7_look_5 ?_
    refine y_icmp_ge (tgt := 38) dX7_look_8 (by decide) (fun hc9 => ?_) (fun hc9 => ?_)
    · rw [if_pos hc9] at hE
      obtain rfl := Option.some.inj hE
      exact y_pick [0] rfl (K _ rfl)
    · rw [if_neg hc9] at hE
      refine y_aload_n dX7_look_11 0 rfl ?_
      obtain ⟨a3, ea3, hE⟩ := Option.bind_eq_some_iff.mp hE
      refine y_getR fl_X7_31 ea3 dX7_look_12 ?_
      refine y_aload_n dX7_look_15 0 rfl ?_
      obtain ⟨x4, ex4, hE⟩ := Option.bind_eq_some_iff.mp hE
      refine y_getI fl_X7_126 ex4 dX7_look_16 ?_
      obtain ⟨x5, ex5, hE⟩ := Option.bind_eq_some_iff.mp hE
      refine y_iald ex5 dX7_look_19 ?_
      refine y_bipush (v := (32 : Int32)) dX7_look_20 (by decide) ?_
      refine y_icmp_ne (tgt := 38) dX7_look_22 (by decide) (fun hc8 => ?_) (fun hc8 => ?_)
      · rw [if_pos hc8] at hE
        refine y_aload_n dX7_look_25 0 rfl ?_
        refine y_dup dX7_look_26 rfl ?_
        obtain ⟨x6, ex6, hE⟩ := Option.bind_eq_some_iff.mp hE
        refine y_getI fl_X7_126 ex6 dX7_look_27 ?_
        refine y_iconst (v := (1 : Int32)) dX7_look_30 (by decide) ?_
        refine y_iadd dX7_look_31 ?_
        obtain ⟨h7, eh7, hE⟩ := Option.bind_eq_some_iff.mp hE
        refine y_putI fp_X7_126 eh7 dX7_look_32 ?_
        refine y_goto (tgt := 0) dX7_look_35 (by decide) ?_
        refine y_pick [0] rfl ?_
        exact ih _ _ hE K
      · rw [if_neg hc8] at hE
        obtain rfl := Option.some.inj hE
        exact y_pick [0] rfl (K _ rfl)
def f_X7_look_L149 (v0 : Nat) : Nat → xH → Option (xH)
  | 0, _ => none
  | k + 1, h =>
    (x_gI h v0 7 20).bind fun x34 =>
    (x_gI h v0 7 7).bind fun x35 =>
    if x35 ≤ x34 then
      some h
    else
      (x_gR h v0 7 6).bind fun a36 =>
      (x_gI h v0 7 20).bind fun x37 =>
      (x_ld h a36 x37).bind fun x38 =>
      (f_X7_isDigit h x38).bind fun q39 =>
      if q39 = 0 then
        some h
      else
        (x_gI h v0 7 20).bind fun x40 =>
        (x_gI h v0 7 22).bind fun x41 =>
        (
          if (2 : Int32) ≤ (x40 - x41) then
            some (100000 : Int32)
          else
            (x_gI h v0 7 23).bind fun x43 =>
            (x_gR h v0 7 6).bind fun a44 =>
            (x_gI h v0 7 20).bind fun x45 =>
            (x_ld h a44 x45).bind fun x46 =>
            some (((x43 * (10 : Int32)) + x46) - (48 : Int32))
        ).bind fun q42 =>
        (x_put h v0 7 23 (.int q42)).bind fun h48 =>
        (x_gI h48 v0 7 20).bind fun x49 =>
        (x_put h48 v0 7 20 (.int (x49 + (1 : Int32)))).bind fun h50 =>
        f_X7_look_L149 v0 k h50
set_option maxRecDepth 100000 in
set_option maxHeartbeats 4000000 in
theorem l_X7_look_149 {S : Nat × (Nat → Int32)} {rv : Option Value} {h0 h1 : xH} {mc ms : Nat} {cells slots : Nat} (hm : cells ≤ mc ∧ slots ≤ ms) (v0 : Nat) : ∀ (k : Nat) (h : xH) (res : xH), f_X7_look_L149 v0 k h = some res → (∀ r9, res = r9 → Y S M_X7_look h0 rv h1 mc ms 263 [] [] r9 cells slots) → Y S M_X7_look h0 rv h1 mc ms 149 [(0, .ref v0)] [] h cells slots := by
  intro k
  induction k with
  | zero =>
    intro _ _ hE
    cases hE
  | succ k ih =>
    intro h res hE K
    unfold f_X7_look_L149 at hE
    refine y_aload_n dX7_look_149 0 rfl ?_
    obtain ⟨x34, ex34, hE⟩ := Option.bind_eq_some_iff.mp hE
    refine y_getI fl_X7_126 ex34 dX7_look_150 ?_
    refine y_aload_n dX7_look_153 0 rfl ?_
    obtain ⟨x35, ex35, hE⟩ := Option.bind_eq_some_iff.mp hE
    refine y_getI fl_X7_123 ex35 dX7_look_154 ?_
    refine y_icmp_ge (tgt := 263) dX7_look_157 (by decide) (fun hc52 => ?_) (fun hc52 => ?_)
    · rw [if_pos hc52] at hE
      obtain rfl := Option.some.inj hE
      exact y_pick [] rfl (K _ rfl)
    · rw [if_neg hc52] at hE
      refine y_aload_n dX7_look_160 0 rfl ?_
      obtain ⟨a36, ea36, hE⟩ := Option.bind_eq_some_iff.mp hE
      refine y_getR fl_X7_31 ea36 dX7_look_161 ?_
      refine y_aload_n dX7_look_164 0 rfl ?_
      obtain ⟨x37, ex37, hE⟩ := Option.bind_eq_some_iff.mp hE
      refine y_getI fl_X7_126 ex37 dX7_look_165 ?_
      obtain ⟨x38, ex38, hE⟩ := Option.bind_eq_some_iff.mp hE
      refine y_iald ex38 dX7_look_168 ?_
      obtain ⟨q39, eq39, hE⟩ := Option.bind_eq_some_iff.mp hE
      refine y_cSi0 (st := []) (as := [.int x38]) (c_X7_isDigit eq39) lk_X7_141 st_X7_isDigit ⟨Nat.le_of_ble_eq_true rfl, Nat.le_of_ble_eq_true rfl⟩ (Nat.le_of_ble_eq_true rfl) dX7_look_169 hm rfl ?_
      refine y_if_eq (tgt := 263) dX7_look_172 (by decide) (fun hc51 => ?_) (fun hc51 => ?_)
      · rw [if_pos hc51] at hE
        obtain rfl := Option.some.inj hE
        exact y_pick [] rfl (K _ rfl)
      · rw [if_neg hc51] at hE
        refine y_aload_n dX7_look_175 0 rfl ?_
        refine y_aload_n dX7_look_176 0 rfl ?_
        obtain ⟨x40, ex40, hE⟩ := Option.bind_eq_some_iff.mp hE
        refine y_getI fl_X7_126 ex40 dX7_look_177 ?_
        refine y_aload_n dX7_look_180 0 rfl ?_
        obtain ⟨x41, ex41, hE⟩ := Option.bind_eq_some_iff.mp hE
        refine y_getI fl_X7_129 ex41 dX7_look_181 ?_
        refine y_isub dX7_look_184 ?_
        refine y_iconst (v := (2 : Int32)) dX7_look_185 (by decide) ?_
        obtain ⟨q42, eJ, hE⟩ := Option.bind_eq_some_iff.mp hE
        have hJ : Y S M_X7_look h0 rv h1 mc ms 214 [(0, .ref v0)] [.int q42, .ref v0] h cells slots := by
          obtain ⟨h48, eh48, hE⟩ := Option.bind_eq_some_iff.mp hE
          refine y_putI fp_X7_132 eh48 dX7_look_214 ?_
          refine y_aload_n dX7_look_217 0 rfl ?_
          refine y_dup dX7_look_218 rfl ?_
          obtain ⟨x49, ex49, hE⟩ := Option.bind_eq_some_iff.mp hE
          refine y_getI fl_X7_126 ex49 dX7_look_219 ?_
          refine y_iconst (v := (1 : Int32)) dX7_look_222 (by decide) ?_
          refine y_iadd dX7_look_223 ?_
          obtain ⟨h50, eh50, hE⟩ := Option.bind_eq_some_iff.mp hE
          refine y_putI fp_X7_126 eh50 dX7_look_224 ?_
          refine y_goto (tgt := 149) dX7_look_227 (by decide) ?_
          refine y_pick [0] rfl ?_
          exact ih _ _ hE K
        clear hE
        have hE := eJ
        clear eJ
        refine y_icmp_ge (tgt := 212) dX7_look_186 (by decide) (fun hc47 => ?_) (fun hc47 => ?_)
        · rw [if_pos hc47] at hE
          refine y_ldc (v := (100000 : Int32)) (x_wt (tb 1184 (by decide +kernel)) rfl) dX7_look_212 ?_
          obtain rfl := Option.some.inj hE
          exact y_pick [0] rfl hJ
        · rw [if_neg hc47] at hE
          refine y_aload_n dX7_look_189 0 rfl ?_
          obtain ⟨x43, ex43, hE⟩ := Option.bind_eq_some_iff.mp hE
          refine y_getI fl_X7_132 ex43 dX7_look_190 ?_
          refine y_bipush (v := (10 : Int32)) dX7_look_193 (by decide) ?_
          refine y_imul dX7_look_195 ?_
          refine y_aload_n dX7_look_196 0 rfl ?_
          obtain ⟨a44, ea44, hE⟩ := Option.bind_eq_some_iff.mp hE
          refine y_getR fl_X7_31 ea44 dX7_look_197 ?_
          refine y_aload_n dX7_look_200 0 rfl ?_
          obtain ⟨x45, ex45, hE⟩ := Option.bind_eq_some_iff.mp hE
          refine y_getI fl_X7_126 ex45 dX7_look_201 ?_
          obtain ⟨x46, ex46, hE⟩ := Option.bind_eq_some_iff.mp hE
          refine y_iald ex46 dX7_look_204 ?_
          refine y_iadd dX7_look_205 ?_
          refine y_bipush (v := (48 : Int32)) dX7_look_206 (by decide) ?_
          refine y_isub dX7_look_208 ?_
          refine y_goto (tgt := 214) dX7_look_209 (by decide) ?_
          obtain rfl := Option.some.inj hE
          exact y_pick [0] rfl hJ
def f_X7_look_L90 (v0 : Nat) : Nat → xH → Option (xH)
  | 0, _ => none
  | k + 1, h =>
    (x_gI h v0 7 20).bind fun x56 =>
    (x_gI h v0 7 7).bind fun x57 =>
    if x57 ≤ x56 then
      some h
    else
      (x_gR h v0 7 6).bind fun a58 =>
      (x_gI h v0 7 20).bind fun x59 =>
      (x_ld h a58 x59).bind fun x60 =>
      (f_X7_isLetter h x60).bind fun q61 =>
      if q61 = 0 then
        some h
      else
        (x_gI h v0 7 20).bind fun x62 =>
        (x_put h v0 7 20 (.int (x62 + (1 : Int32)))).bind fun h63 =>
        f_X7_look_L90 v0 k h63
set_option maxRecDepth 100000 in
set_option maxHeartbeats 4000000 in
theorem l_X7_look_90 {S : Nat × (Nat → Int32)} {rv : Option Value} {h0 h1 : xH} {mc ms : Nat} {cells slots : Nat} (hm : cells ≤ mc ∧ slots ≤ ms) (v0 : Nat) : ∀ (k : Nat) (h : xH) (res : xH), f_X7_look_L90 v0 k h = some res → (∀ r9, res = r9 → Y S M_X7_look h0 rv h1 mc ms 263 [] [] r9 cells slots) → Y S M_X7_look h0 rv h1 mc ms 90 [(0, .ref v0)] [] h cells slots := by
  intro k
  induction k with
  | zero =>
    intro _ _ hE
    cases hE
  | succ k ih =>
    intro h res hE K
    unfold f_X7_look_L90 at hE
    refine y_aload_n dX7_look_90 0 rfl ?_
    obtain ⟨x56, ex56, hE⟩ := Option.bind_eq_some_iff.mp hE
    refine y_getI fl_X7_126 ex56 dX7_look_91 ?_
    refine y_aload_n dX7_look_94 0 rfl ?_
    obtain ⟨x57, ex57, hE⟩ := Option.bind_eq_some_iff.mp hE
    refine y_getI fl_X7_123 ex57 dX7_look_95 ?_
    refine y_icmp_ge (tgt := 263) dX7_look_98 (by decide) (fun hc65 => ?_) (fun hc65 => ?_)
    · rw [if_pos hc65] at hE
      obtain rfl := Option.some.inj hE
      exact y_pick [] rfl (K _ rfl)
    · rw [if_neg hc65] at hE
      refine y_aload_n dX7_look_101 0 rfl ?_
      obtain ⟨a58, ea58, hE⟩ := Option.bind_eq_some_iff.mp hE
      refine y_getR fl_X7_31 ea58 dX7_look_102 ?_
      refine y_aload_n dX7_look_105 0 rfl ?_
      obtain ⟨x59, ex59, hE⟩ := Option.bind_eq_some_iff.mp hE
      refine y_getI fl_X7_126 ex59 dX7_look_106 ?_
      obtain ⟨x60, ex60, hE⟩ := Option.bind_eq_some_iff.mp hE
      refine y_iald ex60 dX7_look_109 ?_
      obtain ⟨q61, eq61, hE⟩ := Option.bind_eq_some_iff.mp hE
      refine y_cSi0 (st := []) (as := [.int x60]) (c_X7_isLetter eq61) lk_X7_138 st_X7_isLetter ⟨Nat.le_of_ble_eq_true rfl, Nat.le_of_ble_eq_true rfl⟩ (Nat.le_of_ble_eq_true rfl) dX7_look_110 hm rfl ?_
      refine y_if_eq (tgt := 263) dX7_look_113 (by decide) (fun hc64 => ?_) (fun hc64 => ?_)
      · rw [if_pos hc64] at hE
        obtain rfl := Option.some.inj hE
        exact y_pick [] rfl (K _ rfl)
      · rw [if_neg hc64] at hE
        refine y_aload_n dX7_look_116 0 rfl ?_
        refine y_dup dX7_look_117 rfl ?_
        obtain ⟨x62, ex62, hE⟩ := Option.bind_eq_some_iff.mp hE
        refine y_getI fl_X7_126 ex62 dX7_look_118 ?_
        refine y_iconst (v := (1 : Int32)) dX7_look_121 (by decide) ?_
        refine y_iadd dX7_look_122 ?_
        obtain ⟨h63, eh63, hE⟩ := Option.bind_eq_some_iff.mp hE
        refine y_putI fp_X7_126 eh63 dX7_look_123 ?_
        refine y_goto (tgt := 90) dX7_look_126 (by decide) ?_
        refine y_pick [0] rfl ?_
        exact ih _ _ hE K
def f_X7_look (n : Nat) (h : xH) (a0 : Nat) : Option (xH) :=
  (f_X7_look_L0 a0 n h).bind fun q10 =>
  (x_gI q10 a0 7 20).bind fun x11 =>
  (x_put q10 a0 7 22 (.int x11)).bind fun h12 =>
  (x_put h12 a0 7 23 (.int (0 : Int32))).bind fun h13 =>
  (x_gI h13 a0 7 20).bind fun x14 =>
  (x_gI h13 a0 7 7).bind fun x15 =>
  if x14 = x15 then
    (x_put h13 a0 7 21 (.int (0 : Int32))).bind fun h16 =>
    some h16
  else
    (x_gR h13 a0 7 6).bind fun a17 =>
    (x_gI h13 a0 7 20).bind fun x18 =>
    (x_ld h13 a17 x18).bind fun x19 =>
    (f_X7_isLetter h13 x19).bind fun q20 =>
    if q20 = 0 then
      (x_gR h13 a0 7 6).bind fun a21 =>
      (x_gI h13 a0 7 20).bind fun x22 =>
      (x_ld h13 a21 x22).bind fun x23 =>
      (f_X7_isDigit h13 x23).bind fun q24 =>
      if q24 = 0 then
        (x_gR h13 a0 7 6).bind fun a25 =>
        (x_gI h13 a0 7 20).bind fun x26 =>
        (x_ld h13 a25 x26).bind fun x27 =>
        (
          if x27 = (59 : Int32) then
            some (3 : Int32)
          else
            some (4 : Int32)
        ).bind fun q28 =>
        (x_put h13 a0 7 21 (.int q28)).bind fun h30 =>
        (x_gI h30 a0 7 20).bind fun x31 =>
        (x_put h30 a0 7 20 (.int (x31 + (1 : Int32)))).bind fun h32 =>
        some h32
      else
        (x_put h13 a0 7 21 (.int (2 : Int32))).bind fun h33 =>
        (f_X7_look_L149 a0 n h33).bind fun q53 =>
        some q53
    else
      (x_put h13 a0 7 21 (.int (1 : Int32))).bind fun h55 =>
      (f_X7_look_L90 a0 n h55).bind fun q66 =>
      some q66
set_option maxRecDepth 100000 in
set_option maxHeartbeats 4000000 in
theorem c_X7_look {n : Nat} {h : xH} {a0 : Nat} {hz : xH} (hE : f_X7_look n h a0 = some hz) : Ctr M_X7_look [.ref a0] h none hz 0 0 := by
  refine ctr_of (by decide) (fun _ _ => Nat.le_of_ble_eq_true rfl) (fun S => ?_)
  show Y S M_X7_look h none hz 0 0 0 [(0, .ref a0)] [] h 0 0
  unfold f_X7_look at hE
  obtain ⟨q10, eq10, hE⟩ := Option.bind_eq_some_iff.mp hE
  refine y_pick [0] rfl ?_
  refine l_X7_look_0 (S := S) ⟨Nat.le_refl _, Nat.le_refl _⟩ a0 n h _ eq10 (fun r8 hr8 => ?_)
  subst hr8
  refine y_aload_n dX7_look_38 0 rfl ?_
  refine y_aload_n dX7_look_39 0 rfl ?_
  obtain ⟨x11, ex11, hE⟩ := Option.bind_eq_some_iff.mp hE
  refine y_getI fl_X7_126 ex11 dX7_look_40 ?_
  obtain ⟨h12, eh12, hE⟩ := Option.bind_eq_some_iff.mp hE
  refine y_putI fp_X7_129 eh12 dX7_look_43 ?_
  refine y_aload_n dX7_look_46 0 rfl ?_
  refine y_iconst (v := (0 : Int32)) dX7_look_47 (by decide) ?_
  obtain ⟨h13, eh13, hE⟩ := Option.bind_eq_some_iff.mp hE
  refine y_putI fp_X7_132 eh13 dX7_look_48 ?_
  refine y_aload_n dX7_look_51 0 rfl ?_
  obtain ⟨x14, ex14, hE⟩ := Option.bind_eq_some_iff.mp hE
  refine y_getI fl_X7_126 ex14 dX7_look_52 ?_
  refine y_aload_n dX7_look_55 0 rfl ?_
  obtain ⟨x15, ex15, hE⟩ := Option.bind_eq_some_iff.mp hE
  refine y_getI fl_X7_123 ex15 dX7_look_56 ?_
  refine y_icmp_ne (tgt := 70) dX7_look_59 (by decide) (fun hc68 => ?_) (fun hc68 => ?_)
  · rw [if_pos hc68] at hE
    refine y_aload_n dX7_look_62 0 rfl ?_
    refine y_iconst (v := (0 : Int32)) dX7_look_63 (by decide) ?_
    obtain ⟨h16, eh16, hE⟩ := Option.bind_eq_some_iff.mp hE
    refine y_putI fp_X7_135 eh16 dX7_look_64 ?_
    refine y_goto (tgt := 263) dX7_look_67 (by decide) ?_
    obtain rfl := Option.some.inj hE
    exact y_ret dX7_look_263 (Nat.le_refl _) (Nat.le_refl _) rfl
  · rw [if_neg hc68] at hE
    refine y_aload_n dX7_look_70 0 rfl ?_
    obtain ⟨a17, ea17, hE⟩ := Option.bind_eq_some_iff.mp hE
    refine y_getR fl_X7_31 ea17 dX7_look_71 ?_
    refine y_aload_n dX7_look_74 0 rfl ?_
    obtain ⟨x18, ex18, hE⟩ := Option.bind_eq_some_iff.mp hE
    refine y_getI fl_X7_126 ex18 dX7_look_75 ?_
    obtain ⟨x19, ex19, hE⟩ := Option.bind_eq_some_iff.mp hE
    refine y_iald ex19 dX7_look_78 ?_
    obtain ⟨q20, eq20, hE⟩ := Option.bind_eq_some_iff.mp hE
    refine y_cSi0 (st := []) (as := [.int x19]) (c_X7_isLetter eq20) lk_X7_138 st_X7_isLetter ⟨Nat.le_of_ble_eq_true rfl, Nat.le_of_ble_eq_true rfl⟩ (Nat.le_of_ble_eq_true rfl) dX7_look_79 ⟨Nat.le_refl _, Nat.le_refl _⟩ rfl ?_
    refine y_if_eq (tgt := 129) dX7_look_82 (by decide) (fun hc67 => ?_) (fun hc67 => ?_)
    · rw [if_pos hc67] at hE
      refine y_aload_n dX7_look_129 0 rfl ?_
      obtain ⟨a21, ea21, hE⟩ := Option.bind_eq_some_iff.mp hE
      refine y_getR fl_X7_31 ea21 dX7_look_130 ?_
      refine y_aload_n dX7_look_133 0 rfl ?_
      obtain ⟨x22, ex22, hE⟩ := Option.bind_eq_some_iff.mp hE
      refine y_getI fl_X7_126 ex22 dX7_look_134 ?_
      obtain ⟨x23, ex23, hE⟩ := Option.bind_eq_some_iff.mp hE
      refine y_iald ex23 dX7_look_137 ?_
      obtain ⟨q24, eq24, hE⟩ := Option.bind_eq_some_iff.mp hE
      refine y_cSi0 (st := []) (as := [.int x23]) (c_X7_isDigit eq24) lk_X7_141 st_X7_isDigit ⟨Nat.le_of_ble_eq_true rfl, Nat.le_of_ble_eq_true rfl⟩ (Nat.le_of_ble_eq_true rfl) dX7_look_138 ⟨Nat.le_refl _, Nat.le_refl _⟩ rfl ?_
      refine y_if_eq (tgt := 230) dX7_look_141 (by decide) (fun hc54 => ?_) (fun hc54 => ?_)
      · rw [if_pos hc54] at hE
        refine y_aload_n dX7_look_230 0 rfl ?_
        refine y_aload_n dX7_look_231 0 rfl ?_
        obtain ⟨a25, ea25, hE⟩ := Option.bind_eq_some_iff.mp hE
        refine y_getR fl_X7_31 ea25 dX7_look_232 ?_
        refine y_aload_n dX7_look_235 0 rfl ?_
        obtain ⟨x26, ex26, hE⟩ := Option.bind_eq_some_iff.mp hE
        refine y_getI fl_X7_126 ex26 dX7_look_236 ?_
        obtain ⟨x27, ex27, hE⟩ := Option.bind_eq_some_iff.mp hE
        refine y_iald ex27 dX7_look_239 ?_
        refine y_bipush (v := (59 : Int32)) dX7_look_240 (by decide) ?_
        obtain ⟨q28, eJ, hE⟩ := Option.bind_eq_some_iff.mp hE
        have hJ : Y S M_X7_look h none hz 0 0 250 [(0, .ref a0)] [.int q28, .ref a0] h13 0 0 := by
          obtain ⟨h30, eh30, hE⟩ := Option.bind_eq_some_iff.mp hE
          refine y_putI fp_X7_135 eh30 dX7_look_250 ?_
          refine y_aload_n dX7_look_253 0 rfl ?_
          refine y_dup dX7_look_254 rfl ?_
          obtain ⟨x31, ex31, hE⟩ := Option.bind_eq_some_iff.mp hE
          refine y_getI fl_X7_126 ex31 dX7_look_255 ?_
          refine y_iconst (v := (1 : Int32)) dX7_look_258 (by decide) ?_
          refine y_iadd dX7_look_259 ?_
          obtain ⟨h32, eh32, hE⟩ := Option.bind_eq_some_iff.mp hE
          refine y_putI fp_X7_126 eh32 dX7_look_260 ?_
          obtain rfl := Option.some.inj hE
          exact y_ret dX7_look_263 (Nat.le_refl _) (Nat.le_refl _) rfl
        clear hE
        have hE := eJ
        clear eJ
        refine y_icmp_ne (tgt := 249) dX7_look_242 (by decide) (fun hc29 => ?_) (fun hc29 => ?_)
        · rw [if_pos hc29] at hE
          refine y_iconst (v := (3 : Int32)) dX7_look_245 (by decide) ?_
          refine y_goto (tgt := 250) dX7_look_246 (by decide) ?_
          obtain rfl := Option.some.inj hE
          exact y_pick [0] rfl hJ
        · rw [if_neg hc29] at hE
          refine y_iconst (v := (4 : Int32)) dX7_look_249 (by decide) ?_
          obtain rfl := Option.some.inj hE
          exact y_pick [0] rfl hJ
      · rw [if_neg hc54] at hE
        refine y_aload_n dX7_look_144 0 rfl ?_
        refine y_iconst (v := (2 : Int32)) dX7_look_145 (by decide) ?_
        obtain ⟨h33, eh33, hE⟩ := Option.bind_eq_some_iff.mp hE
        refine y_putI fp_X7_135 eh33 dX7_look_146 ?_
        obtain ⟨q53, eq53, hE⟩ := Option.bind_eq_some_iff.mp hE
        refine y_pick [0] rfl ?_
        refine l_X7_look_149 (S := S) ⟨Nat.le_refl _, Nat.le_refl _⟩ a0 n h33 _ eq53 (fun r8 hr8 => ?_)
        subst hr8
        obtain rfl := Option.some.inj hE
        exact y_ret dX7_look_263 (Nat.le_refl _) (Nat.le_refl _) rfl
    · rw [if_neg hc67] at hE
      refine y_aload_n dX7_look_85 0 rfl ?_
      refine y_iconst (v := (1 : Int32)) dX7_look_86 (by decide) ?_
      obtain ⟨h55, eh55, hE⟩ := Option.bind_eq_some_iff.mp hE
      refine y_putI fp_X7_135 eh55 dX7_look_87 ?_
      obtain ⟨q66, eq66, hE⟩ := Option.bind_eq_some_iff.mp hE
      refine y_pick [0] rfl ?_
      refine l_X7_look_90 (S := S) ⟨Nat.le_refl _, Nat.le_refl _⟩ a0 n h55 _ eq66 (fun r8 hr8 => ?_)
      subst hr8
      obtain rfl := Option.some.inj hE
      exact y_ret dX7_look_263 (Nat.le_refl _) (Nat.le_refl _) rfl
def f_X7_wrong (h : xH) (a0 : Nat) : Option (Int32 × xH) :=
  (x_gI h a0 7 22).bind fun x1 =>
  (x_put h a0 7 24 (.int x1)).bind fun h2 =>
  some ((0 : Int32), h2)
set_option maxRecDepth 100000 in
set_option maxHeartbeats 4000000 in
theorem c_X7_wrong {h : xH} {a0 : Nat} {r9 : Int32} {hz : xH} (hE : f_X7_wrong h a0 = some (r9, hz)) : Ctr M_X7_wrong [.ref a0] h (some (.int r9)) hz 0 0 := by
  refine ctr_of (by decide) (fun _ _ => Nat.le_of_ble_eq_true rfl) (fun S => ?_)
  show Y S M_X7_wrong h (some (.int r9)) hz 0 0 0 [(0, .ref a0)] [] h 0 0
  unfold f_X7_wrong at hE
  refine y_aload_n dX7_wrong_0 0 rfl ?_
  refine y_aload_n dX7_wrong_1 0 rfl ?_
  obtain ⟨x1, ex1, hE⟩ := Option.bind_eq_some_iff.mp hE
  refine y_getI fl_X7_129 ex1 dX7_wrong_2 ?_
  obtain ⟨h2, eh2, hE⟩ := Option.bind_eq_some_iff.mp hE
  refine y_putI fp_X7_145 eh2 dX7_wrong_5 ?_
  refine y_iconst (v := (0 : Int32)) dX7_wrong_8 (by decide) ?_
  obtain ⟨rfl, rfl⟩ := x_inj2 hE
  exact y_ret dX7_wrong_9 (Nat.le_refl _) (Nat.le_refl _) ⟨_, rfl, rfl⟩
def f_X7_isWord_L28 (h : xH) (v0 : Nat) (v1 : Nat) : Nat → Int32 → Option (Sum (Int32) (Unit))
  | 0, _ => none
  | k + 1, v2 =>
    (x_slen v1).bind fun x5 =>
    if x5 ≤ v2 then
      some (.inr ())
    else
      (x_gR h v0 7 6).bind fun a6 =>
      (x_gI h v0 7 22).bind fun x7 =>
      (x_ld h a6 (x7 + v2)).bind fun x8 =>
      (x_sch v1 v2).bind fun x9 =>
      if x8 = x9 then
        (some (v2 + (1 : Int32))).bind fun x10 =>
        f_X7_isWord_L28 h v0 v1 k x10
      else
        some (.inl (0 : Int32))
set_option maxRecDepth 100000 in
set_option maxHeartbeats 4000000 in
theorem l_X7_isWord_28 {S : Nat × (Nat → Int32)} {rv : Option Value} {h0 h1 : xH} {mc ms : Nat} {cells slots : Nat} (hm : cells ≤ mc ∧ slots ≤ ms) (h : xH) (v0 : Nat) (v1 : Nat) : ∀ (k : Nat) (v2 : Int32) (res : Sum (Int32) (Unit)), f_X7_isWord_L28 h v0 v1 k v2 = some res → (∀ r9, res = .inl r9 → rv = some (.int r9) ∧ h1 = h) → (∀ r9, res = .inr r9 → Y S M_X7_isWord h0 rv h1 mc ms 63 [] [] h cells slots) → Y S M_X7_isWord h0 rv h1 mc ms 28 [(0, .ref v0), (1, .ref v1), (2, .int v2)] [] h cells slots := by
  intro k
  induction k with
  | zero =>
    intro _ _ hE
    cases hE
  | succ k ih =>
    intro v2 res hE KR K
    unfold f_X7_isWord_L28 at hE
    refine y_iload_n dX7_isWord_28 2 rfl ?_
    refine y_aload_n dX7_isWord_29 1 rfl ?_
    obtain ⟨x5, ex5, hE⟩ := Option.bind_eq_some_iff.mp hE
    refine y_strlen ex5 (x_wt (tb 1194 (by decide +kernel)) rfl) (by decide) (by decide) (Nat.le_of_ble_eq_true rfl) hm dX7_isWord_30 ?_
    refine y_icmp_ge (tgt := 63) dX7_isWord_33 (by decide) (fun hc12 => ?_) (fun hc12 => ?_)
    · rw [if_pos hc12] at hE
      obtain rfl := Option.some.inj hE
      exact y_pick [] rfl (K _ rfl)
    · rw [if_neg hc12] at hE
      refine y_aload_n dX7_isWord_36 0 rfl ?_
      obtain ⟨a6, ea6, hE⟩ := Option.bind_eq_some_iff.mp hE
      refine y_getR fl_X7_31 ea6 dX7_isWord_37 ?_
      refine y_aload_n dX7_isWord_40 0 rfl ?_
      obtain ⟨x7, ex7, hE⟩ := Option.bind_eq_some_iff.mp hE
      refine y_getI fl_X7_129 ex7 dX7_isWord_41 ?_
      refine y_iload_n dX7_isWord_44 2 rfl ?_
      refine y_iadd dX7_isWord_45 ?_
      obtain ⟨x8, ex8, hE⟩ := Option.bind_eq_some_iff.mp hE
      refine y_iald ex8 dX7_isWord_46 ?_
      refine y_aload_n dX7_isWord_47 1 rfl ?_
      refine y_iload_n dX7_isWord_48 2 rfl ?_
      obtain ⟨x9, ex9, hE⟩ := Option.bind_eq_some_iff.mp hE
      refine y_charAt ex9 (x_wt (tb 1195 (by decide +kernel)) rfl) (by decide) (by decide) (Nat.le_of_ble_eq_true rfl) hm dX7_isWord_49 ?_
      refine y_icmp_eq (tgt := 57) dX7_isWord_52 (by decide) (fun hc11 => ?_) (fun hc11 => ?_)
      · rw [if_pos hc11] at hE
        obtain ⟨x10, ex10, hE⟩ := Option.bind_eq_some_iff.mp hE
        refine y_iinc (ls' := [(2, .int x10), (0, .ref v0), (1, .ref v1)]) dX7_isWord_57 2 rfl (Option.some.inj ex10) (by decide) rfl ?_
        refine y_goto (tgt := 28) dX7_isWord_60 (by decide) ?_
        refine y_pick [1, 2, 0] rfl ?_
        exact ih _ _ hE KR K
      · rw [if_neg hc11] at hE
        refine y_iconst (v := (0 : Int32)) dX7_isWord_55 (by decide) ?_
        obtain rfl := Option.some.inj hE
        obtain ⟨rfl, rfl⟩ := KR _ rfl
        exact y_ret dX7_isWord_56 hm.1 hm.2 ⟨_, rfl, rfl⟩
def f_X7_isWord (n : Nat) (h : xH) (a0 : Nat) (o1 : Nat) : Option (Int32) :=
  (x_gI h a0 7 21).bind fun x1 =>
  if x1 = (1 : Int32) then
    (x_gI h a0 7 20).bind fun x2 =>
    (x_gI h a0 7 22).bind fun x3 =>
    (x_slen o1).bind fun x4 =>
    if (x2 - x3) = x4 then
      (f_X7_isWord_L28 h a0 o1 n (0 : Int32)).bind fun q13 =>
      match q13 with
      | .inl r14 => some r14
      | .inr e15 =>
        some (1 : Int32)
    else
      some (0 : Int32)
  else
    some (0 : Int32)
set_option maxRecDepth 100000 in
set_option maxHeartbeats 4000000 in
theorem c_X7_isWord {n : Nat} {h : xH} {a0 : Nat} {o1 : Nat} {r9 : Int32} (hE : f_X7_isWord n h a0 o1 = some r9) : Ctr M_X7_isWord [.ref a0, .ref o1] h (some (.int r9)) h 0 0 := by
  refine ctr_of (by decide) (fun _ _ => Nat.le_of_ble_eq_true rfl) (fun S => ?_)
  show Y S M_X7_isWord h (some (.int r9)) h 0 0 0 [(0, .ref a0), (1, .ref o1)] [] h 0 0
  unfold f_X7_isWord at hE
  refine y_aload_n dX7_isWord_0 0 rfl ?_
  obtain ⟨x1, ex1, hE⟩ := Option.bind_eq_some_iff.mp hE
  refine y_getI fl_X7_135 ex1 dX7_isWord_1 ?_
  refine y_iconst (v := (1 : Int32)) dX7_isWord_4 (by decide) ?_
  refine y_icmp_ne (tgt := 24) dX7_isWord_5 (by decide) (fun hc17 => ?_) (fun hc17 => ?_)
  · rw [if_pos hc17] at hE
    refine y_aload_n dX7_isWord_8 0 rfl ?_
    obtain ⟨x2, ex2, hE⟩ := Option.bind_eq_some_iff.mp hE
    refine y_getI fl_X7_126 ex2 dX7_isWord_9 ?_
    refine y_aload_n dX7_isWord_12 0 rfl ?_
    obtain ⟨x3, ex3, hE⟩ := Option.bind_eq_some_iff.mp hE
    refine y_getI fl_X7_129 ex3 dX7_isWord_13 ?_
    refine y_isub dX7_isWord_16 ?_
    refine y_aload_n dX7_isWord_17 1 rfl ?_
    obtain ⟨x4, ex4, hE⟩ := Option.bind_eq_some_iff.mp hE
    refine y_strlen ex4 (x_wt (tb 1194 (by decide +kernel)) rfl) (by decide) (by decide) (Nat.le_of_ble_eq_true rfl) ⟨Nat.le_refl _, Nat.le_refl _⟩ dX7_isWord_18 ?_
    refine y_icmp_eq (tgt := 26) dX7_isWord_21 (by decide) (fun hc16 => ?_) (fun hc16 => ?_)
    · rw [if_pos hc16] at hE
      refine y_iconst (v := (0 : Int32)) dX7_isWord_26 (by decide) ?_
      refine y_istore_n (ls' := [(2, .int (0 : Int32)), (0, .ref a0), (1, .ref o1)]) dX7_isWord_27 (by decide) rfl rfl ?_
      obtain ⟨q13, eq13, hE⟩ := Option.bind_eq_some_iff.mp hE
      refine y_pick [1, 2, 0] rfl ?_
      cases q13 with
      | inl r14 =>
        dsimp only at hE
        cases hE
        exact l_X7_isWord_28 (S := S) ⟨Nat.le_refl _, Nat.le_refl _⟩ h a0 o1 n (0 : Int32) _ eq13 (fun r8 hr8 => by cases hr8; exact ⟨rfl, rfl⟩) (fun r8 hr8 => by cases hr8)
      | inr e15 =>
        dsimp only at hE
        refine l_X7_isWord_28 (S := S) ⟨Nat.le_refl _, Nat.le_refl _⟩ h a0 o1 n (0 : Int32) _ eq13 (fun r8 hr8 => by cases hr8) (fun r8 hr8 => ?_)
        cases hr8
        refine y_iconst (v := (1 : Int32)) dX7_isWord_63 (by decide) ?_
        obtain rfl := Option.some.inj hE
        exact y_ret dX7_isWord_64 (Nat.le_refl _) (Nat.le_refl _) ⟨_, rfl, rfl⟩
    · rw [if_neg hc16] at hE
      refine y_iconst (v := (0 : Int32)) dX7_isWord_24 (by decide) ?_
      obtain rfl := Option.some.inj hE
      exact y_ret dX7_isWord_25 (Nat.le_refl _) (Nat.le_refl _) ⟨_, rfl, rfl⟩
  · rw [if_neg hc17] at hE
    refine y_iconst (v := (0 : Int32)) dX7_isWord_24 (by decide) ?_
    obtain rfl := Option.some.inj hE
    exact y_ret dX7_isWord_25 (Nat.le_refl _) (Nat.le_refl _) ⟨_, rfl, rfl⟩
def f_X7_number (n : Nat) (h : xH) (a0 : Nat) (p1 : Int32) (p2 : Int32) (p3 : Int32) : Option (Int32 × xH) :=
  (x_gI h a0 7 21).bind fun x1 =>
  if x1 = (2 : Int32) then
    (x_gI h a0 7 23).bind fun x2 =>
    (f_X7_in h x2.toInt64 p2.toInt64 p3.toInt64).bind fun q3 =>
    if q3 = 0 then
      (x_ob h a0 7).bind fun u4 =>
      (f_X7_wrong h a0).bind fun q5 =>
      (x_bool q5.1).bind fun x6 =>
      some (x6, q5.2)
    else
      (x_gR h a0 7 25).bind fun a7 =>
      (x_gI h a0 7 23).bind fun x8 =>
      (x_st h a7 p1 x8).bind fun h9 =>
      (x_ob h9 a0 7).bind fun u10 =>
      (f_X7_look n h9 a0).bind fun q11 =>
      some ((1 : Int32), q11)
  else
    (x_ob h a0 7).bind fun u13 =>
    (f_X7_wrong h a0).bind fun q14 =>
    (x_bool q14.1).bind fun x15 =>
    some (x15, q14.2)
set_option maxRecDepth 100000 in
set_option maxHeartbeats 4000000 in
theorem c_X7_number {n : Nat} {h : xH} {a0 : Nat} {p1 : Int32} {p2 : Int32} {p3 : Int32} {r9 : Int32} {hz : xH} (hE : f_X7_number n h a0 p1 p2 p3 = some (r9, hz)) : Ctr M_X7_number [.ref a0, .int p1, .int p2, .int p3] h (some (.int r9)) hz 0 0 := by
  refine ctr_of (by decide) (fun _ _ => Nat.le_of_ble_eq_true rfl) (fun S => ?_)
  show Y S M_X7_number h (some (.int r9)) hz 0 0 0 [(0, .ref a0), (1, .int p1), (2, .int p2), (3, .int p3)] [] h 0 0
  unfold f_X7_number at hE
  refine y_aload_n dX7_number_0 0 rfl ?_
  obtain ⟨x1, ex1, hE⟩ := Option.bind_eq_some_iff.mp hE
  refine y_getI fl_X7_135 ex1 dX7_number_1 ?_
  refine y_iconst (v := (2 : Int32)) dX7_number_4 (by decide) ?_
  refine y_icmp_ne (tgt := 23) dX7_number_5 (by decide) (fun hc16 => ?_) (fun hc16 => ?_)
  · rw [if_pos hc16] at hE
    refine y_aload_n dX7_number_8 0 rfl ?_
    obtain ⟨x2, ex2, hE⟩ := Option.bind_eq_some_iff.mp hE
    refine y_getI fl_X7_132 ex2 dX7_number_9 ?_
    refine y_i2l dX7_number_12 ?_
    refine y_iload_n dX7_number_13 2 rfl ?_
    refine y_i2l dX7_number_14 ?_
    refine y_iload_n dX7_number_15 3 rfl ?_
    refine y_i2l dX7_number_16 ?_
    obtain ⟨q3, eq3, hE⟩ := Option.bind_eq_some_iff.mp hE
    refine y_cSi0 (st := []) (as := [.long x2.toInt64, .long p2.toInt64, .long p3.toInt64]) (c_X7_in eq3) lk_X7_64 st_X7_in ⟨Nat.le_of_ble_eq_true rfl, Nat.le_of_ble_eq_true rfl⟩ (Nat.le_of_ble_eq_true rfl) dX7_number_17 ⟨Nat.le_refl _, Nat.le_refl _⟩ rfl ?_
    refine y_if_ne (tgt := 28) dX7_number_20 (by decide) (fun hc12 => ?_) (fun hc12 => ?_)
    · rw [if_pos hc12] at hE
      refine y_aload_n dX7_number_23 0 rfl ?_
      obtain ⟨u4, eu4, hE⟩ := Option.bind_eq_some_iff.mp hE
      obtain ⟨q5, eq5, hE⟩ := Option.bind_eq_some_iff.mp hE
      refine y_cVi0 (st := []) (as := []) (c_X7_wrong eq5) lk_X7_157 in_X7_wrong se_X7_wrong rfl eu4 ⟨Nat.le_of_ble_eq_true rfl, Nat.le_of_ble_eq_true rfl⟩ (Nat.le_of_ble_eq_true rfl) dX7_number_24 ⟨Nat.le_refl _, Nat.le_refl _⟩ rfl ?_
      obtain ⟨x6, ex6, hE⟩ := Option.bind_eq_some_iff.mp hE
      obtain ⟨e9, hnb⟩ := x_bool.spec ex6
      rw [e9]
      obtain ⟨rfl, rfl⟩ := x_inj2 hE
      exact y_ret dX7_number_27 (Nat.le_refl _) (Nat.le_refl _) ⟨_, rfl, hnb⟩
    · rw [if_neg hc12] at hE
      refine y_aload_n dX7_number_28 0 rfl ?_
      obtain ⟨a7, ea7, hE⟩ := Option.bind_eq_some_iff.mp hE
      refine y_getR fl_X7_52 ea7 dX7_number_29 ?_
      refine y_iload_n dX7_number_32 1 rfl ?_
      refine y_aload_n dX7_number_33 0 rfl ?_
      obtain ⟨x8, ex8, hE⟩ := Option.bind_eq_some_iff.mp hE
      refine y_getI fl_X7_132 ex8 dX7_number_34 ?_
      obtain ⟨h9, eh9, hE⟩ := Option.bind_eq_some_iff.mp hE
      refine y_iast eh9 dX7_number_37 ?_
      refine y_aload_n dX7_number_38 0 rfl ?_
      obtain ⟨u10, eu10, hE⟩ := Option.bind_eq_some_iff.mp hE
      obtain ⟨q11, eq11, hE⟩ := Option.bind_eq_some_iff.mp hE
      refine y_cVv0 (st := []) (as := []) (c_X7_look eq11) lk_X7_161 in_X7_look se_X7_look rfl eu10 ⟨Nat.le_of_ble_eq_true rfl, Nat.le_of_ble_eq_true rfl⟩ (Nat.le_of_ble_eq_true rfl) dX7_number_39 ⟨Nat.le_refl _, Nat.le_refl _⟩ rfl ?_
      refine y_iconst (v := (1 : Int32)) dX7_number_42 (by decide) ?_
      obtain ⟨rfl, rfl⟩ := x_inj2 hE
      exact y_ret dX7_number_43 (Nat.le_refl _) (Nat.le_refl _) ⟨_, rfl, rfl⟩
  · rw [if_neg hc16] at hE
    refine y_aload_n dX7_number_23 0 rfl ?_
    obtain ⟨u13, eu13, hE⟩ := Option.bind_eq_some_iff.mp hE
    obtain ⟨q14, eq14, hE⟩ := Option.bind_eq_some_iff.mp hE
    refine y_cVi0 (st := []) (as := []) (c_X7_wrong eq14) lk_X7_157 in_X7_wrong se_X7_wrong rfl eu13 ⟨Nat.le_of_ble_eq_true rfl, Nat.le_of_ble_eq_true rfl⟩ (Nat.le_of_ble_eq_true rfl) dX7_number_24 ⟨Nat.le_refl _, Nat.le_refl _⟩ rfl ?_
    obtain ⟨x15, ex15, hE⟩ := Option.bind_eq_some_iff.mp hE
    obtain ⟨e9, hnb⟩ := x_bool.spec ex15
    rw [e9]
    obtain ⟨rfl, rfl⟩ := x_inj2 hE
    exact y_ret dX7_number_27 (Nat.le_refl _) (Nat.le_refl _) ⟨_, rfl, hnb⟩
def f_X7_tells (n : Nat) (h : xH) (a0 : Nat) (o1 : Nat) (p2 : Int32) (p3 : Int32) (p4 : Int32) : Option (Int32 × xH) :=
  (x_ob h a0 7).bind fun u1 =>
  (f_X7_isWord n h a0 o1).bind fun q2 =>
  if q2 = 0 then
    (x_ob h a0 7).bind fun u3 =>
    (f_X7_wrong h a0).bind fun q4 =>
    (x_bool q4.1).bind fun x5 =>
    some (x5, q4.2)
  else
    (x_ob h a0 7).bind fun u6 =>
    (f_X7_look n h a0).bind fun q7 =>
    (x_ob q7 a0 7).bind fun u8 =>
    (f_X7_number n q7 a0 p2 p3 p4).bind fun q9 =>
    (x_bool q9.1).bind fun x10 =>
    some (x10, q9.2)
set_option maxRecDepth 100000 in
set_option maxHeartbeats 4000000 in
theorem c_X7_tells {n : Nat} {h : xH} {a0 : Nat} {o1 : Nat} {p2 : Int32} {p3 : Int32} {p4 : Int32} {r9 : Int32} {hz : xH} (hE : f_X7_tells n h a0 o1 p2 p3 p4 = some (r9, hz)) : Ctr M_X7_tells [.ref a0, .ref o1, .int p2, .int p3, .int p4] h (some (.int r9)) hz 0 0 := by
  refine ctr_of (by decide) (fun _ _ => Nat.le_of_ble_eq_true rfl) (fun S => ?_)
  show Y S M_X7_tells h (some (.int r9)) hz 0 0 0 [(0, .ref a0), (1, .ref o1), (2, .int p2), (3, .int p3), (4, .int p4)] [] h 0 0
  unfold f_X7_tells at hE
  refine y_aload_n dX7_tells_0 0 rfl ?_
  refine y_aload_n dX7_tells_1 1 rfl ?_
  obtain ⟨u1, eu1, hE⟩ := Option.bind_eq_some_iff.mp hE
  obtain ⟨q2, eq2, hE⟩ := Option.bind_eq_some_iff.mp hE
  refine y_cVi0 (st := []) (as := [.ref o1]) (c_X7_isWord eq2) lk_X7_164 in_X7_isWord se_X7_isWord rfl eu1 ⟨Nat.le_of_ble_eq_true rfl, Nat.le_of_ble_eq_true rfl⟩ (Nat.le_of_ble_eq_true rfl) dX7_tells_2 ⟨Nat.le_refl _, Nat.le_refl _⟩ rfl ?_
  refine y_if_ne (tgt := 13) dX7_tells_5 (by decide) (fun hc11 => ?_) (fun hc11 => ?_)
  · rw [if_pos hc11] at hE
    refine y_aload_n dX7_tells_8 0 rfl ?_
    obtain ⟨u3, eu3, hE⟩ := Option.bind_eq_some_iff.mp hE
    obtain ⟨q4, eq4, hE⟩ := Option.bind_eq_some_iff.mp hE
    refine y_cVi0 (st := []) (as := []) (c_X7_wrong eq4) lk_X7_157 in_X7_wrong se_X7_wrong rfl eu3 ⟨Nat.le_of_ble_eq_true rfl, Nat.le_of_ble_eq_true rfl⟩ (Nat.le_of_ble_eq_true rfl) dX7_tells_9 ⟨Nat.le_refl _, Nat.le_refl _⟩ rfl ?_
    obtain ⟨x5, ex5, hE⟩ := Option.bind_eq_some_iff.mp hE
    obtain ⟨e9, hnb⟩ := x_bool.spec ex5
    rw [e9]
    obtain ⟨rfl, rfl⟩ := x_inj2 hE
    exact y_ret dX7_tells_12 (Nat.le_refl _) (Nat.le_refl _) ⟨_, rfl, hnb⟩
  · rw [if_neg hc11] at hE
    refine y_aload_n dX7_tells_13 0 rfl ?_
    obtain ⟨u6, eu6, hE⟩ := Option.bind_eq_some_iff.mp hE
    obtain ⟨q7, eq7, hE⟩ := Option.bind_eq_some_iff.mp hE
    refine y_cVv0 (st := []) (as := []) (c_X7_look eq7) lk_X7_161 in_X7_look se_X7_look rfl eu6 ⟨Nat.le_of_ble_eq_true rfl, Nat.le_of_ble_eq_true rfl⟩ (Nat.le_of_ble_eq_true rfl) dX7_tells_14 ⟨Nat.le_refl _, Nat.le_refl _⟩ rfl ?_
    refine y_aload_n dX7_tells_17 0 rfl ?_
    refine y_iload_n dX7_tells_18 2 rfl ?_
    refine y_iload_n dX7_tells_19 3 rfl ?_
    refine y_iload dX7_tells_20 4 rfl ?_
    obtain ⟨u8, eu8, hE⟩ := Option.bind_eq_some_iff.mp hE
    obtain ⟨q9, eq9, hE⟩ := Option.bind_eq_some_iff.mp hE
    refine y_cVi0 (st := []) (as := [.int p2, .int p3, .int p4]) (c_X7_number eq9) lk_X7_168 in_X7_number se_X7_number rfl eu8 ⟨Nat.le_of_ble_eq_true rfl, Nat.le_of_ble_eq_true rfl⟩ (Nat.le_of_ble_eq_true rfl) dX7_tells_22 ⟨Nat.le_refl _, Nat.le_refl _⟩ rfl ?_
    obtain ⟨x10, ex10, hE⟩ := Option.bind_eq_some_iff.mp hE
    obtain ⟨e9, hnb⟩ := x_bool.spec ex10
    rw [e9]
    obtain ⟨rfl, rfl⟩ := x_inj2 hE
    exact y_ret dX7_tells_25 (Nat.le_refl _) (Nat.le_refl _) ⟨_, rfl, hnb⟩
def f_X7_doorTold_J61 (n : Nat) (h : xH) (v0 : Nat) : Option (Int32 × xH) :=
  (x_ob h v0 7).bind fun u7 =>
  (f_X7_number n h v0 (2 : Int32) (0 : Int32) (7 : Int32)).bind fun q8 =>
  if q8.1 = 0 then
    some ((0 : Int32), q8.2)
  else
    (x_gR q8.2 v0 7 25).bind fun a9 =>
    (x_ld q8.2 a9 (0 : Int32)).bind fun x10 =>
    (x_gR q8.2 v0 7 25).bind fun a11 =>
    (x_ld q8.2 a11 (1 : Int32)).bind fun x12 =>
    (x_gR q8.2 v0 7 25).bind fun a13 =>
    (x_ld q8.2 a13 (2 : Int32)).bind fun x14 =>
    (x_ob q8.2 v0 7).bind fun u15 =>
    (f_X7_door q8.2 v0 x10 x12 x14).bind fun q16 =>
    (x_ob q16.2 v0 7).bind fun u17 =>
    (f_X7_isWord n q16.2 v0 14).bind fun q18 =>
    if q18 = 0 then
      some ((1 : Int32), q16.2)
    else
      (x_ob q16.2 v0 7).bind fun u19 =>
      (f_X7_look n q16.2 v0).bind fun q20 =>
      (x_gI q20 v0 7 11).bind fun x21 =>
      (x_put q20 v0 7 11 (.int (x21 ||| (i_shl (1 : Int32) q16.1)))).bind fun h22 =>
      some ((1 : Int32), h22)
set_option maxRecDepth 100000 in
set_option maxHeartbeats 4000000 in
theorem j_X7_doorTold_61 {S : Nat × (Nat → Int32)} {h0 : xH} {mc ms cells slots : Nat} {n : Nat} {h : xH} {v0 : Nat} {r9 : Int32} {hz : xH} (hE : f_X7_doorTold_J61 n h v0 = some (r9, hz)) (hm : cells ≤ mc ∧ slots ≤ ms) : Y S M_X7_doorTold h0 (some (.int r9)) hz mc ms 61 [(0, .ref v0)] [] h cells slots := by
  unfold f_X7_doorTold_J61 at hE
  refine y_aload_n dX7_doorTold_61 0 rfl ?_
  refine y_iconst (v := (2 : Int32)) dX7_doorTold_62 (by decide) ?_
  refine y_iconst (v := (0 : Int32)) dX7_doorTold_63 (by decide) ?_
  refine y_bipush (v := (7 : Int32)) dX7_doorTold_64 (by decide) ?_
  obtain ⟨u7, eu7, hE⟩ := Option.bind_eq_some_iff.mp hE
  obtain ⟨q8, eq8, hE⟩ := Option.bind_eq_some_iff.mp hE
  refine y_cVi0 (st := []) (as := [.int (2 : Int32), .int (0 : Int32), .int (7 : Int32)]) (c_X7_number eq8) lk_X7_168 in_X7_number se_X7_number rfl eu7 ⟨Nat.le_of_ble_eq_true rfl, Nat.le_of_ble_eq_true rfl⟩ (Nat.le_of_ble_eq_true rfl) dX7_doorTold_66 hm rfl ?_
  refine y_if_ne (tgt := 74) dX7_doorTold_69 (by decide) (fun hc24 => ?_) (fun hc24 => ?_)
  · rw [if_pos hc24] at hE
    refine y_iconst (v := (0 : Int32)) dX7_doorTold_72 (by decide) ?_
    obtain ⟨rfl, rfl⟩ := x_inj2 hE
    exact y_ret dX7_doorTold_73 hm.1 hm.2 ⟨_, rfl, rfl⟩
  · rw [if_neg hc24] at hE
    refine y_aload_n dX7_doorTold_74 0 rfl ?_
    refine y_aload_n dX7_doorTold_75 0 rfl ?_
    obtain ⟨a9, ea9, hE⟩ := Option.bind_eq_some_iff.mp hE
    refine y_getR fl_X7_52 ea9 dX7_doorTold_76 ?_
    refine y_iconst (v := (0 : Int32)) dX7_doorTold_79 (by decide) ?_
    obtain ⟨x10, ex10, hE⟩ := Option.bind_eq_some_iff.mp hE
    refine y_iald ex10 dX7_doorTold_80 ?_
    refine y_aload_n dX7_doorTold_81 0 rfl ?_
    obtain ⟨a11, ea11, hE⟩ := Option.bind_eq_some_iff.mp hE
    refine y_getR fl_X7_52 ea11 dX7_doorTold_82 ?_
    refine y_iconst (v := (1 : Int32)) dX7_doorTold_85 (by decide) ?_
    obtain ⟨x12, ex12, hE⟩ := Option.bind_eq_some_iff.mp hE
    refine y_iald ex12 dX7_doorTold_86 ?_
    refine y_aload_n dX7_doorTold_87 0 rfl ?_
    obtain ⟨a13, ea13, hE⟩ := Option.bind_eq_some_iff.mp hE
    refine y_getR fl_X7_52 ea13 dX7_doorTold_88 ?_
    refine y_iconst (v := (2 : Int32)) dX7_doorTold_91 (by decide) ?_
    obtain ⟨x14, ex14, hE⟩ := Option.bind_eq_some_iff.mp hE
    refine y_iald ex14 dX7_doorTold_92 ?_
    obtain ⟨u15, eu15, hE⟩ := Option.bind_eq_some_iff.mp hE
    obtain ⟨q16, eq16, hE⟩ := Option.bind_eq_some_iff.mp hE
    refine y_cVi0 (st := []) (as := [.int x10, .int x12, .int x14]) (c_X7_door eq16) lk_X7_177 in_X7_door se_X7_door rfl eu15 ⟨Nat.le_of_ble_eq_true rfl, Nat.le_of_ble_eq_true rfl⟩ (Nat.le_of_ble_eq_true rfl) dX7_doorTold_93 hm rfl ?_
    refine y_istore_n (ls' := [(1, .int q16.1), (0, .ref v0)]) dX7_doorTold_96 (by decide) rfl rfl ?_
    refine y_aload_n dX7_doorTold_97 1 rfl ?_
    refine y_ldcS 11 (by decide) rfl dX7_doorTold_98 ?_
    obtain ⟨u17, eu17, hE⟩ := Option.bind_eq_some_iff.mp hE
    obtain ⟨q18, eq18, hE⟩ := Option.bind_eq_some_iff.mp hE
    refine y_cVi0 (st := []) (as := [.ref 14]) (c_X7_isWord eq18) lk_X7_164 in_X7_isWord se_X7_isWord rfl eu17 ⟨Nat.le_of_ble_eq_true rfl, Nat.le_of_ble_eq_true rfl⟩ (Nat.le_of_ble_eq_true rfl) dX7_doorTold_100 hm rfl ?_
    refine y_if_eq (tgt := 122) dX7_doorTold_103 (by decide) (fun hc23 => ?_) (fun hc23 => ?_)
    · rw [if_pos hc23] at hE
      refine y_iconst (v := (1 : Int32)) dX7_doorTold_122 (by decide) ?_
      obtain ⟨rfl, rfl⟩ := x_inj2 hE
      exact y_ret dX7_doorTold_123 hm.1 hm.2 ⟨_, rfl, rfl⟩
    · rw [if_neg hc23] at hE
      refine y_aload_n dX7_doorTold_106 1 rfl ?_
      obtain ⟨u19, eu19, hE⟩ := Option.bind_eq_some_iff.mp hE
      obtain ⟨q20, eq20, hE⟩ := Option.bind_eq_some_iff.mp hE
      refine y_cVv0 (st := []) (as := []) (c_X7_look eq20) lk_X7_161 in_X7_look se_X7_look rfl eu19 ⟨Nat.le_of_ble_eq_true rfl, Nat.le_of_ble_eq_true rfl⟩ (Nat.le_of_ble_eq_true rfl) dX7_doorTold_107 hm rfl ?_
      refine y_aload_n dX7_doorTold_110 1 rfl ?_
      refine y_dup dX7_doorTold_111 rfl ?_
      obtain ⟨x21, ex21, hE⟩ := Option.bind_eq_some_iff.mp hE
      refine y_getI fl_X7_108 ex21 dX7_doorTold_112 ?_
      refine y_iconst (v := (1 : Int32)) dX7_doorTold_115 (by decide) ?_
      refine y_iload_n dX7_doorTold_116 0 rfl ?_
      refine y_ishl dX7_doorTold_117 ?_
      refine y_ior dX7_doorTold_118 ?_
      obtain ⟨h22, eh22, hE⟩ := Option.bind_eq_some_iff.mp hE
      refine y_putI fp_X7_108 eh22 dX7_doorTold_119 ?_
      refine y_iconst (v := (1 : Int32)) dX7_doorTold_122 (by decide) ?_
      obtain ⟨rfl, rfl⟩ := x_inj2 hE
      exact y_ret dX7_doorTold_123 hm.1 hm.2 ⟨_, rfl, rfl⟩
def f_X7_doorTold (n : Nat) (h : xH) (a0 : Nat) : Option (Int32 × xH) :=
  (x_ob h a0 7).bind fun u1 =>
  (f_X7_tells n h a0 9 (0 : Int32) (0 : Int32) (5 : Int32)).bind fun q2 =>
  if q2.1 = 0 then
    some ((0 : Int32), q2.2)
  else
    (x_ob q2.2 a0 7).bind fun u3 =>
    (f_X7_number n q2.2 a0 (1 : Int32) (0 : Int32) (7 : Int32)).bind fun q4 =>
    if q4.1 = 0 then
      some ((0 : Int32), q4.2)
    else
      (x_gR q4.2 a0 7 25).bind fun a5 =>
      (x_ld q4.2 a5 (0 : Int32)).bind fun x6 =>
      if x6 = (1 : Int32) then
        f_X7_doorTold_J61 n q4.2 a0
      else
        (x_gI q4.2 a0 7 21).bind fun x25 =>
        if x25 = (2 : Int32) then
          (x_gI q4.2 a0 7 23).bind fun x26 =>
          (x_gR q4.2 a0 7 25).bind fun a27 =>
          (x_ld q4.2 a27 (1 : Int32)).bind fun x28 =>
          if x26 = x28 then
            (x_ob q4.2 a0 7).bind fun u29 =>
            (f_X7_wrong q4.2 a0).bind fun q30 =>
            (x_bool q30.1).bind fun x31 =>
            some (x31, q30.2)
          else
            f_X7_doorTold_J61 n q4.2 a0
        else
          f_X7_doorTold_J61 n q4.2 a0
set_option maxRecDepth 100000 in
set_option maxHeartbeats 4000000 in
theorem c_X7_doorTold {n : Nat} {h : xH} {a0 : Nat} {r9 : Int32} {hz : xH} (hE : f_X7_doorTold n h a0 = some (r9, hz)) : Ctr M_X7_doorTold [.ref a0] h (some (.int r9)) hz 0 0 := by
  refine ctr_of (by decide) (fun _ _ => Nat.le_of_ble_eq_true rfl) (fun S => ?_)
  show Y S M_X7_doorTold h (some (.int r9)) hz 0 0 0 [(0, .ref a0)] [] h 0 0
  unfold f_X7_doorTold at hE
  refine y_aload_n dX7_doorTold_0 0 rfl ?_
  refine y_ldcS 6 (by decide) rfl dX7_doorTold_1 ?_
  refine y_iconst (v := (0 : Int32)) dX7_doorTold_3 (by decide) ?_
  refine y_iconst (v := (0 : Int32)) dX7_doorTold_4 (by decide) ?_
  refine y_iconst (v := (5 : Int32)) dX7_doorTold_5 (by decide) ?_
  obtain ⟨u1, eu1, hE⟩ := Option.bind_eq_some_iff.mp hE
  obtain ⟨q2, eq2, hE⟩ := Option.bind_eq_some_iff.mp hE
  refine y_cVi0 (st := []) (as := [.ref 9, .int (0 : Int32), .int (0 : Int32), .int (5 : Int32)]) (c_X7_tells eq2) lk_X7_173 in_X7_tells se_X7_tells rfl eu1 ⟨Nat.le_of_ble_eq_true rfl, Nat.le_of_ble_eq_true rfl⟩ (Nat.le_of_ble_eq_true rfl) dX7_doorTold_6 ⟨Nat.le_refl _, Nat.le_refl _⟩ rfl ?_
  refine y_if_eq (tgt := 23) dX7_doorTold_9 (by decide) (fun hc36 => ?_) (fun hc36 => ?_)
  · rw [if_pos hc36] at hE
    refine y_iconst (v := (0 : Int32)) dX7_doorTold_23 (by decide) ?_
    obtain ⟨rfl, rfl⟩ := x_inj2 hE
    exact y_ret dX7_doorTold_24 (Nat.le_refl _) (Nat.le_refl _) ⟨_, rfl, rfl⟩
  · rw [if_neg hc36] at hE
    refine y_aload_n dX7_doorTold_12 0 rfl ?_
    refine y_iconst (v := (1 : Int32)) dX7_doorTold_13 (by decide) ?_
    refine y_iconst (v := (0 : Int32)) dX7_doorTold_14 (by decide) ?_
    refine y_bipush (v := (7 : Int32)) dX7_doorTold_15 (by decide) ?_
    obtain ⟨u3, eu3, hE⟩ := Option.bind_eq_some_iff.mp hE
    obtain ⟨q4, eq4, hE⟩ := Option.bind_eq_some_iff.mp hE
    refine y_cVi0 (st := []) (as := [.int (1 : Int32), .int (0 : Int32), .int (7 : Int32)]) (c_X7_number eq4) lk_X7_168 in_X7_number se_X7_number rfl eu3 ⟨Nat.le_of_ble_eq_true rfl, Nat.le_of_ble_eq_true rfl⟩ (Nat.le_of_ble_eq_true rfl) dX7_doorTold_17 ⟨Nat.le_refl _, Nat.le_refl _⟩ rfl ?_
    refine y_if_ne (tgt := 25) dX7_doorTold_20 (by decide) (fun hc35 => ?_) (fun hc35 => ?_)
    · rw [if_pos hc35] at hE
      refine y_iconst (v := (0 : Int32)) dX7_doorTold_23 (by decide) ?_
      obtain ⟨rfl, rfl⟩ := x_inj2 hE
      exact y_ret dX7_doorTold_24 (Nat.le_refl _) (Nat.le_refl _) ⟨_, rfl, rfl⟩
    · rw [if_neg hc35] at hE
      refine y_aload_n dX7_doorTold_25 0 rfl ?_
      obtain ⟨a5, ea5, hE⟩ := Option.bind_eq_some_iff.mp hE
      refine y_getR fl_X7_52 ea5 dX7_doorTold_26 ?_
      refine y_iconst (v := (0 : Int32)) dX7_doorTold_29 (by decide) ?_
      obtain ⟨x6, ex6, hE⟩ := Option.bind_eq_some_iff.mp hE
      refine y_iald ex6 dX7_doorTold_30 ?_
      refine y_iconst (v := (1 : Int32)) dX7_doorTold_31 (by decide) ?_
      refine y_icmp_eq (tgt := 61) dX7_doorTold_32 (by decide) (fun hc34 => ?_) (fun hc34 => ?_)
      · rw [if_pos hc34] at hE
        refine y_pick [0] rfl ?_
        exact j_X7_doorTold_61 hE ⟨Nat.le_refl _, Nat.le_refl _⟩
      · rw [if_neg hc34] at hE
        refine y_aload_n dX7_doorTold_35 0 rfl ?_
        obtain ⟨x25, ex25, hE⟩ := Option.bind_eq_some_iff.mp hE
        refine y_getI fl_X7_135 ex25 dX7_doorTold_36 ?_
        refine y_iconst (v := (2 : Int32)) dX7_doorTold_39 (by decide) ?_
        refine y_icmp_ne (tgt := 61) dX7_doorTold_40 (by decide) (fun hc33 => ?_) (fun hc33 => ?_)
        · rw [if_pos hc33] at hE
          refine y_aload_n dX7_doorTold_43 0 rfl ?_
          obtain ⟨x26, ex26, hE⟩ := Option.bind_eq_some_iff.mp hE
          refine y_getI fl_X7_132 ex26 dX7_doorTold_44 ?_
          refine y_aload_n dX7_doorTold_47 0 rfl ?_
          obtain ⟨a27, ea27, hE⟩ := Option.bind_eq_some_iff.mp hE
          refine y_getR fl_X7_52 ea27 dX7_doorTold_48 ?_
          refine y_iconst (v := (1 : Int32)) dX7_doorTold_51 (by decide) ?_
          obtain ⟨x28, ex28, hE⟩ := Option.bind_eq_some_iff.mp hE
          refine y_iald ex28 dX7_doorTold_52 ?_
          refine y_icmp_ne (tgt := 61) dX7_doorTold_53 (by decide) (fun hc32 => ?_) (fun hc32 => ?_)
          · rw [if_pos hc32] at hE
            refine y_aload_n dX7_doorTold_56 0 rfl ?_
            obtain ⟨u29, eu29, hE⟩ := Option.bind_eq_some_iff.mp hE
            obtain ⟨q30, eq30, hE⟩ := Option.bind_eq_some_iff.mp hE
            refine y_cVi0 (st := []) (as := []) (c_X7_wrong eq30) lk_X7_157 in_X7_wrong se_X7_wrong rfl eu29 ⟨Nat.le_of_ble_eq_true rfl, Nat.le_of_ble_eq_true rfl⟩ (Nat.le_of_ble_eq_true rfl) dX7_doorTold_57 ⟨Nat.le_refl _, Nat.le_refl _⟩ rfl ?_
            obtain ⟨x31, ex31, hE⟩ := Option.bind_eq_some_iff.mp hE
            obtain ⟨e9, hnb⟩ := x_bool.spec ex31
            rw [e9]
            obtain ⟨rfl, rfl⟩ := x_inj2 hE
            exact y_ret dX7_doorTold_60 (Nat.le_refl _) (Nat.le_refl _) ⟨_, rfl, hnb⟩
          · rw [if_neg hc32] at hE
            refine y_pick [0] rfl ?_
            exact j_X7_doorTold_61 hE ⟨Nat.le_refl _, Nat.le_refl _⟩
        · rw [if_neg hc33] at hE
          refine y_pick [0] rfl ?_
          exact j_X7_doorTold_61 hE ⟨Nat.le_refl _, Nat.le_refl _⟩
def f_X7_statement_J68 (n : Nat) (h : xH) (v0 : Nat) : Option (Int32 × xH) :=
  (x_ob h v0 7).bind fun u5 =>
  (f_X7_isWord n h v0 11).bind fun q6 =>
  if q6 = 0 then
    (x_ob h v0 7).bind fun u7 =>
    (f_X7_isWord n h v0 12).bind fun q8 =>
    if q8 = 0 then
      (x_gI h v0 7 12).bind fun x9 =>
      (x_ob h v0 7).bind fun u10 =>
      (f_X7_tells n h v0 13 (0 : Int32) (0 : Int32) (x9 - (1 : Int32))).bind fun q11 =>
      if q11.1 = 0 then
        some ((0 : Int32), q11.2)
      else
        (x_ob q11.2 v0 7).bind fun u12 =>
        (f_X7_number n q11.2 v0 (1 : Int32) (0 : Int32) (7 : Int32)).bind fun q13 =>
        if q13.1 = 0 then
          some ((0 : Int32), q13.2)
        else
          (x_gR q13.2 v0 7 13).bind fun a14 =>
          (x_gR q13.2 v0 7 25).bind fun a15 =>
          (x_ld q13.2 a15 (0 : Int32)).bind fun x16 =>
          (x_gR q13.2 v0 7 25).bind fun a17 =>
          (x_ld q13.2 a17 (1 : Int32)).bind fun x18 =>
          (x_st q13.2 a14 x16 x18).bind fun h19 =>
          some ((1 : Int32), h19)
    else
      (x_ob h v0 7).bind fun u22 =>
      (f_X7_tells n h v0 12 (0 : Int32) (0 : Int32) (99 : Int32)).bind fun q23 =>
      if q23.1 = 0 then
        (x_gI q23.2 v0 7 15).bind fun x24 =>
        (x_put q23.2 v0 7 15 (.int x24)).bind fun h25 =>
        (x_bool q23.1).bind fun x26 =>
        some (x26, h25)
      else
        (x_gR q23.2 v0 7 25).bind fun a27 =>
        (x_ld q23.2 a27 (0 : Int32)).bind fun x28 =>
        (x_put q23.2 v0 7 15 (.int x28)).bind fun h29 =>
        (x_bool q23.1).bind fun x30 =>
        some (x30, h29)
  else
    (x_ob h v0 7).bind fun u33 =>
    (f_X7_tells n h v0 11 (0 : Int32) (1 : Int32) (4 : Int32)).bind fun q34 =>
    if q34.1 = 0 then
      (x_gI q34.2 v0 7 14).bind fun x35 =>
      (x_put q34.2 v0 7 14 (.int x35)).bind fun h36 =>
      (x_bool q34.1).bind fun x37 =>
      some (x37, h36)
    else
      (x_gR q34.2 v0 7 25).bind fun a38 =>
      (x_ld q34.2 a38 (0 : Int32)).bind fun x39 =>
      (x_put q34.2 v0 7 14 (.int x39)).bind fun h40 =>
      (x_bool q34.1).bind fun x41 =>
      some (x41, h40)
set_option maxRecDepth 100000 in
set_option maxHeartbeats 4000000 in
theorem j_X7_statement_68 {S : Nat × (Nat → Int32)} {h0 : xH} {mc ms cells slots : Nat} {n : Nat} {h : xH} {v0 : Nat} {r9 : Int32} {hz : xH} (hE : f_X7_statement_J68 n h v0 = some (r9, hz)) (hm : cells ≤ mc ∧ slots ≤ ms) : Y S M_X7_statement h0 (some (.int r9)) hz mc ms 68 [(0, .ref v0)] [] h cells slots := by
  unfold f_X7_statement_J68 at hE
  refine y_aload_n dX7_statement_68 0 rfl ?_
  refine y_ldcS 8 (by decide) rfl dX7_statement_69 ?_
  obtain ⟨u5, eu5, hE⟩ := Option.bind_eq_some_iff.mp hE
  obtain ⟨q6, eq6, hE⟩ := Option.bind_eq_some_iff.mp hE
  refine y_cVi0 (st := []) (as := [.ref 11]) (c_X7_isWord eq6) lk_X7_164 in_X7_isWord se_X7_isWord rfl eu5 ⟨Nat.le_of_ble_eq_true rfl, Nat.le_of_ble_eq_true rfl⟩ (Nat.le_of_ble_eq_true rfl) dX7_statement_71 hm rfl ?_
  refine y_if_eq (tgt := 110) dX7_statement_74 (by decide) (fun hc43 => ?_) (fun hc43 => ?_)
  · rw [if_pos hc43] at hE
    refine y_aload_n dX7_statement_110 0 rfl ?_
    refine y_ldcS 9 (by decide) rfl dX7_statement_111 ?_
    obtain ⟨u7, eu7, hE⟩ := Option.bind_eq_some_iff.mp hE
    obtain ⟨q8, eq8, hE⟩ := Option.bind_eq_some_iff.mp hE
    refine y_cVi0 (st := []) (as := [.ref 12]) (c_X7_isWord eq8) lk_X7_164 in_X7_isWord se_X7_isWord rfl eu7 ⟨Nat.le_of_ble_eq_true rfl, Nat.le_of_ble_eq_true rfl⟩ (Nat.le_of_ble_eq_true rfl) dX7_statement_113 hm rfl ?_
    refine y_if_eq (tgt := 153) dX7_statement_116 (by decide) (fun hc32 => ?_) (fun hc32 => ?_)
    · rw [if_pos hc32] at hE
      refine y_aload_n dX7_statement_153 0 rfl ?_
      refine y_ldcS 10 (by decide) rfl dX7_statement_154 ?_
      refine y_iconst (v := (0 : Int32)) dX7_statement_156 (by decide) ?_
      refine y_iconst (v := (0 : Int32)) dX7_statement_157 (by decide) ?_
      refine y_aload_n dX7_statement_158 0 rfl ?_
      obtain ⟨x9, ex9, hE⟩ := Option.bind_eq_some_iff.mp hE
      refine y_getI fl_X7_68 ex9 dX7_statement_159 ?_
      refine y_iconst (v := (1 : Int32)) dX7_statement_162 (by decide) ?_
      refine y_isub dX7_statement_163 ?_
      obtain ⟨u10, eu10, hE⟩ := Option.bind_eq_some_iff.mp hE
      obtain ⟨q11, eq11, hE⟩ := Option.bind_eq_some_iff.mp hE
      refine y_cVi0 (st := []) (as := [.ref 13, .int (0 : Int32), .int (0 : Int32), .int (x9 - (1 : Int32))]) (c_X7_tells eq11) lk_X7_173 in_X7_tells se_X7_tells rfl eu10 ⟨Nat.le_of_ble_eq_true rfl, Nat.le_of_ble_eq_true rfl⟩ (Nat.le_of_ble_eq_true rfl) dX7_statement_164 hm rfl ?_
      refine y_if_eq (tgt := 181) dX7_statement_167 (by decide) (fun hc21 => ?_) (fun hc21 => ?_)
      · rw [if_pos hc21] at hE
        refine y_iconst (v := (0 : Int32)) dX7_statement_181 (by decide) ?_
        obtain ⟨rfl, rfl⟩ := x_inj2 hE
        exact y_ret dX7_statement_182 hm.1 hm.2 ⟨_, rfl, rfl⟩
      · rw [if_neg hc21] at hE
        refine y_aload_n dX7_statement_170 0 rfl ?_
        refine y_iconst (v := (1 : Int32)) dX7_statement_171 (by decide) ?_
        refine y_iconst (v := (0 : Int32)) dX7_statement_172 (by decide) ?_
        refine y_bipush (v := (7 : Int32)) dX7_statement_173 (by decide) ?_
        obtain ⟨u12, eu12, hE⟩ := Option.bind_eq_some_iff.mp hE
        obtain ⟨q13, eq13, hE⟩ := Option.bind_eq_some_iff.mp hE
        refine y_cVi0 (st := []) (as := [.int (1 : Int32), .int (0 : Int32), .int (7 : Int32)]) (c_X7_number eq13) lk_X7_168 in_X7_number se_X7_number rfl eu12 ⟨Nat.le_of_ble_eq_true rfl, Nat.le_of_ble_eq_true rfl⟩ (Nat.le_of_ble_eq_true rfl) dX7_statement_175 hm rfl ?_
        refine y_if_ne (tgt := 183) dX7_statement_178 (by decide) (fun hc20 => ?_) (fun hc20 => ?_)
        · rw [if_pos hc20] at hE
          refine y_iconst (v := (0 : Int32)) dX7_statement_181 (by decide) ?_
          obtain ⟨rfl, rfl⟩ := x_inj2 hE
          exact y_ret dX7_statement_182 hm.1 hm.2 ⟨_, rfl, rfl⟩
        · rw [if_neg hc20] at hE
          refine y_aload_n dX7_statement_183 0 rfl ?_
          obtain ⟨a14, ea14, hE⟩ := Option.bind_eq_some_iff.mp hE
          refine y_getR fl_X7_42 ea14 dX7_statement_184 ?_
          refine y_aload_n dX7_statement_187 0 rfl ?_
          obtain ⟨a15, ea15, hE⟩ := Option.bind_eq_some_iff.mp hE
          refine y_getR fl_X7_52 ea15 dX7_statement_188 ?_
          refine y_iconst (v := (0 : Int32)) dX7_statement_191 (by decide) ?_
          obtain ⟨x16, ex16, hE⟩ := Option.bind_eq_some_iff.mp hE
          refine y_iald ex16 dX7_statement_192 ?_
          refine y_aload_n dX7_statement_193 0 rfl ?_
          obtain ⟨a17, ea17, hE⟩ := Option.bind_eq_some_iff.mp hE
          refine y_getR fl_X7_52 ea17 dX7_statement_194 ?_
          refine y_iconst (v := (1 : Int32)) dX7_statement_197 (by decide) ?_
          obtain ⟨x18, ex18, hE⟩ := Option.bind_eq_some_iff.mp hE
          refine y_iald ex18 dX7_statement_198 ?_
          obtain ⟨h19, eh19, hE⟩ := Option.bind_eq_some_iff.mp hE
          refine y_iast eh19 dX7_statement_199 ?_
          refine y_iconst (v := (1 : Int32)) dX7_statement_200 (by decide) ?_
          obtain ⟨rfl, rfl⟩ := x_inj2 hE
          exact y_ret dX7_statement_201 hm.1 hm.2 ⟨_, rfl, rfl⟩
    · rw [if_neg hc32] at hE
      refine y_aload_n dX7_statement_119 0 rfl ?_
      refine y_ldcS 9 (by decide) rfl dX7_statement_120 ?_
      refine y_iconst (v := (0 : Int32)) dX7_statement_122 (by decide) ?_
      refine y_iconst (v := (0 : Int32)) dX7_statement_123 (by decide) ?_
      refine y_bipush (v := (99 : Int32)) dX7_statement_124 (by decide) ?_
      obtain ⟨u22, eu22, hE⟩ := Option.bind_eq_some_iff.mp hE
      obtain ⟨q23, eq23, hE⟩ := Option.bind_eq_some_iff.mp hE
      refine y_cVi0 (st := []) (as := [.ref 12, .int (0 : Int32), .int (0 : Int32), .int (99 : Int32)]) (c_X7_tells eq23) lk_X7_173 in_X7_tells se_X7_tells rfl eu22 ⟨Nat.le_of_ble_eq_true rfl, Nat.le_of_ble_eq_true rfl⟩ (Nat.le_of_ble_eq_true rfl) dX7_statement_126 hm rfl ?_
      refine y_istore_n (ls' := [(1, .int q23.1), (0, .ref v0)]) dX7_statement_129 (by decide) rfl rfl ?_
      refine y_aload_n dX7_statement_130 1 rfl ?_
      refine y_iload_n dX7_statement_131 0 rfl ?_
      refine y_if_eq (tgt := 144) dX7_statement_132 (by decide) (fun hc31 => ?_) (fun hc31 => ?_)
      · rw [if_pos hc31] at hE
        refine y_aload_n dX7_statement_144 1 rfl ?_
        obtain ⟨x24, ex24, hE⟩ := Option.bind_eq_some_iff.mp hE
        refine y_getI fl_X7_113 ex24 dX7_statement_145 ?_
        obtain ⟨h25, eh25, hE⟩ := Option.bind_eq_some_iff.mp hE
        refine y_putI fp_X7_113 eh25 dX7_statement_148 ?_
        refine y_iload_n dX7_statement_151 0 rfl ?_
        obtain ⟨x26, ex26, hE⟩ := Option.bind_eq_some_iff.mp hE
        obtain ⟨e9, hnb⟩ := x_bool.spec ex26
        rw [e9]
        obtain ⟨rfl, rfl⟩ := x_inj2 hE
        exact y_ret dX7_statement_152 hm.1 hm.2 ⟨_, rfl, hnb⟩
      · rw [if_neg hc31] at hE
        refine y_aload_n dX7_statement_135 1 rfl ?_
        obtain ⟨a27, ea27, hE⟩ := Option.bind_eq_some_iff.mp hE
        refine y_getR fl_X7_52 ea27 dX7_statement_136 ?_
        refine y_iconst (v := (0 : Int32)) dX7_statement_139 (by decide) ?_
        obtain ⟨x28, ex28, hE⟩ := Option.bind_eq_some_iff.mp hE
        refine y_iald ex28 dX7_statement_140 ?_
        refine y_goto (tgt := 148) dX7_statement_141 (by decide) ?_
        obtain ⟨h29, eh29, hE⟩ := Option.bind_eq_some_iff.mp hE
        refine y_putI fp_X7_113 eh29 dX7_statement_148 ?_
        refine y_iload_n dX7_statement_151 0 rfl ?_
        obtain ⟨x30, ex30, hE⟩ := Option.bind_eq_some_iff.mp hE
        obtain ⟨e9, hnb⟩ := x_bool.spec ex30
        rw [e9]
        obtain ⟨rfl, rfl⟩ := x_inj2 hE
        exact y_ret dX7_statement_152 hm.1 hm.2 ⟨_, rfl, hnb⟩
  · rw [if_neg hc43] at hE
    refine y_aload_n dX7_statement_77 0 rfl ?_
    refine y_ldcS 8 (by decide) rfl dX7_statement_78 ?_
    refine y_iconst (v := (0 : Int32)) dX7_statement_80 (by decide) ?_
    refine y_iconst (v := (1 : Int32)) dX7_statement_81 (by decide) ?_
    refine y_iconst (v := (4 : Int32)) dX7_statement_82 (by decide) ?_
    obtain ⟨u33, eu33, hE⟩ := Option.bind_eq_some_iff.mp hE
    obtain ⟨q34, eq34, hE⟩ := Option.bind_eq_some_iff.mp hE
    refine y_cVi0 (st := []) (as := [.ref 11, .int (0 : Int32), .int (1 : Int32), .int (4 : Int32)]) (c_X7_tells eq34) lk_X7_173 in_X7_tells se_X7_tells rfl eu33 ⟨Nat.le_of_ble_eq_true rfl, Nat.le_of_ble_eq_true rfl⟩ (Nat.le_of_ble_eq_true rfl) dX7_statement_83 hm rfl ?_
    refine y_istore_n (ls' := [(1, .int q34.1), (0, .ref v0)]) dX7_statement_86 (by decide) rfl rfl ?_
    refine y_aload_n dX7_statement_87 1 rfl ?_
    refine y_iload_n dX7_statement_88 0 rfl ?_
    refine y_if_eq (tgt := 101) dX7_statement_89 (by decide) (fun hc42 => ?_) (fun hc42 => ?_)
    · rw [if_pos hc42] at hE
      refine y_aload_n dX7_statement_101 1 rfl ?_
      obtain ⟨x35, ex35, hE⟩ := Option.bind_eq_some_iff.mp hE
      refine y_getI fl_X7_45 ex35 dX7_statement_102 ?_
      obtain ⟨h36, eh36, hE⟩ := Option.bind_eq_some_iff.mp hE
      refine y_putI fp_X7_45 eh36 dX7_statement_105 ?_
      refine y_iload_n dX7_statement_108 0 rfl ?_
      obtain ⟨x37, ex37, hE⟩ := Option.bind_eq_some_iff.mp hE
      obtain ⟨e9, hnb⟩ := x_bool.spec ex37
      rw [e9]
      obtain ⟨rfl, rfl⟩ := x_inj2 hE
      exact y_ret dX7_statement_109 hm.1 hm.2 ⟨_, rfl, hnb⟩
    · rw [if_neg hc42] at hE
      refine y_aload_n dX7_statement_92 1 rfl ?_
      obtain ⟨a38, ea38, hE⟩ := Option.bind_eq_some_iff.mp hE
      refine y_getR fl_X7_52 ea38 dX7_statement_93 ?_
      refine y_iconst (v := (0 : Int32)) dX7_statement_96 (by decide) ?_
      obtain ⟨x39, ex39, hE⟩ := Option.bind_eq_some_iff.mp hE
      refine y_iald ex39 dX7_statement_97 ?_
      refine y_goto (tgt := 105) dX7_statement_98 (by decide) ?_
      obtain ⟨h40, eh40, hE⟩ := Option.bind_eq_some_iff.mp hE
      refine y_putI fp_X7_45 eh40 dX7_statement_105 ?_
      refine y_iload_n dX7_statement_108 0 rfl ?_
      obtain ⟨x41, ex41, hE⟩ := Option.bind_eq_some_iff.mp hE
      obtain ⟨e9, hnb⟩ := x_bool.spec ex41
      rw [e9]
      obtain ⟨rfl, rfl⟩ := x_inj2 hE
      exact y_ret dX7_statement_109 hm.1 hm.2 ⟨_, rfl, hnb⟩
def f_X7_statement_J23 (n : Nat) (h : xH) (v0 : Nat) : Option (Int32 × xH) :=
  (x_ob h v0 7).bind fun u3 =>
  (f_X7_isWord n h v0 10).bind fun q4 =>
  if q4 = 0 then
    f_X7_statement_J68 n h v0
  else
    (x_gI h v0 7 12).bind fun x44 =>
    if (4 : Int32) ≤ x44 then
      f_X7_statement_J68 n h v0
    else
      (x_ob h v0 7).bind fun u45 =>
      (f_X7_tells n h v0 10 (0 : Int32) (0 : Int32) (7 : Int32)).bind fun q46 =>
      if q46.1 = 0 then
        (x_bool q46.1).bind fun x47 =>
        some (x47, q46.2)
      else
        (x_gR q46.2 v0 7 25).bind fun a48 =>
        (x_ld q46.2 a48 (0 : Int32)).bind fun x49 =>
        (x_ob q46.2 v0 7).bind fun u50 =>
        (f_X7_one q46.2 v0 x49).bind fun q51 =>
        (x_bool q46.1).bind fun x52 =>
        some (x52, q51.2)
set_option maxRecDepth 100000 in
set_option maxHeartbeats 4000000 in
theorem j_X7_statement_23 {S : Nat × (Nat → Int32)} {h0 : xH} {mc ms cells slots : Nat} {n : Nat} {h : xH} {v0 : Nat} {r9 : Int32} {hz : xH} (hE : f_X7_statement_J23 n h v0 = some (r9, hz)) (hm : cells ≤ mc ∧ slots ≤ ms) : Y S M_X7_statement h0 (some (.int r9)) hz mc ms 23 [(0, .ref v0)] [] h cells slots := by
  unfold f_X7_statement_J23 at hE
  refine y_aload_n dX7_statement_23 0 rfl ?_
  refine y_ldcS 7 (by decide) rfl dX7_statement_24 ?_
  obtain ⟨u3, eu3, hE⟩ := Option.bind_eq_some_iff.mp hE
  obtain ⟨q4, eq4, hE⟩ := Option.bind_eq_some_iff.mp hE
  refine y_cVi0 (st := []) (as := [.ref 10]) (c_X7_isWord eq4) lk_X7_164 in_X7_isWord se_X7_isWord rfl eu3 ⟨Nat.le_of_ble_eq_true rfl, Nat.le_of_ble_eq_true rfl⟩ (Nat.le_of_ble_eq_true rfl) dX7_statement_26 hm rfl ?_
  refine y_if_eq (tgt := 68) dX7_statement_29 (by decide) (fun hc55 => ?_) (fun hc55 => ?_)
  · rw [if_pos hc55] at hE
    refine y_pick [0] rfl ?_
    exact j_X7_statement_68 hE hm
  · rw [if_neg hc55] at hE
    refine y_aload_n dX7_statement_32 0 rfl ?_
    obtain ⟨x44, ex44, hE⟩ := Option.bind_eq_some_iff.mp hE
    refine y_getI fl_X7_68 ex44 dX7_statement_33 ?_
    refine y_iconst (v := (4 : Int32)) dX7_statement_36 (by decide) ?_
    refine y_icmp_ge (tgt := 68) dX7_statement_37 (by decide) (fun hc54 => ?_) (fun hc54 => ?_)
    · rw [if_pos hc54] at hE
      refine y_pick [0] rfl ?_
      exact j_X7_statement_68 hE hm
    · rw [if_neg hc54] at hE
      refine y_aload_n dX7_statement_40 0 rfl ?_
      refine y_ldcS 7 (by decide) rfl dX7_statement_41 ?_
      refine y_iconst (v := (0 : Int32)) dX7_statement_43 (by decide) ?_
      refine y_iconst (v := (0 : Int32)) dX7_statement_44 (by decide) ?_
      refine y_bipush (v := (7 : Int32)) dX7_statement_45 (by decide) ?_
      obtain ⟨u45, eu45, hE⟩ := Option.bind_eq_some_iff.mp hE
      obtain ⟨q46, eq46, hE⟩ := Option.bind_eq_some_iff.mp hE
      refine y_cVi0 (st := []) (as := [.ref 10, .int (0 : Int32), .int (0 : Int32), .int (7 : Int32)]) (c_X7_tells eq46) lk_X7_173 in_X7_tells se_X7_tells rfl eu45 ⟨Nat.le_of_ble_eq_true rfl, Nat.le_of_ble_eq_true rfl⟩ (Nat.le_of_ble_eq_true rfl) dX7_statement_47 hm rfl ?_
      refine y_istore_n (ls' := [(1, .int q46.1), (0, .ref v0)]) dX7_statement_50 (by decide) rfl rfl ?_
      refine y_iload_n dX7_statement_51 0 rfl ?_
      refine y_if_eq (tgt := 66) dX7_statement_52 (by decide) (fun hc53 => ?_) (fun hc53 => ?_)
      · rw [if_pos hc53] at hE
        refine y_iload_n dX7_statement_66 0 rfl ?_
        obtain ⟨x47, ex47, hE⟩ := Option.bind_eq_some_iff.mp hE
        obtain ⟨e9, hnb⟩ := x_bool.spec ex47
        rw [e9]
        obtain ⟨rfl, rfl⟩ := x_inj2 hE
        exact y_ret dX7_statement_67 hm.1 hm.2 ⟨_, rfl, hnb⟩
      · rw [if_neg hc53] at hE
        refine y_aload_n dX7_statement_55 1 rfl ?_
        refine y_aload_n dX7_statement_56 1 rfl ?_
        obtain ⟨a48, ea48, hE⟩ := Option.bind_eq_some_iff.mp hE
        refine y_getR fl_X7_52 ea48 dX7_statement_57 ?_
        refine y_iconst (v := (0 : Int32)) dX7_statement_60 (by decide) ?_
        obtain ⟨x49, ex49, hE⟩ := Option.bind_eq_some_iff.mp hE
        refine y_iald ex49 dX7_statement_61 ?_
        obtain ⟨u50, eu50, hE⟩ := Option.bind_eq_some_iff.mp hE
        obtain ⟨q51, eq51, hE⟩ := Option.bind_eq_some_iff.mp hE
        refine y_cVi0 (st := []) (as := [.int x49]) (c_X7_one eq51) lk_X7_187 in_X7_one se_X7_one rfl eu50 ⟨Nat.le_of_ble_eq_true rfl, Nat.le_of_ble_eq_true rfl⟩ (Nat.le_of_ble_eq_true rfl) dX7_statement_62 hm rfl ?_
        refine y_pop dX7_statement_65 rfl ?_
        refine y_iload_n dX7_statement_66 0 rfl ?_
        obtain ⟨x52, ex52, hE⟩ := Option.bind_eq_some_iff.mp hE
        obtain ⟨e9, hnb⟩ := x_bool.spec ex52
        rw [e9]
        obtain ⟨rfl, rfl⟩ := x_inj2 hE
        exact y_ret dX7_statement_67 hm.1 hm.2 ⟨_, rfl, hnb⟩
def f_X7_statement (n : Nat) (h : xH) (a0 : Nat) : Option (Int32 × xH) :=
  (x_ob h a0 7).bind fun u1 =>
  (f_X7_isWord n h a0 9).bind fun q2 =>
  if q2 = 0 then
    f_X7_statement_J23 n h a0
  else
    (x_gI h a0 7 9).bind fun x56 =>
    if (14 : Int32) ≤ x56 then
      f_X7_statement_J23 n h a0
    else
      (x_ob h a0 7).bind fun u57 =>
      (f_X7_doorTold n h a0).bind fun q58 =>
      (x_bool q58.1).bind fun x59 =>
      some (x59, q58.2)
set_option maxRecDepth 100000 in
set_option maxHeartbeats 4000000 in
theorem c_X7_statement {n : Nat} {h : xH} {a0 : Nat} {r9 : Int32} {hz : xH} (hE : f_X7_statement n h a0 = some (r9, hz)) : Ctr M_X7_statement [.ref a0] h (some (.int r9)) hz 0 0 := by
  refine ctr_of (by decide) (fun _ _ => Nat.le_of_ble_eq_true rfl) (fun S => ?_)
  show Y S M_X7_statement h (some (.int r9)) hz 0 0 0 [(0, .ref a0)] [] h 0 0
  unfold f_X7_statement at hE
  refine y_aload_n dX7_statement_0 0 rfl ?_
  refine y_ldcS 6 (by decide) rfl dX7_statement_1 ?_
  obtain ⟨u1, eu1, hE⟩ := Option.bind_eq_some_iff.mp hE
  obtain ⟨q2, eq2, hE⟩ := Option.bind_eq_some_iff.mp hE
  refine y_cVi0 (st := []) (as := [.ref 9]) (c_X7_isWord eq2) lk_X7_164 in_X7_isWord se_X7_isWord rfl eu1 ⟨Nat.le_of_ble_eq_true rfl, Nat.le_of_ble_eq_true rfl⟩ (Nat.le_of_ble_eq_true rfl) dX7_statement_3 ⟨Nat.le_refl _, Nat.le_refl _⟩ rfl ?_
  refine y_if_eq (tgt := 23) dX7_statement_6 (by decide) (fun hc61 => ?_) (fun hc61 => ?_)
  · rw [if_pos hc61] at hE
    refine y_pick [0] rfl ?_
    exact j_X7_statement_23 hE ⟨Nat.le_refl _, Nat.le_refl _⟩
  · rw [if_neg hc61] at hE
    refine y_aload_n dX7_statement_9 0 rfl ?_
    obtain ⟨x56, ex56, hE⟩ := Option.bind_eq_some_iff.mp hE
    refine y_getI fl_X7_61 ex56 dX7_statement_10 ?_
    refine y_bipush (v := (14 : Int32)) dX7_statement_13 (by decide) ?_
    refine y_icmp_ge (tgt := 23) dX7_statement_15 (by decide) (fun hc60 => ?_) (fun hc60 => ?_)
    · rw [if_pos hc60] at hE
      refine y_pick [0] rfl ?_
      exact j_X7_statement_23 hE ⟨Nat.le_refl _, Nat.le_refl _⟩
    · rw [if_neg hc60] at hE
      refine y_aload_n dX7_statement_18 0 rfl ?_
      obtain ⟨u57, eu57, hE⟩ := Option.bind_eq_some_iff.mp hE
      obtain ⟨q58, eq58, hE⟩ := Option.bind_eq_some_iff.mp hE
      refine y_cVi0 (st := []) (as := []) (c_X7_doorTold eq58) lk_X7_182 in_X7_doorTold se_X7_doorTold rfl eu57 ⟨Nat.le_of_ble_eq_true rfl, Nat.le_of_ble_eq_true rfl⟩ (Nat.le_of_ble_eq_true rfl) dX7_statement_19 ⟨Nat.le_refl _, Nat.le_refl _⟩ rfl ?_
      obtain ⟨x59, ex59, hE⟩ := Option.bind_eq_some_iff.mp hE
      obtain ⟨e9, hnb⟩ := x_bool.spec ex59
      rw [e9]
      obtain ⟨rfl, rfl⟩ := x_inj2 hE
      exact y_ret dX7_statement_22 (Nat.le_refl _) (Nat.le_refl _) ⟨_, rfl, hnb⟩
