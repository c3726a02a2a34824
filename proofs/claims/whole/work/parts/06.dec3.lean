theorem dX7_views_27 : decode cX7_views 27 = .ok (.iaload, 1) := by decide +kernel
theorem dX7_views_28 : decode cX7_views 28 = .ok (.invokevirtual 199, 3) := by decide +kernel
theorem dX7_views_31 : decode cX7_views 31 = .ok (.aload_n 0, 1) := by decide +kernel
theorem dX7_views_32 : decode cX7_views 32 = .ok (.aload_n 0, 1) := by decide +kernel
theorem dX7_views_33 : decode cX7_views 33 = .ok (.getfield 17, 3) := by decide +kernel
theorem dX7_views_36 : decode cX7_views 36 = .ok (.iload_n 1, 1) := by decide +kernel
theorem dX7_views_37 : decode cX7_views 37 = .ok (.iaload, 1) := by decide +kernel
theorem dX7_views_38 : decode cX7_views 38 = .ok (.invokevirtual 199, 3) := by decide +kernel
theorem dX7_views_41 : decode cX7_views 41 = .ok (.return_, 1) := by decide +kernel
theorem dX7_lessens_0 : decode cX7_lessens 0 = .ok (.iload_n 2, 1) := by decide +kernel
theorem dX7_lessens_1 : decode cX7_lessens 1 = .ok (.aload_n 0, 1) := by decide +kernel
theorem dX7_lessens_2 : decode cX7_lessens 2 = .ok (.getfield 78, 3) := by decide +kernel
theorem dX7_lessens_5 : decode cX7_lessens 5 = .ok (.iload_n 1, 1) := by decide +kernel
theorem dX7_lessens_6 : decode cX7_lessens 6 = .ok (.iaload, 1) := by decide +kernel
theorem dX7_lessens_7 : decode cX7_lessens 7 = .ok (.if_icmp .ge 7, 3) := by decide +kernel
theorem dX7_lessens_10 : decode cX7_lessens 10 = .ok (.iconst 1, 1) := by decide +kernel
theorem dX7_lessens_11 : decode cX7_lessens 11 = .ok (.goto 4, 3) := by decide +kernel
theorem dX7_lessens_14 : decode cX7_lessens 14 = .ok (.iconst 0, 1) := by decide +kernel
theorem dX7_lessens_15 : decode cX7_lessens 15 = .ok (.istore_n 3, 1) := by decide +kernel
theorem dX7_lessens_16 : decode cX7_lessens 16 = .ok (.aload_n 0, 1) := by decide +kernel
theorem dX7_lessens_17 : decode cX7_lessens 17 = .ok (.getfield 78, 3) := by decide +kernel
theorem dX7_lessens_20 : decode cX7_lessens 20 = .ok (.iload_n 1, 1) := by decide +kernel
theorem dX7_lessens_21 : decode cX7_lessens 21 = .ok (.iload_n 3, 1) := by decide +kernel
theorem dX7_lessens_22 : decode cX7_lessens 22 = .ok (.ifCond .eq 7, 3) := by decide +kernel
theorem dX7_lessens_25 : decode cX7_lessens 25 = .ok (.iload_n 2, 1) := by decide +kernel
theorem dX7_lessens_26 : decode cX7_lessens 26 = .ok (.goto 9, 3) := by decide +kernel
theorem dX7_lessens_29 : decode cX7_lessens 29 = .ok (.aload_n 0, 1) := by decide +kernel
theorem dX7_lessens_30 : decode cX7_lessens 30 = .ok (.getfield 78, 3) := by decide +kernel
theorem dX7_lessens_33 : decode cX7_lessens 33 = .ok (.iload_n 1, 1) := by decide +kernel
theorem dX7_lessens_34 : decode cX7_lessens 34 = .ok (.iaload, 1) := by decide +kernel
theorem dX7_lessens_35 : decode cX7_lessens 35 = .ok (.iastore, 1) := by decide +kernel
theorem dX7_lessens_36 : decode cX7_lessens 36 = .ok (.iload_n 3, 1) := by decide +kernel
theorem dX7_lessens_37 : decode cX7_lessens 37 = .ok (.ireturn, 1) := by decide +kernel
theorem dX7_knownFalsum_0 : decode cX7_knownFalsum 0 = .ok (.aload_n 0, 1) := by decide +kernel
theorem dX7_knownFalsum_1 : decode cX7_knownFalsum 1 = .ok (.bipush 70, 2) := by decide +kernel
theorem dX7_knownFalsum_3 : decode cX7_knownFalsum 3 = .ok (.iconst (-1), 1) := by decide +kernel
theorem dX7_knownFalsum_4 : decode cX7_knownFalsum 4 = .ok (.iconst (-1), 1) := by decide +kernel
theorem dX7_knownFalsum_5 : decode cX7_knownFalsum 5 = .ok (.invokevirtual 104, 3) := by decide +kernel
theorem dX7_knownFalsum_8 : decode cX7_knownFalsum 8 = .ok (.istore_n 1, 1) := by decide +kernel
theorem dX7_knownFalsum_9 : decode cX7_knownFalsum 9 = .ok (.iload_n 1, 1) := by decide +kernel
theorem dX7_knownFalsum_10 : decode cX7_knownFalsum 10 = .ok (.iconst (-1), 1) := by decide +kernel
theorem dX7_knownFalsum_11 : decode cX7_knownFalsum 11 = .ok (.if_icmp .ne 9, 3) := by decide +kernel
theorem dX7_knownFalsum_14 : decode cX7_knownFalsum 14 = .ok (.sipush 150, 3) := by decide +kernel
theorem dX7_knownFalsum_17 : decode cX7_knownFalsum 17 = .ok (.goto 4, 3) := by decide +kernel
theorem dX7_knownFalsum_20 : decode cX7_knownFalsum 20 = .ok (.iload_n 1, 1) := by decide +kernel
theorem dX7_knownFalsum_21 : decode cX7_knownFalsum 21 = .ok (.ireturn, 1) := by decide +kernel
theorem dX7_rounds_0 : decode cX7_rounds 0 = .ok (.iconst 0, 1) := by decide +kernel
theorem dX7_rounds_1 : decode cX7_rounds 1 = .ok (.istore_n 2, 1) := by decide +kernel
theorem dX7_rounds_2 : decode cX7_rounds 2 = .ok (.iconst 0, 1) := by decide +kernel
theorem dX7_rounds_3 : decode cX7_rounds 3 = .ok (.istore_n 3, 1) := by decide +kernel
theorem dX7_rounds_4 : decode cX7_rounds 4 = .ok (.iload_n 3, 1) := by decide +kernel
theorem dX7_rounds_5 : decode cX7_rounds 5 = .ok (.sipush 150, 3) := by decide +kernel
theorem dX7_rounds_8 : decode cX7_rounds 8 = .ok (.if_icmp .gt 307, 3) := by decide +kernel
theorem dX7_rounds_11 : decode cX7_rounds 11 = .ok (.aload_n 0, 1) := by decide +kernel
theorem dX7_rounds_12 : decode cX7_rounds 12 = .ok (.getfield 75, 3) := by decide +kernel
theorem dX7_rounds_15 : decode cX7_rounds 15 = .ok (.iload_n 3, 1) := by decide +kernel
theorem dX7_rounds_16 : decode cX7_rounds 16 = .ok (.baload, 1) := by decide +kernel
theorem dX7_rounds_17 : decode cX7_rounds 17 = .ok (.ifCond .ne 6, 3) := by decide +kernel
theorem dX7_rounds_20 : decode cX7_rounds 20 = .ok (.goto 289, 3) := by decide +kernel
theorem dX7_rounds_23 : decode cX7_rounds 23 = .ok (.iload_n 2, 1) := by decide +kernel
theorem dX7_rounds_24 : decode cX7_rounds 24 = .ok (.aload_n 0, 1) := by decide +kernel
theorem dX7_rounds_25 : decode cX7_rounds 25 = .ok (.iload_n 3, 1) := by decide +kernel
theorem dX7_rounds_26 : decode cX7_rounds 26 = .ok (.iconst 1, 1) := by decide +kernel
theorem dX7_rounds_27 : decode cX7_rounds 27 = .ok (.aload_n 0, 1) := by decide +kernel
theorem dX7_rounds_28 : decode cX7_rounds 28 = .ok (.getfield 78, 3) := by decide +kernel
theorem dX7_rounds_31 : decode cX7_rounds 31 = .ok (.iload_n 1, 1) := by decide +kernel
theorem dX7_rounds_32 : decode cX7_rounds 32 = .ok (.iaload, 1) := by decide +kernel
theorem dX7_rounds_33 : decode cX7_rounds 33 = .ok (.iadd, 1) := by decide +kernel
theorem dX7_rounds_34 : decode cX7_rounds 34 = .ok (.invokevirtual 202, 3) := by decide +kernel
theorem dX7_rounds_37 : decode cX7_rounds 37 = .ok (.ior, 1) := by decide +kernel
theorem dX7_rounds_38 : decode cX7_rounds 38 = .ok (.istore_n 2, 1) := by decide +kernel
theorem dX7_rounds_39 : decode cX7_rounds 39 = .ok (.iload_n 3, 1) := by decide +kernel
theorem dX7_rounds_40 : decode cX7_rounds 40 = .ok (.sipush 150, 3) := by decide +kernel
theorem dX7_rounds_43 : decode cX7_rounds 43 = .ok (.if_icmp .ne 8, 3) := by decide +kernel
theorem dX7_rounds_46 : decode cX7_rounds 46 = .ok (.bipush 70, 2) := by decide +kernel
theorem dX7_rounds_48 : decode cX7_rounds 48 = .ok (.goto 9, 3) := by decide +kernel
theorem dX7_rounds_51 : decode cX7_rounds 51 = .ok (.aload_n 0, 1) := by decide +kernel
theorem dX7_rounds_52 : decode cX7_rounds 52 = .ok (.getfield 9, 3) := by decide +kernel
theorem dX7_rounds_55 : decode cX7_rounds 55 = .ok (.iload_n 3, 1) := by decide +kernel
theorem dX7_rounds_56 : decode cX7_rounds 56 = .ok (.caload, 1) := by decide +kernel
theorem dX7_rounds_57 : decode cX7_rounds 57 = .ok (.istore 4, 2) := by decide +kernel
theorem dX7_rounds_59 : decode cX7_rounds 59 = .ok (.iload 4, 2) := by decide +kernel
theorem dX7_rounds_61 : decode cX7_rounds 61 = .ok (.bipush 75, 2) := by decide +kernel
theorem dX7_rounds_63 : decode cX7_rounds 63 = .ok (.if_icmp .ne 81, 3) := by decide +kernel
theorem dX7_rounds_66 : decode cX7_rounds 66 = .ok (.iload_n 2, 1) := by decide +kernel
theorem dX7_rounds_67 : decode cX7_rounds 67 = .ok (.aload_n 0, 1) := by decide +kernel
theorem dX7_rounds_68 : decode cX7_rounds 68 = .ok (.iload_n 3, 1) := by decide +kernel
theorem dX7_rounds_69 : decode cX7_rounds 69 = .ok (.iconst 1, 1) := by decide +kernel
theorem dX7_rounds_70 : decode cX7_rounds 70 = .ok (.aload_n 0, 1) := by decide +kernel
theorem dX7_rounds_71 : decode cX7_rounds 71 = .ok (.getfield 78, 3) := by decide +kernel
theorem dX7_rounds_74 : decode cX7_rounds 74 = .ok (.aload_n 0, 1) := by decide +kernel
theorem dX7_rounds_75 : decode cX7_rounds 75 = .ok (.getfield 13, 3) := by decide +kernel
theorem dX7_rounds_78 : decode cX7_rounds 78 = .ok (.iload_n 3, 1) := by decide +kernel
theorem dX7_rounds_79 : decode cX7_rounds 79 = .ok (.iaload, 1) := by decide +kernel
theorem dX7_rounds_80 : decode cX7_rounds 80 = .ok (.iaload, 1) := by decide +kernel
theorem dX7_rounds_81 : decode cX7_rounds 81 = .ok (.iadd, 1) := by decide +kernel
theorem dX7_rounds_82 : decode cX7_rounds 82 = .ok (.aload_n 0, 1) := by decide +kernel
theorem dX7_rounds_83 : decode cX7_rounds 83 = .ok (.getfield 78, 3) := by decide +kernel
theorem dX7_rounds_86 : decode cX7_rounds 86 = .ok (.aload_n 0, 1) := by decide +kernel
theorem dX7_rounds_87 : decode cX7_rounds 87 = .ok (.getfield 17, 3) := by decide +kernel
theorem dX7_rounds_90 : decode cX7_rounds 90 = .ok (.iload_n 3, 1) := by decide +kernel
theorem dX7_rounds_91 : decode cX7_rounds 91 = .ok (.iaload, 1) := by decide +kernel
theorem dX7_rounds_92 : decode cX7_rounds 92 = .ok (.iaload, 1) := by decide +kernel
theorem dX7_rounds_93 : decode cX7_rounds 93 = .ok (.iadd, 1) := by decide +kernel
theorem dX7_rounds_94 : decode cX7_rounds 94 = .ok (.invokevirtual 202, 3) := by decide +kernel
theorem dX7_rounds_97 : decode cX7_rounds 97 = .ok (.ior, 1) := by decide +kernel
theorem dX7_rounds_98 : decode cX7_rounds 98 = .ok (.istore_n 2, 1) := by decide +kernel
theorem dX7_rounds_99 : decode cX7_rounds 99 = .ok (.iload_n 2, 1) := by decide +kernel
theorem dX7_rounds_100 : decode cX7_rounds 100 = .ok (.aload_n 0, 1) := by decide +kernel
theorem dX7_rounds_101 : decode cX7_rounds 101 = .ok (.aload_n 0, 1) := by decide +kernel
theorem dX7_rounds_102 : decode cX7_rounds 102 = .ok (.getfield 13, 3) := by decide +kernel
theorem dX7_rounds_105 : decode cX7_rounds 105 = .ok (.iload_n 3, 1) := by decide +kernel
theorem dX7_rounds_106 : decode cX7_rounds 106 = .ok (.iaload, 1) := by decide +kernel
theorem dX7_rounds_107 : decode cX7_rounds 107 = .ok (.iconst 1, 1) := by decide +kernel
theorem dX7_rounds_108 : decode cX7_rounds 108 = .ok (.aload_n 0, 1) := by decide +kernel
theorem dX7_rounds_109 : decode cX7_rounds 109 = .ok (.getfield 78, 3) := by decide +kernel
theorem dX7_rounds_112 : decode cX7_rounds 112 = .ok (.iload_n 3, 1) := by decide +kernel
theorem dX7_rounds_113 : decode cX7_rounds 113 = .ok (.iaload, 1) := by decide +kernel
theorem dX7_rounds_114 : decode cX7_rounds 114 = .ok (.iadd, 1) := by decide +kernel
theorem dX7_rounds_115 : decode cX7_rounds 115 = .ok (.invokevirtual 202, 3) := by decide +kernel
theorem dX7_rounds_118 : decode cX7_rounds 118 = .ok (.ior, 1) := by decide +kernel
theorem dX7_rounds_119 : decode cX7_rounds 119 = .ok (.istore_n 2, 1) := by decide +kernel
theorem dX7_rounds_120 : decode cX7_rounds 120 = .ok (.iload_n 2, 1) := by decide +kernel
theorem dX7_rounds_121 : decode cX7_rounds 121 = .ok (.aload_n 0, 1) := by decide +kernel
theorem dX7_rounds_122 : decode cX7_rounds 122 = .ok (.aload_n 0, 1) := by decide +kernel
theorem dX7_rounds_123 : decode cX7_rounds 123 = .ok (.getfield 17, 3) := by decide +kernel
theorem dX7_rounds_126 : decode cX7_rounds 126 = .ok (.iload_n 3, 1) := by decide +kernel
theorem dX7_rounds_127 : decode cX7_rounds 127 = .ok (.iaload, 1) := by decide +kernel
theorem dX7_rounds_128 : decode cX7_rounds 128 = .ok (.iconst 1, 1) := by decide +kernel
theorem dX7_rounds_129 : decode cX7_rounds 129 = .ok (.aload_n 0, 1) := by decide +kernel
theorem dX7_rounds_130 : decode cX7_rounds 130 = .ok (.getfield 78, 3) := by decide +kernel
theorem dX7_rounds_133 : decode cX7_rounds 133 = .ok (.iload_n 3, 1) := by decide +kernel
theorem dX7_rounds_134 : decode cX7_rounds 134 = .ok (.iaload, 1) := by decide +kernel
theorem dX7_rounds_135 : decode cX7_rounds 135 = .ok (.iadd, 1) := by decide +kernel
theorem dX7_rounds_136 : decode cX7_rounds 136 = .ok (.invokevirtual 202, 3) := by decide +kernel
theorem dX7_rounds_139 : decode cX7_rounds 139 = .ok (.ior, 1) := by decide +kernel
theorem dX7_rounds_140 : decode cX7_rounds 140 = .ok (.istore_n 2, 1) := by decide +kernel
theorem dX7_rounds_141 : decode cX7_rounds 141 = .ok (.goto 168, 3) := by decide +kernel
theorem dX7_rounds_144 : decode cX7_rounds 144 = .ok (.iload 4, 2) := by decide +kernel
theorem dX7_rounds_146 : decode cX7_rounds 146 = .ok (.bipush 65, 2) := by decide +kernel
theorem dX7_rounds_148 : decode cX7_rounds 148 = .ok (.if_icmp .ne 41, 3) := by decide +kernel
theorem dX7_rounds_151 : decode cX7_rounds 151 = .ok (.iload_n 2, 1) := by decide +kernel
theorem dX7_rounds_152 : decode cX7_rounds 152 = .ok (.aload_n 0, 1) := by decide +kernel
theorem dX7_rounds_153 : decode cX7_rounds 153 = .ok (.iload_n 3, 1) := by decide +kernel
theorem dX7_rounds_154 : decode cX7_rounds 154 = .ok (.iconst 1, 1) := by decide +kernel
theorem dX7_rounds_155 : decode cX7_rounds 155 = .ok (.aload_n 0, 1) := by decide +kernel
theorem dX7_rounds_156 : decode cX7_rounds 156 = .ok (.getfield 78, 3) := by decide +kernel
theorem dX7_rounds_159 : decode cX7_rounds 159 = .ok (.aload_n 0, 1) := by decide +kernel
theorem dX7_rounds_160 : decode cX7_rounds 160 = .ok (.getfield 13, 3) := by decide +kernel
theorem dX7_rounds_163 : decode cX7_rounds 163 = .ok (.iload_n 3, 1) := by decide +kernel
theorem dX7_rounds_164 : decode cX7_rounds 164 = .ok (.iaload, 1) := by decide +kernel
theorem dX7_rounds_165 : decode cX7_rounds 165 = .ok (.iaload, 1) := by decide +kernel
theorem dX7_rounds_166 : decode cX7_rounds 166 = .ok (.aload_n 0, 1) := by decide +kernel
theorem dX7_rounds_167 : decode cX7_rounds 167 = .ok (.getfield 78, 3) := by decide +kernel
theorem dX7_rounds_170 : decode cX7_rounds 170 = .ok (.aload_n 0, 1) := by decide +kernel
theorem dX7_rounds_171 : decode cX7_rounds 171 = .ok (.getfield 17, 3) := by decide +kernel
theorem dX7_rounds_174 : decode cX7_rounds 174 = .ok (.iload_n 3, 1) := by decide +kernel
theorem dX7_rounds_175 : decode cX7_rounds 175 = .ok (.iaload, 1) := by decide +kernel
theorem dX7_rounds_176 : decode cX7_rounds 176 = .ok (.iaload, 1) := by decide +kernel
theorem dX7_rounds_177 : decode cX7_rounds 177 = .ok (.invokestatic 205, 3) := by decide +kernel
theorem dX7_rounds_180 : decode cX7_rounds 180 = .ok (.iadd, 1) := by decide +kernel
theorem dX7_rounds_181 : decode cX7_rounds 181 = .ok (.invokevirtual 202, 3) := by decide +kernel
theorem dX7_rounds_184 : decode cX7_rounds 184 = .ok (.ior, 1) := by decide +kernel
theorem dX7_rounds_185 : decode cX7_rounds 185 = .ok (.istore_n 2, 1) := by decide +kernel
theorem dX7_rounds_186 : decode cX7_rounds 186 = .ok (.goto 123, 3) := by decide +kernel
theorem dX7_rounds_189 : decode cX7_rounds 189 = .ok (.iload 4, 2) := by decide +kernel
theorem dX7_rounds_191 : decode cX7_rounds 191 = .ok (.bipush 67, 2) := by decide +kernel
theorem dX7_rounds_193 : decode cX7_rounds 193 = .ok (.if_icmp .ne 39, 3) := by decide +kernel
theorem dX7_rounds_196 : decode cX7_rounds 196 = .ok (.iload_n 2, 1) := by decide +kernel
theorem dX7_rounds_197 : decode cX7_rounds 197 = .ok (.aload_n 0, 1) := by decide +kernel
theorem dX7_rounds_198 : decode cX7_rounds 198 = .ok (.aload_n 0, 1) := by decide +kernel
theorem dX7_rounds_199 : decode cX7_rounds 199 = .ok (.getfield 17, 3) := by decide +kernel
theorem dX7_rounds_202 : decode cX7_rounds 202 = .ok (.iload_n 3, 1) := by decide +kernel
theorem dX7_rounds_203 : decode cX7_rounds 203 = .ok (.iaload, 1) := by decide +kernel
theorem dX7_rounds_204 : decode cX7_rounds 204 = .ok (.iconst 1, 1) := by decide +kernel
theorem dX7_rounds_205 : decode cX7_rounds 205 = .ok (.aload_n 0, 1) := by decide +kernel
theorem dX7_rounds_206 : decode cX7_rounds 206 = .ok (.getfield 78, 3) := by decide +kernel
theorem dX7_rounds_209 : decode cX7_rounds 209 = .ok (.iload_n 3, 1) := by decide +kernel
theorem dX7_rounds_210 : decode cX7_rounds 210 = .ok (.iaload, 1) := by decide +kernel
theorem dX7_rounds_211 : decode cX7_rounds 211 = .ok (.iadd, 1) := by decide +kernel
theorem dX7_rounds_212 : decode cX7_rounds 212 = .ok (.aload_n 0, 1) := by decide +kernel
theorem dX7_rounds_213 : decode cX7_rounds 213 = .ok (.getfield 78, 3) := by decide +kernel
theorem dX7_rounds_216 : decode cX7_rounds 216 = .ok (.aload_n 0, 1) := by decide +kernel
theorem dX7_rounds_217 : decode cX7_rounds 217 = .ok (.getfield 13, 3) := by decide +kernel
theorem dX7_rounds_220 : decode cX7_rounds 220 = .ok (.iload_n 3, 1) := by decide +kernel
theorem dX7_rounds_221 : decode cX7_rounds 221 = .ok (.iaload, 1) := by decide +kernel
theorem dX7_rounds_222 : decode cX7_rounds 222 = .ok (.iaload, 1) := by decide +kernel
theorem dX7_rounds_223 : decode cX7_rounds 223 = .ok (.iadd, 1) := by decide +kernel
theorem dX7_rounds_224 : decode cX7_rounds 224 = .ok (.invokevirtual 202, 3) := by decide +kernel
theorem dX7_rounds_227 : decode cX7_rounds 227 = .ok (.ior, 1) := by decide +kernel
theorem dX7_rounds_228 : decode cX7_rounds 228 = .ok (.istore_n 2, 1) := by decide +kernel
theorem dX7_rounds_229 : decode cX7_rounds 229 = .ok (.goto 80, 3) := by decide +kernel
theorem dX7_rounds_232 : decode cX7_rounds 232 = .ok (.iload 4, 2) := by decide +kernel
theorem dX7_rounds_234 : decode cX7_rounds 234 = .ok (.bipush 78, 2) := by decide +kernel
theorem dX7_rounds_236 : decode cX7_rounds 236 = .ok (.if_icmp .ne 73, 3) := by decide +kernel
theorem dX7_rounds_239 : decode cX7_rounds 239 = .ok (.iload_n 2, 1) := by decide +kernel
theorem dX7_rounds_240 : decode cX7_rounds 240 = .ok (.aload_n 0, 1) := by decide +kernel
theorem dX7_rounds_241 : decode cX7_rounds 241 = .ok (.iload_n 1, 1) := by decide +kernel
theorem dX7_rounds_242 : decode cX7_rounds 242 = .ok (.iconst 1, 1) := by decide +kernel
theorem dX7_rounds_243 : decode cX7_rounds 243 = .ok (.aload_n 0, 1) := by decide +kernel
theorem dX7_rounds_244 : decode cX7_rounds 244 = .ok (.getfield 78, 3) := by decide +kernel
theorem dX7_rounds_247 : decode cX7_rounds 247 = .ok (.iload_n 3, 1) := by decide +kernel
theorem dX7_rounds_248 : decode cX7_rounds 248 = .ok (.iaload, 1) := by decide +kernel
theorem dX7_rounds_249 : decode cX7_rounds 249 = .ok (.iadd, 1) := by decide +kernel
theorem dX7_rounds_250 : decode cX7_rounds 250 = .ok (.aload_n 0, 1) := by decide +kernel
theorem dX7_rounds_251 : decode cX7_rounds 251 = .ok (.getfield 78, 3) := by decide +kernel
theorem dX7_rounds_254 : decode cX7_rounds 254 = .ok (.aload_n 0, 1) := by decide +kernel
theorem dX7_rounds_255 : decode cX7_rounds 255 = .ok (.getfield 13, 3) := by decide +kernel
theorem dX7_rounds_258 : decode cX7_rounds 258 = .ok (.iload_n 3, 1) := by decide +kernel
theorem dX7_rounds_259 : decode cX7_rounds 259 = .ok (.iaload, 1) := by decide +kernel
theorem dX7_rounds_260 : decode cX7_rounds 260 = .ok (.iaload, 1) := by decide +kernel
theorem dX7_rounds_261 : decode cX7_rounds 261 = .ok (.iadd, 1) := by decide +kernel
theorem dX7_rounds_262 : decode cX7_rounds 262 = .ok (.invokevirtual 202, 3) := by decide +kernel
theorem dX7_rounds_265 : decode cX7_rounds 265 = .ok (.ior, 1) := by decide +kernel
theorem dX7_rounds_266 : decode cX7_rounds 266 = .ok (.istore_n 2, 1) := by decide +kernel
theorem dX7_rounds_267 : decode cX7_rounds 267 = .ok (.aload_n 0, 1) := by decide +kernel
theorem dX7_rounds_268 : decode cX7_rounds 268 = .ok (.getfield 9, 3) := by decide +kernel
theorem dX7_rounds_271 : decode cX7_rounds 271 = .ok (.aload_n 0, 1) := by decide +kernel
theorem dX7_rounds_272 : decode cX7_rounds 272 = .ok (.getfield 13, 3) := by decide +kernel
theorem dX7_rounds_275 : decode cX7_rounds 275 = .ok (.iload_n 3, 1) := by decide +kernel
theorem dX7_rounds_276 : decode cX7_rounds 276 = .ok (.iaload, 1) := by decide +kernel
theorem dX7_rounds_277 : decode cX7_rounds 277 = .ok (.caload, 1) := by decide +kernel
theorem dX7_rounds_278 : decode cX7_rounds 278 = .ok (.bipush 78, 2) := by decide +kernel
theorem dX7_rounds_280 : decode cX7_rounds 280 = .ok (.if_icmp .ne 29, 3) := by decide +kernel
theorem dX7_rounds_283 : decode cX7_rounds 283 = .ok (.iload_n 2, 1) := by decide +kernel
theorem dX7_rounds_284 : decode cX7_rounds 284 = .ok (.aload_n 0, 1) := by decide +kernel
theorem dX7_rounds_285 : decode cX7_rounds 285 = .ok (.aload_n 0, 1) := by decide +kernel
theorem dX7_rounds_286 : decode cX7_rounds 286 = .ok (.getfield 13, 3) := by decide +kernel
theorem dX7_rounds_289 : decode cX7_rounds 289 = .ok (.aload_n 0, 1) := by decide +kernel
theorem dX7_rounds_290 : decode cX7_rounds 290 = .ok (.getfield 13, 3) := by decide +kernel
theorem dX7_rounds_293 : decode cX7_rounds 293 = .ok (.iload_n 3, 1) := by decide +kernel
theorem dX7_rounds_294 : decode cX7_rounds 294 = .ok (.iaload, 1) := by decide +kernel
theorem dX7_rounds_295 : decode cX7_rounds 295 = .ok (.iaload, 1) := by decide +kernel
theorem dX7_rounds_296 : decode cX7_rounds 296 = .ok (.iconst 1, 1) := by decide +kernel
theorem dX7_rounds_297 : decode cX7_rounds 297 = .ok (.aload_n 0, 1) := by decide +kernel
theorem dX7_rounds_298 : decode cX7_rounds 298 = .ok (.getfield 78, 3) := by decide +kernel
theorem dX7_rounds_301 : decode cX7_rounds 301 = .ok (.iload_n 3, 1) := by decide +kernel
theorem dX7_rounds_302 : decode cX7_rounds 302 = .ok (.iaload, 1) := by decide +kernel
theorem dX7_rounds_303 : decode cX7_rounds 303 = .ok (.iadd, 1) := by decide +kernel
theorem dX7_rounds_304 : decode cX7_rounds 304 = .ok (.invokevirtual 202, 3) := by decide +kernel
theorem dX7_rounds_307 : decode cX7_rounds 307 = .ok (.ior, 1) := by decide +kernel
theorem dX7_rounds_308 : decode cX7_rounds 308 = .ok (.istore_n 2, 1) := by decide +kernel
theorem dX7_rounds_309 : decode cX7_rounds 309 = .ok (.iinc 3 1, 3) := by decide +kernel
theorem dX7_rounds_312 : decode cX7_rounds 312 = .ok (.goto (-308), 3) := by decide +kernel
theorem dX7_rounds_315 : decode cX7_rounds 315 = .ok (.iload_n 2, 1) := by decide +kernel
theorem dX7_rounds_316 : decode cX7_rounds 316 = .ok (.ireturn, 1) := by decide +kernel
theorem dX7_distance_0 : decode cX7_distance 0 = .ok (.aload_n 0, 1) := by decide +kernel
theorem dX7_distance_1 : decode cX7_distance 1 = .ok (.iload_n 1, 1) := by decide +kernel
theorem dX7_distance_2 : decode cX7_distance 2 = .ok (.invokevirtual 142, 3) := by decide +kernel
theorem dX7_distance_5 : decode cX7_distance 5 = .ok (.ifCond .eq 5, 3) := by decide +kernel
theorem dX7_distance_8 : decode cX7_distance 8 = .ok (.iconst 0, 1) := by decide +kernel
theorem dX7_distance_9 : decode cX7_distance 9 = .ok (.ireturn, 1) := by decide +kernel
theorem dX7_distance_10 : decode cX7_distance 10 = .ok (.iconst 0, 1) := by decide +kernel
theorem dX7_distance_11 : decode cX7_distance 11 = .ok (.istore_n 2, 1) := by decide +kernel
theorem dX7_distance_12 : decode cX7_distance 12 = .ok (.iload_n 2, 1) := by decide +kernel
theorem dX7_distance_13 : decode cX7_distance 13 = .ok (.sipush 150, 3) := by decide +kernel
theorem dX7_distance_16 : decode cX7_distance 16 = .ok (.if_icmp .gt 25, 3) := by decide +kernel
theorem dX7_distance_19 : decode cX7_distance 19 = .ok (.aload_n 0, 1) := by decide +kernel
theorem dX7_distance_20 : decode cX7_distance 20 = .ok (.getfield 75, 3) := by decide +kernel
theorem dX7_distance_23 : decode cX7_distance 23 = .ok (.iload_n 2, 1) := by decide +kernel
theorem dX7_distance_24 : decode cX7_distance 24 = .ok (.iconst 0, 1) := by decide +kernel
theorem dX7_distance_25 : decode cX7_distance 25 = .ok (.bastore, 1) := by decide +kernel
theorem dX7_distance_26 : decode cX7_distance 26 = .ok (.aload_n 0, 1) := by decide +kernel
theorem dX7_distance_27 : decode cX7_distance 27 = .ok (.getfield 78, 3) := by decide +kernel
theorem dX7_distance_30 : decode cX7_distance 30 = .ok (.iload_n 2, 1) := by decide +kernel
theorem dX7_distance_31 : decode cX7_distance 31 = .ok (.sipush 10000, 3) := by decide +kernel
theorem dX7_distance_34 : decode cX7_distance 34 = .ok (.iastore, 1) := by decide +kernel
theorem dX7_distance_35 : decode cX7_distance 35 = .ok (.iinc 2 1, 3) := by decide +kernel
theorem dX7_distance_38 : decode cX7_distance 38 = .ok (.goto (-26), 3) := by decide +kernel
theorem dX7_distance_41 : decode cX7_distance 41 = .ok (.aload_n 0, 1) := by decide +kernel
theorem dX7_distance_42 : decode cX7_distance 42 = .ok (.invokevirtual 211, 3) := by decide +kernel
theorem dX7_distance_45 : decode cX7_distance 45 = .ok (.istore_n 2, 1) := by decide +kernel
theorem dX7_distance_46 : decode cX7_distance 46 = .ok (.aload_n 0, 1) := by decide +kernel
theorem dX7_distance_47 : decode cX7_distance 47 = .ok (.getfield 75, 3) := by decide +kernel
theorem dX7_distance_50 : decode cX7_distance 50 = .ok (.iload_n 2, 1) := by decide +kernel
theorem dX7_distance_51 : decode cX7_distance 51 = .ok (.iconst 1, 1) := by decide +kernel
theorem dX7_distance_52 : decode cX7_distance 52 = .ok (.bastore, 1) := by decide +kernel
theorem dX7_distance_53 : decode cX7_distance 53 = .ok (.aload_n 0, 1) := by decide +kernel
theorem dX7_distance_54 : decode cX7_distance 54 = .ok (.iload_n 1, 1) := by decide +kernel
theorem dX7_distance_55 : decode cX7_distance 55 = .ok (.invokevirtual 199, 3) := by decide +kernel
theorem dX7_distance_58 : decode cX7_distance 58 = .ok (.iconst 0, 1) := by decide +kernel
theorem dX7_distance_59 : decode cX7_distance 59 = .ok (.istore_n 3, 1) := by decide +kernel
theorem dX7_distance_60 : decode cX7_distance 60 = .ok (.iload_n 3, 1) := by decide +kernel
theorem dX7_distance_61 : decode cX7_distance 61 = .ok (.aload_n 0, 1) := by decide +kernel
theorem dX7_distance_62 : decode cX7_distance 62 = .ok (.getfield 94, 3) := by decide +kernel
theorem dX7_distance_65 : decode cX7_distance 65 = .ok (.if_icmp .ge 39, 3) := by decide +kernel
theorem dX7_distance_68 : decode cX7_distance 68 = .ok (.aload_n 0, 1) := by decide +kernel
theorem dX7_distance_69 : decode cX7_distance 69 = .ok (.iload_n 3, 1) := by decide +kernel
theorem dX7_distance_70 : decode cX7_distance 70 = .ok (.invokevirtual 152, 3) := by decide +kernel
theorem dX7_distance_73 : decode cX7_distance 73 = .ok (.ifCond .eq 25, 3) := by decide +kernel
theorem dX7_distance_76 : decode cX7_distance 76 = .ok (.aload_n 0, 1) := by decide +kernel
theorem dX7_distance_77 : decode cX7_distance 77 = .ok (.aload_n 0, 1) := by decide +kernel
theorem dX7_distance_78 : decode cX7_distance 78 = .ok (.getfield 29, 3) := by decide +kernel
theorem dX7_distance_81 : decode cX7_distance 81 = .ok (.iload_n 3, 1) := by decide +kernel
theorem dX7_distance_82 : decode cX7_distance 82 = .ok (.iaload, 1) := by decide +kernel
theorem dX7_distance_83 : decode cX7_distance 83 = .ok (.invokevirtual 199, 3) := by decide +kernel
theorem dX7_distance_86 : decode cX7_distance 86 = .ok (.aload_n 0, 1) := by decide +kernel
theorem dX7_distance_87 : decode cX7_distance 87 = .ok (.getfield 78, 3) := by decide +kernel
theorem dX7_distance_90 : decode cX7_distance 90 = .ok (.aload_n 0, 1) := by decide +kernel
theorem dX7_distance_91 : decode cX7_distance 91 = .ok (.getfield 29, 3) := by decide +kernel
theorem dX7_distance_94 : decode cX7_distance 94 = .ok (.iload_n 3, 1) := by decide +kernel
theorem dX7_distance_95 : decode cX7_distance 95 = .ok (.iaload, 1) := by decide +kernel
theorem dX7_distance_96 : decode cX7_distance 96 = .ok (.iconst 0, 1) := by decide +kernel
theorem dX7_distance_97 : decode cX7_distance 97 = .ok (.iastore, 1) := by decide +kernel
theorem dX7_distance_98 : decode cX7_distance 98 = .ok (.iinc 3 1, 3) := by decide +kernel
theorem dX7_distance_101 : decode cX7_distance 101 = .ok (.goto (-41), 3) := by decide +kernel
theorem dX7_distance_104 : decode cX7_distance 104 = .ok (.iconst 1, 1) := by decide +kernel
theorem dX7_distance_105 : decode cX7_distance 105 = .ok (.istore_n 3, 1) := by decide +kernel
theorem dX7_distance_106 : decode cX7_distance 106 = .ok (.iload_n 3, 1) := by decide +kernel
theorem dX7_distance_107 : decode cX7_distance 107 = .ok (.ifCond .eq 12, 3) := by decide +kernel
theorem dX7_distance_110 : decode cX7_distance 110 = .ok (.aload_n 0, 1) := by decide +kernel
theorem dX7_distance_111 : decode cX7_distance 111 = .ok (.iload_n 2, 1) := by decide +kernel
theorem dX7_distance_112 : decode cX7_distance 112 = .ok (.invokevirtual 214, 3) := by decide +kernel
theorem dX7_distance_115 : decode cX7_distance 115 = .ok (.istore_n 3, 1) := by decide +kernel
theorem dX7_distance_116 : decode cX7_distance 116 = .ok (.goto (-10), 3) := by decide +kernel
theorem dX7_distance_119 : decode cX7_distance 119 = .ok (.aload_n 0, 1) := by decide +kernel
theorem dX7_distance_120 : decode cX7_distance 120 = .ok (.getfield 78, 3) := by decide +kernel
theorem dX7_distance_123 : decode cX7_distance 123 = .ok (.iload_n 1, 1) := by decide +kernel
theorem dX7_distance_124 : decode cX7_distance 124 = .ok (.iaload, 1) := by decide +kernel
theorem dX7_distance_125 : decode cX7_distance 125 = .ok (.sipush 10000, 3) := by decide +kernel
theorem dX7_distance_128 : decode cX7_distance 128 = .ok (.if_icmp .ge 12, 3) := by decide +kernel
theorem dX7_distance_131 : decode cX7_distance 131 = .ok (.aload_n 0, 1) := by decide +kernel
theorem dX7_distance_132 : decode cX7_distance 132 = .ok (.getfield 78, 3) := by decide +kernel
theorem dX7_distance_135 : decode cX7_distance 135 = .ok (.iload_n 1, 1) := by decide +kernel
theorem dX7_distance_136 : decode cX7_distance 136 = .ok (.iaload, 1) := by decide +kernel
theorem dX7_distance_137 : decode cX7_distance 137 = .ok (.goto 8, 3) := by decide +kernel
theorem dX7_distance_140 : decode cX7_distance 140 = .ok (.aload_n 0, 1) := by decide +kernel
theorem dX7_distance_141 : decode cX7_distance 141 = .ok (.iconst 2, 1) := by decide +kernel
theorem dX7_distance_142 : decode cX7_distance 142 = .ok (.invokevirtual 132, 3) := by decide +kernel
theorem dX7_distance_145 : decode cX7_distance 145 = .ok (.ireturn, 1) := by decide +kernel
theorem dX7_distanceByRounds_0 : decode cX7_distanceByRounds 0 = .ok (.aload_n 0, 1) := by decide +kernel
theorem dX7_distanceByRounds_1 : decode cX7_distanceByRounds 1 = .ok (.iload_n 1, 1) := by decide +kernel
theorem dX7_distanceByRounds_2 : decode cX7_distanceByRounds 2 = .ok (.invokevirtual 217, 3) := by decide +kernel
theorem dX7_distanceByRounds_5 : decode cX7_distanceByRounds 5 = .ok (.ireturn, 1) := by decide +kernel
theorem dX7_behind_0 : decode cX7_behind 0 = .ok (.iconst 1, 1) := by decide +kernel
theorem dX7_behind_1 : decode cX7_behind 1 = .ok (.istore_n 2, 1) := by decide +kernel
theorem dX7_behind_2 : decode cX7_behind 2 = .ok (.iload_n 1, 1) := by decide +kernel
theorem dX7_behind_3 : decode cX7_behind 3 = .ok (.istore_n 3, 1) := by decide +kernel
theorem dX7_behind_4 : decode cX7_behind 4 = .ok (.iload_n 2, 1) := by decide +kernel
theorem dX7_behind_5 : decode cX7_behind 5 = .ok (.ifCond .le 57, 3) := by decide +kernel
theorem dX7_behind_8 : decode cX7_behind 8 = .ok (.aload_n 0, 1) := by decide +kernel
theorem dX7_behind_9 : decode cX7_behind 9 = .ok (.getfield 69, 3) := by decide +kernel
theorem dX7_behind_12 : decode cX7_behind 12 = .ok (.iload_n 3, 1) := by decide +kernel
theorem dX7_behind_13 : decode cX7_behind 13 = .ok (.caload, 1) := by decide +kernel
theorem dX7_behind_14 : decode cX7_behind 14 = .ok (.istore 4, 2) := by decide +kernel
theorem dX7_behind_16 : decode cX7_behind 16 = .ok (.iload_n 2, 1) := by decide +kernel
theorem dX7_behind_17 : decode cX7_behind 17 = .ok (.iload 4, 2) := by decide +kernel
theorem dX7_behind_19 : decode cX7_behind 19 = .ok (.bipush 75, 2) := by decide +kernel
theorem dX7_behind_21 : decode cX7_behind 21 = .ok (.if_icmp .eq 17, 3) := by decide +kernel
theorem dX7_behind_24 : decode cX7_behind 24 = .ok (.iload 4, 2) := by decide +kernel
theorem dX7_behind_26 : decode cX7_behind 26 = .ok (.bipush 65, 2) := by decide +kernel
theorem dX7_behind_28 : decode cX7_behind 28 = .ok (.if_icmp .eq 10, 3) := by decide +kernel
theorem dX7_behind_31 : decode cX7_behind 31 = .ok (.iload 4, 2) := by decide +kernel
theorem dX7_behind_33 : decode cX7_behind 33 = .ok (.bipush 67, 2) := by decide +kernel
theorem dX7_behind_35 : decode cX7_behind 35 = .ok (.if_icmp .ne 7, 3) := by decide +kernel
theorem dX7_behind_38 : decode cX7_behind 38 = .ok (.iconst 1, 1) := by decide +kernel
theorem dX7_behind_39 : decode cX7_behind 39 = .ok (.goto 15, 3) := by decide +kernel
theorem dX7_behind_42 : decode cX7_behind 42 = .ok (.iload 4, 2) := by decide +kernel
theorem dX7_behind_44 : decode cX7_behind 44 = .ok (.bipush 78, 2) := by decide +kernel
theorem dX7_behind_46 : decode cX7_behind 46 = .ok (.if_icmp .ne 7, 3) := by decide +kernel
theorem dX7_behind_49 : decode cX7_behind 49 = .ok (.iconst 0, 1) := by decide +kernel
theorem dX7_behind_50 : decode cX7_behind 50 = .ok (.goto 4, 3) := by decide +kernel
theorem dX7_behind_53 : decode cX7_behind 53 = .ok (.iconst (-1), 1) := by decide +kernel
theorem dX7_behind_54 : decode cX7_behind 54 = .ok (.iadd, 1) := by decide +kernel
theorem dX7_behind_55 : decode cX7_behind 55 = .ok (.istore_n 2, 1) := by decide +kernel
theorem dX7_behind_56 : decode cX7_behind 56 = .ok (.iinc 3 1, 3) := by decide +kernel
theorem dX7_behind_59 : decode cX7_behind 59 = .ok (.goto (-55), 3) := by decide +kernel
theorem dX7_behind_62 : decode cX7_behind 62 = .ok (.iload_n 3, 1) := by decide +kernel
theorem dX7_behind_63 : decode cX7_behind 63 = .ok (.ireturn, 1) := by decide +kernel
theorem dX7_inserts_0 : decode cX7_inserts 0 = .ok (.aload_n 0, 1) := by decide +kernel
theorem dX7_inserts_1 : decode cX7_inserts 1 = .ok (.getfield 114, 3) := by decide +kernel
theorem dX7_inserts_4 : decode cX7_inserts 4 = .ok (.istore_n 2, 1) := by decide +kernel
theorem dX7_inserts_5 : decode cX7_inserts 5 = .ok (.iload_n 2, 1) := by decide +kernel
theorem dX7_inserts_6 : decode cX7_inserts 6 = .ok (.iload_n 1, 1) := by decide +kernel
theorem dX7_inserts_7 : decode cX7_inserts 7 = .ok (.if_icmp .le 23, 3) := by decide +kernel
theorem dX7_inserts_10 : decode cX7_inserts 10 = .ok (.aload_n 0, 1) := by decide +kernel
theorem dX7_inserts_11 : decode cX7_inserts 11 = .ok (.getfield 69, 3) := by decide +kernel
theorem dX7_inserts_14 : decode cX7_inserts 14 = .ok (.iload_n 2, 1) := by decide +kernel
theorem dX7_inserts_15 : decode cX7_inserts 15 = .ok (.aload_n 0, 1) := by decide +kernel
theorem dX7_inserts_16 : decode cX7_inserts 16 = .ok (.getfield 69, 3) := by decide +kernel
theorem dX7_inserts_19 : decode cX7_inserts 19 = .ok (.iload_n 2, 1) := by decide +kernel
theorem dX7_inserts_20 : decode cX7_inserts 20 = .ok (.iconst 1, 1) := by decide +kernel
theorem dX7_inserts_21 : decode cX7_inserts 21 = .ok (.isub, 1) := by decide +kernel
theorem dX7_inserts_22 : decode cX7_inserts 22 = .ok (.caload, 1) := by decide +kernel
theorem dX7_inserts_23 : decode cX7_inserts 23 = .ok (.castore, 1) := by decide +kernel
theorem dX7_inserts_24 : decode cX7_inserts 24 = .ok (.iinc 2 (-1), 3) := by decide +kernel
theorem dX7_inserts_27 : decode cX7_inserts 27 = .ok (.goto (-22), 3) := by decide +kernel
theorem dX7_inserts_30 : decode cX7_inserts 30 = .ok (.aload_n 0, 1) := by decide +kernel
theorem dX7_inserts_31 : decode cX7_inserts 31 = .ok (.getfield 69, 3) := by decide +kernel
theorem dX7_inserts_34 : decode cX7_inserts 34 = .ok (.iload_n 1, 1) := by decide +kernel
theorem dX7_inserts_35 : decode cX7_inserts 35 = .ok (.bipush 78, 2) := by decide +kernel
theorem dX7_inserts_37 : decode cX7_inserts 37 = .ok (.castore, 1) := by decide +kernel
theorem dX7_inserts_38 : decode cX7_inserts 38 = .ok (.aload_n 0, 1) := by decide +kernel
theorem dX7_inserts_39 : decode cX7_inserts 39 = .ok (.dup, 1) := by decide +kernel
theorem dX7_inserts_40 : decode cX7_inserts 40 = .ok (.getfield 114, 3) := by decide +kernel
theorem dX7_inserts_43 : decode cX7_inserts 43 = .ok (.iconst 1, 1) := by decide +kernel
theorem dX7_inserts_44 : decode cX7_inserts 44 = .ok (.iadd, 1) := by decide +kernel
theorem dX7_inserts_45 : decode cX7_inserts 45 = .ok (.putfield 114, 3) := by decide +kernel
theorem dX7_inserts_48 : decode cX7_inserts 48 = .ok (.return_, 1) := by decide +kernel
theorem dX7_steps_0 : decode cX7_steps 0 = .ok (.iconst 0, 1) := by decide +kernel
theorem dX7_steps_1 : decode cX7_steps 1 = .ok (.istore_n 1, 1) := by decide +kernel
theorem dX7_steps_2 : decode cX7_steps 2 = .ok (.iload_n 1, 1) := by decide +kernel
theorem dX7_steps_3 : decode cX7_steps 3 = .ok (.aload_n 0, 1) := by decide +kernel
theorem dX7_steps_4 : decode cX7_steps 4 = .ok (.getfield 114, 3) := by decide +kernel
theorem dX7_steps_7 : decode cX7_steps 7 = .ok (.if_icmp .ge 187, 3) := by decide +kernel
theorem dX7_steps_10 : decode cX7_steps 10 = .ok (.iload_n 1, 1) := by decide +kernel
theorem dX7_steps_11 : decode cX7_steps 11 = .ok (.iconst 1, 1) := by decide +kernel
theorem dX7_steps_12 : decode cX7_steps 12 = .ok (.iadd, 1) := by decide +kernel
theorem dX7_steps_13 : decode cX7_steps 13 = .ok (.aload_n 0, 1) := by decide +kernel
theorem dX7_steps_14 : decode cX7_steps 14 = .ok (.getfield 114, 3) := by decide +kernel
theorem dX7_steps_17 : decode cX7_steps 17 = .ok (.if_icmp .ge 14, 3) := by decide +kernel
theorem dX7_steps_20 : decode cX7_steps 20 = .ok (.aload_n 0, 1) := by decide +kernel
theorem dX7_steps_21 : decode cX7_steps 21 = .ok (.getfield 69, 3) := by decide +kernel
theorem dX7_steps_24 : decode cX7_steps 24 = .ok (.iload_n 1, 1) := by decide +kernel
theorem dX7_steps_25 : decode cX7_steps 25 = .ok (.iconst 1, 1) := by decide +kernel
theorem dX7_steps_26 : decode cX7_steps 26 = .ok (.iadd, 1) := by decide +kernel
theorem dX7_steps_27 : decode cX7_steps 27 = .ok (.caload, 1) := by decide +kernel
theorem dX7_steps_28 : decode cX7_steps 28 = .ok (.goto 5, 3) := by decide +kernel
theorem dX7_steps_31 : decode cX7_steps 31 = .ok (.bipush 32, 2) := by decide +kernel
theorem dX7_steps_33 : decode cX7_steps 33 = .ok (.istore_n 2, 1) := by decide +kernel
theorem dX7_steps_34 : decode cX7_steps 34 = .ok (.aload_n 0, 1) := by decide +kernel
theorem dX7_steps_35 : decode cX7_steps 35 = .ok (.getfield 69, 3) := by decide +kernel
theorem dX7_steps_38 : decode cX7_steps 38 = .ok (.iload_n 1, 1) := by decide +kernel
theorem dX7_steps_39 : decode cX7_steps 39 = .ok (.caload, 1) := by decide +kernel
theorem dX7_steps_40 : decode cX7_steps 40 = .ok (.bipush 67, 2) := by decide +kernel
theorem dX7_steps_42 : decode cX7_steps 42 = .ok (.if_icmp .ne 20, 3) := by decide +kernel
theorem dX7_steps_45 : decode cX7_steps 45 = .ok (.aload_n 0, 1) := by decide +kernel
theorem dX7_steps_46 : decode cX7_steps 46 = .ok (.getfield 69, 3) := by decide +kernel
theorem dX7_steps_49 : decode cX7_steps 49 = .ok (.iload_n 1, 1) := by decide +kernel
theorem dX7_steps_50 : decode cX7_steps 50 = .ok (.bipush 65, 2) := by decide +kernel
theorem dX7_steps_52 : decode cX7_steps 52 = .ok (.castore, 1) := by decide +kernel
theorem dX7_steps_53 : decode cX7_steps 53 = .ok (.aload_n 0, 1) := by decide +kernel
theorem dX7_steps_54 : decode cX7_steps 54 = .ok (.iload_n 1, 1) := by decide +kernel
theorem dX7_steps_55 : decode cX7_steps 55 = .ok (.iconst 1, 1) := by decide +kernel
theorem dX7_steps_56 : decode cX7_steps 56 = .ok (.iadd, 1) := by decide +kernel
theorem dX7_steps_57 : decode cX7_steps 57 = .ok (.invokevirtual 220, 3) := by decide +kernel
theorem dX7_steps_60 : decode cX7_steps 60 = .ok (.iconst 1, 1) := by decide +kernel
theorem dX7_steps_61 : decode cX7_steps 61 = .ok (.ireturn, 1) := by decide +kernel
theorem dX7_steps_62 : decode cX7_steps 62 = .ok (.aload_n 0, 1) := by decide +kernel
theorem dX7_steps_63 : decode cX7_steps 63 = .ok (.getfield 69, 3) := by decide +kernel
theorem dX7_steps_66 : decode cX7_steps 66 = .ok (.iload_n 1, 1) := by decide +kernel
theorem dX7_steps_67 : decode cX7_steps 67 = .ok (.caload, 1) := by decide +kernel
theorem dX7_steps_68 : decode cX7_steps 68 = .ok (.bipush 78, 2) := by decide +kernel
theorem dX7_steps_70 : decode cX7_steps 70 = .ok (.if_icmp .ne 53, 3) := by decide +kernel
theorem dX7_steps_73 : decode cX7_steps 73 = .ok (.iload_n 2, 1) := by decide +kernel
theorem dX7_steps_74 : decode cX7_steps 74 = .ok (.bipush 78, 2) := by decide +kernel
theorem dX7_steps_76 : decode cX7_steps 76 = .ok (.if_icmp .ne 47, 3) := by decide +kernel
theorem dX7_steps_79 : decode cX7_steps 79 = .ok (.iload_n 1, 1) := by decide +kernel
theorem dX7_steps_80 : decode cX7_steps 80 = .ok (.istore_n 3, 1) := by decide +kernel
theorem dX7_steps_81 : decode cX7_steps 81 = .ok (.iload_n 3, 1) := by decide +kernel
theorem dX7_steps_82 : decode cX7_steps 82 = .ok (.iconst 2, 1) := by decide +kernel
theorem dX7_steps_83 : decode cX7_steps 83 = .ok (.iadd, 1) := by decide +kernel
theorem dX7_steps_84 : decode cX7_steps 84 = .ok (.aload_n 0, 1) := by decide +kernel
theorem dX7_steps_85 : decode cX7_steps 85 = .ok (.getfield 114, 3) := by decide +kernel
theorem dX7_steps_88 : decode cX7_steps 88 = .ok (.if_icmp .ge 23, 3) := by decide +kernel
theorem dX7_steps_91 : decode cX7_steps 91 = .ok (.aload_n 0, 1) := by decide +kernel
theorem dX7_steps_92 : decode cX7_steps 92 = .ok (.getfield 69, 3) := by decide +kernel
theorem dX7_steps_95 : decode cX7_steps 95 = .ok (.iload_n 3, 1) := by decide +kernel
theorem dX7_steps_96 : decode cX7_steps 96 = .ok (.aload_n 0, 1) := by decide +kernel
theorem dX7_steps_97 : decode cX7_steps 97 = .ok (.getfield 69, 3) := by decide +kernel
theorem dX7_steps_100 : decode cX7_steps 100 = .ok (.iload_n 3, 1) := by decide +kernel
theorem dX7_steps_101 : decode cX7_steps 101 = .ok (.iconst 2, 1) := by decide +kernel
theorem dX7_steps_102 : decode cX7_steps 102 = .ok (.iadd, 1) := by decide +kernel
theorem dX7_steps_103 : decode cX7_steps 103 = .ok (.caload, 1) := by decide +kernel
theorem dX7_steps_104 : decode cX7_steps 104 = .ok (.castore, 1) := by decide +kernel
theorem dX7_steps_105 : decode cX7_steps 105 = .ok (.iinc 3 1, 3) := by decide +kernel
theorem dX7_steps_108 : decode cX7_steps 108 = .ok (.goto (-27), 3) := by decide +kernel
theorem dX7_steps_111 : decode cX7_steps 111 = .ok (.aload_n 0, 1) := by decide +kernel
theorem dX7_steps_112 : decode cX7_steps 112 = .ok (.dup, 1) := by decide +kernel
theorem dX7_steps_113 : decode cX7_steps 113 = .ok (.getfield 114, 3) := by decide +kernel
theorem dX7_steps_116 : decode cX7_steps 116 = .ok (.iconst 2, 1) := by decide +kernel
theorem dX7_steps_117 : decode cX7_steps 117 = .ok (.isub, 1) := by decide +kernel
theorem dX7_steps_118 : decode cX7_steps 118 = .ok (.putfield 114, 3) := by decide +kernel
theorem dX7_steps_121 : decode cX7_steps 121 = .ok (.iconst 1, 1) := by decide +kernel
theorem dX7_steps_122 : decode cX7_steps 122 = .ok (.ireturn, 1) := by decide +kernel
theorem dX7_steps_123 : decode cX7_steps 123 = .ok (.aload_n 0, 1) := by decide +kernel
theorem dX7_steps_124 : decode cX7_steps 124 = .ok (.getfield 69, 3) := by decide +kernel
theorem dX7_steps_127 : decode cX7_steps 127 = .ok (.iload_n 1, 1) := by decide +kernel
theorem dX7_steps_128 : decode cX7_steps 128 = .ok (.caload, 1) := by decide +kernel
theorem dX7_steps_129 : decode cX7_steps 129 = .ok (.bipush 78, 2) := by decide +kernel
theorem dX7_steps_131 : decode cX7_steps 131 = .ok (.if_icmp .ne 57, 3) := by decide +kernel
theorem dX7_steps_134 : decode cX7_steps 134 = .ok (.iload_n 2, 1) := by decide +kernel
theorem dX7_steps_135 : decode cX7_steps 135 = .ok (.bipush 75, 2) := by decide +kernel
theorem dX7_steps_137 : decode cX7_steps 137 = .ok (.if_icmp .eq 9, 3) := by decide +kernel
theorem dX7_steps_140 : decode cX7_steps 140 = .ok (.iload_n 2, 1) := by decide +kernel
theorem dX7_steps_141 : decode cX7_steps 141 = .ok (.bipush 65, 2) := by decide +kernel
theorem dX7_steps_143 : decode cX7_steps 143 = .ok (.if_icmp .ne 45, 3) := by decide +kernel
theorem dX7_steps_146 : decode cX7_steps 146 = .ok (.aload_n 0, 1) := by decide +kernel
theorem dX7_steps_147 : decode cX7_steps 147 = .ok (.getfield 69, 3) := by decide +kernel
theorem dX7_steps_150 : decode cX7_steps 150 = .ok (.iload_n 1, 1) := by decide +kernel
theorem dX7_steps_151 : decode cX7_steps 151 = .ok (.iload_n 2, 1) := by decide +kernel
theorem dX7_steps_152 : decode cX7_steps 152 = .ok (.bipush 75, 2) := by decide +kernel
theorem dX7_steps_154 : decode cX7_steps 154 = .ok (.if_icmp .ne 8, 3) := by decide +kernel
theorem dX7_steps_157 : decode cX7_steps 157 = .ok (.bipush 65, 2) := by decide +kernel
theorem dX7_steps_159 : decode cX7_steps 159 = .ok (.goto 5, 3) := by decide +kernel
theorem dX7_steps_162 : decode cX7_steps 162 = .ok (.bipush 75, 2) := by decide +kernel
theorem dX7_steps_164 : decode cX7_steps 164 = .ok (.castore, 1) := by decide +kernel
theorem dX7_steps_165 : decode cX7_steps 165 = .ok (.aload_n 0, 1) := by decide +kernel
theorem dX7_steps_166 : decode cX7_steps 166 = .ok (.getfield 69, 3) := by decide +kernel
theorem dX7_steps_169 : decode cX7_steps 169 = .ok (.iload_n 1, 1) := by decide +kernel
theorem dX7_steps_170 : decode cX7_steps 170 = .ok (.iconst 1, 1) := by decide +kernel
theorem dX7_steps_171 : decode cX7_steps 171 = .ok (.iadd, 1) := by decide +kernel
theorem dX7_steps_172 : decode cX7_steps 172 = .ok (.bipush 78, 2) := by decide +kernel
theorem dX7_steps_174 : decode cX7_steps 174 = .ok (.castore, 1) := by decide +kernel
theorem dX7_steps_175 : decode cX7_steps 175 = .ok (.aload_n 0, 1) := by decide +kernel
theorem dX7_steps_176 : decode cX7_steps 176 = .ok (.aload_n 0, 1) := by decide +kernel
theorem dX7_steps_177 : decode cX7_steps 177 = .ok (.iload_n 1, 1) := by decide +kernel
theorem dX7_steps_178 : decode cX7_steps 178 = .ok (.iconst 2, 1) := by decide +kernel
theorem dX7_steps_179 : decode cX7_steps 179 = .ok (.iadd, 1) := by decide +kernel
theorem dX7_steps_180 : decode cX7_steps 180 = .ok (.invokevirtual 223, 3) := by decide +kernel
theorem dX7_steps_183 : decode cX7_steps 183 = .ok (.invokevirtual 220, 3) := by decide +kernel
theorem dX7_steps_186 : decode cX7_steps 186 = .ok (.iconst 1, 1) := by decide +kernel
theorem dX7_steps_187 : decode cX7_steps 187 = .ok (.ireturn, 1) := by decide +kernel
theorem dX7_steps_188 : decode cX7_steps 188 = .ok (.iinc 1 1, 3) := by decide +kernel
theorem dX7_steps_191 : decode cX7_steps 191 = .ok (.goto (-189), 3) := by decide +kernel
theorem dX7_steps_194 : decode cX7_steps 194 = .ok (.iconst 0, 1) := by decide +kernel
theorem dX7_steps_195 : decode cX7_steps 195 = .ok (.ireturn, 1) := by decide +kernel
theorem dX7_begins_0 : decode cX7_begins 0 = .ok (.aload_n 0, 1) := by decide +kernel
theorem dX7_begins_1 : decode cX7_begins 1 = .ok (.iload_n 1, 1) := by decide +kernel
theorem dX7_begins_2 : decode cX7_begins 2 = .ok (.invokevirtual 142, 3) := by decide +kernel
theorem dX7_begins_5 : decode cX7_begins 5 = .ok (.ifCond .eq 5, 3) := by decide +kernel
theorem dX7_begins_8 : decode cX7_begins 8 = .ok (.iconst 0, 1) := by decide +kernel
theorem dX7_begins_9 : decode cX7_begins 9 = .ok (.ireturn, 1) := by decide +kernel
theorem dX7_begins_10 : decode cX7_begins 10 = .ok (.aload_n 0, 1) := by decide +kernel
theorem dX7_begins_11 : decode cX7_begins 11 = .ok (.iconst 0, 1) := by decide +kernel
theorem dX7_begins_12 : decode cX7_begins 12 = .ok (.putfield 114, 3) := by decide +kernel
theorem dX7_begins_15 : decode cX7_begins 15 = .ok (.aload_n 0, 1) := by decide +kernel
theorem dX7_begins_16 : decode cX7_begins 16 = .ok (.iload_n 1, 1) := by decide +kernel
theorem dX7_begins_17 : decode cX7_begins 17 = .ok (.invokevirtual 117, 3) := by decide +kernel
theorem dX7_begins_20 : decode cX7_begins 20 = .ok (.iconst 1, 1) := by decide +kernel
theorem dX7_begins_21 : decode cX7_begins 21 = .ok (.ireturn, 1) := by decide +kernel
theorem dX7_normalStep_0 : decode cX7_normalStep 0 = .ok (.aload_n 0, 1) := by decide +kernel
theorem dX7_normalStep_1 : decode cX7_normalStep 1 = .ok (.iload_n 1, 1) := by decide +kernel
theorem dX7_normalStep_2 : decode cX7_normalStep 2 = .ok (.invokevirtual 226, 3) := by decide +kernel
theorem dX7_normalStep_5 : decode cX7_normalStep 5 = .ok (.ifCond .ne 5, 3) := by decide +kernel
theorem dX7_normalStep_8 : decode cX7_normalStep 8 = .ok (.iconst 0, 1) := by decide +kernel
theorem dX7_normalStep_9 : decode cX7_normalStep 9 = .ok (.ireturn, 1) := by decide +kernel
theorem dX7_normalStep_10 : decode cX7_normalStep 10 = .ok (.aload_n 0, 1) := by decide +kernel
theorem dX7_normalStep_11 : decode cX7_normalStep 11 = .ok (.invokevirtual 229, 3) := by decide +kernel
theorem dX7_normalStep_14 : decode cX7_normalStep 14 = .ok (.ifCond .ne 9, 3) := by decide +kernel
theorem dX7_normalStep_17 : decode cX7_normalStep 17 = .ok (.aload_n 0, 1) := by decide +kernel
theorem dX7_normalStep_18 : decode cX7_normalStep 18 = .ok (.iconst 2, 1) := by decide +kernel
theorem dX7_normalStep_19 : decode cX7_normalStep 19 = .ok (.invokevirtual 132, 3) := by decide +kernel
theorem dX7_normalStep_22 : decode cX7_normalStep 22 = .ok (.ireturn, 1) := by decide +kernel
theorem dX7_normalStep_23 : decode cX7_normalStep 23 = .ok (.aload_n 0, 1) := by decide +kernel
theorem dX7_normalStep_24 : decode cX7_normalStep 24 = .ok (.invokevirtual 190, 3) := by decide +kernel
theorem dX7_normalStep_27 : decode cX7_normalStep 27 = .ok (.istore_n 2, 1) := by decide +kernel
theorem dX7_normalStep_28 : decode cX7_normalStep 28 = .ok (.iload_n 2, 1) := by decide +kernel
theorem dX7_normalStep_29 : decode cX7_normalStep 29 = .ok (.iconst (-1), 1) := by decide +kernel
theorem dX7_normalStep_30 : decode cX7_normalStep 30 = .ok (.if_icmp .ne 11, 3) := by decide +kernel
theorem dX7_normalStep_33 : decode cX7_normalStep 33 = .ok (.aload_n 0, 1) := by decide +kernel
theorem dX7_normalStep_34 : decode cX7_normalStep 34 = .ok (.iconst 3, 1) := by decide +kernel
theorem dX7_normalStep_35 : decode cX7_normalStep 35 = .ok (.invokevirtual 132, 3) := by decide +kernel
theorem dX7_normalStep_38 : decode cX7_normalStep 38 = .ok (.goto 4, 3) := by decide +kernel
theorem dX7_normalStep_41 : decode cX7_normalStep 41 = .ok (.iload_n 2, 1) := by decide +kernel
theorem dX7_normalStep_42 : decode cX7_normalStep 42 = .ok (.ireturn, 1) := by decide +kernel
theorem dX7_normalSteps_0 : decode cX7_normalSteps 0 = .ok (.iconst 0, 1) := by decide +kernel
theorem dX7_normalSteps_1 : decode cX7_normalSteps 1 = .ok (.istore_n 2, 1) := by decide +kernel
theorem dX7_normalSteps_2 : decode cX7_normalSteps 2 = .ok (.aload_n 0, 1) := by decide +kernel
theorem dX7_normalSteps_3 : decode cX7_normalSteps 3 = .ok (.iload_n 1, 1) := by decide +kernel
theorem dX7_normalSteps_4 : decode cX7_normalSteps 4 = .ok (.invokevirtual 226, 3) := by decide +kernel
theorem dX7_normalSteps_7 : decode cX7_normalSteps 7 = .ok (.ifCond .eq 16, 3) := by decide +kernel
theorem dX7_normalSteps_10 : decode cX7_normalSteps 10 = .ok (.aload_n 0, 1) := by decide +kernel
theorem dX7_normalSteps_11 : decode cX7_normalSteps 11 = .ok (.invokevirtual 229, 3) := by decide +kernel
theorem dX7_normalSteps_14 : decode cX7_normalSteps 14 = .ok (.ifCond .eq 9, 3) := by decide +kernel
theorem dX7_normalSteps_17 : decode cX7_normalSteps 17 = .ok (.iinc 2 1, 3) := by decide +kernel
theorem dX7_normalSteps_20 : decode cX7_normalSteps 20 = .ok (.goto (-10), 3) := by decide +kernel
theorem dX7_normalSteps_23 : decode cX7_normalSteps 23 = .ok (.iload_n 2, 1) := by decide +kernel
theorem dX7_normalSteps_24 : decode cX7_normalSteps 24 = .ok (.ireturn, 1) := by decide +kernel
theorem dX7_normalForm_0 : decode cX7_normalForm 0 = .ok (.aload_n 0, 1) := by decide +kernel
theorem dX7_normalForm_1 : decode cX7_normalForm 1 = .ok (.iload_n 1, 1) := by decide +kernel
theorem dX7_normalForm_2 : decode cX7_normalForm 2 = .ok (.invokevirtual 226, 3) := by decide +kernel
theorem dX7_normalForm_5 : decode cX7_normalForm 5 = .ok (.ifCond .ne 5, 3) := by decide +kernel
theorem dX7_normalForm_8 : decode cX7_normalForm 8 = .ok (.iconst 0, 1) := by decide +kernel
theorem dX7_normalForm_9 : decode cX7_normalForm 9 = .ok (.ireturn, 1) := by decide +kernel
theorem dX7_normalForm_10 : decode cX7_normalForm 10 = .ok (.iconst 1, 1) := by decide +kernel
theorem dX7_normalForm_11 : decode cX7_normalForm 11 = .ok (.istore_n 2, 1) := by decide +kernel
theorem dX7_normalForm_12 : decode cX7_normalForm 12 = .ok (.iload_n 2, 1) := by decide +kernel
theorem dX7_normalForm_13 : decode cX7_normalForm 13 = .ok (.ifCond .eq 11, 3) := by decide +kernel
theorem dX7_normalForm_16 : decode cX7_normalForm 16 = .ok (.aload_n 0, 1) := by decide +kernel
theorem dX7_normalForm_17 : decode cX7_normalForm 17 = .ok (.invokevirtual 229, 3) := by decide +kernel
theorem dX7_normalForm_20 : decode cX7_normalForm 20 = .ok (.istore_n 2, 1) := by decide +kernel
theorem dX7_normalForm_21 : decode cX7_normalForm 21 = .ok (.goto (-9), 3) := by decide +kernel
theorem dX7_normalForm_24 : decode cX7_normalForm 24 = .ok (.aload_n 0, 1) := by decide +kernel
theorem dX7_normalForm_25 : decode cX7_normalForm 25 = .ok (.invokevirtual 190, 3) := by decide +kernel
theorem dX7_normalForm_28 : decode cX7_normalForm 28 = .ok (.istore_n 3, 1) := by decide +kernel
theorem dX7_normalForm_29 : decode cX7_normalForm 29 = .ok (.iload_n 3, 1) := by decide +kernel
theorem dX7_normalForm_30 : decode cX7_normalForm 30 = .ok (.iconst (-1), 1) := by decide +kernel
theorem dX7_normalForm_31 : decode cX7_normalForm 31 = .ok (.if_icmp .ne 11, 3) := by decide +kernel
theorem dX7_normalForm_34 : decode cX7_normalForm 34 = .ok (.aload_n 0, 1) := by decide +kernel
theorem dX7_normalForm_35 : decode cX7_normalForm 35 = .ok (.iconst 2, 1) := by decide +kernel
theorem dX7_normalForm_36 : decode cX7_normalForm 36 = .ok (.invokevirtual 132, 3) := by decide +kernel
theorem dX7_normalForm_39 : decode cX7_normalForm 39 = .ok (.goto 4, 3) := by decide +kernel
theorem dX7_normalForm_42 : decode cX7_normalForm 42 = .ok (.iload_n 3, 1) := by decide +kernel
theorem dX7_normalForm_43 : decode cX7_normalForm 43 = .ok (.ireturn, 1) := by decide +kernel
theorem dX7_models_0 : decode cX7_models 0 = .ok (.aload_n 0, 1) := by decide +kernel
theorem dX7_models_1 : decode cX7_models 1 = .ok (.iload_n 1, 1) := by decide +kernel
theorem dX7_models_2 : decode cX7_models 2 = .ok (.invokevirtual 142, 3) := by decide +kernel
theorem dX7_models_5 : decode cX7_models 5 = .ok (.ifCond .eq 7, 3) := by decide +kernel
theorem dX7_models_8 : decode cX7_models 8 = .ok (.iconst 0, 1) := by decide +kernel
theorem dX7_models_9 : decode cX7_models 9 = .ok (.goto 12, 3) := by decide +kernel
theorem dX7_models_12 : decode cX7_models 12 = .ok (.aload_n 0, 1) := by decide +kernel
theorem dX7_models_13 : decode cX7_models 13 = .ok (.getfield 23, 3) := by decide +kernel
theorem dX7_models_16 : decode cX7_models 16 = .ok (.iload_n 1, 1) := by decide +kernel
theorem dX7_models_17 : decode cX7_models 17 = .ok (.iaload, 1) := by decide +kernel
theorem dX7_models_18 : decode cX7_models 18 = .ok (.invokestatic 233, 3) := by decide +kernel
theorem dX7_models_21 : decode cX7_models 21 = .ok (.ireturn, 1) := by decide +kernel
theorem dX7_modelsByRows_0 : decode cX7_modelsByRows 0 = .ok (.aload_n 0, 1) := by decide +kernel
theorem dX7_modelsByRows_1 : decode cX7_modelsByRows 1 = .ok (.iload_n 1, 1) := by decide +kernel
theorem dX7_modelsByRows_2 : decode cX7_modelsByRows 2 = .ok (.invokevirtual 238, 3) := by decide +kernel
theorem dX7_modelsByRows_5 : decode cX7_modelsByRows 5 = .ok (.ireturn, 1) := by decide +kernel
theorem dX7_follows_0 : decode cX7_follows 0 = .ok (.aload_n 0, 1) := by decide +kernel
theorem dX7_follows_1 : decode cX7_follows 1 = .ok (.iload_n 1, 1) := by decide +kernel
theorem dX7_follows_2 : decode cX7_follows 2 = .ok (.invokevirtual 142, 3) := by decide +kernel
theorem dX7_follows_5 : decode cX7_follows 5 = .ok (.ifCond .eq 5, 3) := by decide +kernel
theorem dX7_follows_8 : decode cX7_follows 8 = .ok (.iconst 0, 1) := by decide +kernel
theorem dX7_follows_9 : decode cX7_follows 9 = .ok (.ireturn, 1) := by decide +kernel
theorem dX7_follows_10 : decode cX7_follows 10 = .ok (.iconst (-1), 1) := by decide +kernel
theorem dX7_follows_11 : decode cX7_follows 11 = .ok (.istore_n 2, 1) := by decide +kernel
theorem dX7_follows_12 : decode cX7_follows 12 = .ok (.iconst 0, 1) := by decide +kernel
theorem dX7_follows_13 : decode cX7_follows 13 = .ok (.istore_n 3, 1) := by decide +kernel
theorem dX7_follows_14 : decode cX7_follows 14 = .ok (.iload_n 3, 1) := by decide +kernel
theorem dX7_follows_15 : decode cX7_follows 15 = .ok (.aload_n 0, 1) := by decide +kernel
theorem dX7_follows_16 : decode cX7_follows 16 = .ok (.getfield 94, 3) := by decide +kernel
theorem dX7_follows_19 : decode cX7_follows 19 = .ok (.if_icmp .ge 35, 3) := by decide +kernel
theorem dX7_follows_22 : decode cX7_follows 22 = .ok (.iload_n 2, 1) := by decide +kernel
theorem dX7_follows_23 : decode cX7_follows 23 = .ok (.aload_n 0, 1) := by decide +kernel
theorem dX7_follows_24 : decode cX7_follows 24 = .ok (.iload_n 3, 1) := by decide +kernel
theorem dX7_follows_25 : decode cX7_follows 25 = .ok (.invokevirtual 152, 3) := by decide +kernel
theorem dX7_follows_28 : decode cX7_follows 28 = .ok (.ifCond .eq 17, 3) := by decide +kernel
theorem dX7_follows_31 : decode cX7_follows 31 = .ok (.aload_n 0, 1) := by decide +kernel
theorem dX7_follows_32 : decode cX7_follows 32 = .ok (.getfield 23, 3) := by decide +kernel
theorem dX7_follows_35 : decode cX7_follows 35 = .ok (.aload_n 0, 1) := by decide +kernel
theorem dX7_follows_36 : decode cX7_follows 36 = .ok (.getfield 29, 3) := by decide +kernel
theorem dX7_follows_39 : decode cX7_follows 39 = .ok (.iload_n 3, 1) := by decide +kernel
theorem dX7_follows_40 : decode cX7_follows 40 = .ok (.iaload, 1) := by decide +kernel
theorem dX7_follows_41 : decode cX7_follows 41 = .ok (.iaload, 1) := by decide +kernel
theorem dX7_follows_42 : decode cX7_follows 42 = .ok (.goto 4, 3) := by decide +kernel
theorem dX7_follows_45 : decode cX7_follows 45 = .ok (.iconst (-1), 1) := by decide +kernel
theorem dX7_follows_46 : decode cX7_follows 46 = .ok (.iand, 1) := by decide +kernel
theorem dX7_follows_47 : decode cX7_follows 47 = .ok (.istore_n 2, 1) := by decide +kernel
theorem dX7_follows_48 : decode cX7_follows 48 = .ok (.iinc 3 1, 3) := by decide +kernel
theorem dX7_follows_51 : decode cX7_follows 51 = .ok (.goto (-37), 3) := by decide +kernel
theorem dX7_follows_54 : decode cX7_follows 54 = .ok (.iload_n 2, 1) := by decide +kernel
theorem dX7_follows_55 : decode cX7_follows 55 = .ok (.aload_n 0, 1) := by decide +kernel
theorem dX7_follows_56 : decode cX7_follows 56 = .ok (.getfield 23, 3) := by decide +kernel
theorem dX7_follows_59 : decode cX7_follows 59 = .ok (.iload_n 1, 1) := by decide +kernel
theorem dX7_follows_60 : decode cX7_follows 60 = .ok (.iaload, 1) := by decide +kernel
theorem dX7_follows_61 : decode cX7_follows 61 = .ok (.iconst (-1), 1) := by decide +kernel
theorem dX7_follows_62 : decode cX7_follows 62 = .ok (.ixor, 1) := by decide +kernel
theorem dX7_follows_63 : decode cX7_follows 63 = .ok (.iand, 1) := by decide +kernel
theorem dX7_follows_64 : decode cX7_follows 64 = .ok (.ifCond .ne 7, 3) := by decide +kernel
theorem dX7_follows_67 : decode cX7_follows 67 = .ok (.iconst 1, 1) := by decide +kernel
theorem dX7_follows_68 : decode cX7_follows 68 = .ok (.goto 4, 3) := by decide +kernel
theorem dX7_follows_71 : decode cX7_follows 71 = .ok (.iconst 0, 1) := by decide +kernel
theorem dX7_follows_72 : decode cX7_follows 72 = .ok (.ireturn, 1) := by decide +kernel
theorem dX7_isSound_0 : decode cX7_isSound 0 = .ok (.aload_n 0, 1) := by decide +kernel
theorem dX7_isSound_1 : decode cX7_isSound 1 = .ok (.iload_n 1, 1) := by decide +kernel
theorem dX7_isSound_2 : decode cX7_isSound 2 = .ok (.invokevirtual 193, 3) := by decide +kernel
theorem dX7_isSound_5 : decode cX7_isSound 5 = .ok (.ifCond .eq 5, 3) := by decide +kernel
theorem dX7_isSound_8 : decode cX7_isSound 8 = .ok (.iconst 0, 1) := by decide +kernel
theorem dX7_isSound_9 : decode cX7_isSound 9 = .ok (.ireturn, 1) := by decide +kernel
theorem dX7_isSound_10 : decode cX7_isSound 10 = .ok (.iconst (-1), 1) := by decide +kernel
theorem dX7_isSound_11 : decode cX7_isSound 11 = .ok (.istore_n 2, 1) := by decide +kernel
theorem dX7_isSound_12 : decode cX7_isSound 12 = .ok (.iconst 0, 1) := by decide +kernel
theorem dX7_isSound_13 : decode cX7_isSound 13 = .ok (.istore_n 3, 1) := by decide +kernel
theorem dX7_isSound_14 : decode cX7_isSound 14 = .ok (.iload_n 3, 1) := by decide +kernel
theorem dX7_isSound_15 : decode cX7_isSound 15 = .ok (.aload_n 0, 1) := by decide +kernel
theorem dX7_isSound_16 : decode cX7_isSound 16 = .ok (.getfield 94, 3) := by decide +kernel
theorem dX7_isSound_19 : decode cX7_isSound 19 = .ok (.if_icmp .ge 38, 3) := by decide +kernel
theorem dX7_isSound_22 : decode cX7_isSound 22 = .ok (.iload_n 2, 1) := by decide +kernel
theorem dX7_isSound_23 : decode cX7_isSound 23 = .ok (.aload_n 0, 1) := by decide +kernel
theorem dX7_isSound_24 : decode cX7_isSound 24 = .ok (.getfield 32, 3) := by decide +kernel
theorem dX7_isSound_27 : decode cX7_isSound 27 = .ok (.iload_n 3, 1) := by decide +kernel
theorem dX7_isSound_28 : decode cX7_isSound 28 = .ok (.caload, 1) := by decide +kernel
theorem dX7_isSound_29 : decode cX7_isSound 29 = .ok (.bipush 80, 2) := by decide +kernel
theorem dX7_isSound_31 : decode cX7_isSound 31 = .ok (.if_icmp .ne 17, 3) := by decide +kernel
theorem dX7_isSound_34 : decode cX7_isSound 34 = .ok (.aload_n 0, 1) := by decide +kernel
theorem dX7_isSound_35 : decode cX7_isSound 35 = .ok (.getfield 23, 3) := by decide +kernel
theorem dX7_isSound_38 : decode cX7_isSound 38 = .ok (.aload_n 0, 1) := by decide +kernel
theorem dX7_isSound_39 : decode cX7_isSound 39 = .ok (.getfield 29, 3) := by decide +kernel
theorem dX7_isSound_42 : decode cX7_isSound 42 = .ok (.iload_n 3, 1) := by decide +kernel
theorem dX7_isSound_43 : decode cX7_isSound 43 = .ok (.iaload, 1) := by decide +kernel
theorem dX7_isSound_44 : decode cX7_isSound 44 = .ok (.iaload, 1) := by decide +kernel
theorem dX7_isSound_45 : decode cX7_isSound 45 = .ok (.goto 4, 3) := by decide +kernel
theorem dX7_isSound_48 : decode cX7_isSound 48 = .ok (.iconst (-1), 1) := by decide +kernel
theorem dX7_isSound_49 : decode cX7_isSound 49 = .ok (.iand, 1) := by decide +kernel
theorem dX7_isSound_50 : decode cX7_isSound 50 = .ok (.istore_n 2, 1) := by decide +kernel
theorem dX7_isSound_51 : decode cX7_isSound 51 = .ok (.iinc 3 1, 3) := by decide +kernel
theorem dX7_isSound_54 : decode cX7_isSound 54 = .ok (.goto (-40), 3) := by decide +kernel
theorem dX7_isSound_57 : decode cX7_isSound 57 = .ok (.aload_n 0, 1) := by decide +kernel
theorem dX7_isSound_58 : decode cX7_isSound 58 = .ok (.getfield 35, 3) := by decide +kernel
theorem dX7_isSound_61 : decode cX7_isSound 61 = .ok (.iload_n 1, 1) := by decide +kernel
theorem dX7_isSound_62 : decode cX7_isSound 62 = .ok (.iaload, 1) := by decide +kernel
theorem dX7_isSound_63 : decode cX7_isSound 63 = .ok (.istore_n 3, 1) := by decide +kernel
theorem dX7_isSound_64 : decode cX7_isSound 64 = .ok (.iload_n 3, 1) := by decide +kernel
theorem dX7_isSound_65 : decode cX7_isSound 65 = .ok (.iconst (-1), 1) := by decide +kernel
theorem dX7_isSound_66 : decode cX7_isSound 66 = .ok (.if_icmp .eq 32, 3) := by decide +kernel
theorem dX7_isSound_69 : decode cX7_isSound 69 = .ok (.iload_n 2, 1) := by decide +kernel
theorem dX7_isSound_70 : decode cX7_isSound 70 = .ok (.aload_n 0, 1) := by decide +kernel
theorem dX7_isSound_71 : decode cX7_isSound 71 = .ok (.getfield 23, 3) := by decide +kernel
theorem dX7_isSound_74 : decode cX7_isSound 74 = .ok (.aload_n 0, 1) := by decide +kernel
theorem dX7_isSound_75 : decode cX7_isSound 75 = .ok (.getfield 29, 3) := by decide +kernel
theorem dX7_isSound_78 : decode cX7_isSound 78 = .ok (.aload_n 0, 1) := by decide +kernel
theorem dX7_isSound_79 : decode cX7_isSound 79 = .ok (.getfield 50, 3) := by decide +kernel
theorem dX7_isSound_82 : decode cX7_isSound 82 = .ok (.iload_n 3, 1) := by decide +kernel
theorem dX7_isSound_83 : decode cX7_isSound 83 = .ok (.iaload, 1) := by decide +kernel
theorem dX7_isSound_84 : decode cX7_isSound 84 = .ok (.iaload, 1) := by decide +kernel
theorem dX7_isSound_85 : decode cX7_isSound 85 = .ok (.iaload, 1) := by decide +kernel
theorem dX7_isSound_86 : decode cX7_isSound 86 = .ok (.iand, 1) := by decide +kernel
theorem dX7_isSound_87 : decode cX7_isSound 87 = .ok (.istore_n 2, 1) := by decide +kernel
theorem dX7_isSound_88 : decode cX7_isSound 88 = .ok (.aload_n 0, 1) := by decide +kernel
theorem dX7_isSound_89 : decode cX7_isSound 89 = .ok (.getfield 43, 3) := by decide +kernel
theorem dX7_isSound_92 : decode cX7_isSound 92 = .ok (.iload_n 3, 1) := by decide +kernel
theorem dX7_isSound_93 : decode cX7_isSound 93 = .ok (.iaload, 1) := by decide +kernel
theorem dX7_isSound_94 : decode cX7_isSound 94 = .ok (.istore_n 3, 1) := by decide +kernel
theorem dX7_isSound_95 : decode cX7_isSound 95 = .ok (.goto (-31), 3) := by decide +kernel
theorem dX7_isSound_98 : decode cX7_isSound 98 = .ok (.iload_n 2, 1) := by decide +kernel
theorem dX7_isSound_99 : decode cX7_isSound 99 = .ok (.aload_n 0, 1) := by decide +kernel
theorem dX7_isSound_100 : decode cX7_isSound 100 = .ok (.getfield 23, 3) := by decide +kernel
theorem dX7_isSound_103 : decode cX7_isSound 103 = .ok (.aload_n 0, 1) := by decide +kernel
theorem dX7_isSound_104 : decode cX7_isSound 104 = .ok (.getfield 29, 3) := by decide +kernel
theorem dX7_isSound_107 : decode cX7_isSound 107 = .ok (.iload_n 1, 1) := by decide +kernel
theorem dX7_isSound_108 : decode cX7_isSound 108 = .ok (.iaload, 1) := by decide +kernel
theorem dX7_isSound_109 : decode cX7_isSound 109 = .ok (.iaload, 1) := by decide +kernel
theorem dX7_isSound_110 : decode cX7_isSound 110 = .ok (.iconst (-1), 1) := by decide +kernel
theorem dX7_isSound_111 : decode cX7_isSound 111 = .ok (.ixor, 1) := by decide +kernel
theorem dX7_isSound_112 : decode cX7_isSound 112 = .ok (.iand, 1) := by decide +kernel
theorem dX7_isSound_113 : decode cX7_isSound 113 = .ok (.ifCond .ne 7, 3) := by decide +kernel
theorem dX7_isSound_116 : decode cX7_isSound 116 = .ok (.iconst 1, 1) := by decide +kernel
theorem dX7_isSound_117 : decode cX7_isSound 117 = .ok (.goto 4, 3) := by decide +kernel
theorem dX7_isSound_120 : decode cX7_isSound 120 = .ok (.iconst 0, 1) := by decide +kernel
theorem dX7_isSound_121 : decode cX7_isSound 121 = .ok (.ireturn, 1) := by decide +kernel
theorem dX7_share_0 : decode cX7_share 0 = .ok (.aload_n 0, 1) := by decide +kernel
theorem dX7_share_1 : decode cX7_share 1 = .ok (.iload_n 1, 1) := by decide +kernel
theorem dX7_share_2 : decode cX7_share 2 = .ok (.invokevirtual 142, 3) := by decide +kernel
theorem dX7_share_5 : decode cX7_share 5 = .ok (.ifCond .eq 7, 3) := by decide +kernel
theorem dX7_share_8 : decode cX7_share 8 = .ok (.fconst 0, 1) := by decide +kernel
theorem dX7_share_9 : decode cX7_share 9 = .ok (.goto 16, 3) := by decide +kernel
theorem dX7_share_12 : decode cX7_share 12 = .ok (.aload_n 0, 1) := by decide +kernel
theorem dX7_share_13 : decode cX7_share 13 = .ok (.getfield 23, 3) := by decide +kernel
theorem dX7_share_16 : decode cX7_share 16 = .ok (.iload_n 1, 1) := by decide +kernel
theorem dX7_share_17 : decode cX7_share 17 = .ok (.iaload, 1) := by decide +kernel
theorem dX7_share_18 : decode cX7_share 18 = .ok (.invokestatic 233, 3) := by decide +kernel
theorem dX7_share_21 : decode cX7_share 21 = .ok (.i2f, 1) := by decide +kernel
theorem dX7_share_22 : decode cX7_share 22 = .ok (.ldc 241, 2) := by decide +kernel
theorem dX7_share_24 : decode cX7_share 24 = .ok (.fdiv, 1) := by decide +kernel
theorem dX7_share_25 : decode cX7_share 25 = .ok (.freturn, 1) := by decide +kernel
theorem dX7_meanSize_0 : decode cX7_meanSize 0 = .ok (.aload_n 0, 1) := by decide +kernel
theorem dX7_meanSize_1 : decode cX7_meanSize 1 = .ok (.getfield 94, 3) := by decide +kernel
theorem dX7_meanSize_4 : decode cX7_meanSize 4 = .ok (.ifCond .ne 11, 3) := by decide +kernel
theorem dX7_meanSize_7 : decode cX7_meanSize 7 = .ok (.aload_n 0, 1) := by decide +kernel
theorem dX7_meanSize_8 : decode cX7_meanSize 8 = .ok (.iconst 1, 1) := by decide +kernel
theorem dX7_meanSize_9 : decode cX7_meanSize 9 = .ok (.invokevirtual 132, 3) := by decide +kernel
theorem dX7_meanSize_12 : decode cX7_meanSize 12 = .ok (.pop, 1) := by decide +kernel
theorem dX7_meanSize_13 : decode cX7_meanSize 13 = .ok (.dconst 0, 1) := by decide +kernel
theorem dX7_meanSize_14 : decode cX7_meanSize 14 = .ok (.dreturn, 1) := by decide +kernel
theorem dX7_meanSize_15 : decode cX7_meanSize 15 = .ok (.aload_n 0, 1) := by decide +kernel
theorem dX7_meanSize_16 : decode cX7_meanSize 16 = .ok (.iconst 0, 1) := by decide +kernel
theorem dX7_meanSize_17 : decode cX7_meanSize 17 = .ok (.putfield 84, 3) := by decide +kernel
theorem dX7_meanSize_20 : decode cX7_meanSize 20 = .ok (.iconst 0, 1) := by decide +kernel
theorem dX7_meanSize_21 : decode cX7_meanSize 21 = .ok (.istore_n 1, 1) := by decide +kernel
theorem dX7_meanSize_22 : decode cX7_meanSize 22 = .ok (.iconst 0, 1) := by decide +kernel
theorem dX7_meanSize_23 : decode cX7_meanSize 23 = .ok (.istore_n 2, 1) := by decide +kernel
theorem dX7_meanSize_24 : decode cX7_meanSize 24 = .ok (.iload_n 2, 1) := by decide +kernel
theorem dX7_meanSize_25 : decode cX7_meanSize 25 = .ok (.aload_n 0, 1) := by decide +kernel
theorem dX7_meanSize_26 : decode cX7_meanSize 26 = .ok (.getfield 94, 3) := by decide +kernel
theorem dX7_meanSize_29 : decode cX7_meanSize 29 = .ok (.if_icmp .ge 23, 3) := by decide +kernel
theorem dX7_meanSize_32 : decode cX7_meanSize 32 = .ok (.iload_n 1, 1) := by decide +kernel
theorem dX7_meanSize_33 : decode cX7_meanSize 33 = .ok (.aload_n 0, 1) := by decide +kernel
theorem dX7_meanSize_34 : decode cX7_meanSize 34 = .ok (.getfield 20, 3) := by decide +kernel
theorem dX7_meanSize_37 : decode cX7_meanSize 37 = .ok (.aload_n 0, 1) := by decide +kernel
theorem dX7_meanSize_38 : decode cX7_meanSize 38 = .ok (.getfield 29, 3) := by decide +kernel
theorem dX7_meanSize_41 : decode cX7_meanSize 41 = .ok (.iload_n 2, 1) := by decide +kernel
theorem dX7_meanSize_42 : decode cX7_meanSize 42 = .ok (.iaload, 1) := by decide +kernel
theorem dX7_meanSize_43 : decode cX7_meanSize 43 = .ok (.iaload, 1) := by decide +kernel
theorem dX7_meanSize_44 : decode cX7_meanSize 44 = .ok (.iadd, 1) := by decide +kernel
theorem dX7_meanSize_45 : decode cX7_meanSize 45 = .ok (.istore_n 1, 1) := by decide +kernel
theorem dX7_meanSize_46 : decode cX7_meanSize 46 = .ok (.iinc 2 1, 3) := by decide +kernel
theorem dX7_meanSize_49 : decode cX7_meanSize 49 = .ok (.goto (-25), 3) := by decide +kernel
theorem dX7_meanSize_52 : decode cX7_meanSize 52 = .ok (.iload_n 1, 1) := by decide +kernel
theorem dX7_meanSize_53 : decode cX7_meanSize 53 = .ok (.i2d, 1) := by decide +kernel
theorem dX7_meanSize_54 : decode cX7_meanSize 54 = .ok (.aload_n 0, 1) := by decide +kernel
theorem dX7_meanSize_55 : decode cX7_meanSize 55 = .ok (.getfield 94, 3) := by decide +kernel
theorem dX7_meanSize_58 : decode cX7_meanSize 58 = .ok (.i2d, 1) := by decide +kernel
theorem dX7_meanSize_59 : decode cX7_meanSize 59 = .ok (.ddiv, 1) := by decide +kernel
theorem dX7_meanSize_60 : decode cX7_meanSize 60 = .ok (.dreturn, 1) := by decide +kernel
theorem dJx00060_init_a7421_0 : decode cJx00060_init_a7421 0 = .ok (.aload_n 0, 1) := by decide +kernel
theorem dJx00060_init_a7421_1 : decode cJx00060_init_a7421 1 = .ok (.aload_n 1, 1) := by decide +kernel
theorem dJx00060_init_a7421_2 : decode cJx00060_init_a7421 2 = .ok (.invokespecial 7, 3) := by decide +kernel
theorem dJx00060_init_a7421_5 : decode cJx00060_init_a7421 5 = .ok (.return_, 1) := by decide +kernel
theorem dJ6_bitCount_0f7a4_0 : decode cJ6_bitCount_0f7a4 0 = .ok (.iload_n 0, 1) := by decide +kernel
theorem dJ6_bitCount_0f7a4_1 : decode cJ6_bitCount_0f7a4 1 = .ok (.iload_n 0, 1) := by decide +kernel
theorem dJ6_bitCount_0f7a4_2 : decode cJ6_bitCount_0f7a4 2 = .ok (.iconst 1, 1) := by decide +kernel
theorem dJ6_bitCount_0f7a4_3 : decode cJ6_bitCount_0f7a4 3 = .ok (.iushr, 1) := by decide +kernel
theorem dJ6_bitCount_0f7a4_4 : decode cJ6_bitCount_0f7a4 4 = .ok (.ldc_w 265, 3) := by decide +kernel
theorem dJ6_bitCount_0f7a4_7 : decode cJ6_bitCount_0f7a4 7 = .ok (.iand, 1) := by decide +kernel
theorem dJ6_bitCount_0f7a4_8 : decode cJ6_bitCount_0f7a4 8 = .ok (.isub, 1) := by decide +kernel
theorem dJ6_bitCount_0f7a4_9 : decode cJ6_bitCount_0f7a4 9 = .ok (.istore_n 0, 1) := by decide +kernel
theorem dJ6_bitCount_0f7a4_10 : decode cJ6_bitCount_0f7a4 10 = .ok (.iload_n 0, 1) := by decide +kernel
theorem dJ6_bitCount_0f7a4_11 : decode cJ6_bitCount_0f7a4 11 = .ok (.ldc_w 266, 3) := by decide +kernel
theorem dJ6_bitCount_0f7a4_14 : decode cJ6_bitCount_0f7a4 14 = .ok (.iand, 1) := by decide +kernel
theorem dJ6_bitCount_0f7a4_15 : decode cJ6_bitCount_0f7a4 15 = .ok (.iload_n 0, 1) := by decide +kernel
theorem dJ6_bitCount_0f7a4_16 : decode cJ6_bitCount_0f7a4 16 = .ok (.iconst 2, 1) := by decide +kernel
theorem dJ6_bitCount_0f7a4_17 : decode cJ6_bitCount_0f7a4 17 = .ok (.iushr, 1) := by decide +kernel
theorem dJ6_bitCount_0f7a4_18 : decode cJ6_bitCount_0f7a4 18 = .ok (.ldc_w 266, 3) := by decide +kernel
theorem dJ6_bitCount_0f7a4_21 : decode cJ6_bitCount_0f7a4 21 = .ok (.iand, 1) := by decide +kernel
theorem dJ6_bitCount_0f7a4_22 : decode cJ6_bitCount_0f7a4 22 = .ok (.iadd, 1) := by decide +kernel
theorem dJ6_bitCount_0f7a4_23 : decode cJ6_bitCount_0f7a4 23 = .ok (.istore_n 0, 1) := by decide +kernel
theorem dJ6_bitCount_0f7a4_24 : decode cJ6_bitCount_0f7a4 24 = .ok (.iload_n 0, 1) := by decide +kernel
theorem dJ6_bitCount_0f7a4_25 : decode cJ6_bitCount_0f7a4 25 = .ok (.iload_n 0, 1) := by decide +kernel
theorem dJ6_bitCount_0f7a4_26 : decode cJ6_bitCount_0f7a4 26 = .ok (.iconst 4, 1) := by decide +kernel
theorem dJ6_bitCount_0f7a4_27 : decode cJ6_bitCount_0f7a4 27 = .ok (.iushr, 1) := by decide +kernel
theorem dJ6_bitCount_0f7a4_28 : decode cJ6_bitCount_0f7a4 28 = .ok (.iadd, 1) := by decide +kernel
theorem dJ6_bitCount_0f7a4_29 : decode cJ6_bitCount_0f7a4 29 = .ok (.ldc_w 267, 3) := by decide +kernel
theorem dJ6_bitCount_0f7a4_32 : decode cJ6_bitCount_0f7a4 32 = .ok (.iand, 1) := by decide +kernel
theorem dJ6_bitCount_0f7a4_33 : decode cJ6_bitCount_0f7a4 33 = .ok (.istore_n 0, 1) := by decide +kernel
theorem dJ6_bitCount_0f7a4_34 : decode cJ6_bitCount_0f7a4 34 = .ok (.iload_n 0, 1) := by decide +kernel
theorem dJ6_bitCount_0f7a4_35 : decode cJ6_bitCount_0f7a4 35 = .ok (.iload_n 0, 1) := by decide +kernel
theorem dJ6_bitCount_0f7a4_36 : decode cJ6_bitCount_0f7a4 36 = .ok (.bipush 8, 2) := by decide +kernel
theorem dJ6_bitCount_0f7a4_38 : decode cJ6_bitCount_0f7a4 38 = .ok (.iushr, 1) := by decide +kernel
theorem dJ6_bitCount_0f7a4_39 : decode cJ6_bitCount_0f7a4 39 = .ok (.iadd, 1) := by decide +kernel
theorem dJ6_bitCount_0f7a4_40 : decode cJ6_bitCount_0f7a4 40 = .ok (.istore_n 0, 1) := by decide +kernel
theorem dJ6_bitCount_0f7a4_41 : decode cJ6_bitCount_0f7a4 41 = .ok (.iload_n 0, 1) := by decide +kernel
theorem dJ6_bitCount_0f7a4_42 : decode cJ6_bitCount_0f7a4 42 = .ok (.iload_n 0, 1) := by decide +kernel
theorem dJ6_bitCount_0f7a4_43 : decode cJ6_bitCount_0f7a4 43 = .ok (.bipush 16, 2) := by decide +kernel
theorem dJ6_bitCount_0f7a4_45 : decode cJ6_bitCount_0f7a4 45 = .ok (.iushr, 1) := by decide +kernel
theorem dJ6_bitCount_0f7a4_46 : decode cJ6_bitCount_0f7a4 46 = .ok (.iadd, 1) := by decide +kernel
theorem dJ6_bitCount_0f7a4_47 : decode cJ6_bitCount_0f7a4 47 = .ok (.istore_n 0, 1) := by decide +kernel
theorem dJ6_bitCount_0f7a4_48 : decode cJ6_bitCount_0f7a4 48 = .ok (.iload_n 0, 1) := by decide +kernel
theorem dJ6_bitCount_0f7a4_49 : decode cJ6_bitCount_0f7a4 49 = .ok (.bipush 63, 2) := by decide +kernel
theorem dJ6_bitCount_0f7a4_51 : decode cJ6_bitCount_0f7a4 51 = .ok (.iand, 1) := by decide +kernel
theorem dJ6_bitCount_0f7a4_52 : decode cJ6_bitCount_0f7a4 52 = .ok (.ireturn, 1) := by decide +kernel
theorem dJ9_min_7cf53_0 : decode cJ9_min_7cf53 0 = .ok (.iload_n 0, 1) := by decide +kernel
theorem dJ9_min_7cf53_1 : decode cJ9_min_7cf53 1 = .ok (.iload_n 1, 1) := by decide +kernel
theorem dJ9_min_7cf53_2 : decode cJ9_min_7cf53 2 = .ok (.if_icmp .gt 7, 3) := by decide +kernel
theorem dJ9_min_7cf53_5 : decode cJ9_min_7cf53 5 = .ok (.iload_n 0, 1) := by decide +kernel
theorem dJ9_min_7cf53_6 : decode cJ9_min_7cf53 6 = .ok (.goto 4, 3) := by decide +kernel
theorem dJ9_min_7cf53_9 : decode cJ9_min_7cf53 9 = .ok (.iload_n 1, 1) := by decide +kernel
theorem dJ9_min_7cf53_10 : decode cJ9_min_7cf53 10 = .ok (.ireturn, 1) := by decide +kernel
theorem dL_letter_0 : decode cL_letter 0 = .ok (.aload_n 2, 1) := by decide +kernel
theorem dL_letter_1 : decode cL_letter 1 = .ok (.iconst 0, 1) := by decide +kernel
theorem dL_letter_2 : decode cL_letter 2 = .ok (.aload_n 0, 1) := by decide +kernel
theorem dL_letter_3 : decode cL_letter 3 = .ok (.iload_n 1, 1) := by decide +kernel
theorem dL_letter_4 : decode cL_letter 4 = .ok (.invokevirtual 7, 3) := by decide +kernel
theorem dL_letter_7 : decode cL_letter 7 = .ok (.i2l, 1) := by decide +kernel
theorem dL_letter_8 : decode cL_letter 8 = .ok (.lastore, 1) := by decide +kernel
theorem dL_letter_9 : decode cL_letter 9 = .ok (.goto 9, 3) := by decide +kernel
theorem dL_letter_12 : decode cL_letter 12 = .ok (.astore_n 3, 1) := by decide +kernel
theorem dL_letter_13 : decode cL_letter 13 = .ok (.iconst 1, 1) := by decide +kernel
theorem dL_letter_14 : decode cL_letter 14 = .ok (.ireturn, 1) := by decide +kernel
theorem dL_letter_15 : decode cL_letter 15 = .ok (.astore_n 3, 1) := by decide +kernel
theorem dL_letter_16 : decode cL_letter 16 = .ok (.iconst 2, 1) := by decide +kernel
theorem dL_letter_17 : decode cL_letter 17 = .ok (.ireturn, 1) := by decide +kernel
theorem dL_letter_18 : decode cL_letter 18 = .ok (.iconst 0, 1) := by decide +kernel
theorem dL_letter_19 : decode cL_letter 19 = .ok (.ireturn, 1) := by decide +kernel
theorem dL_falsum_0 : decode cL_falsum 0 = .ok (.aload_n 1, 1) := by decide +kernel
theorem dL_falsum_1 : decode cL_falsum 1 = .ok (.iconst 0, 1) := by decide +kernel
theorem dL_falsum_2 : decode cL_falsum 2 = .ok (.aload_n 0, 1) := by decide +kernel
theorem dL_falsum_3 : decode cL_falsum 3 = .ok (.invokevirtual 17, 3) := by decide +kernel
theorem dL_falsum_6 : decode cL_falsum 6 = .ok (.i2l, 1) := by decide +kernel
theorem dL_falsum_7 : decode cL_falsum 7 = .ok (.lastore, 1) := by decide +kernel
theorem dL_falsum_8 : decode cL_falsum 8 = .ok (.goto 6, 3) := by decide +kernel
theorem dL_falsum_11 : decode cL_falsum 11 = .ok (.astore_n 2, 1) := by decide +kernel
theorem dL_falsum_12 : decode cL_falsum 12 = .ok (.iconst 1, 1) := by decide +kernel
theorem dL_falsum_13 : decode cL_falsum 13 = .ok (.ireturn, 1) := by decide +kernel
theorem dL_falsum_14 : decode cL_falsum 14 = .ok (.iconst 0, 1) := by decide +kernel
theorem dL_falsum_15 : decode cL_falsum 15 = .ok (.ireturn, 1) := by decide +kernel
theorem dL_negation_0 : decode cL_negation 0 = .ok (.aload_n 2, 1) := by decide +kernel
theorem dL_negation_1 : decode cL_negation 1 = .ok (.iconst 0, 1) := by decide +kernel
theorem dL_negation_2 : decode cL_negation 2 = .ok (.aload_n 0, 1) := by decide +kernel
theorem dL_negation_3 : decode cL_negation 3 = .ok (.iload_n 1, 1) := by decide +kernel
theorem dL_negation_4 : decode cL_negation 4 = .ok (.invokevirtual 21, 3) := by decide +kernel
theorem dL_negation_7 : decode cL_negation 7 = .ok (.i2l, 1) := by decide +kernel
theorem dL_negation_8 : decode cL_negation 8 = .ok (.lastore, 1) := by decide +kernel
theorem dL_negation_9 : decode cL_negation 9 = .ok (.goto 9, 3) := by decide +kernel
theorem dL_negation_12 : decode cL_negation 12 = .ok (.astore_n 3, 1) := by decide +kernel
theorem dL_negation_13 : decode cL_negation 13 = .ok (.iconst 1, 1) := by decide +kernel
theorem dL_negation_14 : decode cL_negation 14 = .ok (.ireturn, 1) := by decide +kernel
theorem dL_negation_15 : decode cL_negation 15 = .ok (.astore_n 3, 1) := by decide +kernel
theorem dL_negation_16 : decode cL_negation 16 = .ok (.iconst 2, 1) := by decide +kernel
theorem dL_negation_17 : decode cL_negation 17 = .ok (.ireturn, 1) := by decide +kernel
theorem dL_negation_18 : decode cL_negation 18 = .ok (.iconst 0, 1) := by decide +kernel
theorem dL_negation_19 : decode cL_negation 19 = .ok (.ireturn, 1) := by decide +kernel
theorem dL_conjunction_0 : decode cL_conjunction 0 = .ok (.aload_n 3, 1) := by decide +kernel
theorem dL_conjunction_1 : decode cL_conjunction 1 = .ok (.iconst 0, 1) := by decide +kernel
theorem dL_conjunction_2 : decode cL_conjunction 2 = .ok (.aload_n 0, 1) := by decide +kernel
theorem dL_conjunction_3 : decode cL_conjunction 3 = .ok (.iload_n 1, 1) := by decide +kernel
theorem dL_conjunction_4 : decode cL_conjunction 4 = .ok (.iload_n 2, 1) := by decide +kernel
theorem dL_conjunction_5 : decode cL_conjunction 5 = .ok (.invokevirtual 26, 3) := by decide +kernel
theorem dL_conjunction_8 : decode cL_conjunction 8 = .ok (.i2l, 1) := by decide +kernel
theorem dL_conjunction_9 : decode cL_conjunction 9 = .ok (.lastore, 1) := by decide +kernel
theorem dL_conjunction_10 : decode cL_conjunction 10 = .ok (.goto 11, 3) := by decide +kernel
theorem dL_conjunction_13 : decode cL_conjunction 13 = .ok (.astore 4, 2) := by decide +kernel
theorem dL_conjunction_15 : decode cL_conjunction 15 = .ok (.iconst 1, 1) := by decide +kernel
theorem dL_conjunction_16 : decode cL_conjunction 16 = .ok (.ireturn, 1) := by decide +kernel
theorem dL_conjunction_17 : decode cL_conjunction 17 = .ok (.astore 4, 2) := by decide +kernel
theorem dL_conjunction_19 : decode cL_conjunction 19 = .ok (.iconst 2, 1) := by decide +kernel
theorem dL_conjunction_20 : decode cL_conjunction 20 = .ok (.ireturn, 1) := by decide +kernel
theorem dL_conjunction_21 : decode cL_conjunction 21 = .ok (.iconst 0, 1) := by decide +kernel
theorem dL_conjunction_22 : decode cL_conjunction 22 = .ok (.ireturn, 1) := by decide +kernel
theorem dL_disjunction_0 : decode cL_disjunction 0 = .ok (.aload_n 3, 1) := by decide +kernel
theorem dL_disjunction_1 : decode cL_disjunction 1 = .ok (.iconst 0, 1) := by decide +kernel
theorem dL_disjunction_2 : decode cL_disjunction 2 = .ok (.aload_n 0, 1) := by decide +kernel
theorem dL_disjunction_3 : decode cL_disjunction 3 = .ok (.iload_n 1, 1) := by decide +kernel
theorem dL_disjunction_4 : decode cL_disjunction 4 = .ok (.iload_n 2, 1) := by decide +kernel
theorem dL_disjunction_5 : decode cL_disjunction 5 = .ok (.invokevirtual 30, 3) := by decide +kernel
theorem dL_disjunction_8 : decode cL_disjunction 8 = .ok (.i2l, 1) := by decide +kernel
theorem dL_disjunction_9 : decode cL_disjunction 9 = .ok (.lastore, 1) := by decide +kernel
theorem dL_disjunction_10 : decode cL_disjunction 10 = .ok (.goto 11, 3) := by decide +kernel
theorem dL_disjunction_13 : decode cL_disjunction 13 = .ok (.astore 4, 2) := by decide +kernel
theorem dL_disjunction_15 : decode cL_disjunction 15 = .ok (.iconst 1, 1) := by decide +kernel
theorem dL_disjunction_16 : decode cL_disjunction 16 = .ok (.ireturn, 1) := by decide +kernel
theorem dL_disjunction_17 : decode cL_disjunction 17 = .ok (.astore 4, 2) := by decide +kernel
theorem dL_disjunction_19 : decode cL_disjunction 19 = .ok (.iconst 2, 1) := by decide +kernel
theorem dL_disjunction_20 : decode cL_disjunction 20 = .ok (.ireturn, 1) := by decide +kernel
theorem dL_disjunction_21 : decode cL_disjunction 21 = .ok (.iconst 0, 1) := by decide +kernel
theorem dL_disjunction_22 : decode cL_disjunction 22 = .ok (.ireturn, 1) := by decide +kernel
theorem dL_implication_0 : decode cL_implication 0 = .ok (.aload_n 3, 1) := by decide +kernel
theorem dL_implication_1 : decode cL_implication 1 = .ok (.iconst 0, 1) := by decide +kernel
theorem dL_implication_2 : decode cL_implication 2 = .ok (.aload_n 0, 1) := by decide +kernel
theorem dL_implication_3 : decode cL_implication 3 = .ok (.iload_n 1, 1) := by decide +kernel
theorem dL_implication_4 : decode cL_implication 4 = .ok (.iload_n 2, 1) := by decide +kernel
theorem dL_implication_5 : decode cL_implication 5 = .ok (.invokevirtual 33, 3) := by decide +kernel
theorem dL_implication_8 : decode cL_implication 8 = .ok (.i2l, 1) := by decide +kernel
theorem dL_implication_9 : decode cL_implication 9 = .ok (.lastore, 1) := by decide +kernel
theorem dL_implication_10 : decode cL_implication 10 = .ok (.goto 11, 3) := by decide +kernel
theorem dL_implication_13 : decode cL_implication 13 = .ok (.astore 4, 2) := by decide +kernel
theorem dL_implication_15 : decode cL_implication 15 = .ok (.iconst 1, 1) := by decide +kernel
theorem dL_implication_16 : decode cL_implication 16 = .ok (.ireturn, 1) := by decide +kernel
theorem dL_implication_17 : decode cL_implication 17 = .ok (.astore 4, 2) := by decide +kernel
theorem dL_implication_19 : decode cL_implication 19 = .ok (.iconst 2, 1) := by decide +kernel
theorem dL_implication_20 : decode cL_implication 20 = .ok (.ireturn, 1) := by decide +kernel
theorem dL_implication_21 : decode cL_implication 21 = .ok (.iconst 0, 1) := by decide +kernel
theorem dL_implication_22 : decode cL_implication 22 = .ok (.ireturn, 1) := by decide +kernel
theorem dL_sizeOf_0 : decode cL_sizeOf 0 = .ok (.aload_n 2, 1) := by decide +kernel
theorem dL_sizeOf_1 : decode cL_sizeOf 1 = .ok (.iconst 0, 1) := by decide +kernel
theorem dL_sizeOf_2 : decode cL_sizeOf 2 = .ok (.aload_n 0, 1) := by decide +kernel
theorem dL_sizeOf_3 : decode cL_sizeOf 3 = .ok (.iload_n 1, 1) := by decide +kernel
theorem dL_sizeOf_4 : decode cL_sizeOf 4 = .ok (.invokevirtual 36, 3) := by decide +kernel
theorem dL_sizeOf_7 : decode cL_sizeOf 7 = .ok (.i2l, 1) := by decide +kernel
theorem dL_sizeOf_8 : decode cL_sizeOf 8 = .ok (.lastore, 1) := by decide +kernel
theorem dL_sizeOf_9 : decode cL_sizeOf 9 = .ok (.goto 6, 3) := by decide +kernel
theorem dL_sizeOf_12 : decode cL_sizeOf 12 = .ok (.astore_n 3, 1) := by decide +kernel
theorem dL_sizeOf_13 : decode cL_sizeOf 13 = .ok (.iconst 1, 1) := by decide +kernel
theorem dL_sizeOf_14 : decode cL_sizeOf 14 = .ok (.ireturn, 1) := by decide +kernel
theorem dL_sizeOf_15 : decode cL_sizeOf 15 = .ok (.iconst 0, 1) := by decide +kernel
theorem dL_sizeOf_16 : decode cL_sizeOf 16 = .ok (.ireturn, 1) := by decide +kernel
theorem dL_symbolAt_0 : decode cL_symbolAt 0 = .ok (.aload_n 3, 1) := by decide +kernel
theorem dL_symbolAt_1 : decode cL_symbolAt 1 = .ok (.iconst 0, 1) := by decide +kernel
theorem dL_symbolAt_2 : decode cL_symbolAt 2 = .ok (.aload_n 0, 1) := by decide +kernel
theorem dL_symbolAt_3 : decode cL_symbolAt 3 = .ok (.iload_n 1, 1) := by decide +kernel
theorem dL_symbolAt_4 : decode cL_symbolAt 4 = .ok (.iload_n 2, 1) := by decide +kernel
theorem dL_symbolAt_5 : decode cL_symbolAt 5 = .ok (.invokevirtual 39, 3) := by decide +kernel
theorem dL_symbolAt_8 : decode cL_symbolAt 8 = .ok (.i2l, 1) := by decide +kernel
theorem dL_symbolAt_9 : decode cL_symbolAt 9 = .ok (.lastore, 1) := by decide +kernel
theorem dL_symbolAt_10 : decode cL_symbolAt 10 = .ok (.goto 11, 3) := by decide +kernel
theorem dL_symbolAt_13 : decode cL_symbolAt 13 = .ok (.astore 4, 2) := by decide +kernel
theorem dL_symbolAt_15 : decode cL_symbolAt 15 = .ok (.iconst 1, 1) := by decide +kernel
theorem dL_symbolAt_16 : decode cL_symbolAt 16 = .ok (.ireturn, 1) := by decide +kernel
theorem dL_symbolAt_17 : decode cL_symbolAt 17 = .ok (.astore 4, 2) := by decide +kernel
theorem dL_symbolAt_19 : decode cL_symbolAt 19 = .ok (.iconst 2, 1) := by decide +kernel
theorem dL_symbolAt_20 : decode cL_symbolAt 20 = .ok (.ireturn, 1) := by decide +kernel
theorem dL_symbolAt_21 : decode cL_symbolAt 21 = .ok (.iconst 0, 1) := by decide +kernel
theorem dL_symbolAt_22 : decode cL_symbolAt 22 = .ok (.ireturn, 1) := by decide +kernel
theorem dL_bind_0 : decode cL_bind 0 = .ok (.aload_n 3, 1) := by decide +kernel
theorem dL_bind_1 : decode cL_bind 1 = .ok (.iconst 0, 1) := by decide +kernel
theorem dL_bind_2 : decode cL_bind 2 = .ok (.aload_n 0, 1) := by decide +kernel
theorem dL_bind_3 : decode cL_bind 3 = .ok (.iload_n 1, 1) := by decide +kernel
theorem dL_bind_4 : decode cL_bind 4 = .ok (.iload_n 2, 1) := by decide +kernel
theorem dL_bind_5 : decode cL_bind 5 = .ok (.invokevirtual 45, 3) := by decide +kernel
theorem dL_bind_8 : decode cL_bind 8 = .ok (.i2l, 1) := by decide +kernel
theorem dL_bind_9 : decode cL_bind 9 = .ok (.lastore, 1) := by decide +kernel
theorem dL_bind_10 : decode cL_bind 10 = .ok (.goto 11, 3) := by decide +kernel
theorem dL_bind_13 : decode cL_bind 13 = .ok (.astore 4, 2) := by decide +kernel
theorem dL_bind_15 : decode cL_bind 15 = .ok (.iconst 1, 1) := by decide +kernel
theorem dL_bind_16 : decode cL_bind 16 = .ok (.ireturn, 1) := by decide +kernel
theorem dL_bind_17 : decode cL_bind 17 = .ok (.astore 4, 2) := by decide +kernel
theorem dL_bind_19 : decode cL_bind 19 = .ok (.iconst 2, 1) := by decide +kernel
theorem dL_bind_20 : decode cL_bind 20 = .ok (.ireturn, 1) := by decide +kernel
theorem dL_bind_21 : decode cL_bind 21 = .ok (.iconst 0, 1) := by decide +kernel
theorem dL_bind_22 : decode cL_bind 22 = .ok (.ireturn, 1) := by decide +kernel
theorem dL_premise_0 : decode cL_premise 0 = .ok (.aload_n 2, 1) := by decide +kernel
theorem dL_premise_1 : decode cL_premise 1 = .ok (.iconst 0, 1) := by decide +kernel
theorem dL_premise_2 : decode cL_premise 2 = .ok (.aload_n 0, 1) := by decide +kernel
theorem dL_premise_3 : decode cL_premise 3 = .ok (.iload_n 1, 1) := by decide +kernel
theorem dL_premise_4 : decode cL_premise 4 = .ok (.invokevirtual 48, 3) := by decide +kernel
theorem dL_premise_7 : decode cL_premise 7 = .ok (.i2l, 1) := by decide +kernel
theorem dL_premise_8 : decode cL_premise 8 = .ok (.lastore, 1) := by decide +kernel
theorem dL_premise_9 : decode cL_premise 9 = .ok (.goto 12, 3) := by decide +kernel
theorem dL_premise_12 : decode cL_premise 12 = .ok (.astore_n 3, 1) := by decide +kernel
theorem dL_premise_13 : decode cL_premise 13 = .ok (.iconst 1, 1) := by decide +kernel
theorem dL_premise_14 : decode cL_premise 14 = .ok (.ireturn, 1) := by decide +kernel
theorem dL_premise_15 : decode cL_premise 15 = .ok (.astore_n 3, 1) := by decide +kernel
theorem dL_premise_16 : decode cL_premise 16 = .ok (.iconst 2, 1) := by decide +kernel
theorem dL_premise_17 : decode cL_premise 17 = .ok (.ireturn, 1) := by decide +kernel
theorem dL_premise_18 : decode cL_premise 18 = .ok (.astore_n 3, 1) := by decide +kernel
theorem dL_premise_19 : decode cL_premise 19 = .ok (.iconst 3, 1) := by decide +kernel
theorem dL_premise_20 : decode cL_premise 20 = .ok (.ireturn, 1) := by decide +kernel
theorem dL_premise_21 : decode cL_premise 21 = .ok (.iconst 0, 1) := by decide +kernel
theorem dL_premise_22 : decode cL_premise 22 = .ok (.ireturn, 1) := by decide +kernel
theorem dL_assume_0 : decode cL_assume 0 = .ok (.aload_n 2, 1) := by decide +kernel
theorem dL_assume_1 : decode cL_assume 1 = .ok (.iconst 0, 1) := by decide +kernel
theorem dL_assume_2 : decode cL_assume 2 = .ok (.aload_n 0, 1) := by decide +kernel
theorem dL_assume_3 : decode cL_assume 3 = .ok (.iload_n 1, 1) := by decide +kernel
theorem dL_assume_4 : decode cL_assume 4 = .ok (.invokevirtual 53, 3) := by decide +kernel
theorem dL_assume_7 : decode cL_assume 7 = .ok (.i2l, 1) := by decide +kernel
theorem dL_assume_8 : decode cL_assume 8 = .ok (.lastore, 1) := by decide +kernel
theorem dL_assume_9 : decode cL_assume 9 = .ok (.goto 9, 3) := by decide +kernel
theorem dL_assume_12 : decode cL_assume 12 = .ok (.astore_n 3, 1) := by decide +kernel
theorem dL_assume_13 : decode cL_assume 13 = .ok (.iconst 1, 1) := by decide +kernel
theorem dL_assume_14 : decode cL_assume 14 = .ok (.ireturn, 1) := by decide +kernel
theorem dL_assume_15 : decode cL_assume 15 = .ok (.astore_n 3, 1) := by decide +kernel
theorem dL_assume_16 : decode cL_assume 16 = .ok (.iconst 2, 1) := by decide +kernel
theorem dL_assume_17 : decode cL_assume 17 = .ok (.ireturn, 1) := by decide +kernel
theorem dL_assume_18 : decode cL_assume 18 = .ok (.iconst 0, 1) := by decide +kernel
theorem dL_assume_19 : decode cL_assume 19 = .ok (.ireturn, 1) := by decide +kernel
theorem dL_closeBox_0 : decode cL_closeBox 0 = .ok (.aload_n 1, 1) := by decide +kernel
theorem dL_closeBox_1 : decode cL_closeBox 1 = .ok (.iconst 0, 1) := by decide +kernel
theorem dL_closeBox_2 : decode cL_closeBox 2 = .ok (.aload_n 0, 1) := by decide +kernel
theorem dL_closeBox_3 : decode cL_closeBox 3 = .ok (.invokevirtual 56, 3) := by decide +kernel
theorem dL_closeBox_6 : decode cL_closeBox 6 = .ok (.i2l, 1) := by decide +kernel
theorem dL_closeBox_7 : decode cL_closeBox 7 = .ok (.lastore, 1) := by decide +kernel
theorem dL_closeBox_8 : decode cL_closeBox 8 = .ok (.goto 6, 3) := by decide +kernel
theorem dL_closeBox_11 : decode cL_closeBox 11 = .ok (.astore_n 2, 1) := by decide +kernel
theorem dL_closeBox_12 : decode cL_closeBox 12 = .ok (.iconst 1, 1) := by decide +kernel
theorem dL_closeBox_13 : decode cL_closeBox 13 = .ok (.ireturn, 1) := by decide +kernel
theorem dL_closeBox_14 : decode cL_closeBox 14 = .ok (.iconst 0, 1) := by decide +kernel
theorem dL_closeBox_15 : decode cL_closeBox 15 = .ok (.ireturn, 1) := by decide +kernel
theorem dL_repeat_0 : decode cL_repeat 0 = .ok (.aload_n 2, 1) := by decide +kernel
theorem dL_repeat_1 : decode cL_repeat 1 = .ok (.iconst 0, 1) := by decide +kernel
theorem dL_repeat_2 : decode cL_repeat 2 = .ok (.aload_n 0, 1) := by decide +kernel
theorem dL_repeat_3 : decode cL_repeat 3 = .ok (.iload_n 1, 1) := by decide +kernel
theorem dL_repeat_4 : decode cL_repeat 4 = .ok (.invokevirtual 59, 3) := by decide +kernel
theorem dL_repeat_7 : decode cL_repeat 7 = .ok (.i2l, 1) := by decide +kernel
theorem dL_repeat_8 : decode cL_repeat 8 = .ok (.lastore, 1) := by decide +kernel
theorem dL_repeat_9 : decode cL_repeat 9 = .ok (.goto 12, 3) := by decide +kernel
theorem dL_repeat_12 : decode cL_repeat 12 = .ok (.astore_n 3, 1) := by decide +kernel
theorem dL_repeat_13 : decode cL_repeat 13 = .ok (.iconst 1, 1) := by decide +kernel
theorem dL_repeat_14 : decode cL_repeat 14 = .ok (.ireturn, 1) := by decide +kernel
theorem dL_repeat_15 : decode cL_repeat 15 = .ok (.astore_n 3, 1) := by decide +kernel
theorem dL_repeat_16 : decode cL_repeat 16 = .ok (.iconst 2, 1) := by decide +kernel
theorem dL_repeat_17 : decode cL_repeat 17 = .ok (.ireturn, 1) := by decide +kernel
theorem dL_repeat_18 : decode cL_repeat 18 = .ok (.astore_n 3, 1) := by decide +kernel
theorem dL_repeat_19 : decode cL_repeat 19 = .ok (.iconst 3, 1) := by decide +kernel
theorem dL_repeat_20 : decode cL_repeat 20 = .ok (.ireturn, 1) := by decide +kernel
theorem dL_repeat_21 : decode cL_repeat 21 = .ok (.iconst 0, 1) := by decide +kernel
theorem dL_repeat_22 : decode cL_repeat 22 = .ok (.ireturn, 1) := by decide +kernel
theorem dL_makeConjunction_0 : decode cL_makeConjunction 0 = .ok (.aload_n 3, 1) := by decide +kernel
theorem dL_makeConjunction_1 : decode cL_makeConjunction 1 = .ok (.iconst 0, 1) := by decide +kernel
theorem dL_makeConjunction_2 : decode cL_makeConjunction 2 = .ok (.aload_n 0, 1) := by decide +kernel
theorem dL_makeConjunction_3 : decode cL_makeConjunction 3 = .ok (.iload_n 1, 1) := by decide +kernel
theorem dL_makeConjunction_4 : decode cL_makeConjunction 4 = .ok (.iload_n 2, 1) := by decide +kernel
theorem dL_makeConjunction_5 : decode cL_makeConjunction 5 = .ok (.invokevirtual 62, 3) := by decide +kernel
theorem dL_makeConjunction_8 : decode cL_makeConjunction 8 = .ok (.i2l, 1) := by decide +kernel
theorem dL_makeConjunction_9 : decode cL_makeConjunction 9 = .ok (.lastore, 1) := by decide +kernel
theorem dL_makeConjunction_10 : decode cL_makeConjunction 10 = .ok (.goto 15, 3) := by decide +kernel
theorem dL_makeConjunction_13 : decode cL_makeConjunction 13 = .ok (.astore 4, 2) := by decide +kernel
theorem dL_makeConjunction_15 : decode cL_makeConjunction 15 = .ok (.iconst 1, 1) := by decide +kernel
theorem dL_makeConjunction_16 : decode cL_makeConjunction 16 = .ok (.ireturn, 1) := by decide +kernel
theorem dL_makeConjunction_17 : decode cL_makeConjunction 17 = .ok (.astore 4, 2) := by decide +kernel
theorem dL_makeConjunction_19 : decode cL_makeConjunction 19 = .ok (.iconst 2, 1) := by decide +kernel
theorem dL_makeConjunction_20 : decode cL_makeConjunction 20 = .ok (.ireturn, 1) := by decide +kernel
theorem dL_makeConjunction_21 : decode cL_makeConjunction 21 = .ok (.astore 4, 2) := by decide +kernel
theorem dL_makeConjunction_23 : decode cL_makeConjunction 23 = .ok (.iconst 3, 1) := by decide +kernel
theorem dL_makeConjunction_24 : decode cL_makeConjunction 24 = .ok (.ireturn, 1) := by decide +kernel
theorem dL_makeConjunction_25 : decode cL_makeConjunction 25 = .ok (.iconst 0, 1) := by decide +kernel
theorem dL_makeConjunction_26 : decode cL_makeConjunction 26 = .ok (.ireturn, 1) := by decide +kernel
theorem dL_useConjunction_0 : decode cL_useConjunction 0 = .ok (.aload_n 3, 1) := by decide +kernel
theorem dL_useConjunction_1 : decode cL_useConjunction 1 = .ok (.iconst 0, 1) := by decide +kernel
theorem dL_useConjunction_2 : decode cL_useConjunction 2 = .ok (.aload_n 0, 1) := by decide +kernel
theorem dL_useConjunction_3 : decode cL_useConjunction 3 = .ok (.iload_n 1, 1) := by decide +kernel
theorem dL_useConjunction_4 : decode cL_useConjunction 4 = .ok (.iload_n 2, 1) := by decide +kernel
theorem dL_useConjunction_5 : decode cL_useConjunction 5 = .ok (.invokevirtual 65, 3) := by decide +kernel
theorem dL_useConjunction_8 : decode cL_useConjunction 8 = .ok (.i2l, 1) := by decide +kernel
theorem dL_useConjunction_9 : decode cL_useConjunction 9 = .ok (.lastore, 1) := by decide +kernel
theorem dL_useConjunction_10 : decode cL_useConjunction 10 = .ok (.goto 19, 3) := by decide +kernel
theorem dL_useConjunction_13 : decode cL_useConjunction 13 = .ok (.astore 4, 2) := by decide +kernel
theorem dL_useConjunction_15 : decode cL_useConjunction 15 = .ok (.iconst 1, 1) := by decide +kernel
theorem dL_useConjunction_16 : decode cL_useConjunction 16 = .ok (.ireturn, 1) := by decide +kernel
theorem dL_useConjunction_17 : decode cL_useConjunction 17 = .ok (.astore 4, 2) := by decide +kernel
theorem dL_useConjunction_19 : decode cL_useConjunction 19 = .ok (.iconst 2, 1) := by decide +kernel
theorem dL_useConjunction_20 : decode cL_useConjunction 20 = .ok (.ireturn, 1) := by decide +kernel
theorem dL_useConjunction_21 : decode cL_useConjunction 21 = .ok (.astore 4, 2) := by decide +kernel
theorem dL_useConjunction_23 : decode cL_useConjunction 23 = .ok (.iconst 3, 1) := by decide +kernel
theorem dL_useConjunction_24 : decode cL_useConjunction 24 = .ok (.ireturn, 1) := by decide +kernel
theorem dL_useConjunction_25 : decode cL_useConjunction 25 = .ok (.astore 4, 2) := by decide +kernel
theorem dL_useConjunction_27 : decode cL_useConjunction 27 = .ok (.iconst 4, 1) := by decide +kernel
theorem dL_useConjunction_28 : decode cL_useConjunction 28 = .ok (.ireturn, 1) := by decide +kernel
theorem dL_useConjunction_29 : decode cL_useConjunction 29 = .ok (.iconst 0, 1) := by decide +kernel
theorem dL_useConjunction_30 : decode cL_useConjunction 30 = .ok (.ireturn, 1) := by decide +kernel
theorem dL_makeDisjunction_0 : decode cL_makeDisjunction 0 = .ok (.aload 4, 2) := by decide +kernel
theorem dL_makeDisjunction_2 : decode cL_makeDisjunction 2 = .ok (.iconst 0, 1) := by decide +kernel
theorem dL_makeDisjunction_3 : decode cL_makeDisjunction 3 = .ok (.aload_n 0, 1) := by decide +kernel
theorem dL_makeDisjunction_4 : decode cL_makeDisjunction 4 = .ok (.iload_n 1, 1) := by decide +kernel
theorem dL_makeDisjunction_5 : decode cL_makeDisjunction 5 = .ok (.iload_n 2, 1) := by decide +kernel
theorem dL_makeDisjunction_6 : decode cL_makeDisjunction 6 = .ok (.iload_n 3, 1) := by decide +kernel
theorem dL_makeDisjunction_7 : decode cL_makeDisjunction 7 = .ok (.invokevirtual 69, 3) := by decide +kernel
theorem dL_makeDisjunction_10 : decode cL_makeDisjunction 10 = .ok (.i2l, 1) := by decide +kernel
theorem dL_makeDisjunction_11 : decode cL_makeDisjunction 11 = .ok (.lastore, 1) := by decide +kernel
theorem dL_makeDisjunction_12 : decode cL_makeDisjunction 12 = .ok (.goto 15, 3) := by decide +kernel
theorem dL_makeDisjunction_15 : decode cL_makeDisjunction 15 = .ok (.astore 5, 2) := by decide +kernel
theorem dL_makeDisjunction_17 : decode cL_makeDisjunction 17 = .ok (.iconst 1, 1) := by decide +kernel
theorem dL_makeDisjunction_18 : decode cL_makeDisjunction 18 = .ok (.ireturn, 1) := by decide +kernel
theorem dL_makeDisjunction_19 : decode cL_makeDisjunction 19 = .ok (.astore 5, 2) := by decide +kernel
theorem dL_makeDisjunction_21 : decode cL_makeDisjunction 21 = .ok (.iconst 2, 1) := by decide +kernel
theorem dL_makeDisjunction_22 : decode cL_makeDisjunction 22 = .ok (.ireturn, 1) := by decide +kernel
theorem dL_makeDisjunction_23 : decode cL_makeDisjunction 23 = .ok (.astore 5, 2) := by decide +kernel
theorem dL_makeDisjunction_25 : decode cL_makeDisjunction 25 = .ok (.iconst 3, 1) := by decide +kernel
theorem dL_makeDisjunction_26 : decode cL_makeDisjunction 26 = .ok (.ireturn, 1) := by decide +kernel
theorem dL_makeDisjunction_27 : decode cL_makeDisjunction 27 = .ok (.iconst 0, 1) := by decide +kernel
theorem dL_makeDisjunction_28 : decode cL_makeDisjunction 28 = .ok (.ireturn, 1) := by decide +kernel
theorem dL_useDisjunction_0 : decode cL_useDisjunction 0 = .ok (.aload 4, 2) := by decide +kernel
theorem dL_useDisjunction_2 : decode cL_useDisjunction 2 = .ok (.iconst 0, 1) := by decide +kernel
theorem dL_useDisjunction_3 : decode cL_useDisjunction 3 = .ok (.aload_n 0, 1) := by decide +kernel
theorem dL_useDisjunction_4 : decode cL_useDisjunction 4 = .ok (.iload_n 1, 1) := by decide +kernel
theorem dL_useDisjunction_5 : decode cL_useDisjunction 5 = .ok (.iload_n 2, 1) := by decide +kernel
theorem dL_useDisjunction_6 : decode cL_useDisjunction 6 = .ok (.iload_n 3, 1) := by decide +kernel
theorem dL_useDisjunction_7 : decode cL_useDisjunction 7 = .ok (.invokevirtual 73, 3) := by decide +kernel
theorem dL_useDisjunction_10 : decode cL_useDisjunction 10 = .ok (.i2l, 1) := by decide +kernel
theorem dL_useDisjunction_11 : decode cL_useDisjunction 11 = .ok (.lastore, 1) := by decide +kernel
theorem dL_useDisjunction_12 : decode cL_useDisjunction 12 = .ok (.goto 19, 3) := by decide +kernel
theorem dL_useDisjunction_15 : decode cL_useDisjunction 15 = .ok (.astore 5, 2) := by decide +kernel
theorem dL_useDisjunction_17 : decode cL_useDisjunction 17 = .ok (.iconst 1, 1) := by decide +kernel
theorem dL_useDisjunction_18 : decode cL_useDisjunction 18 = .ok (.ireturn, 1) := by decide +kernel
theorem dL_useDisjunction_19 : decode cL_useDisjunction 19 = .ok (.astore 5, 2) := by decide +kernel
theorem dL_useDisjunction_21 : decode cL_useDisjunction 21 = .ok (.iconst 2, 1) := by decide +kernel
theorem dL_useDisjunction_22 : decode cL_useDisjunction 22 = .ok (.ireturn, 1) := by decide +kernel
theorem dL_useDisjunction_23 : decode cL_useDisjunction 23 = .ok (.astore 5, 2) := by decide +kernel
theorem dL_useDisjunction_25 : decode cL_useDisjunction 25 = .ok (.iconst 3, 1) := by decide +kernel
theorem dL_useDisjunction_26 : decode cL_useDisjunction 26 = .ok (.ireturn, 1) := by decide +kernel
theorem dL_useDisjunction_27 : decode cL_useDisjunction 27 = .ok (.astore 5, 2) := by decide +kernel
theorem dL_useDisjunction_29 : decode cL_useDisjunction 29 = .ok (.iconst 4, 1) := by decide +kernel
theorem dL_useDisjunction_30 : decode cL_useDisjunction 30 = .ok (.ireturn, 1) := by decide +kernel
theorem dL_useDisjunction_31 : decode cL_useDisjunction 31 = .ok (.iconst 0, 1) := by decide +kernel
theorem dL_useDisjunction_32 : decode cL_useDisjunction 32 = .ok (.ireturn, 1) := by decide +kernel
theorem dL_makeImplication_0 : decode cL_makeImplication 0 = .ok (.aload_n 2, 1) := by decide +kernel
theorem dL_makeImplication_1 : decode cL_makeImplication 1 = .ok (.iconst 0, 1) := by decide +kernel
theorem dL_makeImplication_2 : decode cL_makeImplication 2 = .ok (.aload_n 0, 1) := by decide +kernel
theorem dL_makeImplication_3 : decode cL_makeImplication 3 = .ok (.iload_n 1, 1) := by decide +kernel
theorem dL_makeImplication_4 : decode cL_makeImplication 4 = .ok (.invokevirtual 77, 3) := by decide +kernel
theorem dL_makeImplication_7 : decode cL_makeImplication 7 = .ok (.i2l, 1) := by decide +kernel
theorem dL_makeImplication_8 : decode cL_makeImplication 8 = .ok (.lastore, 1) := by decide +kernel
theorem dL_makeImplication_9 : decode cL_makeImplication 9 = .ok (.goto 12, 3) := by decide +kernel
theorem dL_makeImplication_12 : decode cL_makeImplication 12 = .ok (.astore_n 3, 1) := by decide +kernel
theorem dL_makeImplication_13 : decode cL_makeImplication 13 = .ok (.iconst 1, 1) := by decide +kernel
theorem dL_makeImplication_14 : decode cL_makeImplication 14 = .ok (.ireturn, 1) := by decide +kernel
theorem dL_makeImplication_15 : decode cL_makeImplication 15 = .ok (.astore_n 3, 1) := by decide +kernel
theorem dL_makeImplication_16 : decode cL_makeImplication 16 = .ok (.iconst 2, 1) := by decide +kernel
theorem dL_makeImplication_17 : decode cL_makeImplication 17 = .ok (.ireturn, 1) := by decide +kernel
theorem dL_makeImplication_18 : decode cL_makeImplication 18 = .ok (.astore_n 3, 1) := by decide +kernel
theorem dL_makeImplication_19 : decode cL_makeImplication 19 = .ok (.iconst 3, 1) := by decide +kernel
theorem dL_makeImplication_20 : decode cL_makeImplication 20 = .ok (.ireturn, 1) := by decide +kernel
theorem dL_makeImplication_21 : decode cL_makeImplication 21 = .ok (.iconst 0, 1) := by decide +kernel
theorem dL_makeImplication_22 : decode cL_makeImplication 22 = .ok (.ireturn, 1) := by decide +kernel
theorem dL_useImplication_0 : decode cL_useImplication 0 = .ok (.aload_n 3, 1) := by decide +kernel
theorem dL_useImplication_1 : decode cL_useImplication 1 = .ok (.iconst 0, 1) := by decide +kernel
theorem dL_useImplication_2 : decode cL_useImplication 2 = .ok (.aload_n 0, 1) := by decide +kernel
theorem dL_useImplication_3 : decode cL_useImplication 3 = .ok (.iload_n 1, 1) := by decide +kernel
theorem dL_useImplication_4 : decode cL_useImplication 4 = .ok (.iload_n 2, 1) := by decide +kernel
theorem dL_useImplication_5 : decode cL_useImplication 5 = .ok (.invokevirtual 80, 3) := by decide +kernel
theorem dL_useImplication_8 : decode cL_useImplication 8 = .ok (.i2l, 1) := by decide +kernel
theorem dL_useImplication_9 : decode cL_useImplication 9 = .ok (.lastore, 1) := by decide +kernel
theorem dL_useImplication_10 : decode cL_useImplication 10 = .ok (.goto 19, 3) := by decide +kernel
theorem dL_useImplication_13 : decode cL_useImplication 13 = .ok (.astore 4, 2) := by decide +kernel
theorem dL_useImplication_15 : decode cL_useImplication 15 = .ok (.iconst 1, 1) := by decide +kernel
theorem dL_useImplication_16 : decode cL_useImplication 16 = .ok (.ireturn, 1) := by decide +kernel
theorem dL_useImplication_17 : decode cL_useImplication 17 = .ok (.astore 4, 2) := by decide +kernel
theorem dL_useImplication_19 : decode cL_useImplication 19 = .ok (.iconst 2, 1) := by decide +kernel
theorem dL_useImplication_20 : decode cL_useImplication 20 = .ok (.ireturn, 1) := by decide +kernel
theorem dL_useImplication_21 : decode cL_useImplication 21 = .ok (.astore 4, 2) := by decide +kernel
theorem dL_useImplication_23 : decode cL_useImplication 23 = .ok (.iconst 3, 1) := by decide +kernel
theorem dL_useImplication_24 : decode cL_useImplication 24 = .ok (.ireturn, 1) := by decide +kernel
theorem dL_useImplication_25 : decode cL_useImplication 25 = .ok (.astore 4, 2) := by decide +kernel
theorem dL_useImplication_27 : decode cL_useImplication 27 = .ok (.iconst 4, 1) := by decide +kernel
theorem dL_useImplication_28 : decode cL_useImplication 28 = .ok (.ireturn, 1) := by decide +kernel
theorem dL_useImplication_29 : decode cL_useImplication 29 = .ok (.iconst 0, 1) := by decide +kernel
theorem dL_useImplication_30 : decode cL_useImplication 30 = .ok (.ireturn, 1) := by decide +kernel
theorem dL_makeNegation_0 : decode cL_makeNegation 0 = .ok (.aload_n 2, 1) := by decide +kernel
theorem dL_makeNegation_1 : decode cL_makeNegation 1 = .ok (.iconst 0, 1) := by decide +kernel
theorem dL_makeNegation_2 : decode cL_makeNegation 2 = .ok (.aload_n 0, 1) := by decide +kernel
theorem dL_makeNegation_3 : decode cL_makeNegation 3 = .ok (.iload_n 1, 1) := by decide +kernel
theorem dL_makeNegation_4 : decode cL_makeNegation 4 = .ok (.invokevirtual 83, 3) := by decide +kernel
theorem dL_makeNegation_7 : decode cL_makeNegation 7 = .ok (.i2l, 1) := by decide +kernel
theorem dL_makeNegation_8 : decode cL_makeNegation 8 = .ok (.lastore, 1) := by decide +kernel
theorem dL_makeNegation_9 : decode cL_makeNegation 9 = .ok (.goto 15, 3) := by decide +kernel
theorem dL_makeNegation_12 : decode cL_makeNegation 12 = .ok (.astore_n 3, 1) := by decide +kernel
theorem dL_makeNegation_13 : decode cL_makeNegation 13 = .ok (.iconst 1, 1) := by decide +kernel
theorem dL_makeNegation_14 : decode cL_makeNegation 14 = .ok (.ireturn, 1) := by decide +kernel
theorem dL_makeNegation_15 : decode cL_makeNegation 15 = .ok (.astore_n 3, 1) := by decide +kernel
theorem dL_makeNegation_16 : decode cL_makeNegation 16 = .ok (.iconst 2, 1) := by decide +kernel
theorem dL_makeNegation_17 : decode cL_makeNegation 17 = .ok (.ireturn, 1) := by decide +kernel
theorem dL_makeNegation_18 : decode cL_makeNegation 18 = .ok (.astore_n 3, 1) := by decide +kernel
theorem dL_makeNegation_19 : decode cL_makeNegation 19 = .ok (.iconst 3, 1) := by decide +kernel
theorem dL_makeNegation_20 : decode cL_makeNegation 20 = .ok (.ireturn, 1) := by decide +kernel
theorem dL_makeNegation_21 : decode cL_makeNegation 21 = .ok (.astore_n 3, 1) := by decide +kernel
theorem dL_makeNegation_22 : decode cL_makeNegation 22 = .ok (.iconst 4, 1) := by decide +kernel
theorem dL_makeNegation_23 : decode cL_makeNegation 23 = .ok (.ireturn, 1) := by decide +kernel
theorem dL_makeNegation_24 : decode cL_makeNegation 24 = .ok (.iconst 0, 1) := by decide +kernel
theorem dL_makeNegation_25 : decode cL_makeNegation 25 = .ok (.ireturn, 1) := by decide +kernel
theorem dL_useNegation_0 : decode cL_useNegation 0 = .ok (.aload_n 3, 1) := by decide +kernel
theorem dL_useNegation_1 : decode cL_useNegation 1 = .ok (.iconst 0, 1) := by decide +kernel
theorem dL_useNegation_2 : decode cL_useNegation 2 = .ok (.aload_n 0, 1) := by decide +kernel
theorem dL_useNegation_3 : decode cL_useNegation 3 = .ok (.iload_n 1, 1) := by decide +kernel
theorem dL_useNegation_4 : decode cL_useNegation 4 = .ok (.iload_n 2, 1) := by decide +kernel
theorem dL_useNegation_5 : decode cL_useNegation 5 = .ok (.invokevirtual 86, 3) := by decide +kernel
theorem dL_useNegation_8 : decode cL_useNegation 8 = .ok (.i2l, 1) := by decide +kernel
theorem dL_useNegation_9 : decode cL_useNegation 9 = .ok (.lastore, 1) := by decide +kernel
theorem dL_useNegation_10 : decode cL_useNegation 10 = .ok (.goto 19, 3) := by decide +kernel
theorem dL_useNegation_13 : decode cL_useNegation 13 = .ok (.astore 4, 2) := by decide +kernel
theorem dL_useNegation_15 : decode cL_useNegation 15 = .ok (.iconst 1, 1) := by decide +kernel
theorem dL_useNegation_16 : decode cL_useNegation 16 = .ok (.ireturn, 1) := by decide +kernel
theorem dL_useNegation_17 : decode cL_useNegation 17 = .ok (.astore 4, 2) := by decide +kernel
theorem dL_useNegation_19 : decode cL_useNegation 19 = .ok (.iconst 2, 1) := by decide +kernel
theorem dL_useNegation_20 : decode cL_useNegation 20 = .ok (.ireturn, 1) := by decide +kernel
theorem dL_useNegation_21 : decode cL_useNegation 21 = .ok (.astore 4, 2) := by decide +kernel
theorem dL_useNegation_23 : decode cL_useNegation 23 = .ok (.iconst 3, 1) := by decide +kernel
theorem dL_useNegation_24 : decode cL_useNegation 24 = .ok (.ireturn, 1) := by decide +kernel
theorem dL_useNegation_25 : decode cL_useNegation 25 = .ok (.astore 4, 2) := by decide +kernel
theorem dL_useNegation_27 : decode cL_useNegation 27 = .ok (.iconst 4, 1) := by decide +kernel
theorem dL_useNegation_28 : decode cL_useNegation 28 = .ok (.ireturn, 1) := by decide +kernel
theorem dL_useNegation_29 : decode cL_useNegation 29 = .ok (.iconst 0, 1) := by decide +kernel
theorem dL_useNegation_30 : decode cL_useNegation 30 = .ok (.ireturn, 1) := by decide +kernel
theorem dL_fromFalsum_0 : decode cL_fromFalsum 0 = .ok (.aload_n 3, 1) := by decide +kernel
theorem dL_fromFalsum_1 : decode cL_fromFalsum 1 = .ok (.iconst 0, 1) := by decide +kernel
theorem dL_fromFalsum_2 : decode cL_fromFalsum 2 = .ok (.aload_n 0, 1) := by decide +kernel
theorem dL_fromFalsum_3 : decode cL_fromFalsum 3 = .ok (.iload_n 1, 1) := by decide +kernel
theorem dL_fromFalsum_4 : decode cL_fromFalsum 4 = .ok (.iload_n 2, 1) := by decide +kernel
theorem dL_fromFalsum_5 : decode cL_fromFalsum 5 = .ok (.invokevirtual 89, 3) := by decide +kernel
theorem dL_fromFalsum_8 : decode cL_fromFalsum 8 = .ok (.i2l, 1) := by decide +kernel
theorem dL_fromFalsum_9 : decode cL_fromFalsum 9 = .ok (.lastore, 1) := by decide +kernel
theorem dL_fromFalsum_10 : decode cL_fromFalsum 10 = .ok (.goto 19, 3) := by decide +kernel
theorem dL_fromFalsum_13 : decode cL_fromFalsum 13 = .ok (.astore 4, 2) := by decide +kernel
theorem dL_fromFalsum_15 : decode cL_fromFalsum 15 = .ok (.iconst 1, 1) := by decide +kernel
theorem dL_fromFalsum_16 : decode cL_fromFalsum 16 = .ok (.ireturn, 1) := by decide +kernel
theorem dL_fromFalsum_17 : decode cL_fromFalsum 17 = .ok (.astore 4, 2) := by decide +kernel
theorem dL_fromFalsum_19 : decode cL_fromFalsum 19 = .ok (.iconst 2, 1) := by decide +kernel
theorem dL_fromFalsum_20 : decode cL_fromFalsum 20 = .ok (.ireturn, 1) := by decide +kernel
theorem dL_fromFalsum_21 : decode cL_fromFalsum 21 = .ok (.astore 4, 2) := by decide +kernel
theorem dL_fromFalsum_23 : decode cL_fromFalsum 23 = .ok (.iconst 3, 1) := by decide +kernel
theorem dL_fromFalsum_24 : decode cL_fromFalsum 24 = .ok (.ireturn, 1) := by decide +kernel
theorem dL_fromFalsum_25 : decode cL_fromFalsum 25 = .ok (.astore 4, 2) := by decide +kernel
theorem dL_fromFalsum_27 : decode cL_fromFalsum 27 = .ok (.iconst 4, 1) := by decide +kernel
theorem dL_fromFalsum_28 : decode cL_fromFalsum 28 = .ok (.ireturn, 1) := by decide +kernel
theorem dL_fromFalsum_29 : decode cL_fromFalsum 29 = .ok (.iconst 0, 1) := by decide +kernel
theorem dL_fromFalsum_30 : decode cL_fromFalsum 30 = .ok (.ireturn, 1) := by decide +kernel
theorem dL_doubleNegation_0 : decode cL_doubleNegation 0 = .ok (.aload_n 2, 1) := by decide +kernel
theorem dL_doubleNegation_1 : decode cL_doubleNegation 1 = .ok (.iconst 0, 1) := by decide +kernel
theorem dL_doubleNegation_2 : decode cL_doubleNegation 2 = .ok (.aload_n 0, 1) := by decide +kernel
theorem dL_doubleNegation_3 : decode cL_doubleNegation 3 = .ok (.iload_n 1, 1) := by decide +kernel
theorem dL_doubleNegation_4 : decode cL_doubleNegation 4 = .ok (.invokevirtual 92, 3) := by decide +kernel
theorem dL_doubleNegation_7 : decode cL_doubleNegation 7 = .ok (.i2l, 1) := by decide +kernel
theorem dL_doubleNegation_8 : decode cL_doubleNegation 8 = .ok (.lastore, 1) := by decide +kernel
theorem dL_doubleNegation_9 : decode cL_doubleNegation 9 = .ok (.goto 15, 3) := by decide +kernel
theorem dL_doubleNegation_12 : decode cL_doubleNegation 12 = .ok (.astore_n 3, 1) := by decide +kernel
theorem dL_doubleNegation_13 : decode cL_doubleNegation 13 = .ok (.iconst 1, 1) := by decide +kernel
theorem dL_doubleNegation_14 : decode cL_doubleNegation 14 = .ok (.ireturn, 1) := by decide +kernel
theorem dL_doubleNegation_15 : decode cL_doubleNegation 15 = .ok (.astore_n 3, 1) := by decide +kernel
theorem dL_doubleNegation_16 : decode cL_doubleNegation 16 = .ok (.iconst 2, 1) := by decide +kernel
theorem dL_doubleNegation_17 : decode cL_doubleNegation 17 = .ok (.ireturn, 1) := by decide +kernel
theorem dL_doubleNegation_18 : decode cL_doubleNegation 18 = .ok (.astore_n 3, 1) := by decide +kernel
theorem dL_doubleNegation_19 : decode cL_doubleNegation 19 = .ok (.iconst 3, 1) := by decide +kernel
theorem dL_doubleNegation_20 : decode cL_doubleNegation 20 = .ok (.ireturn, 1) := by decide +kernel
theorem dL_doubleNegation_21 : decode cL_doubleNegation 21 = .ok (.astore_n 3, 1) := by decide +kernel
theorem dL_doubleNegation_22 : decode cL_doubleNegation 22 = .ok (.iconst 4, 1) := by decide +kernel
theorem dL_doubleNegation_23 : decode cL_doubleNegation 23 = .ok (.ireturn, 1) := by decide +kernel
theorem dL_doubleNegation_24 : decode cL_doubleNegation 24 = .ok (.iconst 0, 1) := by decide +kernel
theorem dL_doubleNegation_25 : decode cL_doubleNegation 25 = .ok (.ireturn, 1) := by decide +kernel
theorem dL_keepLemma_0 : decode cL_keepLemma 0 = .ok (.aload_n 1, 1) := by decide +kernel
theorem dL_keepLemma_1 : decode cL_keepLemma 1 = .ok (.iconst 0, 1) := by decide +kernel
theorem dL_keepLemma_2 : decode cL_keepLemma 2 = .ok (.aload_n 0, 1) := by decide +kernel
theorem dL_keepLemma_3 : decode cL_keepLemma 3 = .ok (.invokevirtual 95, 3) := by decide +kernel
theorem dL_keepLemma_6 : decode cL_keepLemma 6 = .ok (.i2l, 1) := by decide +kernel
theorem dL_keepLemma_7 : decode cL_keepLemma 7 = .ok (.lastore, 1) := by decide +kernel
theorem dL_keepLemma_8 : decode cL_keepLemma 8 = .ok (.goto 12, 3) := by decide +kernel
theorem dL_keepLemma_11 : decode cL_keepLemma 11 = .ok (.astore_n 2, 1) := by decide +kernel
theorem dL_keepLemma_12 : decode cL_keepLemma 12 = .ok (.iconst 1, 1) := by decide +kernel
theorem dL_keepLemma_13 : decode cL_keepLemma 13 = .ok (.ireturn, 1) := by decide +kernel
theorem dL_keepLemma_14 : decode cL_keepLemma 14 = .ok (.astore_n 2, 1) := by decide +kernel
theorem dL_keepLemma_15 : decode cL_keepLemma 15 = .ok (.iconst 2, 1) := by decide +kernel
theorem dL_keepLemma_16 : decode cL_keepLemma 16 = .ok (.ireturn, 1) := by decide +kernel
theorem dL_keepLemma_17 : decode cL_keepLemma 17 = .ok (.astore_n 2, 1) := by decide +kernel
theorem dL_keepLemma_18 : decode cL_keepLemma 18 = .ok (.iconst 3, 1) := by decide +kernel
theorem dL_keepLemma_19 : decode cL_keepLemma 19 = .ok (.ireturn, 1) := by decide +kernel
theorem dL_keepLemma_20 : decode cL_keepLemma 20 = .ok (.iconst 0, 1) := by decide +kernel
theorem dL_keepLemma_21 : decode cL_keepLemma 21 = .ok (.ireturn, 1) := by decide +kernel
theorem dL_useLemma_0 : decode cL_useLemma 0 = .ok (.aload 4, 2) := by decide +kernel
theorem dL_useLemma_2 : decode cL_useLemma 2 = .ok (.iconst 0, 1) := by decide +kernel
theorem dL_useLemma_3 : decode cL_useLemma 3 = .ok (.aload_n 0, 1) := by decide +kernel
theorem dL_useLemma_4 : decode cL_useLemma 4 = .ok (.iload_n 1, 1) := by decide +kernel
theorem dL_useLemma_5 : decode cL_useLemma 5 = .ok (.iload_n 2, 1) := by decide +kernel
theorem dL_useLemma_6 : decode cL_useLemma 6 = .ok (.iload_n 3, 1) := by decide +kernel
theorem dL_useLemma_7 : decode cL_useLemma 7 = .ok (.invokevirtual 98, 3) := by decide +kernel
theorem dL_useLemma_10 : decode cL_useLemma 10 = .ok (.i2l, 1) := by decide +kernel
theorem dL_useLemma_11 : decode cL_useLemma 11 = .ok (.lastore, 1) := by decide +kernel
theorem dL_useLemma_12 : decode cL_useLemma 12 = .ok (.goto 19, 3) := by decide +kernel
theorem dL_useLemma_15 : decode cL_useLemma 15 = .ok (.astore 5, 2) := by decide +kernel
theorem dL_useLemma_17 : decode cL_useLemma 17 = .ok (.iconst 1, 1) := by decide +kernel
theorem dL_useLemma_18 : decode cL_useLemma 18 = .ok (.ireturn, 1) := by decide +kernel
theorem dL_useLemma_19 : decode cL_useLemma 19 = .ok (.astore 5, 2) := by decide +kernel
theorem dL_useLemma_21 : decode cL_useLemma 21 = .ok (.iconst 2, 1) := by decide +kernel
theorem dL_useLemma_22 : decode cL_useLemma 22 = .ok (.ireturn, 1) := by decide +kernel
theorem dL_useLemma_23 : decode cL_useLemma 23 = .ok (.astore 5, 2) := by decide +kernel
theorem dL_useLemma_25 : decode cL_useLemma 25 = .ok (.iconst 3, 1) := by decide +kernel
theorem dL_useLemma_26 : decode cL_useLemma 26 = .ok (.ireturn, 1) := by decide +kernel
theorem dL_useLemma_27 : decode cL_useLemma 27 = .ok (.astore 5, 2) := by decide +kernel
theorem dL_useLemma_29 : decode cL_useLemma 29 = .ok (.iconst 4, 1) := by decide +kernel
theorem dL_useLemma_30 : decode cL_useLemma 30 = .ok (.ireturn, 1) := by decide +kernel
theorem dL_useLemma_31 : decode cL_useLemma 31 = .ok (.iconst 0, 1) := by decide +kernel
theorem dL_useLemma_32 : decode cL_useLemma 32 = .ok (.ireturn, 1) := by decide +kernel
theorem dL_conclusionOf_0 : decode cL_conclusionOf 0 = .ok (.aload_n 2, 1) := by decide +kernel
theorem dL_conclusionOf_1 : decode cL_conclusionOf 1 = .ok (.iconst 0, 1) := by decide +kernel
theorem dL_conclusionOf_2 : decode cL_conclusionOf 2 = .ok (.aload_n 0, 1) := by decide +kernel
theorem dL_conclusionOf_3 : decode cL_conclusionOf 3 = .ok (.iload_n 1, 1) := by decide +kernel
theorem dL_conclusionOf_4 : decode cL_conclusionOf 4 = .ok (.invokevirtual 101, 3) := by decide +kernel
theorem dL_conclusionOf_7 : decode cL_conclusionOf 7 = .ok (.i2l, 1) := by decide +kernel
theorem dL_conclusionOf_8 : decode cL_conclusionOf 8 = .ok (.lastore, 1) := by decide +kernel
theorem dL_conclusionOf_9 : decode cL_conclusionOf 9 = .ok (.goto 6, 3) := by decide +kernel
theorem dL_conclusionOf_12 : decode cL_conclusionOf 12 = .ok (.astore_n 3, 1) := by decide +kernel
theorem dL_conclusionOf_13 : decode cL_conclusionOf 13 = .ok (.iconst 1, 1) := by decide +kernel
theorem dL_conclusionOf_14 : decode cL_conclusionOf 14 = .ok (.ireturn, 1) := by decide +kernel
theorem dL_conclusionOf_15 : decode cL_conclusionOf 15 = .ok (.iconst 0, 1) := by decide +kernel
theorem dL_conclusionOf_16 : decode cL_conclusionOf 16 = .ok (.ireturn, 1) := by decide +kernel
theorem dL_formulaOf_0 : decode cL_formulaOf 0 = .ok (.aload_n 2, 1) := by decide +kernel
theorem dL_formulaOf_1 : decode cL_formulaOf 1 = .ok (.iconst 0, 1) := by decide +kernel
theorem dL_formulaOf_2 : decode cL_formulaOf 2 = .ok (.aload_n 0, 1) := by decide +kernel
theorem dL_formulaOf_3 : decode cL_formulaOf 3 = .ok (.iload_n 1, 1) := by decide +kernel
theorem dL_formulaOf_4 : decode cL_formulaOf 4 = .ok (.invokevirtual 104, 3) := by decide +kernel
theorem dL_formulaOf_7 : decode cL_formulaOf 7 = .ok (.i2l, 1) := by decide +kernel
theorem dL_formulaOf_8 : decode cL_formulaOf 8 = .ok (.lastore, 1) := by decide +kernel
theorem dL_formulaOf_9 : decode cL_formulaOf 9 = .ok (.goto 6, 3) := by decide +kernel
theorem dL_formulaOf_12 : decode cL_formulaOf 12 = .ok (.astore_n 3, 1) := by decide +kernel
theorem dL_formulaOf_13 : decode cL_formulaOf 13 = .ok (.iconst 1, 1) := by decide +kernel
theorem dL_formulaOf_14 : decode cL_formulaOf 14 = .ok (.ireturn, 1) := by decide +kernel
theorem dL_formulaOf_15 : decode cL_formulaOf 15 = .ok (.iconst 0, 1) := by decide +kernel
theorem dL_formulaOf_16 : decode cL_formulaOf 16 = .ok (.ireturn, 1) := by decide +kernel
theorem dL_ruleOf_0 : decode cL_ruleOf 0 = .ok (.aload_n 2, 1) := by decide +kernel
theorem dL_ruleOf_1 : decode cL_ruleOf 1 = .ok (.iconst 0, 1) := by decide +kernel
theorem dL_ruleOf_2 : decode cL_ruleOf 2 = .ok (.aload_n 0, 1) := by decide +kernel
theorem dL_ruleOf_3 : decode cL_ruleOf 3 = .ok (.iload_n 1, 1) := by decide +kernel
theorem dL_ruleOf_4 : decode cL_ruleOf 4 = .ok (.invokevirtual 107, 3) := by decide +kernel
theorem dL_ruleOf_7 : decode cL_ruleOf 7 = .ok (.i2l, 1) := by decide +kernel
theorem dL_ruleOf_8 : decode cL_ruleOf 8 = .ok (.lastore, 1) := by decide +kernel
theorem dL_ruleOf_9 : decode cL_ruleOf 9 = .ok (.goto 6, 3) := by decide +kernel
theorem dL_ruleOf_12 : decode cL_ruleOf 12 = .ok (.astore_n 3, 1) := by decide +kernel
theorem dL_ruleOf_13 : decode cL_ruleOf 13 = .ok (.iconst 1, 1) := by decide +kernel
theorem dL_ruleOf_14 : decode cL_ruleOf 14 = .ok (.ireturn, 1) := by decide +kernel
theorem dL_ruleOf_15 : decode cL_ruleOf 15 = .ok (.iconst 0, 1) := by decide +kernel
theorem dL_ruleOf_16 : decode cL_ruleOf 16 = .ok (.ireturn, 1) := by decide +kernel
theorem dL_depthOf_0 : decode cL_depthOf 0 = .ok (.aload_n 2, 1) := by decide +kernel
theorem dL_depthOf_1 : decode cL_depthOf 1 = .ok (.iconst 0, 1) := by decide +kernel
theorem dL_depthOf_2 : decode cL_depthOf 2 = .ok (.aload_n 0, 1) := by decide +kernel
theorem dL_depthOf_3 : decode cL_depthOf 3 = .ok (.iload_n 1, 1) := by decide +kernel
theorem dL_depthOf_4 : decode cL_depthOf 4 = .ok (.invokevirtual 111, 3) := by decide +kernel
theorem dL_depthOf_7 : decode cL_depthOf 7 = .ok (.i2l, 1) := by decide +kernel
theorem dL_depthOf_8 : decode cL_depthOf 8 = .ok (.lastore, 1) := by decide +kernel
theorem dL_depthOf_9 : decode cL_depthOf 9 = .ok (.goto 6, 3) := by decide +kernel
theorem dL_depthOf_12 : decode cL_depthOf 12 = .ok (.astore_n 3, 1) := by decide +kernel
theorem dL_depthOf_13 : decode cL_depthOf 13 = .ok (.iconst 1, 1) := by decide +kernel
theorem dL_depthOf_14 : decode cL_depthOf 14 = .ok (.ireturn, 1) := by decide +kernel
theorem dL_depthOf_15 : decode cL_depthOf 15 = .ok (.iconst 0, 1) := by decide +kernel
theorem dL_depthOf_16 : decode cL_depthOf 16 = .ok (.ireturn, 1) := by decide +kernel
theorem dL_canCite_0 : decode cL_canCite 0 = .ok (.aload_n 2, 1) := by decide +kernel
theorem dL_canCite_1 : decode cL_canCite 1 = .ok (.iconst 0, 1) := by decide +kernel
theorem dL_canCite_2 : decode cL_canCite 2 = .ok (.aload_n 0, 1) := by decide +kernel
theorem dL_canCite_3 : decode cL_canCite 3 = .ok (.iload_n 1, 1) := by decide +kernel
theorem dL_canCite_4 : decode cL_canCite 4 = .ok (.invokevirtual 114, 3) := by decide +kernel
theorem dL_canCite_7 : decode cL_canCite 7 = .ok (.ifCond .eq 7, 3) := by decide +kernel
theorem dL_canCite_10 : decode cL_canCite 10 = .ok (.lconst 1, 1) := by decide +kernel
theorem dL_canCite_11 : decode cL_canCite 11 = .ok (.goto 4, 3) := by decide +kernel
theorem dL_canCite_14 : decode cL_canCite 14 = .ok (.lconst 0, 1) := by decide +kernel
theorem dL_canCite_15 : decode cL_canCite 15 = .ok (.lastore, 1) := by decide +kernel
theorem dL_canCite_16 : decode cL_canCite 16 = .ok (.goto 6, 3) := by decide +kernel
theorem dL_canCite_19 : decode cL_canCite 19 = .ok (.astore_n 3, 1) := by decide +kernel
theorem dL_canCite_20 : decode cL_canCite 20 = .ok (.iconst 1, 1) := by decide +kernel
theorem dL_canCite_21 : decode cL_canCite 21 = .ok (.ireturn, 1) := by decide +kernel
theorem dL_canCite_22 : decode cL_canCite 22 = .ok (.iconst 0, 1) := by decide +kernel
theorem dL_canCite_23 : decode cL_canCite 23 = .ok (.ireturn, 1) := by decide +kernel
theorem dL_canCiteBox_0 : decode cL_canCiteBox 0 = .ok (.aload_n 2, 1) := by decide +kernel
theorem dL_canCiteBox_1 : decode cL_canCiteBox 1 = .ok (.iconst 0, 1) := by decide +kernel
theorem dL_canCiteBox_2 : decode cL_canCiteBox 2 = .ok (.aload_n 0, 1) := by decide +kernel
theorem dL_canCiteBox_3 : decode cL_canCiteBox 3 = .ok (.iload_n 1, 1) := by decide +kernel
theorem dL_canCiteBox_4 : decode cL_canCiteBox 4 = .ok (.invokevirtual 118, 3) := by decide +kernel
theorem dL_canCiteBox_7 : decode cL_canCiteBox 7 = .ok (.ifCond .eq 7, 3) := by decide +kernel
theorem dL_canCiteBox_10 : decode cL_canCiteBox 10 = .ok (.lconst 1, 1) := by decide +kernel
theorem dL_canCiteBox_11 : decode cL_canCiteBox 11 = .ok (.goto 4, 3) := by decide +kernel
theorem dL_canCiteBox_14 : decode cL_canCiteBox 14 = .ok (.lconst 0, 1) := by decide +kernel
theorem dL_canCiteBox_15 : decode cL_canCiteBox 15 = .ok (.lastore, 1) := by decide +kernel
theorem dL_canCiteBox_16 : decode cL_canCiteBox 16 = .ok (.goto 6, 3) := by decide +kernel
theorem dL_canCiteBox_19 : decode cL_canCiteBox 19 = .ok (.astore_n 3, 1) := by decide +kernel
theorem dL_canCiteBox_20 : decode cL_canCiteBox 20 = .ok (.iconst 1, 1) := by decide +kernel
theorem dL_canCiteBox_21 : decode cL_canCiteBox 21 = .ok (.ireturn, 1) := by decide +kernel
theorem dL_canCiteBox_22 : decode cL_canCiteBox 22 = .ok (.iconst 0, 1) := by decide +kernel
theorem dL_canCiteBox_23 : decode cL_canCiteBox 23 = .ok (.ireturn, 1) := by decide +kernel
theorem dL_resultOf_0 : decode cL_resultOf 0 = .ok (.aload_n 2, 1) := by decide +kernel
theorem dL_resultOf_1 : decode cL_resultOf 1 = .ok (.iconst 0, 1) := by decide +kernel
theorem dL_resultOf_2 : decode cL_resultOf 2 = .ok (.aload_n 0, 1) := by decide +kernel
theorem dL_resultOf_3 : decode cL_resultOf 3 = .ok (.iload_n 1, 1) := by decide +kernel
theorem dL_resultOf_4 : decode cL_resultOf 4 = .ok (.invokevirtual 121, 3) := by decide +kernel
theorem dL_resultOf_7 : decode cL_resultOf 7 = .ok (.i2l, 1) := by decide +kernel
theorem dL_resultOf_8 : decode cL_resultOf 8 = .ok (.lastore, 1) := by decide +kernel
theorem dL_resultOf_9 : decode cL_resultOf 9 = .ok (.goto 6, 3) := by decide +kernel
theorem dL_resultOf_12 : decode cL_resultOf 12 = .ok (.astore_n 3, 1) := by decide +kernel
theorem dL_resultOf_13 : decode cL_resultOf 13 = .ok (.iconst 1, 1) := by decide +kernel
theorem dL_resultOf_14 : decode cL_resultOf 14 = .ok (.ireturn, 1) := by decide +kernel
theorem dL_resultOf_15 : decode cL_resultOf 15 = .ok (.iconst 0, 1) := by decide +kernel
theorem dL_resultOf_16 : decode cL_resultOf 16 = .ok (.ireturn, 1) := by decide +kernel
theorem dL_needed_0 : decode cL_needed 0 = .ok (.aload_n 1, 1) := by decide +kernel
theorem dL_needed_1 : decode cL_needed 1 = .ok (.iconst 0, 1) := by decide +kernel
theorem dL_needed_2 : decode cL_needed 2 = .ok (.aload_n 0, 1) := by decide +kernel
theorem dL_needed_3 : decode cL_needed 3 = .ok (.invokevirtual 124, 3) := by decide +kernel
theorem dL_needed_6 : decode cL_needed 6 = .ok (.i2l, 1) := by decide +kernel
theorem dL_needed_7 : decode cL_needed 7 = .ok (.lastore, 1) := by decide +kernel
theorem dL_needed_8 : decode cL_needed 8 = .ok (.goto 6, 3) := by decide +kernel
theorem dL_needed_11 : decode cL_needed 11 = .ok (.astore_n 2, 1) := by decide +kernel
theorem dL_needed_12 : decode cL_needed 12 = .ok (.iconst 1, 1) := by decide +kernel
theorem dL_needed_13 : decode cL_needed 13 = .ok (.ireturn, 1) := by decide +kernel
theorem dL_needed_14 : decode cL_needed 14 = .ok (.iconst 0, 1) := by decide +kernel
theorem dL_needed_15 : decode cL_needed 15 = .ok (.ireturn, 1) := by decide +kernel
theorem dL_distance_0 : decode cL_distance 0 = .ok (.aload_n 2, 1) := by decide +kernel
theorem dL_distance_1 : decode cL_distance 1 = .ok (.iconst 0, 1) := by decide +kernel
theorem dL_distance_2 : decode cL_distance 2 = .ok (.aload_n 0, 1) := by decide +kernel
theorem dL_distance_3 : decode cL_distance 3 = .ok (.iload_n 1, 1) := by decide +kernel
theorem dL_distance_4 : decode cL_distance 4 = .ok (.invokevirtual 127, 3) := by decide +kernel
theorem dL_distance_7 : decode cL_distance 7 = .ok (.i2l, 1) := by decide +kernel
theorem dL_distance_8 : decode cL_distance 8 = .ok (.lastore, 1) := by decide +kernel
theorem dL_distance_9 : decode cL_distance 9 = .ok (.goto 9, 3) := by decide +kernel
theorem dL_distance_12 : decode cL_distance 12 = .ok (.astore_n 3, 1) := by decide +kernel
theorem dL_distance_13 : decode cL_distance 13 = .ok (.iconst 1, 1) := by decide +kernel
theorem dL_distance_14 : decode cL_distance 14 = .ok (.ireturn, 1) := by decide +kernel
theorem dL_distance_15 : decode cL_distance 15 = .ok (.astore_n 3, 1) := by decide +kernel
theorem dL_distance_16 : decode cL_distance 16 = .ok (.iconst 2, 1) := by decide +kernel
theorem dL_distance_17 : decode cL_distance 17 = .ok (.ireturn, 1) := by decide +kernel
theorem dL_distance_18 : decode cL_distance 18 = .ok (.iconst 0, 1) := by decide +kernel
theorem dL_distance_19 : decode cL_distance 19 = .ok (.ireturn, 1) := by decide +kernel
theorem dL_distanceByRounds_0 : decode cL_distanceByRounds 0 = .ok (.aload_n 2, 1) := by decide +kernel
theorem dL_distanceByRounds_1 : decode cL_distanceByRounds 1 = .ok (.iconst 0, 1) := by decide +kernel
theorem dL_distanceByRounds_2 : decode cL_distanceByRounds 2 = .ok (.aload_n 0, 1) := by decide +kernel
theorem dL_distanceByRounds_3 : decode cL_distanceByRounds 3 = .ok (.iload_n 1, 1) := by decide +kernel
theorem dL_distanceByRounds_4 : decode cL_distanceByRounds 4 = .ok (.invokevirtual 130, 3) := by decide +kernel
theorem dL_distanceByRounds_7 : decode cL_distanceByRounds 7 = .ok (.i2l, 1) := by decide +kernel
theorem dL_distanceByRounds_8 : decode cL_distanceByRounds 8 = .ok (.lastore, 1) := by decide +kernel
theorem dL_distanceByRounds_9 : decode cL_distanceByRounds 9 = .ok (.goto 9, 3) := by decide +kernel
theorem dL_distanceByRounds_12 : decode cL_distanceByRounds 12 = .ok (.astore_n 3, 1) := by decide +kernel
theorem dL_distanceByRounds_13 : decode cL_distanceByRounds 13 = .ok (.iconst 1, 1) := by decide +kernel
theorem dL_distanceByRounds_14 : decode cL_distanceByRounds 14 = .ok (.ireturn, 1) := by decide +kernel
theorem dL_distanceByRounds_15 : decode cL_distanceByRounds 15 = .ok (.astore_n 3, 1) := by decide +kernel
theorem dL_distanceByRounds_16 : decode cL_distanceByRounds 16 = .ok (.iconst 2, 1) := by decide +kernel
theorem dL_distanceByRounds_17 : decode cL_distanceByRounds 17 = .ok (.ireturn, 1) := by decide +kernel
theorem dL_distanceByRounds_18 : decode cL_distanceByRounds 18 = .ok (.iconst 0, 1) := by decide +kernel
theorem dL_distanceByRounds_19 : decode cL_distanceByRounds 19 = .ok (.ireturn, 1) := by decide +kernel
theorem dL_normalStep_0 : decode cL_normalStep 0 = .ok (.aload_n 2, 1) := by decide +kernel
theorem dL_normalStep_1 : decode cL_normalStep 1 = .ok (.iconst 0, 1) := by decide +kernel
theorem dL_normalStep_2 : decode cL_normalStep 2 = .ok (.aload_n 0, 1) := by decide +kernel
theorem dL_normalStep_3 : decode cL_normalStep 3 = .ok (.iload_n 1, 1) := by decide +kernel
theorem dL_normalStep_4 : decode cL_normalStep 4 = .ok (.invokevirtual 133, 3) := by decide +kernel
theorem dL_normalStep_7 : decode cL_normalStep 7 = .ok (.i2l, 1) := by decide +kernel
theorem dL_normalStep_8 : decode cL_normalStep 8 = .ok (.lastore, 1) := by decide +kernel
theorem dL_normalStep_9 : decode cL_normalStep 9 = .ok (.goto 12, 3) := by decide +kernel
theorem dL_normalStep_12 : decode cL_normalStep 12 = .ok (.astore_n 3, 1) := by decide +kernel
theorem dL_normalStep_13 : decode cL_normalStep 13 = .ok (.iconst 1, 1) := by decide +kernel
theorem dL_normalStep_14 : decode cL_normalStep 14 = .ok (.ireturn, 1) := by decide +kernel
theorem dL_normalStep_15 : decode cL_normalStep 15 = .ok (.astore_n 3, 1) := by decide +kernel
theorem dL_normalStep_16 : decode cL_normalStep 16 = .ok (.iconst 2, 1) := by decide +kernel
theorem dL_normalStep_17 : decode cL_normalStep 17 = .ok (.ireturn, 1) := by decide +kernel
theorem dL_normalStep_18 : decode cL_normalStep 18 = .ok (.astore_n 3, 1) := by decide +kernel
theorem dL_normalStep_19 : decode cL_normalStep 19 = .ok (.iconst 3, 1) := by decide +kernel
theorem dL_normalStep_20 : decode cL_normalStep 20 = .ok (.ireturn, 1) := by decide +kernel
theorem dL_normalStep_21 : decode cL_normalStep 21 = .ok (.iconst 0, 1) := by decide +kernel
theorem dL_normalStep_22 : decode cL_normalStep 22 = .ok (.ireturn, 1) := by decide +kernel
theorem dL_normalSteps_0 : decode cL_normalSteps 0 = .ok (.aload_n 2, 1) := by decide +kernel
theorem dL_normalSteps_1 : decode cL_normalSteps 1 = .ok (.iconst 0, 1) := by decide +kernel
theorem dL_normalSteps_2 : decode cL_normalSteps 2 = .ok (.aload_n 0, 1) := by decide +kernel
theorem dL_normalSteps_3 : decode cL_normalSteps 3 = .ok (.iload_n 1, 1) := by decide +kernel
theorem dL_normalSteps_4 : decode cL_normalSteps 4 = .ok (.invokevirtual 136, 3) := by decide +kernel
theorem dL_normalSteps_7 : decode cL_normalSteps 7 = .ok (.i2l, 1) := by decide +kernel
theorem dL_normalSteps_8 : decode cL_normalSteps 8 = .ok (.lastore, 1) := by decide +kernel
theorem dL_normalSteps_9 : decode cL_normalSteps 9 = .ok (.goto 6, 3) := by decide +kernel
theorem dL_normalSteps_12 : decode cL_normalSteps 12 = .ok (.astore_n 3, 1) := by decide +kernel
theorem dL_normalSteps_13 : decode cL_normalSteps 13 = .ok (.iconst 1, 1) := by decide +kernel
theorem dL_normalSteps_14 : decode cL_normalSteps 14 = .ok (.ireturn, 1) := by decide +kernel
theorem dL_normalSteps_15 : decode cL_normalSteps 15 = .ok (.iconst 0, 1) := by decide +kernel
theorem dL_normalSteps_16 : decode cL_normalSteps 16 = .ok (.ireturn, 1) := by decide +kernel
theorem dL_normalForm_0 : decode cL_normalForm 0 = .ok (.aload_n 2, 1) := by decide +kernel
theorem dL_normalForm_1 : decode cL_normalForm 1 = .ok (.iconst 0, 1) := by decide +kernel
theorem dL_normalForm_2 : decode cL_normalForm 2 = .ok (.aload_n 0, 1) := by decide +kernel
theorem dL_normalForm_3 : decode cL_normalForm 3 = .ok (.iload_n 1, 1) := by decide +kernel
theorem dL_normalForm_4 : decode cL_normalForm 4 = .ok (.invokevirtual 139, 3) := by decide +kernel
theorem dL_normalForm_7 : decode cL_normalForm 7 = .ok (.i2l, 1) := by decide +kernel
theorem dL_normalForm_8 : decode cL_normalForm 8 = .ok (.lastore, 1) := by decide +kernel
theorem dL_normalForm_9 : decode cL_normalForm 9 = .ok (.goto 9, 3) := by decide +kernel
theorem dL_normalForm_12 : decode cL_normalForm 12 = .ok (.astore_n 3, 1) := by decide +kernel
theorem dL_normalForm_13 : decode cL_normalForm 13 = .ok (.iconst 1, 1) := by decide +kernel
theorem dL_normalForm_14 : decode cL_normalForm 14 = .ok (.ireturn, 1) := by decide +kernel
theorem dL_normalForm_15 : decode cL_normalForm 15 = .ok (.astore_n 3, 1) := by decide +kernel
theorem dL_normalForm_16 : decode cL_normalForm 16 = .ok (.iconst 2, 1) := by decide +kernel
theorem dL_normalForm_17 : decode cL_normalForm 17 = .ok (.ireturn, 1) := by decide +kernel
theorem dL_normalForm_18 : decode cL_normalForm 18 = .ok (.iconst 0, 1) := by decide +kernel
theorem dL_normalForm_19 : decode cL_normalForm 19 = .ok (.ireturn, 1) := by decide +kernel
theorem dL_models_0 : decode cL_models 0 = .ok (.aload_n 2, 1) := by decide +kernel
theorem dL_models_1 : decode cL_models 1 = .ok (.iconst 0, 1) := by decide +kernel
theorem dL_models_2 : decode cL_models 2 = .ok (.aload_n 0, 1) := by decide +kernel
theorem dL_models_3 : decode cL_models 3 = .ok (.iload_n 1, 1) := by decide +kernel
theorem dL_models_4 : decode cL_models 4 = .ok (.invokevirtual 142, 3) := by decide +kernel
theorem dL_models_7 : decode cL_models 7 = .ok (.i2l, 1) := by decide +kernel
theorem dL_models_8 : decode cL_models 8 = .ok (.lastore, 1) := by decide +kernel
theorem dL_models_9 : decode cL_models 9 = .ok (.goto 6, 3) := by decide +kernel
theorem dL_models_12 : decode cL_models 12 = .ok (.astore_n 3, 1) := by decide +kernel
theorem dL_models_13 : decode cL_models 13 = .ok (.iconst 1, 1) := by decide +kernel
theorem dL_models_14 : decode cL_models 14 = .ok (.ireturn, 1) := by decide +kernel
theorem dL_models_15 : decode cL_models 15 = .ok (.iconst 0, 1) := by decide +kernel
theorem dL_models_16 : decode cL_models 16 = .ok (.ireturn, 1) := by decide +kernel
theorem dL_modelsByRows_0 : decode cL_modelsByRows 0 = .ok (.aload_n 2, 1) := by decide +kernel
theorem dL_modelsByRows_1 : decode cL_modelsByRows 1 = .ok (.iconst 0, 1) := by decide +kernel
theorem dL_modelsByRows_2 : decode cL_modelsByRows 2 = .ok (.aload_n 0, 1) := by decide +kernel
theorem dL_modelsByRows_3 : decode cL_modelsByRows 3 = .ok (.iload_n 1, 1) := by decide +kernel
theorem dL_modelsByRows_4 : decode cL_modelsByRows 4 = .ok (.invokevirtual 145, 3) := by decide +kernel
theorem dL_modelsByRows_7 : decode cL_modelsByRows 7 = .ok (.i2l, 1) := by decide +kernel
theorem dL_modelsByRows_8 : decode cL_modelsByRows 8 = .ok (.lastore, 1) := by decide +kernel
theorem dL_modelsByRows_9 : decode cL_modelsByRows 9 = .ok (.goto 6, 3) := by decide +kernel
theorem dL_modelsByRows_12 : decode cL_modelsByRows 12 = .ok (.astore_n 3, 1) := by decide +kernel
theorem dL_modelsByRows_13 : decode cL_modelsByRows 13 = .ok (.iconst 1, 1) := by decide +kernel
theorem dL_modelsByRows_14 : decode cL_modelsByRows 14 = .ok (.ireturn, 1) := by decide +kernel
theorem dL_modelsByRows_15 : decode cL_modelsByRows 15 = .ok (.iconst 0, 1) := by decide +kernel
theorem dL_modelsByRows_16 : decode cL_modelsByRows 16 = .ok (.ireturn, 1) := by decide +kernel
theorem dL_follows_0 : decode cL_follows 0 = .ok (.aload_n 2, 1) := by decide +kernel
theorem dL_follows_1 : decode cL_follows 1 = .ok (.iconst 0, 1) := by decide +kernel
theorem dL_follows_2 : decode cL_follows 2 = .ok (.aload_n 0, 1) := by decide +kernel
theorem dL_follows_3 : decode cL_follows 3 = .ok (.iload_n 1, 1) := by decide +kernel
theorem dL_follows_4 : decode cL_follows 4 = .ok (.invokevirtual 148, 3) := by decide +kernel
theorem dL_follows_7 : decode cL_follows 7 = .ok (.ifCond .eq 7, 3) := by decide +kernel
theorem dL_follows_10 : decode cL_follows 10 = .ok (.lconst 1, 1) := by decide +kernel
theorem dL_follows_11 : decode cL_follows 11 = .ok (.goto 4, 3) := by decide +kernel
theorem dL_follows_14 : decode cL_follows 14 = .ok (.lconst 0, 1) := by decide +kernel
theorem dL_follows_15 : decode cL_follows 15 = .ok (.lastore, 1) := by decide +kernel
theorem dL_follows_16 : decode cL_follows 16 = .ok (.goto 6, 3) := by decide +kernel
theorem dL_follows_19 : decode cL_follows 19 = .ok (.astore_n 3, 1) := by decide +kernel
theorem dL_follows_20 : decode cL_follows 20 = .ok (.iconst 1, 1) := by decide +kernel
theorem dL_follows_21 : decode cL_follows 21 = .ok (.ireturn, 1) := by decide +kernel
theorem dL_follows_22 : decode cL_follows 22 = .ok (.iconst 0, 1) := by decide +kernel
theorem dL_follows_23 : decode cL_follows 23 = .ok (.ireturn, 1) := by decide +kernel
theorem dL_isSound_0 : decode cL_isSound 0 = .ok (.aload_n 2, 1) := by decide +kernel
theorem dL_isSound_1 : decode cL_isSound 1 = .ok (.iconst 0, 1) := by decide +kernel
theorem dL_isSound_2 : decode cL_isSound 2 = .ok (.aload_n 0, 1) := by decide +kernel
theorem dL_isSound_3 : decode cL_isSound 3 = .ok (.iload_n 1, 1) := by decide +kernel
theorem dL_isSound_4 : decode cL_isSound 4 = .ok (.invokevirtual 151, 3) := by decide +kernel
theorem dL_isSound_7 : decode cL_isSound 7 = .ok (.ifCond .eq 7, 3) := by decide +kernel
theorem dL_isSound_10 : decode cL_isSound 10 = .ok (.lconst 1, 1) := by decide +kernel
theorem dL_isSound_11 : decode cL_isSound 11 = .ok (.goto 4, 3) := by decide +kernel
theorem dL_isSound_14 : decode cL_isSound 14 = .ok (.lconst 0, 1) := by decide +kernel
theorem dL_isSound_15 : decode cL_isSound 15 = .ok (.lastore, 1) := by decide +kernel
theorem dL_isSound_16 : decode cL_isSound 16 = .ok (.goto 6, 3) := by decide +kernel
theorem dL_isSound_19 : decode cL_isSound 19 = .ok (.astore_n 3, 1) := by decide +kernel
theorem dL_isSound_20 : decode cL_isSound 20 = .ok (.iconst 1, 1) := by decide +kernel
theorem dL_isSound_21 : decode cL_isSound 21 = .ok (.ireturn, 1) := by decide +kernel
theorem dL_isSound_22 : decode cL_isSound 22 = .ok (.iconst 0, 1) := by decide +kernel
theorem dL_isSound_23 : decode cL_isSound 23 = .ok (.ireturn, 1) := by decide +kernel
theorem dL_share_0 : decode cL_share 0 = .ok (.aload_n 2, 1) := by decide +kernel
theorem dL_share_1 : decode cL_share 1 = .ok (.iconst 0, 1) := by decide +kernel
theorem dL_share_2 : decode cL_share 2 = .ok (.aload_n 0, 1) := by decide +kernel
theorem dL_share_3 : decode cL_share 3 = .ok (.iload_n 1, 1) := by decide +kernel
theorem dL_share_4 : decode cL_share 4 = .ok (.invokevirtual 154, 3) := by decide +kernel
theorem dL_share_7 : decode cL_share 7 = .ok (.f2d, 1) := by decide +kernel
theorem dL_share_8 : decode cL_share 8 = .ok (.dastore, 1) := by decide +kernel
theorem dL_share_9 : decode cL_share 9 = .ok (.goto 6, 3) := by decide +kernel
theorem dL_share_12 : decode cL_share 12 = .ok (.astore_n 3, 1) := by decide +kernel
theorem dL_share_13 : decode cL_share 13 = .ok (.iconst 1, 1) := by decide +kernel
theorem dL_share_14 : decode cL_share 14 = .ok (.ireturn, 1) := by decide +kernel
theorem dL_share_15 : decode cL_share 15 = .ok (.iconst 0, 1) := by decide +kernel
theorem dL_share_16 : decode cL_share 16 = .ok (.ireturn, 1) := by decide +kernel
theorem dL_meanSize_0 : decode cL_meanSize 0 = .ok (.aload_n 1, 1) := by decide +kernel
theorem dL_meanSize_1 : decode cL_meanSize 1 = .ok (.iconst 0, 1) := by decide +kernel
theorem dL_meanSize_2 : decode cL_meanSize 2 = .ok (.aload_n 0, 1) := by decide +kernel
theorem dL_meanSize_3 : decode cL_meanSize 3 = .ok (.invokevirtual 158, 3) := by decide +kernel
theorem dL_meanSize_6 : decode cL_meanSize 6 = .ok (.dastore, 1) := by decide +kernel
theorem dL_meanSize_7 : decode cL_meanSize 7 = .ok (.goto 6, 3) := by decide +kernel
theorem dL_meanSize_10 : decode cL_meanSize 10 = .ok (.astore_n 2, 1) := by decide +kernel
theorem dL_meanSize_11 : decode cL_meanSize 11 = .ok (.iconst 1, 1) := by decide +kernel
theorem dL_meanSize_12 : decode cL_meanSize 12 = .ok (.ireturn, 1) := by decide +kernel
theorem dL_meanSize_13 : decode cL_meanSize 13 = .ok (.iconst 0, 1) := by decide +kernel
theorem dL_meanSize_14 : decode cL_meanSize 14 = .ok (.ireturn, 1) := by decide +kernel
theorem dL_law_0 : decode cL_law 0 = .ok (.new 8, 3) := by decide +kernel
theorem dL_law_3 : decode cL_law 3 = .ok (.dup, 1) := by decide +kernel
theorem dL_law_4 : decode cL_law 4 = .ok (.invokespecial 164, 3) := by decide +kernel
theorem dL_law_7 : decode cL_law 7 = .ok (.astore_n 1, 1) := by decide +kernel
theorem dL_law_8 : decode cL_law 8 = .ok (.new 165, 3) := by decide +kernel
theorem dL_law_11 : decode cL_law 11 = .ok (.dup, 1) := by decide +kernel
theorem dL_law_12 : decode cL_law 12 = .ok (.invokespecial 167, 3) := by decide +kernel
theorem dL_law_15 : decode cL_law 15 = .ok (.astore_n 2, 1) := by decide +kernel
theorem dL_law_16 : decode cL_law 16 = .ok (.iconst 1, 1) := by decide +kernel
theorem dL_law_17 : decode cL_law 17 = .ok (.newarray .long, 2) := by decide +kernel
theorem dL_law_19 : decode cL_law 19 = .ok (.astore_n 3, 1) := by decide +kernel
theorem dL_law_20 : decode cL_law 20 = .ok (.iconst 1, 1) := by decide +kernel
theorem dL_law_21 : decode cL_law 21 = .ok (.newarray .double, 2) := by decide +kernel
theorem dL_law_23 : decode cL_law 23 = .ok (.astore 4, 2) := by decide +kernel
theorem dL_law_25 : decode cL_law 25 = .ok (.iconst 0, 1) := by decide +kernel
theorem dL_law_26 : decode cL_law 26 = .ok (.istore 5, 2) := by decide +kernel
theorem dL_law_28 : decode cL_law 28 = .ok (.iload 5, 2) := by decide +kernel
theorem dL_law_30 : decode cL_law 30 = .ok (.aload_n 0, 1) := by decide +kernel
theorem dL_law_31 : decode cL_law 31 = .ok (.arraylength, 1) := by decide +kernel
theorem dL_law_32 : decode cL_law 32 = .ok (.iconst 4, 1) := by decide +kernel
theorem dL_law_33 : decode cL_law 33 = .ok (.isub, 1) := by decide +kernel
theorem dL_law_34 : decode cL_law 34 = .ok (.if_icmp .gt 2992, 3) := by decide +kernel
theorem dL_law_37 : decode cL_law 37 = .ok (.aload_n 0, 1) := by decide +kernel
theorem dL_law_38 : decode cL_law 38 = .ok (.iload 5, 2) := by decide +kernel
theorem dL_law_40 : decode cL_law 40 = .ok (.iaload, 1) := by decide +kernel
theorem dL_law_41 : decode cL_law 41 = .ok (.bipush 63, 2) := by decide +kernel
theorem dL_law_43 : decode cL_law 43 = .ok (.iand, 1) := by decide +kernel
theorem dL_law_44 : decode cL_law 44 = .ok (.tableswitch 2976 0 48 #[212, 268, 312, 368, 436, 504, 572, 585, 641, 709, 777, 833, 889, 933, 989, 1057, 1141, 1237, 1317, 1373, 1441, 1497, 1565, 1633, 1689, 1702, 1746, 1826, 1839, 1895, 1908, 1964, 2020, 2076, 2139, 2152, 2215, 2271, 2315, 2371, 2427, 2483, 2539, 2595, 2651, 2707, 2770, 2833, 2911], 212) := by decide +kernel
theorem dL_law_256 : decode cL_law 256 = .ok (.aload_n 1, 1) := by decide +kernel
theorem dL_law_257 : decode cL_law 257 = .ok (.aload_n 0, 1) := by decide +kernel
theorem dL_law_258 : decode cL_law 258 = .ok (.iload 5, 2) := by decide +kernel
theorem dL_law_260 : decode cL_law 260 = .ok (.iconst 1, 1) := by decide +kernel
theorem dL_law_261 : decode cL_law 261 = .ok (.iadd, 1) := by decide +kernel
theorem dL_law_262 : decode cL_law 262 = .ok (.iaload, 1) := by decide +kernel
theorem dL_law_263 : decode cL_law 263 = .ok (.aload_n 3, 1) := by decide +kernel
theorem dL_law_264 : decode cL_law 264 = .ok (.invokestatic 168, 3) := by decide +kernel
theorem dL_law_267 : decode cL_law 267 = .ok (.istore 6, 2) := by decide +kernel
theorem dL_law_269 : decode cL_law 269 = .ok (.aload_n 2, 1) := by decide +kernel
theorem dL_law_270 : decode cL_law 270 = .ok (.aload_n 0, 1) := by decide +kernel
theorem dL_law_271 : decode cL_law 271 = .ok (.iload 5, 2) := by decide +kernel
theorem dL_law_273 : decode cL_law 273 = .ok (.iconst 1, 1) := by decide +kernel
theorem dL_law_274 : decode cL_law 274 = .ok (.iadd, 1) := by decide +kernel
theorem dL_law_275 : decode cL_law 275 = .ok (.iaload, 1) := by decide +kernel
theorem dL_law_276 : decode cL_law 276 = .ok (.invokevirtual 173, 3) := by decide +kernel
theorem dL_law_279 : decode cL_law 279 = .ok (.istore 7, 2) := by decide +kernel
theorem dL_law_281 : decode cL_law 281 = .ok (.aload_n 2, 1) := by decide +kernel
theorem dL_law_282 : decode cL_law 282 = .ok (.invokevirtual 174, 3) := by decide +kernel
theorem dL_law_285 : decode cL_law 285 = .ok (.iload 6, 2) := by decide +kernel
theorem dL_law_287 : decode cL_law 287 = .ok (.if_icmp .eq 5, 3) := by decide +kernel
theorem dL_law_290 : decode cL_law 290 = .ok (.iconst 0, 1) := by decide +kernel
theorem dL_law_291 : decode cL_law 291 = .ok (.ireturn, 1) := by decide +kernel
theorem dL_law_292 : decode cL_law 292 = .ok (.iload 6, 2) := by decide +kernel
theorem dL_law_294 : decode cL_law 294 = .ok (.ifCond .ne 15, 3) := by decide +kernel
theorem dL_law_297 : decode cL_law 297 = .ok (.aload_n 3, 1) := by decide +kernel
theorem dL_law_298 : decode cL_law 298 = .ok (.iconst 0, 1) := by decide +kernel
theorem dL_law_299 : decode cL_law 299 = .ok (.laload, 1) := by decide +kernel
theorem dL_law_300 : decode cL_law 300 = .ok (.iload 7, 2) := by decide +kernel
theorem dL_law_302 : decode cL_law 302 = .ok (.i2l, 1) := by decide +kernel
theorem dL_law_303 : decode cL_law 303 = .ok (.lcmp, 1) := by decide +kernel
theorem dL_law_304 : decode cL_law 304 = .ok (.ifCond .eq 5, 3) := by decide +kernel
theorem dL_law_307 : decode cL_law 307 = .ok (.iconst 0, 1) := by decide +kernel
theorem dL_law_308 : decode cL_law 308 = .ok (.ireturn, 1) := by decide +kernel
theorem dL_law_309 : decode cL_law 309 = .ok (.goto 2711, 3) := by decide +kernel
theorem dL_law_312 : decode cL_law 312 = .ok (.aload_n 1, 1) := by decide +kernel
theorem dL_law_313 : decode cL_law 313 = .ok (.aload_n 3, 1) := by decide +kernel
theorem dL_law_314 : decode cL_law 314 = .ok (.invokestatic 177, 3) := by decide +kernel
theorem dL_law_317 : decode cL_law 317 = .ok (.istore 6, 2) := by decide +kernel
theorem dL_law_319 : decode cL_law 319 = .ok (.aload_n 2, 1) := by decide +kernel
theorem dL_law_320 : decode cL_law 320 = .ok (.invokevirtual 180, 3) := by decide +kernel
theorem dL_law_323 : decode cL_law 323 = .ok (.istore 7, 2) := by decide +kernel
theorem dL_law_325 : decode cL_law 325 = .ok (.aload_n 2, 1) := by decide +kernel
theorem dL_law_326 : decode cL_law 326 = .ok (.invokevirtual 174, 3) := by decide +kernel
theorem dL_law_329 : decode cL_law 329 = .ok (.iload 6, 2) := by decide +kernel
theorem dL_law_331 : decode cL_law 331 = .ok (.if_icmp .eq 5, 3) := by decide +kernel
theorem dL_law_334 : decode cL_law 334 = .ok (.iconst 0, 1) := by decide +kernel
theorem dL_law_335 : decode cL_law 335 = .ok (.ireturn, 1) := by decide +kernel
theorem dL_law_336 : decode cL_law 336 = .ok (.iload 6, 2) := by decide +kernel
theorem dL_law_338 : decode cL_law 338 = .ok (.ifCond .ne 15, 3) := by decide +kernel
theorem dL_law_341 : decode cL_law 341 = .ok (.aload_n 3, 1) := by decide +kernel
theorem dL_law_342 : decode cL_law 342 = .ok (.iconst 0, 1) := by decide +kernel
theorem dL_law_343 : decode cL_law 343 = .ok (.laload, 1) := by decide +kernel
theorem dL_law_344 : decode cL_law 344 = .ok (.iload 7, 2) := by decide +kernel
theorem dL_law_346 : decode cL_law 346 = .ok (.i2l, 1) := by decide +kernel
theorem dL_law_347 : decode cL_law 347 = .ok (.lcmp, 1) := by decide +kernel
theorem dL_law_348 : decode cL_law 348 = .ok (.ifCond .eq 5, 3) := by decide +kernel
theorem dL_law_351 : decode cL_law 351 = .ok (.iconst 0, 1) := by decide +kernel
theorem dL_law_352 : decode cL_law 352 = .ok (.ireturn, 1) := by decide +kernel
theorem dL_law_353 : decode cL_law 353 = .ok (.goto 2667, 3) := by decide +kernel
theorem dL_law_356 : decode cL_law 356 = .ok (.aload_n 1, 1) := by decide +kernel
theorem dL_law_357 : decode cL_law 357 = .ok (.aload_n 0, 1) := by decide +kernel
theorem dL_law_358 : decode cL_law 358 = .ok (.iload 5, 2) := by decide +kernel
theorem dL_law_360 : decode cL_law 360 = .ok (.iconst 1, 1) := by decide +kernel
theorem dL_law_361 : decode cL_law 361 = .ok (.iadd, 1) := by decide +kernel
theorem dL_law_362 : decode cL_law 362 = .ok (.iaload, 1) := by decide +kernel
theorem dL_law_363 : decode cL_law 363 = .ok (.aload_n 3, 1) := by decide +kernel
theorem dL_law_364 : decode cL_law 364 = .ok (.invokestatic 181, 3) := by decide +kernel
theorem dL_law_367 : decode cL_law 367 = .ok (.istore 6, 2) := by decide +kernel
theorem dL_law_369 : decode cL_law 369 = .ok (.aload_n 2, 1) := by decide +kernel
theorem dL_law_370 : decode cL_law 370 = .ok (.aload_n 0, 1) := by decide +kernel
theorem dL_law_371 : decode cL_law 371 = .ok (.iload 5, 2) := by decide +kernel
theorem dL_law_373 : decode cL_law 373 = .ok (.iconst 1, 1) := by decide +kernel
theorem dL_law_374 : decode cL_law 374 = .ok (.iadd, 1) := by decide +kernel
theorem dL_law_375 : decode cL_law 375 = .ok (.iaload, 1) := by decide +kernel
theorem dL_law_376 : decode cL_law 376 = .ok (.invokevirtual 183, 3) := by decide +kernel
theorem dL_law_379 : decode cL_law 379 = .ok (.istore 7, 2) := by decide +kernel
theorem dL_law_381 : decode cL_law 381 = .ok (.aload_n 2, 1) := by decide +kernel
theorem dL_law_382 : decode cL_law 382 = .ok (.invokevirtual 174, 3) := by decide +kernel
theorem dL_law_385 : decode cL_law 385 = .ok (.iload 6, 2) := by decide +kernel
theorem dL_law_387 : decode cL_law 387 = .ok (.if_icmp .eq 5, 3) := by decide +kernel
theorem dL_law_390 : decode cL_law 390 = .ok (.iconst 0, 1) := by decide +kernel
theorem dL_law_391 : decode cL_law 391 = .ok (.ireturn, 1) := by decide +kernel
theorem dL_law_392 : decode cL_law 392 = .ok (.iload 6, 2) := by decide +kernel
theorem dL_law_394 : decode cL_law 394 = .ok (.ifCond .ne 15, 3) := by decide +kernel
theorem dL_law_397 : decode cL_law 397 = .ok (.aload_n 3, 1) := by decide +kernel
theorem dL_law_398 : decode cL_law 398 = .ok (.iconst 0, 1) := by decide +kernel
theorem dL_law_399 : decode cL_law 399 = .ok (.laload, 1) := by decide +kernel
theorem dL_law_400 : decode cL_law 400 = .ok (.iload 7, 2) := by decide +kernel
theorem dL_law_402 : decode cL_law 402 = .ok (.i2l, 1) := by decide +kernel
theorem dL_law_403 : decode cL_law 403 = .ok (.lcmp, 1) := by decide +kernel
theorem dL_law_404 : decode cL_law 404 = .ok (.ifCond .eq 5, 3) := by decide +kernel
theorem dL_law_407 : decode cL_law 407 = .ok (.iconst 0, 1) := by decide +kernel
theorem dL_law_408 : decode cL_law 408 = .ok (.ireturn, 1) := by decide +kernel
theorem dL_law_409 : decode cL_law 409 = .ok (.goto 2611, 3) := by decide +kernel
theorem dL_law_412 : decode cL_law 412 = .ok (.aload_n 1, 1) := by decide +kernel
theorem dL_law_413 : decode cL_law 413 = .ok (.aload_n 0, 1) := by decide +kernel
theorem dL_law_414 : decode cL_law 414 = .ok (.iload 5, 2) := by decide +kernel
theorem dL_law_416 : decode cL_law 416 = .ok (.iconst 1, 1) := by decide +kernel
theorem dL_law_417 : decode cL_law 417 = .ok (.iadd, 1) := by decide +kernel
theorem dL_law_418 : decode cL_law 418 = .ok (.iaload, 1) := by decide +kernel
theorem dL_law_419 : decode cL_law 419 = .ok (.aload_n 0, 1) := by decide +kernel
theorem dL_law_420 : decode cL_law 420 = .ok (.iload 5, 2) := by decide +kernel
theorem dL_law_422 : decode cL_law 422 = .ok (.iconst 2, 1) := by decide +kernel
theorem dL_law_423 : decode cL_law 423 = .ok (.iadd, 1) := by decide +kernel
theorem dL_law_424 : decode cL_law 424 = .ok (.iaload, 1) := by decide +kernel
theorem dL_law_425 : decode cL_law 425 = .ok (.aload_n 3, 1) := by decide +kernel
theorem dL_law_426 : decode cL_law 426 = .ok (.invokestatic 184, 3) := by decide +kernel
theorem dL_law_429 : decode cL_law 429 = .ok (.istore 6, 2) := by decide +kernel
theorem dL_law_431 : decode cL_law 431 = .ok (.aload_n 2, 1) := by decide +kernel
theorem dL_law_432 : decode cL_law 432 = .ok (.aload_n 0, 1) := by decide +kernel
theorem dL_law_433 : decode cL_law 433 = .ok (.iload 5, 2) := by decide +kernel
theorem dL_law_435 : decode cL_law 435 = .ok (.iconst 1, 1) := by decide +kernel
theorem dL_law_436 : decode cL_law 436 = .ok (.iadd, 1) := by decide +kernel
theorem dL_law_437 : decode cL_law 437 = .ok (.iaload, 1) := by decide +kernel
theorem dL_law_438 : decode cL_law 438 = .ok (.aload_n 0, 1) := by decide +kernel
theorem dL_law_439 : decode cL_law 439 = .ok (.iload 5, 2) := by decide +kernel
theorem dL_law_441 : decode cL_law 441 = .ok (.iconst 2, 1) := by decide +kernel
theorem dL_law_442 : decode cL_law 442 = .ok (.iadd, 1) := by decide +kernel
theorem dL_law_443 : decode cL_law 443 = .ok (.iaload, 1) := by decide +kernel
theorem dL_law_444 : decode cL_law 444 = .ok (.invokevirtual 187, 3) := by decide +kernel
theorem dL_law_447 : decode cL_law 447 = .ok (.istore 7, 2) := by decide +kernel
theorem dL_law_449 : decode cL_law 449 = .ok (.aload_n 2, 1) := by decide +kernel
theorem dL_law_450 : decode cL_law 450 = .ok (.invokevirtual 174, 3) := by decide +kernel
theorem dL_law_453 : decode cL_law 453 = .ok (.iload 6, 2) := by decide +kernel
theorem dL_law_455 : decode cL_law 455 = .ok (.if_icmp .eq 5, 3) := by decide +kernel
theorem dL_law_458 : decode cL_law 458 = .ok (.iconst 0, 1) := by decide +kernel
theorem dL_law_459 : decode cL_law 459 = .ok (.ireturn, 1) := by decide +kernel
theorem dL_law_460 : decode cL_law 460 = .ok (.iload 6, 2) := by decide +kernel
theorem dL_law_462 : decode cL_law 462 = .ok (.ifCond .ne 15, 3) := by decide +kernel
theorem dL_law_465 : decode cL_law 465 = .ok (.aload_n 3, 1) := by decide +kernel
theorem dL_law_466 : decode cL_law 466 = .ok (.iconst 0, 1) := by decide +kernel
theorem dL_law_467 : decode cL_law 467 = .ok (.laload, 1) := by decide +kernel
theorem dL_law_468 : decode cL_law 468 = .ok (.iload 7, 2) := by decide +kernel
theorem dL_law_470 : decode cL_law 470 = .ok (.i2l, 1) := by decide +kernel
theorem dL_law_471 : decode cL_law 471 = .ok (.lcmp, 1) := by decide +kernel
theorem dL_law_472 : decode cL_law 472 = .ok (.ifCond .eq 5, 3) := by decide +kernel
theorem dL_law_475 : decode cL_law 475 = .ok (.iconst 0, 1) := by decide +kernel
theorem dL_law_476 : decode cL_law 476 = .ok (.ireturn, 1) := by decide +kernel
theorem dL_law_477 : decode cL_law 477 = .ok (.goto 2543, 3) := by decide +kernel
theorem dL_law_480 : decode cL_law 480 = .ok (.aload_n 1, 1) := by decide +kernel
theorem dL_law_481 : decode cL_law 481 = .ok (.aload_n 0, 1) := by decide +kernel
theorem dL_law_482 : decode cL_law 482 = .ok (.iload 5, 2) := by decide +kernel
theorem dL_law_484 : decode cL_law 484 = .ok (.iconst 1, 1) := by decide +kernel
theorem dL_law_485 : decode cL_law 485 = .ok (.iadd, 1) := by decide +kernel
theorem dL_law_486 : decode cL_law 486 = .ok (.iaload, 1) := by decide +kernel
theorem dL_law_487 : decode cL_law 487 = .ok (.aload_n 0, 1) := by decide +kernel
theorem dL_law_488 : decode cL_law 488 = .ok (.iload 5, 2) := by decide +kernel
theorem dL_law_490 : decode cL_law 490 = .ok (.iconst 2, 1) := by decide +kernel
theorem dL_law_491 : decode cL_law 491 = .ok (.iadd, 1) := by decide +kernel
theorem dL_law_492 : decode cL_law 492 = .ok (.iaload, 1) := by decide +kernel
theorem dL_law_493 : decode cL_law 493 = .ok (.aload_n 3, 1) := by decide +kernel
theorem dL_law_494 : decode cL_law 494 = .ok (.invokestatic 188, 3) := by decide +kernel
theorem dL_law_497 : decode cL_law 497 = .ok (.istore 6, 2) := by decide +kernel
theorem dL_law_499 : decode cL_law 499 = .ok (.aload_n 2, 1) := by decide +kernel
theorem dL_law_500 : decode cL_law 500 = .ok (.aload_n 0, 1) := by decide +kernel
theorem dL_law_501 : decode cL_law 501 = .ok (.iload 5, 2) := by decide +kernel
theorem dL_law_503 : decode cL_law 503 = .ok (.iconst 1, 1) := by decide +kernel
theorem dL_law_504 : decode cL_law 504 = .ok (.iadd, 1) := by decide +kernel
theorem dL_law_505 : decode cL_law 505 = .ok (.iaload, 1) := by decide +kernel
theorem dL_law_506 : decode cL_law 506 = .ok (.aload_n 0, 1) := by decide +kernel
theorem dL_law_507 : decode cL_law 507 = .ok (.iload 5, 2) := by decide +kernel
theorem dL_law_509 : decode cL_law 509 = .ok (.iconst 2, 1) := by decide +kernel
theorem dL_law_510 : decode cL_law 510 = .ok (.iadd, 1) := by decide +kernel
theorem dL_law_511 : decode cL_law 511 = .ok (.iaload, 1) := by decide +kernel
theorem dL_law_512 : decode cL_law 512 = .ok (.invokevirtual 190, 3) := by decide +kernel
theorem dL_law_515 : decode cL_law 515 = .ok (.istore 7, 2) := by decide +kernel
theorem dL_law_517 : decode cL_law 517 = .ok (.aload_n 2, 1) := by decide +kernel
theorem dL_law_518 : decode cL_law 518 = .ok (.invokevirtual 174, 3) := by decide +kernel
theorem dL_law_521 : decode cL_law 521 = .ok (.iload 6, 2) := by decide +kernel
theorem dL_law_523 : decode cL_law 523 = .ok (.if_icmp .eq 5, 3) := by decide +kernel
theorem dL_law_526 : decode cL_law 526 = .ok (.iconst 0, 1) := by decide +kernel
theorem dL_law_527 : decode cL_law 527 = .ok (.ireturn, 1) := by decide +kernel
theorem dL_law_528 : decode cL_law 528 = .ok (.iload 6, 2) := by decide +kernel
theorem dL_law_530 : decode cL_law 530 = .ok (.ifCond .ne 15, 3) := by decide +kernel
theorem dL_law_533 : decode cL_law 533 = .ok (.aload_n 3, 1) := by decide +kernel
theorem dL_law_534 : decode cL_law 534 = .ok (.iconst 0, 1) := by decide +kernel
theorem dL_law_535 : decode cL_law 535 = .ok (.laload, 1) := by decide +kernel
theorem dL_law_536 : decode cL_law 536 = .ok (.iload 7, 2) := by decide +kernel
theorem dL_law_538 : decode cL_law 538 = .ok (.i2l, 1) := by decide +kernel
theorem dL_law_539 : decode cL_law 539 = .ok (.lcmp, 1) := by decide +kernel
theorem dL_law_540 : decode cL_law 540 = .ok (.ifCond .eq 5, 3) := by decide +kernel
theorem dL_law_543 : decode cL_law 543 = .ok (.iconst 0, 1) := by decide +kernel
theorem dL_law_544 : decode cL_law 544 = .ok (.ireturn, 1) := by decide +kernel
theorem dL_law_545 : decode cL_law 545 = .ok (.goto 2475, 3) := by decide +kernel
theorem dL_law_548 : decode cL_law 548 = .ok (.aload_n 1, 1) := by decide +kernel
theorem dL_law_549 : decode cL_law 549 = .ok (.aload_n 0, 1) := by decide +kernel
theorem dL_law_550 : decode cL_law 550 = .ok (.iload 5, 2) := by decide +kernel
theorem dL_law_552 : decode cL_law 552 = .ok (.iconst 1, 1) := by decide +kernel
theorem dL_law_553 : decode cL_law 553 = .ok (.iadd, 1) := by decide +kernel
theorem dL_law_554 : decode cL_law 554 = .ok (.iaload, 1) := by decide +kernel
theorem dL_law_555 : decode cL_law 555 = .ok (.aload_n 0, 1) := by decide +kernel
theorem dL_law_556 : decode cL_law 556 = .ok (.iload 5, 2) := by decide +kernel
theorem dL_law_558 : decode cL_law 558 = .ok (.iconst 2, 1) := by decide +kernel
theorem dL_law_559 : decode cL_law 559 = .ok (.iadd, 1) := by decide +kernel
theorem dL_law_560 : decode cL_law 560 = .ok (.iaload, 1) := by decide +kernel
theorem dL_law_561 : decode cL_law 561 = .ok (.aload_n 3, 1) := by decide +kernel
theorem dL_law_562 : decode cL_law 562 = .ok (.invokestatic 191, 3) := by decide +kernel
theorem dL_law_565 : decode cL_law 565 = .ok (.istore 6, 2) := by decide +kernel
theorem dL_law_567 : decode cL_law 567 = .ok (.aload_n 2, 1) := by decide +kernel
theorem dL_law_568 : decode cL_law 568 = .ok (.aload_n 0, 1) := by decide +kernel
theorem dL_law_569 : decode cL_law 569 = .ok (.iload 5, 2) := by decide +kernel
theorem dL_law_571 : decode cL_law 571 = .ok (.iconst 1, 1) := by decide +kernel
theorem dL_law_572 : decode cL_law 572 = .ok (.iadd, 1) := by decide +kernel
theorem dL_law_573 : decode cL_law 573 = .ok (.iaload, 1) := by decide +kernel
theorem dL_law_574 : decode cL_law 574 = .ok (.aload_n 0, 1) := by decide +kernel
theorem dL_law_575 : decode cL_law 575 = .ok (.iload 5, 2) := by decide +kernel
theorem dL_law_577 : decode cL_law 577 = .ok (.iconst 2, 1) := by decide +kernel
theorem dL_law_578 : decode cL_law 578 = .ok (.iadd, 1) := by decide +kernel
theorem dL_law_579 : decode cL_law 579 = .ok (.iaload, 1) := by decide +kernel
theorem dL_law_580 : decode cL_law 580 = .ok (.invokevirtual 193, 3) := by decide +kernel
theorem dL_law_583 : decode cL_law 583 = .ok (.istore 7, 2) := by decide +kernel
theorem dL_law_585 : decode cL_law 585 = .ok (.aload_n 2, 1) := by decide +kernel
theorem dL_law_586 : decode cL_law 586 = .ok (.invokevirtual 174, 3) := by decide +kernel
theorem dL_law_589 : decode cL_law 589 = .ok (.iload 6, 2) := by decide +kernel
theorem dL_law_591 : decode cL_law 591 = .ok (.if_icmp .eq 5, 3) := by decide +kernel
theorem dL_law_594 : decode cL_law 594 = .ok (.iconst 0, 1) := by decide +kernel
theorem dL_law_595 : decode cL_law 595 = .ok (.ireturn, 1) := by decide +kernel
theorem dL_law_596 : decode cL_law 596 = .ok (.iload 6, 2) := by decide +kernel
theorem dL_law_598 : decode cL_law 598 = .ok (.ifCond .ne 15, 3) := by decide +kernel
theorem dL_law_601 : decode cL_law 601 = .ok (.aload_n 3, 1) := by decide +kernel
theorem dL_law_602 : decode cL_law 602 = .ok (.iconst 0, 1) := by decide +kernel
theorem dL_law_603 : decode cL_law 603 = .ok (.laload, 1) := by decide +kernel
theorem dL_law_604 : decode cL_law 604 = .ok (.iload 7, 2) := by decide +kernel
theorem dL_law_606 : decode cL_law 606 = .ok (.i2l, 1) := by decide +kernel
theorem dL_law_607 : decode cL_law 607 = .ok (.lcmp, 1) := by decide +kernel
theorem dL_law_608 : decode cL_law 608 = .ok (.ifCond .eq 5, 3) := by decide +kernel
theorem dL_law_611 : decode cL_law 611 = .ok (.iconst 0, 1) := by decide +kernel
theorem dL_law_612 : decode cL_law 612 = .ok (.ireturn, 1) := by decide +kernel
theorem dL_law_613 : decode cL_law 613 = .ok (.goto 2407, 3) := by decide +kernel
theorem dL_law_616 : decode cL_law 616 = .ok (.aload_n 1, 1) := by decide +kernel
theorem dL_law_617 : decode cL_law 617 = .ok (.invokevirtual 194, 3) := by decide +kernel
theorem dL_law_620 : decode cL_law 620 = .ok (.aload_n 2, 1) := by decide +kernel
theorem dL_law_621 : decode cL_law 621 = .ok (.invokevirtual 197, 3) := by decide +kernel
theorem dL_law_624 : decode cL_law 624 = .ok (.if_icmp .eq 2396, 3) := by decide +kernel
theorem dL_law_627 : decode cL_law 627 = .ok (.iconst 0, 1) := by decide +kernel
theorem dL_law_628 : decode cL_law 628 = .ok (.ireturn, 1) := by decide +kernel
theorem dL_law_629 : decode cL_law 629 = .ok (.aload_n 1, 1) := by decide +kernel
theorem dL_law_630 : decode cL_law 630 = .ok (.aload_n 0, 1) := by decide +kernel
theorem dL_law_631 : decode cL_law 631 = .ok (.iload 5, 2) := by decide +kernel
theorem dL_law_633 : decode cL_law 633 = .ok (.iconst 1, 1) := by decide +kernel
theorem dL_law_634 : decode cL_law 634 = .ok (.iadd, 1) := by decide +kernel
theorem dL_law_635 : decode cL_law 635 = .ok (.iaload, 1) := by decide +kernel
theorem dL_law_636 : decode cL_law 636 = .ok (.aload_n 3, 1) := by decide +kernel
theorem dL_law_637 : decode cL_law 637 = .ok (.invokestatic 198, 3) := by decide +kernel
theorem dL_law_640 : decode cL_law 640 = .ok (.istore 6, 2) := by decide +kernel
theorem dL_law_642 : decode cL_law 642 = .ok (.aload_n 2, 1) := by decide +kernel
theorem dL_law_643 : decode cL_law 643 = .ok (.aload_n 0, 1) := by decide +kernel
theorem dL_law_644 : decode cL_law 644 = .ok (.iload 5, 2) := by decide +kernel
theorem dL_law_646 : decode cL_law 646 = .ok (.iconst 1, 1) := by decide +kernel
theorem dL_law_647 : decode cL_law 647 = .ok (.iadd, 1) := by decide +kernel
theorem dL_law_648 : decode cL_law 648 = .ok (.iaload, 1) := by decide +kernel
theorem dL_law_649 : decode cL_law 649 = .ok (.invokevirtual 200, 3) := by decide +kernel
theorem dL_law_652 : decode cL_law 652 = .ok (.istore 7, 2) := by decide +kernel
theorem dL_law_654 : decode cL_law 654 = .ok (.aload_n 2, 1) := by decide +kernel
theorem dL_law_655 : decode cL_law 655 = .ok (.invokevirtual 174, 3) := by decide +kernel
theorem dL_law_658 : decode cL_law 658 = .ok (.iload 6, 2) := by decide +kernel
theorem dL_law_660 : decode cL_law 660 = .ok (.if_icmp .eq 5, 3) := by decide +kernel
theorem dL_law_663 : decode cL_law 663 = .ok (.iconst 0, 1) := by decide +kernel
theorem dL_law_664 : decode cL_law 664 = .ok (.ireturn, 1) := by decide +kernel
theorem dL_law_665 : decode cL_law 665 = .ok (.iload 6, 2) := by decide +kernel
theorem dL_law_667 : decode cL_law 667 = .ok (.ifCond .ne 15, 3) := by decide +kernel
theorem dL_law_670 : decode cL_law 670 = .ok (.aload_n 3, 1) := by decide +kernel
theorem dL_law_671 : decode cL_law 671 = .ok (.iconst 0, 1) := by decide +kernel
theorem dL_law_672 : decode cL_law 672 = .ok (.laload, 1) := by decide +kernel
theorem dL_law_673 : decode cL_law 673 = .ok (.iload 7, 2) := by decide +kernel
theorem dL_law_675 : decode cL_law 675 = .ok (.i2l, 1) := by decide +kernel
theorem dL_law_676 : decode cL_law 676 = .ok (.lcmp, 1) := by decide +kernel
theorem dL_law_677 : decode cL_law 677 = .ok (.ifCond .eq 5, 3) := by decide +kernel
theorem dL_law_680 : decode cL_law 680 = .ok (.iconst 0, 1) := by decide +kernel
theorem dL_law_681 : decode cL_law 681 = .ok (.ireturn, 1) := by decide +kernel
theorem dL_law_682 : decode cL_law 682 = .ok (.goto 2338, 3) := by decide +kernel
theorem dL_law_685 : decode cL_law 685 = .ok (.aload_n 1, 1) := by decide +kernel
theorem dL_law_686 : decode cL_law 686 = .ok (.aload_n 0, 1) := by decide +kernel
theorem dL_law_687 : decode cL_law 687 = .ok (.iload 5, 2) := by decide +kernel
theorem dL_law_689 : decode cL_law 689 = .ok (.iconst 1, 1) := by decide +kernel
theorem dL_law_690 : decode cL_law 690 = .ok (.iadd, 1) := by decide +kernel
theorem dL_law_691 : decode cL_law 691 = .ok (.iaload, 1) := by decide +kernel
theorem dL_law_692 : decode cL_law 692 = .ok (.aload_n 0, 1) := by decide +kernel
theorem dL_law_693 : decode cL_law 693 = .ok (.iload 5, 2) := by decide +kernel
theorem dL_law_695 : decode cL_law 695 = .ok (.iconst 2, 1) := by decide +kernel
theorem dL_law_696 : decode cL_law 696 = .ok (.iadd, 1) := by decide +kernel
theorem dL_law_697 : decode cL_law 697 = .ok (.iaload, 1) := by decide +kernel
theorem dL_law_698 : decode cL_law 698 = .ok (.aload_n 3, 1) := by decide +kernel
theorem dL_law_699 : decode cL_law 699 = .ok (.invokestatic 201, 3) := by decide +kernel
theorem dL_law_702 : decode cL_law 702 = .ok (.istore 6, 2) := by decide +kernel
theorem dL_law_704 : decode cL_law 704 = .ok (.aload_n 2, 1) := by decide +kernel
theorem dL_law_705 : decode cL_law 705 = .ok (.aload_n 0, 1) := by decide +kernel
theorem dL_law_706 : decode cL_law 706 = .ok (.iload 5, 2) := by decide +kernel
theorem dL_law_708 : decode cL_law 708 = .ok (.iconst 1, 1) := by decide +kernel
theorem dL_law_709 : decode cL_law 709 = .ok (.iadd, 1) := by decide +kernel
theorem dL_law_710 : decode cL_law 710 = .ok (.iaload, 1) := by decide +kernel
theorem dL_law_711 : decode cL_law 711 = .ok (.aload_n 0, 1) := by decide +kernel
theorem dL_law_712 : decode cL_law 712 = .ok (.iload 5, 2) := by decide +kernel
theorem dL_law_714 : decode cL_law 714 = .ok (.iconst 2, 1) := by decide +kernel
theorem dL_law_715 : decode cL_law 715 = .ok (.iadd, 1) := by decide +kernel
theorem dL_law_716 : decode cL_law 716 = .ok (.iaload, 1) := by decide +kernel
theorem dL_law_717 : decode cL_law 717 = .ok (.invokevirtual 203, 3) := by decide +kernel
theorem dL_law_720 : decode cL_law 720 = .ok (.istore 7, 2) := by decide +kernel
theorem dL_law_722 : decode cL_law 722 = .ok (.aload_n 2, 1) := by decide +kernel
theorem dL_law_723 : decode cL_law 723 = .ok (.invokevirtual 174, 3) := by decide +kernel
theorem dL_law_726 : decode cL_law 726 = .ok (.iload 6, 2) := by decide +kernel
theorem dL_law_728 : decode cL_law 728 = .ok (.if_icmp .eq 5, 3) := by decide +kernel
theorem dL_law_731 : decode cL_law 731 = .ok (.iconst 0, 1) := by decide +kernel
theorem dL_law_732 : decode cL_law 732 = .ok (.ireturn, 1) := by decide +kernel
theorem dL_law_733 : decode cL_law 733 = .ok (.iload 6, 2) := by decide +kernel
theorem dL_law_735 : decode cL_law 735 = .ok (.ifCond .ne 15, 3) := by decide +kernel
theorem dL_law_738 : decode cL_law 738 = .ok (.aload_n 3, 1) := by decide +kernel
theorem dL_law_739 : decode cL_law 739 = .ok (.iconst 0, 1) := by decide +kernel
theorem dL_law_740 : decode cL_law 740 = .ok (.laload, 1) := by decide +kernel
theorem dL_law_741 : decode cL_law 741 = .ok (.iload 7, 2) := by decide +kernel
theorem dL_law_743 : decode cL_law 743 = .ok (.i2l, 1) := by decide +kernel
theorem dL_law_744 : decode cL_law 744 = .ok (.lcmp, 1) := by decide +kernel
theorem dL_law_745 : decode cL_law 745 = .ok (.ifCond .eq 5, 3) := by decide +kernel
theorem dL_law_748 : decode cL_law 748 = .ok (.iconst 0, 1) := by decide +kernel
theorem dL_law_749 : decode cL_law 749 = .ok (.ireturn, 1) := by decide +kernel
theorem dL_law_750 : decode cL_law 750 = .ok (.goto 2270, 3) := by decide +kernel
theorem dL_law_753 : decode cL_law 753 = .ok (.aload_n 1, 1) := by decide +kernel
theorem dL_law_754 : decode cL_law 754 = .ok (.aload_n 0, 1) := by decide +kernel
theorem dL_law_755 : decode cL_law 755 = .ok (.iload 5, 2) := by decide +kernel
theorem dL_law_757 : decode cL_law 757 = .ok (.iconst 1, 1) := by decide +kernel
theorem dL_law_758 : decode cL_law 758 = .ok (.iadd, 1) := by decide +kernel
theorem dL_law_759 : decode cL_law 759 = .ok (.iaload, 1) := by decide +kernel
theorem dL_law_760 : decode cL_law 760 = .ok (.aload_n 0, 1) := by decide +kernel
theorem dL_law_761 : decode cL_law 761 = .ok (.iload 5, 2) := by decide +kernel
theorem dL_law_763 : decode cL_law 763 = .ok (.iconst 2, 1) := by decide +kernel
theorem dL_law_764 : decode cL_law 764 = .ok (.iadd, 1) := by decide +kernel
theorem dL_law_765 : decode cL_law 765 = .ok (.iaload, 1) := by decide +kernel
theorem dL_law_766 : decode cL_law 766 = .ok (.aload_n 3, 1) := by decide +kernel
theorem dL_law_767 : decode cL_law 767 = .ok (.invokestatic 204, 3) := by decide +kernel
theorem dL_law_770 : decode cL_law 770 = .ok (.istore 6, 2) := by decide +kernel
theorem dL_law_772 : decode cL_law 772 = .ok (.aload_n 2, 1) := by decide +kernel
theorem dL_law_773 : decode cL_law 773 = .ok (.aload_n 0, 1) := by decide +kernel
theorem dL_law_774 : decode cL_law 774 = .ok (.iload 5, 2) := by decide +kernel
theorem dL_law_776 : decode cL_law 776 = .ok (.iconst 1, 1) := by decide +kernel
theorem dL_law_777 : decode cL_law 777 = .ok (.iadd, 1) := by decide +kernel
theorem dL_law_778 : decode cL_law 778 = .ok (.iaload, 1) := by decide +kernel
theorem dL_law_779 : decode cL_law 779 = .ok (.aload_n 0, 1) := by decide +kernel
theorem dL_law_780 : decode cL_law 780 = .ok (.iload 5, 2) := by decide +kernel
theorem dL_law_782 : decode cL_law 782 = .ok (.iconst 2, 1) := by decide +kernel
theorem dL_law_783 : decode cL_law 783 = .ok (.iadd, 1) := by decide +kernel
theorem dL_law_784 : decode cL_law 784 = .ok (.iaload, 1) := by decide +kernel
theorem dL_law_785 : decode cL_law 785 = .ok (.invokevirtual 206, 3) := by decide +kernel
theorem dL_law_788 : decode cL_law 788 = .ok (.istore 7, 2) := by decide +kernel
theorem dL_law_790 : decode cL_law 790 = .ok (.aload_n 2, 1) := by decide +kernel
theorem dL_law_791 : decode cL_law 791 = .ok (.invokevirtual 174, 3) := by decide +kernel
theorem dL_law_794 : decode cL_law 794 = .ok (.iload 6, 2) := by decide +kernel
theorem dL_law_796 : decode cL_law 796 = .ok (.if_icmp .eq 5, 3) := by decide +kernel
theorem dL_law_799 : decode cL_law 799 = .ok (.iconst 0, 1) := by decide +kernel
theorem dL_law_800 : decode cL_law 800 = .ok (.ireturn, 1) := by decide +kernel
theorem dL_law_801 : decode cL_law 801 = .ok (.iload 6, 2) := by decide +kernel
theorem dL_law_803 : decode cL_law 803 = .ok (.ifCond .ne 15, 3) := by decide +kernel
theorem dL_law_806 : decode cL_law 806 = .ok (.aload_n 3, 1) := by decide +kernel
theorem dL_law_807 : decode cL_law 807 = .ok (.iconst 0, 1) := by decide +kernel
theorem dL_law_808 : decode cL_law 808 = .ok (.laload, 1) := by decide +kernel
theorem dL_law_809 : decode cL_law 809 = .ok (.iload 7, 2) := by decide +kernel
theorem dL_law_811 : decode cL_law 811 = .ok (.i2l, 1) := by decide +kernel
theorem dL_law_812 : decode cL_law 812 = .ok (.lcmp, 1) := by decide +kernel
theorem dL_law_813 : decode cL_law 813 = .ok (.ifCond .eq 5, 3) := by decide +kernel
theorem dL_law_816 : decode cL_law 816 = .ok (.iconst 0, 1) := by decide +kernel
theorem dL_law_817 : decode cL_law 817 = .ok (.ireturn, 1) := by decide +kernel
theorem dL_law_818 : decode cL_law 818 = .ok (.goto 2202, 3) := by decide +kernel
theorem dL_law_821 : decode cL_law 821 = .ok (.aload_n 1, 1) := by decide +kernel
theorem dL_law_822 : decode cL_law 822 = .ok (.aload_n 0, 1) := by decide +kernel
theorem dL_law_823 : decode cL_law 823 = .ok (.iload 5, 2) := by decide +kernel
theorem dL_law_825 : decode cL_law 825 = .ok (.iconst 1, 1) := by decide +kernel
theorem dL_law_826 : decode cL_law 826 = .ok (.iadd, 1) := by decide +kernel
theorem dL_law_827 : decode cL_law 827 = .ok (.iaload, 1) := by decide +kernel
theorem dL_law_828 : decode cL_law 828 = .ok (.aload_n 3, 1) := by decide +kernel
theorem dL_law_829 : decode cL_law 829 = .ok (.invokestatic 207, 3) := by decide +kernel
theorem dL_law_832 : decode cL_law 832 = .ok (.istore 6, 2) := by decide +kernel
theorem dL_law_834 : decode cL_law 834 = .ok (.aload_n 2, 1) := by decide +kernel
theorem dL_law_835 : decode cL_law 835 = .ok (.aload_n 0, 1) := by decide +kernel
theorem dL_law_836 : decode cL_law 836 = .ok (.iload 5, 2) := by decide +kernel
theorem dL_law_838 : decode cL_law 838 = .ok (.iconst 1, 1) := by decide +kernel
theorem dL_law_839 : decode cL_law 839 = .ok (.iadd, 1) := by decide +kernel
theorem dL_law_840 : decode cL_law 840 = .ok (.iaload, 1) := by decide +kernel
theorem dL_law_841 : decode cL_law 841 = .ok (.invokevirtual 209, 3) := by decide +kernel
theorem dL_law_844 : decode cL_law 844 = .ok (.istore 7, 2) := by decide +kernel
theorem dL_law_846 : decode cL_law 846 = .ok (.aload_n 2, 1) := by decide +kernel
theorem dL_law_847 : decode cL_law 847 = .ok (.invokevirtual 174, 3) := by decide +kernel
theorem dL_law_850 : decode cL_law 850 = .ok (.iload 6, 2) := by decide +kernel
theorem dL_law_852 : decode cL_law 852 = .ok (.if_icmp .eq 5, 3) := by decide +kernel
theorem dL_law_855 : decode cL_law 855 = .ok (.iconst 0, 1) := by decide +kernel
theorem dL_law_856 : decode cL_law 856 = .ok (.ireturn, 1) := by decide +kernel
theorem dL_law_857 : decode cL_law 857 = .ok (.iload 6, 2) := by decide +kernel
theorem dL_law_859 : decode cL_law 859 = .ok (.ifCond .ne 15, 3) := by decide +kernel
theorem dL_law_862 : decode cL_law 862 = .ok (.aload_n 3, 1) := by decide +kernel
theorem dL_law_863 : decode cL_law 863 = .ok (.iconst 0, 1) := by decide +kernel
theorem dL_law_864 : decode cL_law 864 = .ok (.laload, 1) := by decide +kernel
theorem dL_law_865 : decode cL_law 865 = .ok (.iload 7, 2) := by decide +kernel
theorem dL_law_867 : decode cL_law 867 = .ok (.i2l, 1) := by decide +kernel
theorem dL_law_868 : decode cL_law 868 = .ok (.lcmp, 1) := by decide +kernel
theorem dL_law_869 : decode cL_law 869 = .ok (.ifCond .eq 5, 3) := by decide +kernel
theorem dL_law_872 : decode cL_law 872 = .ok (.iconst 0, 1) := by decide +kernel
theorem dL_law_873 : decode cL_law 873 = .ok (.ireturn, 1) := by decide +kernel
theorem dL_law_874 : decode cL_law 874 = .ok (.goto 2146, 3) := by decide +kernel
theorem dL_law_877 : decode cL_law 877 = .ok (.aload_n 1, 1) := by decide +kernel
theorem dL_law_878 : decode cL_law 878 = .ok (.aload_n 0, 1) := by decide +kernel
theorem dL_law_879 : decode cL_law 879 = .ok (.iload 5, 2) := by decide +kernel
theorem dL_law_881 : decode cL_law 881 = .ok (.iconst 1, 1) := by decide +kernel
theorem dL_law_882 : decode cL_law 882 = .ok (.iadd, 1) := by decide +kernel
theorem dL_law_883 : decode cL_law 883 = .ok (.iaload, 1) := by decide +kernel
theorem dL_law_884 : decode cL_law 884 = .ok (.aload_n 3, 1) := by decide +kernel
theorem dL_law_885 : decode cL_law 885 = .ok (.invokestatic 210, 3) := by decide +kernel
theorem dL_law_888 : decode cL_law 888 = .ok (.istore 6, 2) := by decide +kernel
theorem dL_law_890 : decode cL_law 890 = .ok (.aload_n 2, 1) := by decide +kernel
theorem dL_law_891 : decode cL_law 891 = .ok (.aload_n 0, 1) := by decide +kernel
theorem dL_law_892 : decode cL_law 892 = .ok (.iload 5, 2) := by decide +kernel
theorem dL_law_894 : decode cL_law 894 = .ok (.iconst 1, 1) := by decide +kernel
theorem dL_law_895 : decode cL_law 895 = .ok (.iadd, 1) := by decide +kernel
theorem dL_law_896 : decode cL_law 896 = .ok (.iaload, 1) := by decide +kernel
theorem dL_law_897 : decode cL_law 897 = .ok (.invokevirtual 212, 3) := by decide +kernel
theorem dL_law_900 : decode cL_law 900 = .ok (.istore 7, 2) := by decide +kernel
theorem dL_law_902 : decode cL_law 902 = .ok (.aload_n 2, 1) := by decide +kernel
theorem dL_law_903 : decode cL_law 903 = .ok (.invokevirtual 174, 3) := by decide +kernel
theorem dL_law_906 : decode cL_law 906 = .ok (.iload 6, 2) := by decide +kernel
theorem dL_law_908 : decode cL_law 908 = .ok (.if_icmp .eq 5, 3) := by decide +kernel
theorem dL_law_911 : decode cL_law 911 = .ok (.iconst 0, 1) := by decide +kernel
theorem dL_law_912 : decode cL_law 912 = .ok (.ireturn, 1) := by decide +kernel
theorem dL_law_913 : decode cL_law 913 = .ok (.iload 6, 2) := by decide +kernel
theorem dL_law_915 : decode cL_law 915 = .ok (.ifCond .ne 15, 3) := by decide +kernel
theorem dL_law_918 : decode cL_law 918 = .ok (.aload_n 3, 1) := by decide +kernel
theorem dL_law_919 : decode cL_law 919 = .ok (.iconst 0, 1) := by decide +kernel
theorem dL_law_920 : decode cL_law 920 = .ok (.laload, 1) := by decide +kernel
theorem dL_law_921 : decode cL_law 921 = .ok (.iload 7, 2) := by decide +kernel
theorem dL_law_923 : decode cL_law 923 = .ok (.i2l, 1) := by decide +kernel
theorem dL_law_924 : decode cL_law 924 = .ok (.lcmp, 1) := by decide +kernel
theorem dL_law_925 : decode cL_law 925 = .ok (.ifCond .eq 5, 3) := by decide +kernel
theorem dL_law_928 : decode cL_law 928 = .ok (.iconst 0, 1) := by decide +kernel
theorem dL_law_929 : decode cL_law 929 = .ok (.ireturn, 1) := by decide +kernel
theorem dL_law_930 : decode cL_law 930 = .ok (.goto 2090, 3) := by decide +kernel
theorem dL_law_933 : decode cL_law 933 = .ok (.aload_n 1, 1) := by decide +kernel
theorem dL_law_934 : decode cL_law 934 = .ok (.aload_n 3, 1) := by decide +kernel
theorem dL_law_935 : decode cL_law 935 = .ok (.invokestatic 213, 3) := by decide +kernel
theorem dL_law_938 : decode cL_law 938 = .ok (.istore 6, 2) := by decide +kernel
theorem dL_law_940 : decode cL_law 940 = .ok (.aload_n 2, 1) := by decide +kernel
theorem dL_law_941 : decode cL_law 941 = .ok (.invokevirtual 215, 3) := by decide +kernel
theorem dL_law_944 : decode cL_law 944 = .ok (.istore 7, 2) := by decide +kernel
theorem dL_law_946 : decode cL_law 946 = .ok (.aload_n 2, 1) := by decide +kernel
theorem dL_law_947 : decode cL_law 947 = .ok (.invokevirtual 174, 3) := by decide +kernel
theorem dL_law_950 : decode cL_law 950 = .ok (.iload 6, 2) := by decide +kernel
theorem dL_law_952 : decode cL_law 952 = .ok (.if_icmp .eq 5, 3) := by decide +kernel
theorem dL_law_955 : decode cL_law 955 = .ok (.iconst 0, 1) := by decide +kernel
theorem dL_law_956 : decode cL_law 956 = .ok (.ireturn, 1) := by decide +kernel
theorem dL_law_957 : decode cL_law 957 = .ok (.iload 6, 2) := by decide +kernel
theorem dL_law_959 : decode cL_law 959 = .ok (.ifCond .ne 15, 3) := by decide +kernel
theorem dL_law_962 : decode cL_law 962 = .ok (.aload_n 3, 1) := by decide +kernel
theorem dL_law_963 : decode cL_law 963 = .ok (.iconst 0, 1) := by decide +kernel
theorem dL_law_964 : decode cL_law 964 = .ok (.laload, 1) := by decide +kernel
theorem dL_law_965 : decode cL_law 965 = .ok (.iload 7, 2) := by decide +kernel
theorem dL_law_967 : decode cL_law 967 = .ok (.i2l, 1) := by decide +kernel
theorem dL_law_968 : decode cL_law 968 = .ok (.lcmp, 1) := by decide +kernel
theorem dL_law_969 : decode cL_law 969 = .ok (.ifCond .eq 5, 3) := by decide +kernel
theorem dL_law_972 : decode cL_law 972 = .ok (.iconst 0, 1) := by decide +kernel
theorem dL_law_973 : decode cL_law 973 = .ok (.ireturn, 1) := by decide +kernel
theorem dL_law_974 : decode cL_law 974 = .ok (.goto 2046, 3) := by decide +kernel
theorem dL_law_977 : decode cL_law 977 = .ok (.aload_n 1, 1) := by decide +kernel
theorem dL_law_978 : decode cL_law 978 = .ok (.aload_n 0, 1) := by decide +kernel
theorem dL_law_979 : decode cL_law 979 = .ok (.iload 5, 2) := by decide +kernel
theorem dL_law_981 : decode cL_law 981 = .ok (.iconst 1, 1) := by decide +kernel
theorem dL_law_982 : decode cL_law 982 = .ok (.iadd, 1) := by decide +kernel
theorem dL_law_983 : decode cL_law 983 = .ok (.iaload, 1) := by decide +kernel
theorem dL_law_984 : decode cL_law 984 = .ok (.aload_n 3, 1) := by decide +kernel
theorem dL_law_985 : decode cL_law 985 = .ok (.invokestatic 216, 3) := by decide +kernel
theorem dL_law_988 : decode cL_law 988 = .ok (.istore 6, 2) := by decide +kernel
theorem dL_law_990 : decode cL_law 990 = .ok (.aload_n 2, 1) := by decide +kernel
theorem dL_law_991 : decode cL_law 991 = .ok (.aload_n 0, 1) := by decide +kernel
theorem dL_law_992 : decode cL_law 992 = .ok (.iload 5, 2) := by decide +kernel
theorem dL_law_994 : decode cL_law 994 = .ok (.iconst 1, 1) := by decide +kernel
theorem dL_law_995 : decode cL_law 995 = .ok (.iadd, 1) := by decide +kernel
theorem dL_law_996 : decode cL_law 996 = .ok (.iaload, 1) := by decide +kernel
theorem dL_law_997 : decode cL_law 997 = .ok (.invokevirtual 218, 3) := by decide +kernel
theorem dL_law_1000 : decode cL_law 1000 = .ok (.istore 7, 2) := by decide +kernel
theorem dL_law_1002 : decode cL_law 1002 = .ok (.aload_n 2, 1) := by decide +kernel
theorem dL_law_1003 : decode cL_law 1003 = .ok (.invokevirtual 174, 3) := by decide +kernel
theorem dL_law_1006 : decode cL_law 1006 = .ok (.iload 6, 2) := by decide +kernel
theorem dL_law_1008 : decode cL_law 1008 = .ok (.if_icmp .eq 5, 3) := by decide +kernel
theorem dL_law_1011 : decode cL_law 1011 = .ok (.iconst 0, 1) := by decide +kernel
theorem dL_law_1012 : decode cL_law 1012 = .ok (.ireturn, 1) := by decide +kernel
theorem dL_law_1013 : decode cL_law 1013 = .ok (.iload 6, 2) := by decide +kernel
theorem dL_law_1015 : decode cL_law 1015 = .ok (.ifCond .ne 15, 3) := by decide +kernel
theorem dL_law_1018 : decode cL_law 1018 = .ok (.aload_n 3, 1) := by decide +kernel
theorem dL_law_1019 : decode cL_law 1019 = .ok (.iconst 0, 1) := by decide +kernel
theorem dL_law_1020 : decode cL_law 1020 = .ok (.laload, 1) := by decide +kernel
theorem dL_law_1021 : decode cL_law 1021 = .ok (.iload 7, 2) := by decide +kernel
theorem dL_law_1023 : decode cL_law 1023 = .ok (.i2l, 1) := by decide +kernel
theorem dL_law_1024 : decode cL_law 1024 = .ok (.lcmp, 1) := by decide +kernel
theorem dL_law_1025 : decode cL_law 1025 = .ok (.ifCond .eq 5, 3) := by decide +kernel
theorem dL_law_1028 : decode cL_law 1028 = .ok (.iconst 0, 1) := by decide +kernel
theorem dL_law_1029 : decode cL_law 1029 = .ok (.ireturn, 1) := by decide +kernel
theorem dL_law_1030 : decode cL_law 1030 = .ok (.goto 1990, 3) := by decide +kernel
theorem dL_law_1033 : decode cL_law 1033 = .ok (.aload_n 1, 1) := by decide +kernel
theorem dL_law_1034 : decode cL_law 1034 = .ok (.aload_n 0, 1) := by decide +kernel
theorem dL_law_1035 : decode cL_law 1035 = .ok (.iload 5, 2) := by decide +kernel
theorem dL_law_1037 : decode cL_law 1037 = .ok (.iconst 1, 1) := by decide +kernel
theorem dL_law_1038 : decode cL_law 1038 = .ok (.iadd, 1) := by decide +kernel
theorem dL_law_1039 : decode cL_law 1039 = .ok (.iaload, 1) := by decide +kernel
theorem dL_law_1040 : decode cL_law 1040 = .ok (.aload_n 0, 1) := by decide +kernel
theorem dL_law_1041 : decode cL_law 1041 = .ok (.iload 5, 2) := by decide +kernel
theorem dL_law_1043 : decode cL_law 1043 = .ok (.iconst 2, 1) := by decide +kernel
theorem dL_law_1044 : decode cL_law 1044 = .ok (.iadd, 1) := by decide +kernel
theorem dL_law_1045 : decode cL_law 1045 = .ok (.iaload, 1) := by decide +kernel
theorem dL_law_1046 : decode cL_law 1046 = .ok (.aload_n 3, 1) := by decide +kernel
theorem dL_law_1047 : decode cL_law 1047 = .ok (.invokestatic 219, 3) := by decide +kernel
theorem dL_law_1050 : decode cL_law 1050 = .ok (.istore 6, 2) := by decide +kernel
theorem dL_law_1052 : decode cL_law 1052 = .ok (.aload_n 2, 1) := by decide +kernel
theorem dL_law_1053 : decode cL_law 1053 = .ok (.aload_n 0, 1) := by decide +kernel
theorem dL_law_1054 : decode cL_law 1054 = .ok (.iload 5, 2) := by decide +kernel
theorem dL_law_1056 : decode cL_law 1056 = .ok (.iconst 1, 1) := by decide +kernel
theorem dL_law_1057 : decode cL_law 1057 = .ok (.iadd, 1) := by decide +kernel
theorem dL_law_1058 : decode cL_law 1058 = .ok (.iaload, 1) := by decide +kernel
theorem dL_law_1059 : decode cL_law 1059 = .ok (.aload_n 0, 1) := by decide +kernel
theorem dL_law_1060 : decode cL_law 1060 = .ok (.iload 5, 2) := by decide +kernel
theorem dL_law_1062 : decode cL_law 1062 = .ok (.iconst 2, 1) := by decide +kernel
theorem dL_law_1063 : decode cL_law 1063 = .ok (.iadd, 1) := by decide +kernel
theorem dL_law_1064 : decode cL_law 1064 = .ok (.iaload, 1) := by decide +kernel
theorem dL_law_1065 : decode cL_law 1065 = .ok (.invokevirtual 221, 3) := by decide +kernel
theorem dL_law_1068 : decode cL_law 1068 = .ok (.istore 7, 2) := by decide +kernel
theorem dL_law_1070 : decode cL_law 1070 = .ok (.aload_n 2, 1) := by decide +kernel
theorem dL_law_1071 : decode cL_law 1071 = .ok (.invokevirtual 174, 3) := by decide +kernel
theorem dL_law_1074 : decode cL_law 1074 = .ok (.iload 6, 2) := by decide +kernel
theorem dL_law_1076 : decode cL_law 1076 = .ok (.if_icmp .eq 5, 3) := by decide +kernel
theorem dL_law_1079 : decode cL_law 1079 = .ok (.iconst 0, 1) := by decide +kernel
theorem dL_law_1080 : decode cL_law 1080 = .ok (.ireturn, 1) := by decide +kernel
theorem dL_law_1081 : decode cL_law 1081 = .ok (.iload 6, 2) := by decide +kernel
theorem dL_law_1083 : decode cL_law 1083 = .ok (.ifCond .ne 15, 3) := by decide +kernel
theorem dL_law_1086 : decode cL_law 1086 = .ok (.aload_n 3, 1) := by decide +kernel
theorem dL_law_1087 : decode cL_law 1087 = .ok (.iconst 0, 1) := by decide +kernel
theorem dL_law_1088 : decode cL_law 1088 = .ok (.laload, 1) := by decide +kernel
theorem dL_law_1089 : decode cL_law 1089 = .ok (.iload 7, 2) := by decide +kernel
theorem dL_law_1091 : decode cL_law 1091 = .ok (.i2l, 1) := by decide +kernel
theorem dL_law_1092 : decode cL_law 1092 = .ok (.lcmp, 1) := by decide +kernel
theorem dL_law_1093 : decode cL_law 1093 = .ok (.ifCond .eq 5, 3) := by decide +kernel
theorem dL_law_1096 : decode cL_law 1096 = .ok (.iconst 0, 1) := by decide +kernel
theorem dL_law_1097 : decode cL_law 1097 = .ok (.ireturn, 1) := by decide +kernel
theorem dL_law_1098 : decode cL_law 1098 = .ok (.goto 1922, 3) := by decide +kernel
theorem dL_law_1101 : decode cL_law 1101 = .ok (.aload_n 1, 1) := by decide +kernel
theorem dL_law_1102 : decode cL_law 1102 = .ok (.aload_n 0, 1) := by decide +kernel
theorem dL_law_1103 : decode cL_law 1103 = .ok (.iload 5, 2) := by decide +kernel
theorem dL_law_1105 : decode cL_law 1105 = .ok (.iconst 1, 1) := by decide +kernel
theorem dL_law_1106 : decode cL_law 1106 = .ok (.iadd, 1) := by decide +kernel
theorem dL_law_1107 : decode cL_law 1107 = .ok (.iaload, 1) := by decide +kernel
theorem dL_law_1108 : decode cL_law 1108 = .ok (.aload_n 0, 1) := by decide +kernel
theorem dL_law_1109 : decode cL_law 1109 = .ok (.iload 5, 2) := by decide +kernel
theorem dL_law_1111 : decode cL_law 1111 = .ok (.iconst 2, 1) := by decide +kernel
theorem dL_law_1112 : decode cL_law 1112 = .ok (.iadd, 1) := by decide +kernel
theorem dL_law_1113 : decode cL_law 1113 = .ok (.iaload, 1) := by decide +kernel
theorem dL_law_1114 : decode cL_law 1114 = .ok (.ifCond .eq 7, 3) := by decide +kernel
theorem dL_law_1117 : decode cL_law 1117 = .ok (.iconst 1, 1) := by decide +kernel
theorem dL_law_1118 : decode cL_law 1118 = .ok (.goto 4, 3) := by decide +kernel
theorem dL_law_1121 : decode cL_law 1121 = .ok (.iconst 0, 1) := by decide +kernel
theorem dL_law_1122 : decode cL_law 1122 = .ok (.aload_n 3, 1) := by decide +kernel
theorem dL_law_1123 : decode cL_law 1123 = .ok (.invokestatic 222, 3) := by decide +kernel
theorem dL_law_1126 : decode cL_law 1126 = .ok (.istore 6, 2) := by decide +kernel
theorem dL_law_1128 : decode cL_law 1128 = .ok (.aload_n 2, 1) := by decide +kernel
theorem dL_law_1129 : decode cL_law 1129 = .ok (.aload_n 0, 1) := by decide +kernel
theorem dL_law_1130 : decode cL_law 1130 = .ok (.iload 5, 2) := by decide +kernel
theorem dL_law_1132 : decode cL_law 1132 = .ok (.iconst 1, 1) := by decide +kernel
theorem dL_law_1133 : decode cL_law 1133 = .ok (.iadd, 1) := by decide +kernel
theorem dL_law_1134 : decode cL_law 1134 = .ok (.iaload, 1) := by decide +kernel
theorem dL_law_1135 : decode cL_law 1135 = .ok (.aload_n 0, 1) := by decide +kernel
theorem dL_law_1136 : decode cL_law 1136 = .ok (.iload 5, 2) := by decide +kernel
theorem dL_law_1138 : decode cL_law 1138 = .ok (.iconst 2, 1) := by decide +kernel
theorem dL_law_1139 : decode cL_law 1139 = .ok (.iadd, 1) := by decide +kernel
theorem dL_law_1140 : decode cL_law 1140 = .ok (.iaload, 1) := by decide +kernel
theorem dL_law_1141 : decode cL_law 1141 = .ok (.ifCond .eq 7, 3) := by decide +kernel
theorem dL_law_1144 : decode cL_law 1144 = .ok (.iconst 1, 1) := by decide +kernel
theorem dL_law_1145 : decode cL_law 1145 = .ok (.goto 4, 3) := by decide +kernel
theorem dL_law_1148 : decode cL_law 1148 = .ok (.iconst 0, 1) := by decide +kernel
theorem dL_law_1149 : decode cL_law 1149 = .ok (.invokevirtual 225, 3) := by decide +kernel
theorem dL_law_1152 : decode cL_law 1152 = .ok (.istore 7, 2) := by decide +kernel
theorem dL_law_1154 : decode cL_law 1154 = .ok (.aload_n 2, 1) := by decide +kernel
theorem dL_law_1155 : decode cL_law 1155 = .ok (.invokevirtual 174, 3) := by decide +kernel
theorem dL_law_1158 : decode cL_law 1158 = .ok (.iload 6, 2) := by decide +kernel
theorem dL_law_1160 : decode cL_law 1160 = .ok (.if_icmp .eq 5, 3) := by decide +kernel
theorem dL_law_1163 : decode cL_law 1163 = .ok (.iconst 0, 1) := by decide +kernel
theorem dL_law_1164 : decode cL_law 1164 = .ok (.ireturn, 1) := by decide +kernel
theorem dL_law_1165 : decode cL_law 1165 = .ok (.iload 6, 2) := by decide +kernel
theorem dL_law_1167 : decode cL_law 1167 = .ok (.ifCond .ne 15, 3) := by decide +kernel
theorem dL_law_1170 : decode cL_law 1170 = .ok (.aload_n 3, 1) := by decide +kernel
theorem dL_law_1171 : decode cL_law 1171 = .ok (.iconst 0, 1) := by decide +kernel
theorem dL_law_1172 : decode cL_law 1172 = .ok (.laload, 1) := by decide +kernel
theorem dL_law_1173 : decode cL_law 1173 = .ok (.iload 7, 2) := by decide +kernel
theorem dL_law_1175 : decode cL_law 1175 = .ok (.i2l, 1) := by decide +kernel
theorem dL_law_1176 : decode cL_law 1176 = .ok (.lcmp, 1) := by decide +kernel
theorem dL_law_1177 : decode cL_law 1177 = .ok (.ifCond .eq 5, 3) := by decide +kernel
theorem dL_law_1180 : decode cL_law 1180 = .ok (.iconst 0, 1) := by decide +kernel
theorem dL_law_1181 : decode cL_law 1181 = .ok (.ireturn, 1) := by decide +kernel
theorem dL_law_1182 : decode cL_law 1182 = .ok (.goto 1838, 3) := by decide +kernel
theorem dL_law_1185 : decode cL_law 1185 = .ok (.aload_n 1, 1) := by decide +kernel
theorem dL_law_1186 : decode cL_law 1186 = .ok (.aload_n 0, 1) := by decide +kernel
theorem dL_law_1187 : decode cL_law 1187 = .ok (.iload 5, 2) := by decide +kernel
theorem dL_law_1189 : decode cL_law 1189 = .ok (.iconst 1, 1) := by decide +kernel
theorem dL_law_1190 : decode cL_law 1190 = .ok (.iadd, 1) := by decide +kernel
theorem dL_law_1191 : decode cL_law 1191 = .ok (.iaload, 1) := by decide +kernel
theorem dL_law_1192 : decode cL_law 1192 = .ok (.aload_n 0, 1) := by decide +kernel
theorem dL_law_1193 : decode cL_law 1193 = .ok (.iload 5, 2) := by decide +kernel
theorem dL_law_1195 : decode cL_law 1195 = .ok (.iconst 2, 1) := by decide +kernel
theorem dL_law_1196 : decode cL_law 1196 = .ok (.iadd, 1) := by decide +kernel
theorem dL_law_1197 : decode cL_law 1197 = .ok (.iaload, 1) := by decide +kernel
theorem dL_law_1198 : decode cL_law 1198 = .ok (.aload_n 0, 1) := by decide +kernel
theorem dL_law_1199 : decode cL_law 1199 = .ok (.iload 5, 2) := by decide +kernel
theorem dL_law_1201 : decode cL_law 1201 = .ok (.iconst 3, 1) := by decide +kernel
theorem dL_law_1202 : decode cL_law 1202 = .ok (.iadd, 1) := by decide +kernel
theorem dL_law_1203 : decode cL_law 1203 = .ok (.iaload, 1) := by decide +kernel
theorem dL_law_1204 : decode cL_law 1204 = .ok (.ifCond .eq 7, 3) := by decide +kernel
theorem dL_law_1207 : decode cL_law 1207 = .ok (.iconst 1, 1) := by decide +kernel
theorem dL_law_1208 : decode cL_law 1208 = .ok (.goto 4, 3) := by decide +kernel
theorem dL_law_1211 : decode cL_law 1211 = .ok (.iconst 0, 1) := by decide +kernel
theorem dL_law_1212 : decode cL_law 1212 = .ok (.aload_n 3, 1) := by decide +kernel
theorem dL_law_1213 : decode cL_law 1213 = .ok (.invokestatic 226, 3) := by decide +kernel
theorem dL_law_1216 : decode cL_law 1216 = .ok (.istore 6, 2) := by decide +kernel
theorem dL_law_1218 : decode cL_law 1218 = .ok (.aload_n 2, 1) := by decide +kernel
theorem dL_law_1219 : decode cL_law 1219 = .ok (.aload_n 0, 1) := by decide +kernel
theorem dL_law_1220 : decode cL_law 1220 = .ok (.iload 5, 2) := by decide +kernel
theorem dL_law_1222 : decode cL_law 1222 = .ok (.iconst 1, 1) := by decide +kernel
theorem dL_law_1223 : decode cL_law 1223 = .ok (.iadd, 1) := by decide +kernel
theorem dL_law_1224 : decode cL_law 1224 = .ok (.iaload, 1) := by decide +kernel
theorem dL_law_1225 : decode cL_law 1225 = .ok (.aload_n 0, 1) := by decide +kernel
theorem dL_law_1226 : decode cL_law 1226 = .ok (.iload 5, 2) := by decide +kernel
theorem dL_law_1228 : decode cL_law 1228 = .ok (.iconst 2, 1) := by decide +kernel
theorem dL_law_1229 : decode cL_law 1229 = .ok (.iadd, 1) := by decide +kernel
theorem dL_law_1230 : decode cL_law 1230 = .ok (.iaload, 1) := by decide +kernel
theorem dL_law_1231 : decode cL_law 1231 = .ok (.aload_n 0, 1) := by decide +kernel
theorem dL_law_1232 : decode cL_law 1232 = .ok (.iload 5, 2) := by decide +kernel
theorem dL_law_1234 : decode cL_law 1234 = .ok (.iconst 3, 1) := by decide +kernel
theorem dL_law_1235 : decode cL_law 1235 = .ok (.iadd, 1) := by decide +kernel
theorem dL_law_1236 : decode cL_law 1236 = .ok (.iaload, 1) := by decide +kernel
theorem dL_law_1237 : decode cL_law 1237 = .ok (.ifCond .eq 7, 3) := by decide +kernel
theorem dL_law_1240 : decode cL_law 1240 = .ok (.iconst 1, 1) := by decide +kernel
theorem dL_law_1241 : decode cL_law 1241 = .ok (.goto 4, 3) := by decide +kernel
theorem dL_law_1244 : decode cL_law 1244 = .ok (.iconst 0, 1) := by decide +kernel
theorem dL_law_1245 : decode cL_law 1245 = .ok (.invokevirtual 229, 3) := by decide +kernel
theorem dL_law_1248 : decode cL_law 1248 = .ok (.istore 7, 2) := by decide +kernel
theorem dL_law_1250 : decode cL_law 1250 = .ok (.aload_n 2, 1) := by decide +kernel
theorem dL_law_1251 : decode cL_law 1251 = .ok (.invokevirtual 174, 3) := by decide +kernel
theorem dL_law_1254 : decode cL_law 1254 = .ok (.iload 6, 2) := by decide +kernel
theorem dL_law_1256 : decode cL_law 1256 = .ok (.if_icmp .eq 5, 3) := by decide +kernel
theorem dL_law_1259 : decode cL_law 1259 = .ok (.iconst 0, 1) := by decide +kernel
theorem dL_law_1260 : decode cL_law 1260 = .ok (.ireturn, 1) := by decide +kernel
theorem dL_law_1261 : decode cL_law 1261 = .ok (.iload 6, 2) := by decide +kernel
theorem dL_law_1263 : decode cL_law 1263 = .ok (.ifCond .ne 15, 3) := by decide +kernel
theorem dL_law_1266 : decode cL_law 1266 = .ok (.aload_n 3, 1) := by decide +kernel
theorem dL_law_1267 : decode cL_law 1267 = .ok (.iconst 0, 1) := by decide +kernel
theorem dL_law_1268 : decode cL_law 1268 = .ok (.laload, 1) := by decide +kernel
theorem dL_law_1269 : decode cL_law 1269 = .ok (.iload 7, 2) := by decide +kernel
theorem dL_law_1271 : decode cL_law 1271 = .ok (.i2l, 1) := by decide +kernel
theorem dL_law_1272 : decode cL_law 1272 = .ok (.lcmp, 1) := by decide +kernel
theorem dL_law_1273 : decode cL_law 1273 = .ok (.ifCond .eq 5, 3) := by decide +kernel
theorem dL_law_1276 : decode cL_law 1276 = .ok (.iconst 0, 1) := by decide +kernel
theorem dL_law_1277 : decode cL_law 1277 = .ok (.ireturn, 1) := by decide +kernel
theorem dL_law_1278 : decode cL_law 1278 = .ok (.goto 1742, 3) := by decide +kernel
theorem dL_law_1281 : decode cL_law 1281 = .ok (.aload_n 1, 1) := by decide +kernel
theorem dL_law_1282 : decode cL_law 1282 = .ok (.aload_n 0, 1) := by decide +kernel
theorem dL_law_1283 : decode cL_law 1283 = .ok (.iload 5, 2) := by decide +kernel
theorem dL_law_1285 : decode cL_law 1285 = .ok (.iconst 1, 1) := by decide +kernel
theorem dL_law_1286 : decode cL_law 1286 = .ok (.iadd, 1) := by decide +kernel
theorem dL_law_1287 : decode cL_law 1287 = .ok (.iaload, 1) := by decide +kernel
theorem dL_law_1288 : decode cL_law 1288 = .ok (.aload_n 0, 1) := by decide +kernel
theorem dL_law_1289 : decode cL_law 1289 = .ok (.iload 5, 2) := by decide +kernel
theorem dL_law_1291 : decode cL_law 1291 = .ok (.iconst 2, 1) := by decide +kernel
theorem dL_law_1292 : decode cL_law 1292 = .ok (.iadd, 1) := by decide +kernel
theorem dL_law_1293 : decode cL_law 1293 = .ok (.iaload, 1) := by decide +kernel
theorem dL_law_1294 : decode cL_law 1294 = .ok (.aload_n 0, 1) := by decide +kernel
theorem dL_law_1295 : decode cL_law 1295 = .ok (.iload 5, 2) := by decide +kernel
theorem dL_law_1297 : decode cL_law 1297 = .ok (.iconst 3, 1) := by decide +kernel
theorem dL_law_1298 : decode cL_law 1298 = .ok (.iadd, 1) := by decide +kernel
theorem dL_law_1299 : decode cL_law 1299 = .ok (.iaload, 1) := by decide +kernel
theorem dL_law_1300 : decode cL_law 1300 = .ok (.aload_n 3, 1) := by decide +kernel
theorem dL_law_1301 : decode cL_law 1301 = .ok (.invokestatic 230, 3) := by decide +kernel
theorem dL_law_1304 : decode cL_law 1304 = .ok (.istore 6, 2) := by decide +kernel
theorem dL_law_1306 : decode cL_law 1306 = .ok (.aload_n 2, 1) := by decide +kernel
theorem dL_law_1307 : decode cL_law 1307 = .ok (.aload_n 0, 1) := by decide +kernel
theorem dL_law_1308 : decode cL_law 1308 = .ok (.iload 5, 2) := by decide +kernel
theorem dL_law_1310 : decode cL_law 1310 = .ok (.iconst 1, 1) := by decide +kernel
theorem dL_law_1311 : decode cL_law 1311 = .ok (.iadd, 1) := by decide +kernel
theorem dL_law_1312 : decode cL_law 1312 = .ok (.iaload, 1) := by decide +kernel
theorem dL_law_1313 : decode cL_law 1313 = .ok (.aload_n 0, 1) := by decide +kernel
theorem dL_law_1314 : decode cL_law 1314 = .ok (.iload 5, 2) := by decide +kernel
theorem dL_law_1316 : decode cL_law 1316 = .ok (.iconst 2, 1) := by decide +kernel
theorem dL_law_1317 : decode cL_law 1317 = .ok (.iadd, 1) := by decide +kernel
theorem dL_law_1318 : decode cL_law 1318 = .ok (.iaload, 1) := by decide +kernel
theorem dL_law_1319 : decode cL_law 1319 = .ok (.aload_n 0, 1) := by decide +kernel
theorem dL_law_1320 : decode cL_law 1320 = .ok (.iload 5, 2) := by decide +kernel
theorem dL_law_1322 : decode cL_law 1322 = .ok (.iconst 3, 1) := by decide +kernel
theorem dL_law_1323 : decode cL_law 1323 = .ok (.iadd, 1) := by decide +kernel
theorem dL_law_1324 : decode cL_law 1324 = .ok (.iaload, 1) := by decide +kernel
theorem dL_law_1325 : decode cL_law 1325 = .ok (.invokevirtual 233, 3) := by decide +kernel
theorem dL_law_1328 : decode cL_law 1328 = .ok (.istore 7, 2) := by decide +kernel
theorem dL_law_1330 : decode cL_law 1330 = .ok (.aload_n 2, 1) := by decide +kernel
theorem dL_law_1331 : decode cL_law 1331 = .ok (.invokevirtual 174, 3) := by decide +kernel
theorem dL_law_1334 : decode cL_law 1334 = .ok (.iload 6, 2) := by decide +kernel
theorem dL_law_1336 : decode cL_law 1336 = .ok (.if_icmp .eq 5, 3) := by decide +kernel
theorem dL_law_1339 : decode cL_law 1339 = .ok (.iconst 0, 1) := by decide +kernel
theorem dL_law_1340 : decode cL_law 1340 = .ok (.ireturn, 1) := by decide +kernel
theorem dL_law_1341 : decode cL_law 1341 = .ok (.iload 6, 2) := by decide +kernel
theorem dL_law_1343 : decode cL_law 1343 = .ok (.ifCond .ne 15, 3) := by decide +kernel
theorem dL_law_1346 : decode cL_law 1346 = .ok (.aload_n 3, 1) := by decide +kernel
theorem dL_law_1347 : decode cL_law 1347 = .ok (.iconst 0, 1) := by decide +kernel
theorem dL_law_1348 : decode cL_law 1348 = .ok (.laload, 1) := by decide +kernel
theorem dL_law_1349 : decode cL_law 1349 = .ok (.iload 7, 2) := by decide +kernel
theorem dL_law_1351 : decode cL_law 1351 = .ok (.i2l, 1) := by decide +kernel
theorem dL_law_1352 : decode cL_law 1352 = .ok (.lcmp, 1) := by decide +kernel
theorem dL_law_1353 : decode cL_law 1353 = .ok (.ifCond .eq 5, 3) := by decide +kernel
theorem dL_law_1356 : decode cL_law 1356 = .ok (.iconst 0, 1) := by decide +kernel
theorem dL_law_1357 : decode cL_law 1357 = .ok (.ireturn, 1) := by decide +kernel
theorem dL_law_1358 : decode cL_law 1358 = .ok (.goto 1662, 3) := by decide +kernel
theorem dL_law_1361 : decode cL_law 1361 = .ok (.aload_n 1, 1) := by decide +kernel
theorem dL_law_1362 : decode cL_law 1362 = .ok (.aload_n 0, 1) := by decide +kernel
theorem dL_law_1363 : decode cL_law 1363 = .ok (.iload 5, 2) := by decide +kernel
theorem dL_law_1365 : decode cL_law 1365 = .ok (.iconst 1, 1) := by decide +kernel
theorem dL_law_1366 : decode cL_law 1366 = .ok (.iadd, 1) := by decide +kernel
theorem dL_law_1367 : decode cL_law 1367 = .ok (.iaload, 1) := by decide +kernel
theorem dL_law_1368 : decode cL_law 1368 = .ok (.aload_n 3, 1) := by decide +kernel
theorem dL_law_1369 : decode cL_law 1369 = .ok (.invokestatic 234, 3) := by decide +kernel
theorem dL_law_1372 : decode cL_law 1372 = .ok (.istore 6, 2) := by decide +kernel
theorem dL_law_1374 : decode cL_law 1374 = .ok (.aload_n 2, 1) := by decide +kernel
theorem dL_law_1375 : decode cL_law 1375 = .ok (.aload_n 0, 1) := by decide +kernel
theorem dL_law_1376 : decode cL_law 1376 = .ok (.iload 5, 2) := by decide +kernel
theorem dL_law_1378 : decode cL_law 1378 = .ok (.iconst 1, 1) := by decide +kernel
theorem dL_law_1379 : decode cL_law 1379 = .ok (.iadd, 1) := by decide +kernel
theorem dL_law_1380 : decode cL_law 1380 = .ok (.iaload, 1) := by decide +kernel
theorem dL_law_1381 : decode cL_law 1381 = .ok (.invokevirtual 236, 3) := by decide +kernel
theorem dL_law_1384 : decode cL_law 1384 = .ok (.istore 7, 2) := by decide +kernel
theorem dL_law_1386 : decode cL_law 1386 = .ok (.aload_n 2, 1) := by decide +kernel
theorem dL_law_1387 : decode cL_law 1387 = .ok (.invokevirtual 174, 3) := by decide +kernel
theorem dL_law_1390 : decode cL_law 1390 = .ok (.iload 6, 2) := by decide +kernel
theorem dL_law_1392 : decode cL_law 1392 = .ok (.if_icmp .eq 5, 3) := by decide +kernel
theorem dL_law_1395 : decode cL_law 1395 = .ok (.iconst 0, 1) := by decide +kernel
theorem dL_law_1396 : decode cL_law 1396 = .ok (.ireturn, 1) := by decide +kernel
theorem dL_law_1397 : decode cL_law 1397 = .ok (.iload 6, 2) := by decide +kernel
theorem dL_law_1399 : decode cL_law 1399 = .ok (.ifCond .ne 15, 3) := by decide +kernel
theorem dL_law_1402 : decode cL_law 1402 = .ok (.aload_n 3, 1) := by decide +kernel
theorem dL_law_1403 : decode cL_law 1403 = .ok (.iconst 0, 1) := by decide +kernel
theorem dL_law_1404 : decode cL_law 1404 = .ok (.laload, 1) := by decide +kernel
theorem dL_law_1405 : decode cL_law 1405 = .ok (.iload 7, 2) := by decide +kernel
theorem dL_law_1407 : decode cL_law 1407 = .ok (.i2l, 1) := by decide +kernel
theorem dL_law_1408 : decode cL_law 1408 = .ok (.lcmp, 1) := by decide +kernel
theorem dL_law_1409 : decode cL_law 1409 = .ok (.ifCond .eq 5, 3) := by decide +kernel
theorem dL_law_1412 : decode cL_law 1412 = .ok (.iconst 0, 1) := by decide +kernel
theorem dL_law_1413 : decode cL_law 1413 = .ok (.ireturn, 1) := by decide +kernel
theorem dL_law_1414 : decode cL_law 1414 = .ok (.goto 1606, 3) := by decide +kernel
theorem dL_law_1417 : decode cL_law 1417 = .ok (.aload_n 1, 1) := by decide +kernel
theorem dL_law_1418 : decode cL_law 1418 = .ok (.aload_n 0, 1) := by decide +kernel
theorem dL_law_1419 : decode cL_law 1419 = .ok (.iload 5, 2) := by decide +kernel
theorem dL_law_1421 : decode cL_law 1421 = .ok (.iconst 1, 1) := by decide +kernel
theorem dL_law_1422 : decode cL_law 1422 = .ok (.iadd, 1) := by decide +kernel
theorem dL_law_1423 : decode cL_law 1423 = .ok (.iaload, 1) := by decide +kernel
theorem dL_law_1424 : decode cL_law 1424 = .ok (.aload_n 0, 1) := by decide +kernel
theorem dL_law_1425 : decode cL_law 1425 = .ok (.iload 5, 2) := by decide +kernel
theorem dL_law_1427 : decode cL_law 1427 = .ok (.iconst 2, 1) := by decide +kernel
theorem dL_law_1428 : decode cL_law 1428 = .ok (.iadd, 1) := by decide +kernel
theorem dL_law_1429 : decode cL_law 1429 = .ok (.iaload, 1) := by decide +kernel
theorem dL_law_1430 : decode cL_law 1430 = .ok (.aload_n 3, 1) := by decide +kernel
theorem dL_law_1431 : decode cL_law 1431 = .ok (.invokestatic 237, 3) := by decide +kernel
theorem dL_law_1434 : decode cL_law 1434 = .ok (.istore 6, 2) := by decide +kernel
theorem dL_law_1436 : decode cL_law 1436 = .ok (.aload_n 2, 1) := by decide +kernel
theorem dL_law_1437 : decode cL_law 1437 = .ok (.aload_n 0, 1) := by decide +kernel
theorem dL_law_1438 : decode cL_law 1438 = .ok (.iload 5, 2) := by decide +kernel
theorem dL_law_1440 : decode cL_law 1440 = .ok (.iconst 1, 1) := by decide +kernel
theorem dL_law_1441 : decode cL_law 1441 = .ok (.iadd, 1) := by decide +kernel
theorem dL_law_1442 : decode cL_law 1442 = .ok (.iaload, 1) := by decide +kernel
theorem dL_law_1443 : decode cL_law 1443 = .ok (.aload_n 0, 1) := by decide +kernel
theorem dL_law_1444 : decode cL_law 1444 = .ok (.iload 5, 2) := by decide +kernel
theorem dL_law_1446 : decode cL_law 1446 = .ok (.iconst 2, 1) := by decide +kernel
theorem dL_law_1447 : decode cL_law 1447 = .ok (.iadd, 1) := by decide +kernel
theorem dL_law_1448 : decode cL_law 1448 = .ok (.iaload, 1) := by decide +kernel
theorem dL_law_1449 : decode cL_law 1449 = .ok (.invokevirtual 239, 3) := by decide +kernel
theorem dL_law_1452 : decode cL_law 1452 = .ok (.istore 7, 2) := by decide +kernel
theorem dL_law_1454 : decode cL_law 1454 = .ok (.aload_n 2, 1) := by decide +kernel
theorem dL_law_1455 : decode cL_law 1455 = .ok (.invokevirtual 174, 3) := by decide +kernel
theorem dL_law_1458 : decode cL_law 1458 = .ok (.iload 6, 2) := by decide +kernel
theorem dL_law_1460 : decode cL_law 1460 = .ok (.if_icmp .eq 5, 3) := by decide +kernel
theorem dL_law_1463 : decode cL_law 1463 = .ok (.iconst 0, 1) := by decide +kernel
theorem dL_law_1464 : decode cL_law 1464 = .ok (.ireturn, 1) := by decide +kernel
theorem dL_law_1465 : decode cL_law 1465 = .ok (.iload 6, 2) := by decide +kernel
theorem dL_law_1467 : decode cL_law 1467 = .ok (.ifCond .ne 15, 3) := by decide +kernel
theorem dL_law_1470 : decode cL_law 1470 = .ok (.aload_n 3, 1) := by decide +kernel
theorem dL_law_1471 : decode cL_law 1471 = .ok (.iconst 0, 1) := by decide +kernel
theorem dL_law_1472 : decode cL_law 1472 = .ok (.laload, 1) := by decide +kernel
theorem dL_law_1473 : decode cL_law 1473 = .ok (.iload 7, 2) := by decide +kernel
theorem dL_law_1475 : decode cL_law 1475 = .ok (.i2l, 1) := by decide +kernel
theorem dL_law_1476 : decode cL_law 1476 = .ok (.lcmp, 1) := by decide +kernel
theorem dL_law_1477 : decode cL_law 1477 = .ok (.ifCond .eq 5, 3) := by decide +kernel
theorem dL_law_1480 : decode cL_law 1480 = .ok (.iconst 0, 1) := by decide +kernel
theorem dL_law_1481 : decode cL_law 1481 = .ok (.ireturn, 1) := by decide +kernel
theorem dL_law_1482 : decode cL_law 1482 = .ok (.goto 1538, 3) := by decide +kernel
theorem dL_law_1485 : decode cL_law 1485 = .ok (.aload_n 1, 1) := by decide +kernel
theorem dL_law_1486 : decode cL_law 1486 = .ok (.aload_n 0, 1) := by decide +kernel
theorem dL_law_1487 : decode cL_law 1487 = .ok (.iload 5, 2) := by decide +kernel
theorem dL_law_1489 : decode cL_law 1489 = .ok (.iconst 1, 1) := by decide +kernel
theorem dL_law_1490 : decode cL_law 1490 = .ok (.iadd, 1) := by decide +kernel
theorem dL_law_1491 : decode cL_law 1491 = .ok (.iaload, 1) := by decide +kernel
theorem dL_law_1492 : decode cL_law 1492 = .ok (.aload_n 3, 1) := by decide +kernel
theorem dL_law_1493 : decode cL_law 1493 = .ok (.invokestatic 240, 3) := by decide +kernel
theorem dL_law_1496 : decode cL_law 1496 = .ok (.istore 6, 2) := by decide +kernel
theorem dL_law_1498 : decode cL_law 1498 = .ok (.aload_n 2, 1) := by decide +kernel
theorem dL_law_1499 : decode cL_law 1499 = .ok (.aload_n 0, 1) := by decide +kernel
theorem dL_law_1500 : decode cL_law 1500 = .ok (.iload 5, 2) := by decide +kernel
theorem dL_law_1502 : decode cL_law 1502 = .ok (.iconst 1, 1) := by decide +kernel
theorem dL_law_1503 : decode cL_law 1503 = .ok (.iadd, 1) := by decide +kernel
theorem dL_law_1504 : decode cL_law 1504 = .ok (.iaload, 1) := by decide +kernel
theorem dL_law_1505 : decode cL_law 1505 = .ok (.invokevirtual 242, 3) := by decide +kernel
theorem dL_law_1508 : decode cL_law 1508 = .ok (.istore 7, 2) := by decide +kernel
theorem dL_law_1510 : decode cL_law 1510 = .ok (.aload_n 2, 1) := by decide +kernel
theorem dL_law_1511 : decode cL_law 1511 = .ok (.invokevirtual 174, 3) := by decide +kernel
theorem dL_law_1514 : decode cL_law 1514 = .ok (.iload 6, 2) := by decide +kernel
theorem dL_law_1516 : decode cL_law 1516 = .ok (.if_icmp .eq 5, 3) := by decide +kernel
theorem dL_law_1519 : decode cL_law 1519 = .ok (.iconst 0, 1) := by decide +kernel
theorem dL_law_1520 : decode cL_law 1520 = .ok (.ireturn, 1) := by decide +kernel
theorem dL_law_1521 : decode cL_law 1521 = .ok (.iload 6, 2) := by decide +kernel
theorem dL_law_1523 : decode cL_law 1523 = .ok (.ifCond .ne 15, 3) := by decide +kernel
theorem dL_law_1526 : decode cL_law 1526 = .ok (.aload_n 3, 1) := by decide +kernel
theorem dL_law_1527 : decode cL_law 1527 = .ok (.iconst 0, 1) := by decide +kernel
theorem dL_law_1528 : decode cL_law 1528 = .ok (.laload, 1) := by decide +kernel
theorem dL_law_1529 : decode cL_law 1529 = .ok (.iload 7, 2) := by decide +kernel
theorem dL_law_1531 : decode cL_law 1531 = .ok (.i2l, 1) := by decide +kernel
theorem dL_law_1532 : decode cL_law 1532 = .ok (.lcmp, 1) := by decide +kernel
theorem dL_law_1533 : decode cL_law 1533 = .ok (.ifCond .eq 5, 3) := by decide +kernel
theorem dL_law_1536 : decode cL_law 1536 = .ok (.iconst 0, 1) := by decide +kernel
theorem dL_law_1537 : decode cL_law 1537 = .ok (.ireturn, 1) := by decide +kernel
theorem dL_law_1538 : decode cL_law 1538 = .ok (.goto 1482, 3) := by decide +kernel
theorem dL_law_1541 : decode cL_law 1541 = .ok (.aload_n 1, 1) := by decide +kernel
theorem dL_law_1542 : decode cL_law 1542 = .ok (.aload_n 0, 1) := by decide +kernel
theorem dL_law_1543 : decode cL_law 1543 = .ok (.iload 5, 2) := by decide +kernel
theorem dL_law_1545 : decode cL_law 1545 = .ok (.iconst 1, 1) := by decide +kernel
theorem dL_law_1546 : decode cL_law 1546 = .ok (.iadd, 1) := by decide +kernel
theorem dL_law_1547 : decode cL_law 1547 = .ok (.iaload, 1) := by decide +kernel
theorem dL_law_1548 : decode cL_law 1548 = .ok (.aload_n 0, 1) := by decide +kernel
theorem dL_law_1549 : decode cL_law 1549 = .ok (.iload 5, 2) := by decide +kernel
theorem dL_law_1551 : decode cL_law 1551 = .ok (.iconst 2, 1) := by decide +kernel
theorem dL_law_1552 : decode cL_law 1552 = .ok (.iadd, 1) := by decide +kernel
theorem dL_law_1553 : decode cL_law 1553 = .ok (.iaload, 1) := by decide +kernel
theorem dL_law_1554 : decode cL_law 1554 = .ok (.aload_n 3, 1) := by decide +kernel
theorem dL_law_1555 : decode cL_law 1555 = .ok (.invokestatic 243, 3) := by decide +kernel
theorem dL_law_1558 : decode cL_law 1558 = .ok (.istore 6, 2) := by decide +kernel
theorem dL_law_1560 : decode cL_law 1560 = .ok (.aload_n 2, 1) := by decide +kernel
theorem dL_law_1561 : decode cL_law 1561 = .ok (.aload_n 0, 1) := by decide +kernel
theorem dL_law_1562 : decode cL_law 1562 = .ok (.iload 5, 2) := by decide +kernel
theorem dL_law_1564 : decode cL_law 1564 = .ok (.iconst 1, 1) := by decide +kernel
theorem dL_law_1565 : decode cL_law 1565 = .ok (.iadd, 1) := by decide +kernel
theorem dL_law_1566 : decode cL_law 1566 = .ok (.iaload, 1) := by decide +kernel
theorem dL_law_1567 : decode cL_law 1567 = .ok (.aload_n 0, 1) := by decide +kernel
theorem dL_law_1568 : decode cL_law 1568 = .ok (.iload 5, 2) := by decide +kernel
theorem dL_law_1570 : decode cL_law 1570 = .ok (.iconst 2, 1) := by decide +kernel
theorem dL_law_1571 : decode cL_law 1571 = .ok (.iadd, 1) := by decide +kernel
theorem dL_law_1572 : decode cL_law 1572 = .ok (.iaload, 1) := by decide +kernel
theorem dL_law_1573 : decode cL_law 1573 = .ok (.invokevirtual 245, 3) := by decide +kernel
theorem dL_law_1576 : decode cL_law 1576 = .ok (.istore 7, 2) := by decide +kernel
theorem dL_law_1578 : decode cL_law 1578 = .ok (.aload_n 2, 1) := by decide +kernel
theorem dL_law_1579 : decode cL_law 1579 = .ok (.invokevirtual 174, 3) := by decide +kernel
theorem dL_law_1582 : decode cL_law 1582 = .ok (.iload 6, 2) := by decide +kernel
theorem dL_law_1584 : decode cL_law 1584 = .ok (.if_icmp .eq 5, 3) := by decide +kernel
theorem dL_law_1587 : decode cL_law 1587 = .ok (.iconst 0, 1) := by decide +kernel
theorem dL_law_1588 : decode cL_law 1588 = .ok (.ireturn, 1) := by decide +kernel
theorem dL_law_1589 : decode cL_law 1589 = .ok (.iload 6, 2) := by decide +kernel
theorem dL_law_1591 : decode cL_law 1591 = .ok (.ifCond .ne 15, 3) := by decide +kernel
theorem dL_law_1594 : decode cL_law 1594 = .ok (.aload_n 3, 1) := by decide +kernel
theorem dL_law_1595 : decode cL_law 1595 = .ok (.iconst 0, 1) := by decide +kernel
theorem dL_law_1596 : decode cL_law 1596 = .ok (.laload, 1) := by decide +kernel
theorem dL_law_1597 : decode cL_law 1597 = .ok (.iload 7, 2) := by decide +kernel
theorem dL_law_1599 : decode cL_law 1599 = .ok (.i2l, 1) := by decide +kernel
theorem dL_law_1600 : decode cL_law 1600 = .ok (.lcmp, 1) := by decide +kernel
theorem dL_law_1601 : decode cL_law 1601 = .ok (.ifCond .eq 5, 3) := by decide +kernel
theorem dL_law_1604 : decode cL_law 1604 = .ok (.iconst 0, 1) := by decide +kernel
theorem dL_law_1605 : decode cL_law 1605 = .ok (.ireturn, 1) := by decide +kernel
theorem dL_law_1606 : decode cL_law 1606 = .ok (.goto 1414, 3) := by decide +kernel
theorem dL_law_1609 : decode cL_law 1609 = .ok (.aload_n 1, 1) := by decide +kernel
theorem dL_law_1610 : decode cL_law 1610 = .ok (.aload_n 0, 1) := by decide +kernel
theorem dL_law_1611 : decode cL_law 1611 = .ok (.iload 5, 2) := by decide +kernel
theorem dL_law_1613 : decode cL_law 1613 = .ok (.iconst 1, 1) := by decide +kernel
theorem dL_law_1614 : decode cL_law 1614 = .ok (.iadd, 1) := by decide +kernel
theorem dL_law_1615 : decode cL_law 1615 = .ok (.iaload, 1) := by decide +kernel
theorem dL_law_1616 : decode cL_law 1616 = .ok (.aload_n 0, 1) := by decide +kernel
theorem dL_law_1617 : decode cL_law 1617 = .ok (.iload 5, 2) := by decide +kernel
theorem dL_law_1619 : decode cL_law 1619 = .ok (.iconst 2, 1) := by decide +kernel
theorem dL_law_1620 : decode cL_law 1620 = .ok (.iadd, 1) := by decide +kernel
theorem dL_law_1621 : decode cL_law 1621 = .ok (.iaload, 1) := by decide +kernel
theorem dL_law_1622 : decode cL_law 1622 = .ok (.aload_n 3, 1) := by decide +kernel
theorem dL_law_1623 : decode cL_law 1623 = .ok (.invokestatic 246, 3) := by decide +kernel
theorem dL_law_1626 : decode cL_law 1626 = .ok (.istore 6, 2) := by decide +kernel
theorem dL_law_1628 : decode cL_law 1628 = .ok (.aload_n 2, 1) := by decide +kernel
theorem dL_law_1629 : decode cL_law 1629 = .ok (.aload_n 0, 1) := by decide +kernel
theorem dL_law_1630 : decode cL_law 1630 = .ok (.iload 5, 2) := by decide +kernel
theorem dL_law_1632 : decode cL_law 1632 = .ok (.iconst 1, 1) := by decide +kernel
theorem dL_law_1633 : decode cL_law 1633 = .ok (.iadd, 1) := by decide +kernel
theorem dL_law_1634 : decode cL_law 1634 = .ok (.iaload, 1) := by decide +kernel
theorem dL_law_1635 : decode cL_law 1635 = .ok (.aload_n 0, 1) := by decide +kernel
theorem dL_law_1636 : decode cL_law 1636 = .ok (.iload 5, 2) := by decide +kernel
theorem dL_law_1638 : decode cL_law 1638 = .ok (.iconst 2, 1) := by decide +kernel
theorem dL_law_1639 : decode cL_law 1639 = .ok (.iadd, 1) := by decide +kernel
theorem dL_law_1640 : decode cL_law 1640 = .ok (.iaload, 1) := by decide +kernel
theorem dL_law_1641 : decode cL_law 1641 = .ok (.invokevirtual 248, 3) := by decide +kernel
theorem dL_law_1644 : decode cL_law 1644 = .ok (.istore 7, 2) := by decide +kernel
theorem dL_law_1646 : decode cL_law 1646 = .ok (.aload_n 2, 1) := by decide +kernel
theorem dL_law_1647 : decode cL_law 1647 = .ok (.invokevirtual 174, 3) := by decide +kernel
theorem dL_law_1650 : decode cL_law 1650 = .ok (.iload 6, 2) := by decide +kernel
theorem dL_law_1652 : decode cL_law 1652 = .ok (.if_icmp .eq 5, 3) := by decide +kernel
theorem dL_law_1655 : decode cL_law 1655 = .ok (.iconst 0, 1) := by decide +kernel
theorem dL_law_1656 : decode cL_law 1656 = .ok (.ireturn, 1) := by decide +kernel
theorem dL_law_1657 : decode cL_law 1657 = .ok (.iload 6, 2) := by decide +kernel
theorem dL_law_1659 : decode cL_law 1659 = .ok (.ifCond .ne 15, 3) := by decide +kernel
theorem dL_law_1662 : decode cL_law 1662 = .ok (.aload_n 3, 1) := by decide +kernel
theorem dL_law_1663 : decode cL_law 1663 = .ok (.iconst 0, 1) := by decide +kernel
theorem dL_law_1664 : decode cL_law 1664 = .ok (.laload, 1) := by decide +kernel
theorem dL_law_1665 : decode cL_law 1665 = .ok (.iload 7, 2) := by decide +kernel
theorem dL_law_1667 : decode cL_law 1667 = .ok (.i2l, 1) := by decide +kernel
theorem dL_law_1668 : decode cL_law 1668 = .ok (.lcmp, 1) := by decide +kernel
theorem dL_law_1669 : decode cL_law 1669 = .ok (.ifCond .eq 5, 3) := by decide +kernel
theorem dL_law_1672 : decode cL_law 1672 = .ok (.iconst 0, 1) := by decide +kernel
theorem dL_law_1673 : decode cL_law 1673 = .ok (.ireturn, 1) := by decide +kernel
theorem dL_law_1674 : decode cL_law 1674 = .ok (.goto 1346, 3) := by decide +kernel
theorem dL_law_1677 : decode cL_law 1677 = .ok (.aload_n 1, 1) := by decide +kernel
theorem dL_law_1678 : decode cL_law 1678 = .ok (.aload_n 0, 1) := by decide +kernel
theorem dL_law_1679 : decode cL_law 1679 = .ok (.iload 5, 2) := by decide +kernel
theorem dL_law_1681 : decode cL_law 1681 = .ok (.iconst 1, 1) := by decide +kernel
theorem dL_law_1682 : decode cL_law 1682 = .ok (.iadd, 1) := by decide +kernel
theorem dL_law_1683 : decode cL_law 1683 = .ok (.iaload, 1) := by decide +kernel
theorem dL_law_1684 : decode cL_law 1684 = .ok (.aload_n 3, 1) := by decide +kernel
theorem dL_law_1685 : decode cL_law 1685 = .ok (.invokestatic 249, 3) := by decide +kernel
theorem dL_law_1688 : decode cL_law 1688 = .ok (.istore 6, 2) := by decide +kernel
theorem dL_law_1690 : decode cL_law 1690 = .ok (.aload_n 2, 1) := by decide +kernel
theorem dL_law_1691 : decode cL_law 1691 = .ok (.aload_n 0, 1) := by decide +kernel
theorem dL_law_1692 : decode cL_law 1692 = .ok (.iload 5, 2) := by decide +kernel
theorem dL_law_1694 : decode cL_law 1694 = .ok (.iconst 1, 1) := by decide +kernel
theorem dL_law_1695 : decode cL_law 1695 = .ok (.iadd, 1) := by decide +kernel
theorem dL_law_1696 : decode cL_law 1696 = .ok (.iaload, 1) := by decide +kernel
theorem dL_law_1697 : decode cL_law 1697 = .ok (.invokevirtual 251, 3) := by decide +kernel
theorem dL_law_1700 : decode cL_law 1700 = .ok (.istore 7, 2) := by decide +kernel
theorem dL_law_1702 : decode cL_law 1702 = .ok (.aload_n 2, 1) := by decide +kernel
theorem dL_law_1703 : decode cL_law 1703 = .ok (.invokevirtual 174, 3) := by decide +kernel
theorem dL_law_1706 : decode cL_law 1706 = .ok (.iload 6, 2) := by decide +kernel
theorem dL_law_1708 : decode cL_law 1708 = .ok (.if_icmp .eq 5, 3) := by decide +kernel
theorem dL_law_1711 : decode cL_law 1711 = .ok (.iconst 0, 1) := by decide +kernel
theorem dL_law_1712 : decode cL_law 1712 = .ok (.ireturn, 1) := by decide +kernel
theorem dL_law_1713 : decode cL_law 1713 = .ok (.iload 6, 2) := by decide +kernel
theorem dL_law_1715 : decode cL_law 1715 = .ok (.ifCond .ne 15, 3) := by decide +kernel
theorem dL_law_1718 : decode cL_law 1718 = .ok (.aload_n 3, 1) := by decide +kernel
theorem dL_law_1719 : decode cL_law 1719 = .ok (.iconst 0, 1) := by decide +kernel
theorem dL_law_1720 : decode cL_law 1720 = .ok (.laload, 1) := by decide +kernel
theorem dL_law_1721 : decode cL_law 1721 = .ok (.iload 7, 2) := by decide +kernel
theorem dL_law_1723 : decode cL_law 1723 = .ok (.i2l, 1) := by decide +kernel
theorem dL_law_1724 : decode cL_law 1724 = .ok (.lcmp, 1) := by decide +kernel
theorem dL_law_1725 : decode cL_law 1725 = .ok (.ifCond .eq 5, 3) := by decide +kernel
theorem dL_law_1728 : decode cL_law 1728 = .ok (.iconst 0, 1) := by decide +kernel
theorem dL_law_1729 : decode cL_law 1729 = .ok (.ireturn, 1) := by decide +kernel
theorem dL_law_1730 : decode cL_law 1730 = .ok (.goto 1290, 3) := by decide +kernel
theorem dL_law_1733 : decode cL_law 1733 = .ok (.aload_n 1, 1) := by decide +kernel
theorem dL_law_1734 : decode cL_law 1734 = .ok (.invokevirtual 252, 3) := by decide +kernel
theorem dL_law_1737 : decode cL_law 1737 = .ok (.aload_n 2, 1) := by decide +kernel
theorem dL_law_1738 : decode cL_law 1738 = .ok (.invokevirtual 255, 3) := by decide +kernel
theorem dL_law_1741 : decode cL_law 1741 = .ok (.if_icmp .eq 1279, 3) := by decide +kernel
theorem dL_law_1744 : decode cL_law 1744 = .ok (.iconst 0, 1) := by decide +kernel
theorem dL_law_1745 : decode cL_law 1745 = .ok (.ireturn, 1) := by decide +kernel
theorem dL_law_1746 : decode cL_law 1746 = .ok (.aload_n 1, 1) := by decide +kernel
theorem dL_law_1747 : decode cL_law 1747 = .ok (.aload_n 3, 1) := by decide +kernel
theorem dL_law_1748 : decode cL_law 1748 = .ok (.invokestatic 256, 3) := by decide +kernel
theorem dL_law_1751 : decode cL_law 1751 = .ok (.istore 6, 2) := by decide +kernel
theorem dL_law_1753 : decode cL_law 1753 = .ok (.aload_n 2, 1) := by decide +kernel
theorem dL_law_1754 : decode cL_law 1754 = .ok (.invokevirtual 258, 3) := by decide +kernel
theorem dL_law_1757 : decode cL_law 1757 = .ok (.istore 7, 2) := by decide +kernel
theorem dL_law_1759 : decode cL_law 1759 = .ok (.aload_n 2, 1) := by decide +kernel
theorem dL_law_1760 : decode cL_law 1760 = .ok (.invokevirtual 174, 3) := by decide +kernel
theorem dL_law_1763 : decode cL_law 1763 = .ok (.iload 6, 2) := by decide +kernel
theorem dL_law_1765 : decode cL_law 1765 = .ok (.if_icmp .eq 5, 3) := by decide +kernel
theorem dL_law_1768 : decode cL_law 1768 = .ok (.iconst 0, 1) := by decide +kernel
theorem dL_law_1769 : decode cL_law 1769 = .ok (.ireturn, 1) := by decide +kernel
theorem dL_law_1770 : decode cL_law 1770 = .ok (.iload 6, 2) := by decide +kernel
theorem dL_law_1772 : decode cL_law 1772 = .ok (.ifCond .ne 15, 3) := by decide +kernel
theorem dL_law_1775 : decode cL_law 1775 = .ok (.aload_n 3, 1) := by decide +kernel
theorem dL_law_1776 : decode cL_law 1776 = .ok (.iconst 0, 1) := by decide +kernel
theorem dL_law_1777 : decode cL_law 1777 = .ok (.laload, 1) := by decide +kernel
theorem dL_law_1778 : decode cL_law 1778 = .ok (.iload 7, 2) := by decide +kernel
theorem dL_law_1780 : decode cL_law 1780 = .ok (.i2l, 1) := by decide +kernel
theorem dL_law_1781 : decode cL_law 1781 = .ok (.lcmp, 1) := by decide +kernel
theorem dL_law_1782 : decode cL_law 1782 = .ok (.ifCond .eq 5, 3) := by decide +kernel
theorem dL_law_1785 : decode cL_law 1785 = .ok (.iconst 0, 1) := by decide +kernel
theorem dL_law_1786 : decode cL_law 1786 = .ok (.ireturn, 1) := by decide +kernel
theorem dL_law_1787 : decode cL_law 1787 = .ok (.goto 1233, 3) := by decide +kernel
theorem dL_law_1790 : decode cL_law 1790 = .ok (.aload_n 1, 1) := by decide +kernel
theorem dL_law_1791 : decode cL_law 1791 = .ok (.aload_n 0, 1) := by decide +kernel
theorem dL_law_1792 : decode cL_law 1792 = .ok (.iload 5, 2) := by decide +kernel
theorem dL_law_1794 : decode cL_law 1794 = .ok (.iconst 1, 1) := by decide +kernel
theorem dL_law_1795 : decode cL_law 1795 = .ok (.iadd, 1) := by decide +kernel
theorem dL_law_1796 : decode cL_law 1796 = .ok (.iaload, 1) := by decide +kernel
theorem dL_law_1797 : decode cL_law 1797 = .ok (.aload_n 0, 1) := by decide +kernel
theorem dL_law_1798 : decode cL_law 1798 = .ok (.iload 5, 2) := by decide +kernel
theorem dL_law_1800 : decode cL_law 1800 = .ok (.iconst 2, 1) := by decide +kernel
theorem dL_law_1801 : decode cL_law 1801 = .ok (.iadd, 1) := by decide +kernel
theorem dL_law_1802 : decode cL_law 1802 = .ok (.iaload, 1) := by decide +kernel
theorem dL_law_1803 : decode cL_law 1803 = .ok (.aload_n 0, 1) := by decide +kernel
theorem dL_law_1804 : decode cL_law 1804 = .ok (.iload 5, 2) := by decide +kernel
theorem dL_law_1806 : decode cL_law 1806 = .ok (.iconst 3, 1) := by decide +kernel
theorem dL_law_1807 : decode cL_law 1807 = .ok (.iadd, 1) := by decide +kernel
theorem dL_law_1808 : decode cL_law 1808 = .ok (.iaload, 1) := by decide +kernel
theorem dL_law_1809 : decode cL_law 1809 = .ok (.aload_n 3, 1) := by decide +kernel
theorem dL_law_1810 : decode cL_law 1810 = .ok (.invokestatic 259, 3) := by decide +kernel
theorem dL_law_1813 : decode cL_law 1813 = .ok (.istore 6, 2) := by decide +kernel
theorem dL_law_1815 : decode cL_law 1815 = .ok (.aload_n 2, 1) := by decide +kernel
theorem dL_law_1816 : decode cL_law 1816 = .ok (.aload_n 0, 1) := by decide +kernel
theorem dL_law_1817 : decode cL_law 1817 = .ok (.iload 5, 2) := by decide +kernel
theorem dL_law_1819 : decode cL_law 1819 = .ok (.iconst 1, 1) := by decide +kernel
theorem dL_law_1820 : decode cL_law 1820 = .ok (.iadd, 1) := by decide +kernel
theorem dL_law_1821 : decode cL_law 1821 = .ok (.iaload, 1) := by decide +kernel
theorem dL_law_1822 : decode cL_law 1822 = .ok (.aload_n 0, 1) := by decide +kernel
theorem dL_law_1823 : decode cL_law 1823 = .ok (.iload 5, 2) := by decide +kernel
theorem dL_law_1825 : decode cL_law 1825 = .ok (.iconst 2, 1) := by decide +kernel
theorem dL_law_1826 : decode cL_law 1826 = .ok (.iadd, 1) := by decide +kernel
theorem dL_law_1827 : decode cL_law 1827 = .ok (.iaload, 1) := by decide +kernel
theorem dL_law_1828 : decode cL_law 1828 = .ok (.aload_n 0, 1) := by decide +kernel
theorem dL_law_1829 : decode cL_law 1829 = .ok (.iload 5, 2) := by decide +kernel
theorem dL_law_1831 : decode cL_law 1831 = .ok (.iconst 3, 1) := by decide +kernel
theorem dL_law_1832 : decode cL_law 1832 = .ok (.iadd, 1) := by decide +kernel
theorem dL_law_1833 : decode cL_law 1833 = .ok (.iaload, 1) := by decide +kernel
theorem dL_law_1834 : decode cL_law 1834 = .ok (.invokevirtual 261, 3) := by decide +kernel
theorem dL_law_1837 : decode cL_law 1837 = .ok (.istore 7, 2) := by decide +kernel
theorem dL_law_1839 : decode cL_law 1839 = .ok (.aload_n 2, 1) := by decide +kernel
theorem dL_law_1840 : decode cL_law 1840 = .ok (.invokevirtual 174, 3) := by decide +kernel
theorem dL_law_1843 : decode cL_law 1843 = .ok (.iload 6, 2) := by decide +kernel
theorem dL_law_1845 : decode cL_law 1845 = .ok (.if_icmp .eq 5, 3) := by decide +kernel
theorem dL_law_1848 : decode cL_law 1848 = .ok (.iconst 0, 1) := by decide +kernel
theorem dL_law_1849 : decode cL_law 1849 = .ok (.ireturn, 1) := by decide +kernel
theorem dL_law_1850 : decode cL_law 1850 = .ok (.iload 6, 2) := by decide +kernel
theorem dL_law_1852 : decode cL_law 1852 = .ok (.ifCond .ne 15, 3) := by decide +kernel
theorem dL_law_1855 : decode cL_law 1855 = .ok (.aload_n 3, 1) := by decide +kernel
theorem dL_law_1856 : decode cL_law 1856 = .ok (.iconst 0, 1) := by decide +kernel
theorem dL_law_1857 : decode cL_law 1857 = .ok (.laload, 1) := by decide +kernel
theorem dL_law_1858 : decode cL_law 1858 = .ok (.iload 7, 2) := by decide +kernel
theorem dL_law_1860 : decode cL_law 1860 = .ok (.i2l, 1) := by decide +kernel
theorem dL_law_1861 : decode cL_law 1861 = .ok (.lcmp, 1) := by decide +kernel
theorem dL_law_1862 : decode cL_law 1862 = .ok (.ifCond .eq 5, 3) := by decide +kernel
theorem dL_law_1865 : decode cL_law 1865 = .ok (.iconst 0, 1) := by decide +kernel
theorem dL_law_1866 : decode cL_law 1866 = .ok (.ireturn, 1) := by decide +kernel
theorem dL_law_1867 : decode cL_law 1867 = .ok (.goto 1153, 3) := by decide +kernel
theorem dL_law_1870 : decode cL_law 1870 = .ok (.aload_n 1, 1) := by decide +kernel
theorem dL_law_1871 : decode cL_law 1871 = .ok (.invokevirtual 262, 3) := by decide +kernel
theorem dL_law_1874 : decode cL_law 1874 = .ok (.aload_n 2, 1) := by decide +kernel
theorem dL_law_1875 : decode cL_law 1875 = .ok (.invokevirtual 265, 3) := by decide +kernel
theorem dL_law_1878 : decode cL_law 1878 = .ok (.if_icmp .eq 1142, 3) := by decide +kernel
theorem dL_law_1881 : decode cL_law 1881 = .ok (.iconst 0, 1) := by decide +kernel
theorem dL_law_1882 : decode cL_law 1882 = .ok (.ireturn, 1) := by decide +kernel
theorem dL_law_1883 : decode cL_law 1883 = .ok (.aload_n 1, 1) := by decide +kernel
theorem dL_law_1884 : decode cL_law 1884 = .ok (.aload_n 0, 1) := by decide +kernel
theorem dL_law_1885 : decode cL_law 1885 = .ok (.iload 5, 2) := by decide +kernel
theorem dL_law_1887 : decode cL_law 1887 = .ok (.iconst 1, 1) := by decide +kernel
theorem dL_law_1888 : decode cL_law 1888 = .ok (.iadd, 1) := by decide +kernel
theorem dL_law_1889 : decode cL_law 1889 = .ok (.iaload, 1) := by decide +kernel
theorem dL_law_1890 : decode cL_law 1890 = .ok (.aload_n 3, 1) := by decide +kernel
theorem dL_law_1891 : decode cL_law 1891 = .ok (.invokestatic 266, 3) := by decide +kernel
theorem dL_law_1894 : decode cL_law 1894 = .ok (.istore 6, 2) := by decide +kernel
theorem dL_law_1896 : decode cL_law 1896 = .ok (.aload_n 2, 1) := by decide +kernel
theorem dL_law_1897 : decode cL_law 1897 = .ok (.aload_n 0, 1) := by decide +kernel
theorem dL_law_1898 : decode cL_law 1898 = .ok (.iload 5, 2) := by decide +kernel
theorem dL_law_1900 : decode cL_law 1900 = .ok (.iconst 1, 1) := by decide +kernel
theorem dL_law_1901 : decode cL_law 1901 = .ok (.iadd, 1) := by decide +kernel
theorem dL_law_1902 : decode cL_law 1902 = .ok (.iaload, 1) := by decide +kernel
theorem dL_law_1903 : decode cL_law 1903 = .ok (.invokevirtual 268, 3) := by decide +kernel
theorem dL_law_1906 : decode cL_law 1906 = .ok (.istore 7, 2) := by decide +kernel
theorem dL_law_1908 : decode cL_law 1908 = .ok (.aload_n 2, 1) := by decide +kernel
theorem dL_law_1909 : decode cL_law 1909 = .ok (.invokevirtual 174, 3) := by decide +kernel
theorem dL_law_1912 : decode cL_law 1912 = .ok (.iload 6, 2) := by decide +kernel
theorem dL_law_1914 : decode cL_law 1914 = .ok (.if_icmp .eq 5, 3) := by decide +kernel
theorem dL_law_1917 : decode cL_law 1917 = .ok (.iconst 0, 1) := by decide +kernel
theorem dL_law_1918 : decode cL_law 1918 = .ok (.ireturn, 1) := by decide +kernel
theorem dL_law_1919 : decode cL_law 1919 = .ok (.iload 6, 2) := by decide +kernel
theorem dL_law_1921 : decode cL_law 1921 = .ok (.ifCond .ne 15, 3) := by decide +kernel
theorem dL_law_1924 : decode cL_law 1924 = .ok (.aload_n 3, 1) := by decide +kernel
theorem dL_law_1925 : decode cL_law 1925 = .ok (.iconst 0, 1) := by decide +kernel
theorem dL_law_1926 : decode cL_law 1926 = .ok (.laload, 1) := by decide +kernel
theorem dL_law_1927 : decode cL_law 1927 = .ok (.iload 7, 2) := by decide +kernel
theorem dL_law_1929 : decode cL_law 1929 = .ok (.i2l, 1) := by decide +kernel
theorem dL_law_1930 : decode cL_law 1930 = .ok (.lcmp, 1) := by decide +kernel
theorem dL_law_1931 : decode cL_law 1931 = .ok (.ifCond .eq 5, 3) := by decide +kernel
theorem dL_law_1934 : decode cL_law 1934 = .ok (.iconst 0, 1) := by decide +kernel
theorem dL_law_1935 : decode cL_law 1935 = .ok (.ireturn, 1) := by decide +kernel
theorem dL_law_1936 : decode cL_law 1936 = .ok (.goto 1084, 3) := by decide +kernel
theorem dL_law_1939 : decode cL_law 1939 = .ok (.aload_n 1, 1) := by decide +kernel
theorem dL_law_1940 : decode cL_law 1940 = .ok (.invokevirtual 269, 3) := by decide +kernel
theorem dL_law_1943 : decode cL_law 1943 = .ok (.aload_n 2, 1) := by decide +kernel
theorem dL_law_1944 : decode cL_law 1944 = .ok (.invokevirtual 272, 3) := by decide +kernel
theorem dL_law_1947 : decode cL_law 1947 = .ok (.if_icmp .eq 1073, 3) := by decide +kernel
theorem dL_law_1950 : decode cL_law 1950 = .ok (.iconst 0, 1) := by decide +kernel
theorem dL_law_1951 : decode cL_law 1951 = .ok (.ireturn, 1) := by decide +kernel
theorem dL_law_1952 : decode cL_law 1952 = .ok (.aload_n 1, 1) := by decide +kernel
theorem dL_law_1953 : decode cL_law 1953 = .ok (.aload_n 0, 1) := by decide +kernel
theorem dL_law_1954 : decode cL_law 1954 = .ok (.iload 5, 2) := by decide +kernel
theorem dL_law_1956 : decode cL_law 1956 = .ok (.iconst 1, 1) := by decide +kernel
theorem dL_law_1957 : decode cL_law 1957 = .ok (.iadd, 1) := by decide +kernel
theorem dL_law_1958 : decode cL_law 1958 = .ok (.iaload, 1) := by decide +kernel
theorem dL_law_1959 : decode cL_law 1959 = .ok (.aload_n 3, 1) := by decide +kernel
theorem dL_law_1960 : decode cL_law 1960 = .ok (.invokestatic 273, 3) := by decide +kernel
theorem dL_law_1963 : decode cL_law 1963 = .ok (.istore 6, 2) := by decide +kernel
theorem dL_law_1965 : decode cL_law 1965 = .ok (.aload_n 2, 1) := by decide +kernel
theorem dL_law_1966 : decode cL_law 1966 = .ok (.aload_n 0, 1) := by decide +kernel
theorem dL_law_1967 : decode cL_law 1967 = .ok (.iload 5, 2) := by decide +kernel
theorem dL_law_1969 : decode cL_law 1969 = .ok (.iconst 1, 1) := by decide +kernel
theorem dL_law_1970 : decode cL_law 1970 = .ok (.iadd, 1) := by decide +kernel
theorem dL_law_1971 : decode cL_law 1971 = .ok (.iaload, 1) := by decide +kernel
theorem dL_law_1972 : decode cL_law 1972 = .ok (.invokevirtual 275, 3) := by decide +kernel
theorem dL_law_1975 : decode cL_law 1975 = .ok (.istore 7, 2) := by decide +kernel
theorem dL_law_1977 : decode cL_law 1977 = .ok (.aload_n 2, 1) := by decide +kernel
theorem dL_law_1978 : decode cL_law 1978 = .ok (.invokevirtual 174, 3) := by decide +kernel
theorem dL_law_1981 : decode cL_law 1981 = .ok (.iload 6, 2) := by decide +kernel
theorem dL_law_1983 : decode cL_law 1983 = .ok (.if_icmp .eq 5, 3) := by decide +kernel
theorem dL_law_1986 : decode cL_law 1986 = .ok (.iconst 0, 1) := by decide +kernel
theorem dL_law_1987 : decode cL_law 1987 = .ok (.ireturn, 1) := by decide +kernel
theorem dL_law_1988 : decode cL_law 1988 = .ok (.iload 6, 2) := by decide +kernel
theorem dL_law_1990 : decode cL_law 1990 = .ok (.ifCond .ne 15, 3) := by decide +kernel
theorem dL_law_1993 : decode cL_law 1993 = .ok (.aload_n 3, 1) := by decide +kernel
theorem dL_law_1994 : decode cL_law 1994 = .ok (.iconst 0, 1) := by decide +kernel
theorem dL_law_1995 : decode cL_law 1995 = .ok (.laload, 1) := by decide +kernel
theorem dL_law_1996 : decode cL_law 1996 = .ok (.iload 7, 2) := by decide +kernel
theorem dL_law_1998 : decode cL_law 1998 = .ok (.i2l, 1) := by decide +kernel
theorem dL_law_1999 : decode cL_law 1999 = .ok (.lcmp, 1) := by decide +kernel
theorem dL_law_2000 : decode cL_law 2000 = .ok (.ifCond .eq 5, 3) := by decide +kernel
theorem dL_law_2003 : decode cL_law 2003 = .ok (.iconst 0, 1) := by decide +kernel
theorem dL_law_2004 : decode cL_law 2004 = .ok (.ireturn, 1) := by decide +kernel
theorem dL_law_2005 : decode cL_law 2005 = .ok (.goto 1015, 3) := by decide +kernel
theorem dL_law_2008 : decode cL_law 2008 = .ok (.aload_n 1, 1) := by decide +kernel
theorem dL_law_2009 : decode cL_law 2009 = .ok (.aload_n 0, 1) := by decide +kernel
theorem dL_law_2010 : decode cL_law 2010 = .ok (.iload 5, 2) := by decide +kernel
theorem dL_law_2012 : decode cL_law 2012 = .ok (.iconst 1, 1) := by decide +kernel
theorem dL_law_2013 : decode cL_law 2013 = .ok (.iadd, 1) := by decide +kernel
theorem dL_law_2014 : decode cL_law 2014 = .ok (.iaload, 1) := by decide +kernel
theorem dL_law_2015 : decode cL_law 2015 = .ok (.aload_n 3, 1) := by decide +kernel
theorem dL_law_2016 : decode cL_law 2016 = .ok (.invokestatic 276, 3) := by decide +kernel
theorem dL_law_2019 : decode cL_law 2019 = .ok (.istore 6, 2) := by decide +kernel
theorem dL_law_2021 : decode cL_law 2021 = .ok (.aload_n 2, 1) := by decide +kernel
theorem dL_law_2022 : decode cL_law 2022 = .ok (.aload_n 0, 1) := by decide +kernel
theorem dL_law_2023 : decode cL_law 2023 = .ok (.iload 5, 2) := by decide +kernel
theorem dL_law_2025 : decode cL_law 2025 = .ok (.iconst 1, 1) := by decide +kernel
theorem dL_law_2026 : decode cL_law 2026 = .ok (.iadd, 1) := by decide +kernel
theorem dL_law_2027 : decode cL_law 2027 = .ok (.iaload, 1) := by decide +kernel
theorem dL_law_2028 : decode cL_law 2028 = .ok (.invokevirtual 278, 3) := by decide +kernel
theorem dL_law_2031 : decode cL_law 2031 = .ok (.istore 7, 2) := by decide +kernel
theorem dL_law_2033 : decode cL_law 2033 = .ok (.aload_n 2, 1) := by decide +kernel
theorem dL_law_2034 : decode cL_law 2034 = .ok (.invokevirtual 174, 3) := by decide +kernel
theorem dL_law_2037 : decode cL_law 2037 = .ok (.iload 6, 2) := by decide +kernel
theorem dL_law_2039 : decode cL_law 2039 = .ok (.if_icmp .eq 5, 3) := by decide +kernel
theorem dL_law_2042 : decode cL_law 2042 = .ok (.iconst 0, 1) := by decide +kernel
theorem dL_law_2043 : decode cL_law 2043 = .ok (.ireturn, 1) := by decide +kernel
theorem dL_law_2044 : decode cL_law 2044 = .ok (.iload 6, 2) := by decide +kernel
theorem dL_law_2046 : decode cL_law 2046 = .ok (.ifCond .ne 15, 3) := by decide +kernel
theorem dL_law_2049 : decode cL_law 2049 = .ok (.aload_n 3, 1) := by decide +kernel
theorem dL_law_2050 : decode cL_law 2050 = .ok (.iconst 0, 1) := by decide +kernel
theorem dL_law_2051 : decode cL_law 2051 = .ok (.laload, 1) := by decide +kernel
theorem dL_law_2052 : decode cL_law 2052 = .ok (.iload 7, 2) := by decide +kernel
theorem dL_law_2054 : decode cL_law 2054 = .ok (.i2l, 1) := by decide +kernel
theorem dL_law_2055 : decode cL_law 2055 = .ok (.lcmp, 1) := by decide +kernel
theorem dL_law_2056 : decode cL_law 2056 = .ok (.ifCond .eq 5, 3) := by decide +kernel
theorem dL_law_2059 : decode cL_law 2059 = .ok (.iconst 0, 1) := by decide +kernel
theorem dL_law_2060 : decode cL_law 2060 = .ok (.ireturn, 1) := by decide +kernel
theorem dL_law_2061 : decode cL_law 2061 = .ok (.goto 959, 3) := by decide +kernel
theorem dL_law_2064 : decode cL_law 2064 = .ok (.aload_n 1, 1) := by decide +kernel
theorem dL_law_2065 : decode cL_law 2065 = .ok (.aload_n 0, 1) := by decide +kernel
theorem dL_law_2066 : decode cL_law 2066 = .ok (.iload 5, 2) := by decide +kernel
theorem dL_law_2068 : decode cL_law 2068 = .ok (.iconst 1, 1) := by decide +kernel
theorem dL_law_2069 : decode cL_law 2069 = .ok (.iadd, 1) := by decide +kernel
theorem dL_law_2070 : decode cL_law 2070 = .ok (.iaload, 1) := by decide +kernel
theorem dL_law_2071 : decode cL_law 2071 = .ok (.aload_n 3, 1) := by decide +kernel
theorem dL_law_2072 : decode cL_law 2072 = .ok (.invokestatic 279, 3) := by decide +kernel
theorem dL_law_2075 : decode cL_law 2075 = .ok (.istore 6, 2) := by decide +kernel
theorem dL_law_2077 : decode cL_law 2077 = .ok (.aload_n 2, 1) := by decide +kernel
theorem dL_law_2078 : decode cL_law 2078 = .ok (.aload_n 0, 1) := by decide +kernel
theorem dL_law_2079 : decode cL_law 2079 = .ok (.iload 5, 2) := by decide +kernel
theorem dL_law_2081 : decode cL_law 2081 = .ok (.iconst 1, 1) := by decide +kernel
theorem dL_law_2082 : decode cL_law 2082 = .ok (.iadd, 1) := by decide +kernel
theorem dL_law_2083 : decode cL_law 2083 = .ok (.iaload, 1) := by decide +kernel
theorem dL_law_2084 : decode cL_law 2084 = .ok (.invokevirtual 281, 3) := by decide +kernel
theorem dL_law_2087 : decode cL_law 2087 = .ok (.istore 7, 2) := by decide +kernel
theorem dL_law_2089 : decode cL_law 2089 = .ok (.aload_n 2, 1) := by decide +kernel
theorem dL_law_2090 : decode cL_law 2090 = .ok (.invokevirtual 174, 3) := by decide +kernel
theorem dL_law_2093 : decode cL_law 2093 = .ok (.iload 6, 2) := by decide +kernel
theorem dL_law_2095 : decode cL_law 2095 = .ok (.if_icmp .eq 5, 3) := by decide +kernel
theorem dL_law_2098 : decode cL_law 2098 = .ok (.iconst 0, 1) := by decide +kernel
theorem dL_law_2099 : decode cL_law 2099 = .ok (.ireturn, 1) := by decide +kernel
theorem dL_law_2100 : decode cL_law 2100 = .ok (.iload 6, 2) := by decide +kernel
theorem dL_law_2102 : decode cL_law 2102 = .ok (.ifCond .ne 15, 3) := by decide +kernel
theorem dL_law_2105 : decode cL_law 2105 = .ok (.aload_n 3, 1) := by decide +kernel
theorem dL_law_2106 : decode cL_law 2106 = .ok (.iconst 0, 1) := by decide +kernel
theorem dL_law_2107 : decode cL_law 2107 = .ok (.laload, 1) := by decide +kernel
theorem dL_law_2108 : decode cL_law 2108 = .ok (.iload 7, 2) := by decide +kernel
theorem dL_law_2110 : decode cL_law 2110 = .ok (.i2l, 1) := by decide +kernel
theorem dL_law_2111 : decode cL_law 2111 = .ok (.lcmp, 1) := by decide +kernel
theorem dL_law_2112 : decode cL_law 2112 = .ok (.ifCond .eq 5, 3) := by decide +kernel
theorem dL_law_2115 : decode cL_law 2115 = .ok (.iconst 0, 1) := by decide +kernel
theorem dL_law_2116 : decode cL_law 2116 = .ok (.ireturn, 1) := by decide +kernel
theorem dL_law_2117 : decode cL_law 2117 = .ok (.goto 903, 3) := by decide +kernel
theorem dL_law_2120 : decode cL_law 2120 = .ok (.aload_n 1, 1) := by decide +kernel
theorem dL_law_2121 : decode cL_law 2121 = .ok (.aload_n 0, 1) := by decide +kernel
theorem dL_law_2122 : decode cL_law 2122 = .ok (.iload 5, 2) := by decide +kernel
theorem dL_law_2124 : decode cL_law 2124 = .ok (.iconst 1, 1) := by decide +kernel
theorem dL_law_2125 : decode cL_law 2125 = .ok (.iadd, 1) := by decide +kernel
theorem dL_law_2126 : decode cL_law 2126 = .ok (.iaload, 1) := by decide +kernel
theorem dL_law_2127 : decode cL_law 2127 = .ok (.aload_n 3, 1) := by decide +kernel
theorem dL_law_2128 : decode cL_law 2128 = .ok (.invokestatic 282, 3) := by decide +kernel
theorem dL_law_2131 : decode cL_law 2131 = .ok (.istore 6, 2) := by decide +kernel
theorem dL_law_2133 : decode cL_law 2133 = .ok (.aload_n 2, 1) := by decide +kernel
theorem dL_law_2134 : decode cL_law 2134 = .ok (.aload_n 0, 1) := by decide +kernel
theorem dL_law_2135 : decode cL_law 2135 = .ok (.iload 5, 2) := by decide +kernel
theorem dL_law_2137 : decode cL_law 2137 = .ok (.iconst 1, 1) := by decide +kernel
theorem dL_law_2138 : decode cL_law 2138 = .ok (.iadd, 1) := by decide +kernel
theorem dL_law_2139 : decode cL_law 2139 = .ok (.iaload, 1) := by decide +kernel
theorem dL_law_2140 : decode cL_law 2140 = .ok (.invokevirtual 284, 3) := by decide +kernel
theorem dL_law_2143 : decode cL_law 2143 = .ok (.istore 7, 2) := by decide +kernel
theorem dL_law_2145 : decode cL_law 2145 = .ok (.aload_n 2, 1) := by decide +kernel
theorem dL_law_2146 : decode cL_law 2146 = .ok (.invokevirtual 174, 3) := by decide +kernel
theorem dL_law_2149 : decode cL_law 2149 = .ok (.iload 6, 2) := by decide +kernel
theorem dL_law_2151 : decode cL_law 2151 = .ok (.if_icmp .eq 5, 3) := by decide +kernel
theorem dL_law_2154 : decode cL_law 2154 = .ok (.iconst 0, 1) := by decide +kernel
theorem dL_law_2155 : decode cL_law 2155 = .ok (.ireturn, 1) := by decide +kernel
theorem dL_law_2156 : decode cL_law 2156 = .ok (.iload 6, 2) := by decide +kernel
theorem dL_law_2158 : decode cL_law 2158 = .ok (.ifCond .ne 22, 3) := by decide +kernel
theorem dL_law_2161 : decode cL_law 2161 = .ok (.aload_n 3, 1) := by decide +kernel
theorem dL_law_2162 : decode cL_law 2162 = .ok (.iconst 0, 1) := by decide +kernel
theorem dL_law_2163 : decode cL_law 2163 = .ok (.laload, 1) := by decide +kernel
theorem dL_law_2164 : decode cL_law 2164 = .ok (.iload 7, 2) := by decide +kernel
theorem dL_law_2166 : decode cL_law 2166 = .ok (.ifCond .eq 7, 3) := by decide +kernel
theorem dL_law_2169 : decode cL_law 2169 = .ok (.lconst 1, 1) := by decide +kernel
theorem dL_law_2170 : decode cL_law 2170 = .ok (.goto 4, 3) := by decide +kernel
theorem dL_law_2173 : decode cL_law 2173 = .ok (.lconst 0, 1) := by decide +kernel
theorem dL_law_2174 : decode cL_law 2174 = .ok (.lcmp, 1) := by decide +kernel
theorem dL_law_2175 : decode cL_law 2175 = .ok (.ifCond .eq 5, 3) := by decide +kernel
theorem dL_law_2178 : decode cL_law 2178 = .ok (.iconst 0, 1) := by decide +kernel
theorem dL_law_2179 : decode cL_law 2179 = .ok (.ireturn, 1) := by decide +kernel
theorem dL_law_2180 : decode cL_law 2180 = .ok (.goto 840, 3) := by decide +kernel
theorem dL_law_2183 : decode cL_law 2183 = .ok (.aload_n 1, 1) := by decide +kernel
theorem dL_law_2184 : decode cL_law 2184 = .ok (.invokevirtual 285, 3) := by decide +kernel
theorem dL_law_2187 : decode cL_law 2187 = .ok (.aload_n 2, 1) := by decide +kernel
theorem dL_law_2188 : decode cL_law 2188 = .ok (.invokevirtual 288, 3) := by decide +kernel
theorem dL_law_2191 : decode cL_law 2191 = .ok (.if_icmp .eq 829, 3) := by decide +kernel
theorem dL_law_2194 : decode cL_law 2194 = .ok (.iconst 0, 1) := by decide +kernel
theorem dL_law_2195 : decode cL_law 2195 = .ok (.ireturn, 1) := by decide +kernel
theorem dL_law_2196 : decode cL_law 2196 = .ok (.aload_n 1, 1) := by decide +kernel
theorem dL_law_2197 : decode cL_law 2197 = .ok (.aload_n 0, 1) := by decide +kernel
theorem dL_law_2198 : decode cL_law 2198 = .ok (.iload 5, 2) := by decide +kernel
theorem dL_law_2200 : decode cL_law 2200 = .ok (.iconst 1, 1) := by decide +kernel
theorem dL_law_2201 : decode cL_law 2201 = .ok (.iadd, 1) := by decide +kernel
theorem dL_law_2202 : decode cL_law 2202 = .ok (.iaload, 1) := by decide +kernel
theorem dL_law_2203 : decode cL_law 2203 = .ok (.aload_n 3, 1) := by decide +kernel
theorem dL_law_2204 : decode cL_law 2204 = .ok (.invokestatic 289, 3) := by decide +kernel
theorem dL_law_2207 : decode cL_law 2207 = .ok (.istore 6, 2) := by decide +kernel
theorem dL_law_2209 : decode cL_law 2209 = .ok (.aload_n 2, 1) := by decide +kernel
theorem dL_law_2210 : decode cL_law 2210 = .ok (.aload_n 0, 1) := by decide +kernel
theorem dL_law_2211 : decode cL_law 2211 = .ok (.iload 5, 2) := by decide +kernel
theorem dL_law_2213 : decode cL_law 2213 = .ok (.iconst 1, 1) := by decide +kernel
theorem dL_law_2214 : decode cL_law 2214 = .ok (.iadd, 1) := by decide +kernel
theorem dL_law_2215 : decode cL_law 2215 = .ok (.iaload, 1) := by decide +kernel
theorem dL_law_2216 : decode cL_law 2216 = .ok (.invokevirtual 291, 3) := by decide +kernel
theorem dL_law_2219 : decode cL_law 2219 = .ok (.istore 7, 2) := by decide +kernel
theorem dL_law_2221 : decode cL_law 2221 = .ok (.aload_n 2, 1) := by decide +kernel
theorem dL_law_2222 : decode cL_law 2222 = .ok (.invokevirtual 174, 3) := by decide +kernel
theorem dL_law_2225 : decode cL_law 2225 = .ok (.iload 6, 2) := by decide +kernel
theorem dL_law_2227 : decode cL_law 2227 = .ok (.if_icmp .eq 5, 3) := by decide +kernel
theorem dL_law_2230 : decode cL_law 2230 = .ok (.iconst 0, 1) := by decide +kernel
theorem dL_law_2231 : decode cL_law 2231 = .ok (.ireturn, 1) := by decide +kernel
theorem dL_law_2232 : decode cL_law 2232 = .ok (.iload 6, 2) := by decide +kernel
theorem dL_law_2234 : decode cL_law 2234 = .ok (.ifCond .ne 22, 3) := by decide +kernel
theorem dL_law_2237 : decode cL_law 2237 = .ok (.aload_n 3, 1) := by decide +kernel
theorem dL_law_2238 : decode cL_law 2238 = .ok (.iconst 0, 1) := by decide +kernel
theorem dL_law_2239 : decode cL_law 2239 = .ok (.laload, 1) := by decide +kernel
theorem dL_law_2240 : decode cL_law 2240 = .ok (.iload 7, 2) := by decide +kernel
theorem dL_law_2242 : decode cL_law 2242 = .ok (.ifCond .eq 7, 3) := by decide +kernel
theorem dL_law_2245 : decode cL_law 2245 = .ok (.lconst 1, 1) := by decide +kernel
theorem dL_law_2246 : decode cL_law 2246 = .ok (.goto 4, 3) := by decide +kernel
theorem dL_law_2249 : decode cL_law 2249 = .ok (.lconst 0, 1) := by decide +kernel
theorem dL_law_2250 : decode cL_law 2250 = .ok (.lcmp, 1) := by decide +kernel
theorem dL_law_2251 : decode cL_law 2251 = .ok (.ifCond .eq 5, 3) := by decide +kernel
theorem dL_law_2254 : decode cL_law 2254 = .ok (.iconst 0, 1) := by decide +kernel
theorem dL_law_2255 : decode cL_law 2255 = .ok (.ireturn, 1) := by decide +kernel
theorem dL_law_2256 : decode cL_law 2256 = .ok (.goto 764, 3) := by decide +kernel
theorem dL_law_2259 : decode cL_law 2259 = .ok (.aload_n 1, 1) := by decide +kernel
theorem dL_law_2260 : decode cL_law 2260 = .ok (.aload_n 0, 1) := by decide +kernel
theorem dL_law_2261 : decode cL_law 2261 = .ok (.iload 5, 2) := by decide +kernel
theorem dL_law_2263 : decode cL_law 2263 = .ok (.iconst 1, 1) := by decide +kernel
theorem dL_law_2264 : decode cL_law 2264 = .ok (.iadd, 1) := by decide +kernel
theorem dL_law_2265 : decode cL_law 2265 = .ok (.iaload, 1) := by decide +kernel
theorem dL_law_2266 : decode cL_law 2266 = .ok (.aload_n 3, 1) := by decide +kernel
theorem dL_law_2267 : decode cL_law 2267 = .ok (.invokestatic 292, 3) := by decide +kernel
theorem dL_law_2270 : decode cL_law 2270 = .ok (.istore 6, 2) := by decide +kernel
theorem dL_law_2272 : decode cL_law 2272 = .ok (.aload_n 2, 1) := by decide +kernel
theorem dL_law_2273 : decode cL_law 2273 = .ok (.aload_n 0, 1) := by decide +kernel
theorem dL_law_2274 : decode cL_law 2274 = .ok (.iload 5, 2) := by decide +kernel
theorem dL_law_2276 : decode cL_law 2276 = .ok (.iconst 1, 1) := by decide +kernel
theorem dL_law_2277 : decode cL_law 2277 = .ok (.iadd, 1) := by decide +kernel
theorem dL_law_2278 : decode cL_law 2278 = .ok (.iaload, 1) := by decide +kernel
theorem dL_law_2279 : decode cL_law 2279 = .ok (.invokevirtual 294, 3) := by decide +kernel
theorem dL_law_2282 : decode cL_law 2282 = .ok (.istore 7, 2) := by decide +kernel
theorem dL_law_2284 : decode cL_law 2284 = .ok (.aload_n 2, 1) := by decide +kernel
theorem dL_law_2285 : decode cL_law 2285 = .ok (.invokevirtual 174, 3) := by decide +kernel
