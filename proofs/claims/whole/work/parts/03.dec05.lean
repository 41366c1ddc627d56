theorem dX7_isAhead_63 : decode cX7_isAhead 63 = .ok (.iconst 5, 1) := by decide +kernel
theorem dX7_isAhead_64 : decode cX7_isAhead 64 = .ok (.iload 5, 2) := by decide +kernel
theorem dX7_isAhead_66 : decode cX7_isAhead 66 = .ok (.imul, 1) := by decide +kernel
theorem dX7_isAhead_67 : decode cX7_isAhead 67 = .ok (.iconst 3, 1) := by decide +kernel
theorem dX7_isAhead_68 : decode cX7_isAhead 68 = .ok (.iadd, 1) := by decide +kernel
theorem dX7_isAhead_69 : decode cX7_isAhead 69 = .ok (.iaload, 1) := by decide +kernel
theorem dX7_isAhead_70 : decode cX7_isAhead 70 = .ok (.imul, 1) := by decide +kernel
theorem dX7_isAhead_71 : decode cX7_isAhead 71 = .ok (.aload_n 0, 1) := by decide +kernel
theorem dX7_isAhead_72 : decode cX7_isAhead 72 = .ok (.getfield 29, 3) := by decide +kernel
theorem dX7_isAhead_75 : decode cX7_isAhead 75 = .ok (.iconst 5, 1) := by decide +kernel
theorem dX7_isAhead_76 : decode cX7_isAhead 76 = .ok (.iload 5, 2) := by decide +kernel
theorem dX7_isAhead_78 : decode cX7_isAhead 78 = .ok (.imul, 1) := by decide +kernel
theorem dX7_isAhead_79 : decode cX7_isAhead 79 = .ok (.iconst 2, 1) := by decide +kernel
theorem dX7_isAhead_80 : decode cX7_isAhead 80 = .ok (.iadd, 1) := by decide +kernel
theorem dX7_isAhead_81 : decode cX7_isAhead 81 = .ok (.iaload, 1) := by decide +kernel
theorem dX7_isAhead_82 : decode cX7_isAhead 82 = .ok (.iload 4, 2) := by decide +kernel
theorem dX7_isAhead_84 : decode cX7_isAhead 84 = .ok (.imul, 1) := by decide +kernel
theorem dX7_isAhead_85 : decode cX7_isAhead 85 = .ok (.isub, 1) := by decide +kernel
theorem dX7_isAhead_86 : decode cX7_isAhead 86 = .ok (.istore 8, 2) := by decide +kernel
theorem dX7_isAhead_88 : decode cX7_isAhead 88 = .ok (.iload 6, 2) := by decide +kernel
theorem dX7_isAhead_90 : decode cX7_isAhead 90 = .ok (.ifCond .eq 16, 3) := by decide +kernel
theorem dX7_isAhead_93 : decode cX7_isAhead 93 = .ok (.iload 6, 2) := by decide +kernel
theorem dX7_isAhead_95 : decode cX7_isAhead 95 = .ok (.ifCond .ge 7, 3) := by decide +kernel
theorem dX7_isAhead_98 : decode cX7_isAhead 98 = .ok (.iconst 1, 1) := by decide +kernel
theorem dX7_isAhead_99 : decode cX7_isAhead 99 = .ok (.goto 35, 3) := by decide +kernel
theorem dX7_isAhead_102 : decode cX7_isAhead 102 = .ok (.iconst 0, 1) := by decide +kernel
theorem dX7_isAhead_103 : decode cX7_isAhead 103 = .ok (.goto 31, 3) := by decide +kernel
theorem dX7_isAhead_106 : decode cX7_isAhead 106 = .ok (.iload 7, 2) := by decide +kernel
theorem dX7_isAhead_108 : decode cX7_isAhead 108 = .ok (.ifCond .eq 16, 3) := by decide +kernel
theorem dX7_isAhead_111 : decode cX7_isAhead 111 = .ok (.iload 7, 2) := by decide +kernel
theorem dX7_isAhead_113 : decode cX7_isAhead 113 = .ok (.ifCond .ge 7, 3) := by decide +kernel
theorem dX7_isAhead_116 : decode cX7_isAhead 116 = .ok (.iconst 1, 1) := by decide +kernel
theorem dX7_isAhead_117 : decode cX7_isAhead 117 = .ok (.goto 17, 3) := by decide +kernel
theorem dX7_isAhead_120 : decode cX7_isAhead 120 = .ok (.iconst 0, 1) := by decide +kernel
theorem dX7_isAhead_121 : decode cX7_isAhead 121 = .ok (.goto 13, 3) := by decide +kernel
theorem dX7_isAhead_124 : decode cX7_isAhead 124 = .ok (.iload 8, 2) := by decide +kernel
theorem dX7_isAhead_126 : decode cX7_isAhead 126 = .ok (.ifCond .ge 7, 3) := by decide +kernel
theorem dX7_isAhead_129 : decode cX7_isAhead 129 = .ok (.iconst 1, 1) := by decide +kernel
theorem dX7_isAhead_130 : decode cX7_isAhead 130 = .ok (.goto 4, 3) := by decide +kernel
theorem dX7_isAhead_133 : decode cX7_isAhead 133 = .ok (.iconst 0, 1) := by decide +kernel
theorem dX7_isAhead_134 : decode cX7_isAhead 134 = .ok (.ireturn, 1) := by decide +kernel
theorem dX7_meeting_0 : decode cX7_meeting 0 = .ok (.aload_n 0, 1) := by decide +kernel
theorem dX7_meeting_1 : decode cX7_meeting 1 = .ok (.iload_n 1, 1) := by decide +kernel
theorem dX7_meeting_2 : decode cX7_meeting 2 = .ok (.iload_n 2, 1) := by decide +kernel
theorem dX7_meeting_3 : decode cX7_meeting 3 = .ok (.iload_n 3, 1) := by decide +kernel
theorem dX7_meeting_4 : decode cX7_meeting 4 = .ok (.iconst 0, 1) := by decide +kernel
theorem dX7_meeting_5 : decode cX7_meeting 5 = .ok (.invokevirtual 117, 3) := by decide +kernel
theorem dX7_meeting_8 : decode cX7_meeting 8 = .ok (.istore 5, 2) := by decide +kernel
theorem dX7_meeting_10 : decode cX7_meeting 10 = .ok (.aload_n 0, 1) := by decide +kernel
theorem dX7_meeting_11 : decode cX7_meeting 11 = .ok (.iload_n 1, 1) := by decide +kernel
theorem dX7_meeting_12 : decode cX7_meeting 12 = .ok (.iload_n 2, 1) := by decide +kernel
theorem dX7_meeting_13 : decode cX7_meeting 13 = .ok (.iload_n 3, 1) := by decide +kernel
theorem dX7_meeting_14 : decode cX7_meeting 14 = .ok (.iconst 1, 1) := by decide +kernel
theorem dX7_meeting_15 : decode cX7_meeting 15 = .ok (.invokevirtual 117, 3) := by decide +kernel
theorem dX7_meeting_18 : decode cX7_meeting 18 = .ok (.istore 6, 2) := by decide +kernel
theorem dX7_meeting_20 : decode cX7_meeting 20 = .ok (.aload_n 0, 1) := by decide +kernel
theorem dX7_meeting_21 : decode cX7_meeting 21 = .ok (.iload_n 1, 1) := by decide +kernel
theorem dX7_meeting_22 : decode cX7_meeting 22 = .ok (.iload_n 2, 1) := by decide +kernel
theorem dX7_meeting_23 : decode cX7_meeting 23 = .ok (.iload_n 3, 1) := by decide +kernel
theorem dX7_meeting_24 : decode cX7_meeting 24 = .ok (.iconst 2, 1) := by decide +kernel
theorem dX7_meeting_25 : decode cX7_meeting 25 = .ok (.invokevirtual 117, 3) := by decide +kernel
theorem dX7_meeting_28 : decode cX7_meeting 28 = .ok (.istore 7, 2) := by decide +kernel
theorem dX7_meeting_30 : decode cX7_meeting 30 = .ok (.iload 5, 2) := by decide +kernel
theorem dX7_meeting_32 : decode cX7_meeting 32 = .ok (.iload 6, 2) := by decide +kernel
theorem dX7_meeting_34 : decode cX7_meeting 34 = .ok (.invokestatic 120, 3) := by decide +kernel
theorem dX7_meeting_37 : decode cX7_meeting 37 = .ok (.iload 7, 2) := by decide +kernel
theorem dX7_meeting_39 : decode cX7_meeting 39 = .ok (.iload 4, 2) := by decide +kernel
theorem dX7_meeting_41 : decode cX7_meeting 41 = .ok (.invokestatic 120, 3) := by decide +kernel
theorem dX7_meeting_44 : decode cX7_meeting 44 = .ok (.invokestatic 120, 3) := by decide +kernel
theorem dX7_meeting_47 : decode cX7_meeting 47 = .ok (.istore 8, 2) := by decide +kernel
theorem dX7_meeting_49 : decode cX7_meeting 49 = .ok (.iload 4, 2) := by decide +kernel
theorem dX7_meeting_51 : decode cX7_meeting 51 = .ok (.ifCond .ge 9, 3) := by decide +kernel
theorem dX7_meeting_54 : decode cX7_meeting 54 = .ok (.iload 8, 2) := by decide +kernel
theorem dX7_meeting_56 : decode cX7_meeting 56 = .ok (.ineg, 1) := by decide +kernel
theorem dX7_meeting_57 : decode cX7_meeting 57 = .ok (.goto 5, 3) := by decide +kernel
theorem dX7_meeting_60 : decode cX7_meeting 60 = .ok (.iload 8, 2) := by decide +kernel
theorem dX7_meeting_62 : decode cX7_meeting 62 = .ok (.istore 8, 2) := by decide +kernel
theorem dX7_meeting_64 : decode cX7_meeting 64 = .ok (.iload 5, 2) := by decide +kernel
theorem dX7_meeting_66 : decode cX7_meeting 66 = .ok (.iload 8, 2) := by decide +kernel
theorem dX7_meeting_68 : decode cX7_meeting 68 = .ok (.idiv, 1) := by decide +kernel
theorem dX7_meeting_69 : decode cX7_meeting 69 = .ok (.istore 5, 2) := by decide +kernel
theorem dX7_meeting_71 : decode cX7_meeting 71 = .ok (.iload 6, 2) := by decide +kernel
theorem dX7_meeting_73 : decode cX7_meeting 73 = .ok (.iload 8, 2) := by decide +kernel
theorem dX7_meeting_75 : decode cX7_meeting 75 = .ok (.idiv, 1) := by decide +kernel
theorem dX7_meeting_76 : decode cX7_meeting 76 = .ok (.istore 6, 2) := by decide +kernel
theorem dX7_meeting_78 : decode cX7_meeting 78 = .ok (.iload 7, 2) := by decide +kernel
theorem dX7_meeting_80 : decode cX7_meeting 80 = .ok (.iload 8, 2) := by decide +kernel
theorem dX7_meeting_82 : decode cX7_meeting 82 = .ok (.idiv, 1) := by decide +kernel
theorem dX7_meeting_83 : decode cX7_meeting 83 = .ok (.istore 7, 2) := by decide +kernel
theorem dX7_meeting_85 : decode cX7_meeting 85 = .ok (.iload 4, 2) := by decide +kernel
theorem dX7_meeting_87 : decode cX7_meeting 87 = .ok (.iload 8, 2) := by decide +kernel
theorem dX7_meeting_89 : decode cX7_meeting 89 = .ok (.idiv, 1) := by decide +kernel
theorem dX7_meeting_90 : decode cX7_meeting 90 = .ok (.istore 9, 2) := by decide +kernel
theorem dX7_meeting_92 : decode cX7_meeting 92 = .ok (.iconst 0, 1) := by decide +kernel
theorem dX7_meeting_93 : decode cX7_meeting 93 = .ok (.istore 10, 2) := by decide +kernel
theorem dX7_meeting_95 : decode cX7_meeting 95 = .ok (.iconst 0, 1) := by decide +kernel
theorem dX7_meeting_96 : decode cX7_meeting 96 = .ok (.istore 11, 2) := by decide +kernel
theorem dX7_meeting_98 : decode cX7_meeting 98 = .ok (.iload 11, 2) := by decide +kernel
theorem dX7_meeting_100 : decode cX7_meeting 100 = .ok (.aload_n 0, 1) := by decide +kernel
theorem dX7_meeting_101 : decode cX7_meeting 101 = .ok (.getfield 7, 3) := by decide +kernel
theorem dX7_meeting_104 : decode cX7_meeting 104 = .ok (.iconst 0, 1) := by decide +kernel
theorem dX7_meeting_105 : decode cX7_meeting 105 = .ok (.iaload, 1) := by decide +kernel
theorem dX7_meeting_106 : decode cX7_meeting 106 = .ok (.if_icmp .ge 58, 3) := by decide +kernel
theorem dX7_meeting_109 : decode cX7_meeting 109 = .ok (.aload_n 0, 1) := by decide +kernel
theorem dX7_meeting_110 : decode cX7_meeting 110 = .ok (.iload 11, 2) := by decide +kernel
theorem dX7_meeting_112 : decode cX7_meeting 112 = .ok (.iload 5, 2) := by decide +kernel
theorem dX7_meeting_114 : decode cX7_meeting 114 = .ok (.iload 6, 2) := by decide +kernel
theorem dX7_meeting_116 : decode cX7_meeting 116 = .ok (.iload 7, 2) := by decide +kernel
theorem dX7_meeting_118 : decode cX7_meeting 118 = .ok (.invokevirtual 123, 3) := by decide +kernel
theorem dX7_meeting_121 : decode cX7_meeting 121 = .ok (.aload_n 0, 1) := by decide +kernel
theorem dX7_meeting_122 : decode cX7_meeting 122 = .ok (.iload 11, 2) := by decide +kernel
theorem dX7_meeting_124 : decode cX7_meeting 124 = .ok (.iconst 3, 1) := by decide +kernel
theorem dX7_meeting_125 : decode cX7_meeting 125 = .ok (.invokevirtual 85, 3) := by decide +kernel
theorem dX7_meeting_128 : decode cX7_meeting 128 = .ok (.iload 9, 2) := by decide +kernel
theorem dX7_meeting_130 : decode cX7_meeting 130 = .ok (.imul, 1) := by decide +kernel
theorem dX7_meeting_131 : decode cX7_meeting 131 = .ok (.isub, 1) := by decide +kernel
theorem dX7_meeting_132 : decode cX7_meeting 132 = .ok (.istore 12, 2) := by decide +kernel
theorem dX7_meeting_134 : decode cX7_meeting 134 = .ok (.iload 12, 2) := by decide +kernel
theorem dX7_meeting_136 : decode cX7_meeting 136 = .ok (.ifCond .le 4, 3) := by decide +kernel
theorem dX7_meeting_139 : decode cX7_meeting 139 = .ok (.return_, 1) := by decide +kernel
theorem dX7_meeting_140 : decode cX7_meeting 140 = .ok (.iload 10, 2) := by decide +kernel
theorem dX7_meeting_142 : decode cX7_meeting 142 = .ok (.iload 12, 2) := by decide +kernel
theorem dX7_meeting_144 : decode cX7_meeting 144 = .ok (.ifCond .ne 10, 3) := by decide +kernel
theorem dX7_meeting_147 : decode cX7_meeting 147 = .ok (.iconst 1, 1) := by decide +kernel
theorem dX7_meeting_148 : decode cX7_meeting 148 = .ok (.iload 11, 2) := by decide +kernel
theorem dX7_meeting_150 : decode cX7_meeting 150 = .ok (.ishl, 1) := by decide +kernel
theorem dX7_meeting_151 : decode cX7_meeting 151 = .ok (.goto 4, 3) := by decide +kernel
theorem dX7_meeting_154 : decode cX7_meeting 154 = .ok (.iconst 0, 1) := by decide +kernel
theorem dX7_meeting_155 : decode cX7_meeting 155 = .ok (.ior, 1) := by decide +kernel
theorem dX7_meeting_156 : decode cX7_meeting 156 = .ok (.istore 10, 2) := by decide +kernel
theorem dX7_meeting_158 : decode cX7_meeting 158 = .ok (.iinc 11 1, 3) := by decide +kernel
theorem dX7_meeting_161 : decode cX7_meeting 161 = .ok (.goto (-63), 3) := by decide +kernel
theorem dX7_meeting_164 : decode cX7_meeting 164 = .ok (.aload_n 0, 1) := by decide +kernel
theorem dX7_meeting_165 : decode cX7_meeting 165 = .ok (.iload 5, 2) := by decide +kernel
theorem dX7_meeting_167 : decode cX7_meeting 167 = .ok (.iload 6, 2) := by decide +kernel
theorem dX7_meeting_169 : decode cX7_meeting 169 = .ok (.iload 7, 2) := by decide +kernel
theorem dX7_meeting_171 : decode cX7_meeting 171 = .ok (.iload 9, 2) := by decide +kernel
theorem dX7_meeting_173 : decode cX7_meeting 173 = .ok (.invokevirtual 126, 3) := by decide +kernel
theorem dX7_meeting_176 : decode cX7_meeting 176 = .ok (.ifCond .eq 4, 3) := by decide +kernel
theorem dX7_meeting_179 : decode cX7_meeting 179 = .ok (.return_, 1) := by decide +kernel
theorem dX7_meeting_180 : decode cX7_meeting 180 = .ok (.aload_n 0, 1) := by decide +kernel
theorem dX7_meeting_181 : decode cX7_meeting 181 = .ok (.getfield 114, 3) := by decide +kernel
theorem dX7_meeting_184 : decode cX7_meeting 184 = .ok (.istore 11, 2) := by decide +kernel
theorem dX7_meeting_186 : decode cX7_meeting 186 = .ok (.iload 11, 2) := by decide +kernel
theorem dX7_meeting_188 : decode cX7_meeting 188 = .ok (.ifCond .le 69, 3) := by decide +kernel
theorem dX7_meeting_191 : decode cX7_meeting 191 = .ok (.aload_n 0, 1) := by decide +kernel
theorem dX7_meeting_192 : decode cX7_meeting 192 = .ok (.iload 5, 2) := by decide +kernel
theorem dX7_meeting_194 : decode cX7_meeting 194 = .ok (.iload 6, 2) := by decide +kernel
theorem dX7_meeting_196 : decode cX7_meeting 196 = .ok (.iload 7, 2) := by decide +kernel
theorem dX7_meeting_198 : decode cX7_meeting 198 = .ok (.iload 9, 2) := by decide +kernel
theorem dX7_meeting_200 : decode cX7_meeting 200 = .ok (.iload 11, 2) := by decide +kernel
theorem dX7_meeting_202 : decode cX7_meeting 202 = .ok (.iconst 1, 1) := by decide +kernel
theorem dX7_meeting_203 : decode cX7_meeting 203 = .ok (.isub, 1) := by decide +kernel
theorem dX7_meeting_204 : decode cX7_meeting 204 = .ok (.invokevirtual 130, 3) := by decide +kernel
theorem dX7_meeting_207 : decode cX7_meeting 207 = .ok (.ifCond .eq 50, 3) := by decide +kernel
theorem dX7_meeting_210 : decode cX7_meeting 210 = .ok (.iconst 0, 1) := by decide +kernel
theorem dX7_meeting_211 : decode cX7_meeting 211 = .ok (.istore 12, 2) := by decide +kernel
theorem dX7_meeting_213 : decode cX7_meeting 213 = .ok (.iload 12, 2) := by decide +kernel
theorem dX7_meeting_215 : decode cX7_meeting 215 = .ok (.iconst 5, 1) := by decide +kernel
theorem dX7_meeting_216 : decode cX7_meeting 216 = .ok (.if_icmp .ge 35, 3) := by decide +kernel
theorem dX7_meeting_219 : decode cX7_meeting 219 = .ok (.aload_n 0, 1) := by decide +kernel
theorem dX7_meeting_220 : decode cX7_meeting 220 = .ok (.getfield 29, 3) := by decide +kernel
theorem dX7_meeting_223 : decode cX7_meeting 223 = .ok (.iconst 5, 1) := by decide +kernel
theorem dX7_meeting_224 : decode cX7_meeting 224 = .ok (.iload 11, 2) := by decide +kernel
theorem dX7_meeting_226 : decode cX7_meeting 226 = .ok (.imul, 1) := by decide +kernel
theorem dX7_meeting_227 : decode cX7_meeting 227 = .ok (.iload 12, 2) := by decide +kernel
theorem dX7_meeting_229 : decode cX7_meeting 229 = .ok (.iadd, 1) := by decide +kernel
theorem dX7_meeting_230 : decode cX7_meeting 230 = .ok (.aload_n 0, 1) := by decide +kernel
theorem dX7_meeting_231 : decode cX7_meeting 231 = .ok (.getfield 29, 3) := by decide +kernel
theorem dX7_meeting_234 : decode cX7_meeting 234 = .ok (.iconst 5, 1) := by decide +kernel
theorem dX7_meeting_235 : decode cX7_meeting 235 = .ok (.iload 11, 2) := by decide +kernel
theorem dX7_meeting_237 : decode cX7_meeting 237 = .ok (.imul, 1) := by decide +kernel
theorem dX7_meeting_238 : decode cX7_meeting 238 = .ok (.iconst 5, 1) := by decide +kernel
theorem dX7_meeting_239 : decode cX7_meeting 239 = .ok (.isub, 1) := by decide +kernel
theorem dX7_meeting_240 : decode cX7_meeting 240 = .ok (.iload 12, 2) := by decide +kernel
theorem dX7_meeting_242 : decode cX7_meeting 242 = .ok (.iadd, 1) := by decide +kernel
theorem dX7_meeting_243 : decode cX7_meeting 243 = .ok (.iaload, 1) := by decide +kernel
theorem dX7_meeting_244 : decode cX7_meeting 244 = .ok (.iastore, 1) := by decide +kernel
theorem dX7_meeting_245 : decode cX7_meeting 245 = .ok (.iinc 12 1, 3) := by decide +kernel
theorem dX7_meeting_248 : decode cX7_meeting 248 = .ok (.goto (-35), 3) := by decide +kernel
theorem dX7_meeting_251 : decode cX7_meeting 251 = .ok (.iinc 11 (-1), 3) := by decide +kernel
theorem dX7_meeting_254 : decode cX7_meeting 254 = .ok (.goto (-68), 3) := by decide +kernel
theorem dX7_meeting_257 : decode cX7_meeting 257 = .ok (.aload_n 0, 1) := by decide +kernel
theorem dX7_meeting_258 : decode cX7_meeting 258 = .ok (.getfield 29, 3) := by decide +kernel
theorem dX7_meeting_261 : decode cX7_meeting 261 = .ok (.iconst 5, 1) := by decide +kernel
theorem dX7_meeting_262 : decode cX7_meeting 262 = .ok (.iload 11, 2) := by decide +kernel
theorem dX7_meeting_264 : decode cX7_meeting 264 = .ok (.imul, 1) := by decide +kernel
theorem dX7_meeting_265 : decode cX7_meeting 265 = .ok (.iload 5, 2) := by decide +kernel
theorem dX7_meeting_267 : decode cX7_meeting 267 = .ok (.iastore, 1) := by decide +kernel
theorem dX7_meeting_268 : decode cX7_meeting 268 = .ok (.aload_n 0, 1) := by decide +kernel
theorem dX7_meeting_269 : decode cX7_meeting 269 = .ok (.getfield 29, 3) := by decide +kernel
theorem dX7_meeting_272 : decode cX7_meeting 272 = .ok (.iconst 5, 1) := by decide +kernel
theorem dX7_meeting_273 : decode cX7_meeting 273 = .ok (.iload 11, 2) := by decide +kernel
theorem dX7_meeting_275 : decode cX7_meeting 275 = .ok (.imul, 1) := by decide +kernel
theorem dX7_meeting_276 : decode cX7_meeting 276 = .ok (.iconst 1, 1) := by decide +kernel
theorem dX7_meeting_277 : decode cX7_meeting 277 = .ok (.iadd, 1) := by decide +kernel
theorem dX7_meeting_278 : decode cX7_meeting 278 = .ok (.iload 6, 2) := by decide +kernel
theorem dX7_meeting_280 : decode cX7_meeting 280 = .ok (.iastore, 1) := by decide +kernel
theorem dX7_meeting_281 : decode cX7_meeting 281 = .ok (.aload_n 0, 1) := by decide +kernel
theorem dX7_meeting_282 : decode cX7_meeting 282 = .ok (.getfield 29, 3) := by decide +kernel
theorem dX7_meeting_285 : decode cX7_meeting 285 = .ok (.iconst 5, 1) := by decide +kernel
theorem dX7_meeting_286 : decode cX7_meeting 286 = .ok (.iload 11, 2) := by decide +kernel
theorem dX7_meeting_288 : decode cX7_meeting 288 = .ok (.imul, 1) := by decide +kernel
theorem dX7_meeting_289 : decode cX7_meeting 289 = .ok (.iconst 2, 1) := by decide +kernel
theorem dX7_meeting_290 : decode cX7_meeting 290 = .ok (.iadd, 1) := by decide +kernel
theorem dX7_meeting_291 : decode cX7_meeting 291 = .ok (.iload 7, 2) := by decide +kernel
theorem dX7_meeting_293 : decode cX7_meeting 293 = .ok (.iastore, 1) := by decide +kernel
theorem dX7_meeting_294 : decode cX7_meeting 294 = .ok (.aload_n 0, 1) := by decide +kernel
theorem dX7_meeting_295 : decode cX7_meeting 295 = .ok (.getfield 29, 3) := by decide +kernel
theorem dX7_meeting_298 : decode cX7_meeting 298 = .ok (.iconst 5, 1) := by decide +kernel
theorem dX7_meeting_299 : decode cX7_meeting 299 = .ok (.iload 11, 2) := by decide +kernel
theorem dX7_meeting_301 : decode cX7_meeting 301 = .ok (.imul, 1) := by decide +kernel
theorem dX7_meeting_302 : decode cX7_meeting 302 = .ok (.iconst 3, 1) := by decide +kernel
theorem dX7_meeting_303 : decode cX7_meeting 303 = .ok (.iadd, 1) := by decide +kernel
theorem dX7_meeting_304 : decode cX7_meeting 304 = .ok (.iload 9, 2) := by decide +kernel
theorem dX7_meeting_306 : decode cX7_meeting 306 = .ok (.iastore, 1) := by decide +kernel
theorem dX7_meeting_307 : decode cX7_meeting 307 = .ok (.aload_n 0, 1) := by decide +kernel
theorem dX7_meeting_308 : decode cX7_meeting 308 = .ok (.getfield 29, 3) := by decide +kernel
theorem dX7_meeting_311 : decode cX7_meeting 311 = .ok (.iconst 5, 1) := by decide +kernel
theorem dX7_meeting_312 : decode cX7_meeting 312 = .ok (.iload 11, 2) := by decide +kernel
theorem dX7_meeting_314 : decode cX7_meeting 314 = .ok (.imul, 1) := by decide +kernel
theorem dX7_meeting_315 : decode cX7_meeting 315 = .ok (.iconst 4, 1) := by decide +kernel
theorem dX7_meeting_316 : decode cX7_meeting 316 = .ok (.iadd, 1) := by decide +kernel
theorem dX7_meeting_317 : decode cX7_meeting 317 = .ok (.iload 10, 2) := by decide +kernel
theorem dX7_meeting_319 : decode cX7_meeting 319 = .ok (.iastore, 1) := by decide +kernel
theorem dX7_meeting_320 : decode cX7_meeting 320 = .ok (.aload_n 0, 1) := by decide +kernel
theorem dX7_meeting_321 : decode cX7_meeting 321 = .ok (.dup, 1) := by decide +kernel
theorem dX7_meeting_322 : decode cX7_meeting 322 = .ok (.getfield 114, 3) := by decide +kernel
theorem dX7_meeting_325 : decode cX7_meeting 325 = .ok (.iconst 1, 1) := by decide +kernel
theorem dX7_meeting_326 : decode cX7_meeting 326 = .ok (.iadd, 1) := by decide +kernel
theorem dX7_meeting_327 : decode cX7_meeting 327 = .ok (.putfield 114, 3) := by decide +kernel
theorem dX7_meeting_330 : decode cX7_meeting 330 = .ok (.return_, 1) := by decide +kernel
theorem dX7_isOn_0 : decode cX7_isOn 0 = .ok (.aload_n 0, 1) := by decide +kernel
theorem dX7_isOn_1 : decode cX7_isOn 1 = .ok (.getfield 29, 3) := by decide +kernel
theorem dX7_isOn_4 : decode cX7_isOn 4 = .ok (.iconst 5, 1) := by decide +kernel
theorem dX7_isOn_5 : decode cX7_isOn 5 = .ok (.iload_n 1, 1) := by decide +kernel
theorem dX7_isOn_6 : decode cX7_isOn 6 = .ok (.imul, 1) := by decide +kernel
theorem dX7_isOn_7 : decode cX7_isOn 7 = .ok (.iconst 4, 1) := by decide +kernel
theorem dX7_isOn_8 : decode cX7_isOn 8 = .ok (.iadd, 1) := by decide +kernel
theorem dX7_isOn_9 : decode cX7_isOn 9 = .ok (.iaload, 1) := by decide +kernel
theorem dX7_isOn_10 : decode cX7_isOn 10 = .ok (.iload_n 2, 1) := by decide +kernel
theorem dX7_isOn_11 : decode cX7_isOn 11 = .ok (.ishr, 1) := by decide +kernel
theorem dX7_isOn_12 : decode cX7_isOn 12 = .ok (.iconst 1, 1) := by decide +kernel
theorem dX7_isOn_13 : decode cX7_isOn 13 = .ok (.iand, 1) := by decide +kernel
theorem dX7_isOn_14 : decode cX7_isOn 14 = .ok (.iconst 1, 1) := by decide +kernel
theorem dX7_isOn_15 : decode cX7_isOn 15 = .ok (.if_icmp .ne 7, 3) := by decide +kernel
theorem dX7_isOn_18 : decode cX7_isOn 18 = .ok (.iconst 1, 1) := by decide +kernel
theorem dX7_isOn_19 : decode cX7_isOn 19 = .ok (.goto 4, 3) := by decide +kernel
theorem dX7_isOn_22 : decode cX7_isOn 22 = .ok (.iconst 0, 1) := by decide +kernel
theorem dX7_isOn_23 : decode cX7_isOn 23 = .ok (.ireturn, 1) := by decide +kernel
theorem dX7_cornersOn_0 : decode cX7_cornersOn 0 = .ok (.iconst 0, 1) := by decide +kernel
theorem dX7_cornersOn_1 : decode cX7_cornersOn 1 = .ok (.istore_n 2, 1) := by decide +kernel
theorem dX7_cornersOn_2 : decode cX7_cornersOn 2 = .ok (.iconst 0, 1) := by decide +kernel
theorem dX7_cornersOn_3 : decode cX7_cornersOn 3 = .ok (.istore_n 3, 1) := by decide +kernel
theorem dX7_cornersOn_4 : decode cX7_cornersOn 4 = .ok (.iload_n 3, 1) := by decide +kernel
theorem dX7_cornersOn_5 : decode cX7_cornersOn 5 = .ok (.aload_n 0, 1) := by decide +kernel
theorem dX7_cornersOn_6 : decode cX7_cornersOn 6 = .ok (.getfield 114, 3) := by decide +kernel
theorem dX7_cornersOn_9 : decode cX7_cornersOn 9 = .ok (.if_icmp .ge 26, 3) := by decide +kernel
theorem dX7_cornersOn_12 : decode cX7_cornersOn 12 = .ok (.iload_n 2, 1) := by decide +kernel
theorem dX7_cornersOn_13 : decode cX7_cornersOn 13 = .ok (.aload_n 0, 1) := by decide +kernel
theorem dX7_cornersOn_14 : decode cX7_cornersOn 14 = .ok (.iload_n 3, 1) := by decide +kernel
theorem dX7_cornersOn_15 : decode cX7_cornersOn 15 = .ok (.iload_n 1, 1) := by decide +kernel
theorem dX7_cornersOn_16 : decode cX7_cornersOn 16 = .ok (.invokevirtual 134, 3) := by decide +kernel
theorem dX7_cornersOn_19 : decode cX7_cornersOn 19 = .ok (.ifCond .eq 7, 3) := by decide +kernel
theorem dX7_cornersOn_22 : decode cX7_cornersOn 22 = .ok (.iconst 1, 1) := by decide +kernel
theorem dX7_cornersOn_23 : decode cX7_cornersOn 23 = .ok (.goto 4, 3) := by decide +kernel
theorem dX7_cornersOn_26 : decode cX7_cornersOn 26 = .ok (.iconst 0, 1) := by decide +kernel
theorem dX7_cornersOn_27 : decode cX7_cornersOn 27 = .ok (.iadd, 1) := by decide +kernel
theorem dX7_cornersOn_28 : decode cX7_cornersOn 28 = .ok (.istore_n 2, 1) := by decide +kernel
theorem dX7_cornersOn_29 : decode cX7_cornersOn 29 = .ok (.iinc 3 1, 3) := by decide +kernel
theorem dX7_cornersOn_32 : decode cX7_cornersOn 32 = .ok (.goto (-28), 3) := by decide +kernel
theorem dX7_cornersOn_35 : decode cX7_cornersOn 35 = .ok (.iload_n 2, 1) := by decide +kernel
theorem dX7_cornersOn_36 : decode cX7_cornersOn 36 = .ok (.ireturn, 1) := by decide +kernel
theorem dX7_cornersOnBoth_0 : decode cX7_cornersOnBoth 0 = .ok (.iconst 0, 1) := by decide +kernel
theorem dX7_cornersOnBoth_1 : decode cX7_cornersOnBoth 1 = .ok (.istore_n 3, 1) := by decide +kernel
theorem dX7_cornersOnBoth_2 : decode cX7_cornersOnBoth 2 = .ok (.iconst 0, 1) := by decide +kernel
theorem dX7_cornersOnBoth_3 : decode cX7_cornersOnBoth 3 = .ok (.istore 4, 2) := by decide +kernel
theorem dX7_cornersOnBoth_5 : decode cX7_cornersOnBoth 5 = .ok (.iload 4, 2) := by decide +kernel
theorem dX7_cornersOnBoth_7 : decode cX7_cornersOnBoth 7 = .ok (.aload_n 0, 1) := by decide +kernel
theorem dX7_cornersOnBoth_8 : decode cX7_cornersOnBoth 8 = .ok (.getfield 114, 3) := by decide +kernel
theorem dX7_cornersOnBoth_11 : decode cX7_cornersOnBoth 11 = .ok (.if_icmp .ge 37, 3) := by decide +kernel
theorem dX7_cornersOnBoth_14 : decode cX7_cornersOnBoth 14 = .ok (.iload_n 3, 1) := by decide +kernel
theorem dX7_cornersOnBoth_15 : decode cX7_cornersOnBoth 15 = .ok (.aload_n 0, 1) := by decide +kernel
theorem dX7_cornersOnBoth_16 : decode cX7_cornersOnBoth 16 = .ok (.iload 4, 2) := by decide +kernel
theorem dX7_cornersOnBoth_18 : decode cX7_cornersOnBoth 18 = .ok (.iload_n 1, 1) := by decide +kernel
theorem dX7_cornersOnBoth_19 : decode cX7_cornersOnBoth 19 = .ok (.invokevirtual 134, 3) := by decide +kernel
theorem dX7_cornersOnBoth_22 : decode cX7_cornersOnBoth 22 = .ok (.ifCond .eq 17, 3) := by decide +kernel
theorem dX7_cornersOnBoth_25 : decode cX7_cornersOnBoth 25 = .ok (.aload_n 0, 1) := by decide +kernel
theorem dX7_cornersOnBoth_26 : decode cX7_cornersOnBoth 26 = .ok (.iload 4, 2) := by decide +kernel
theorem dX7_cornersOnBoth_28 : decode cX7_cornersOnBoth 28 = .ok (.iload_n 2, 1) := by decide +kernel
theorem dX7_cornersOnBoth_29 : decode cX7_cornersOnBoth 29 = .ok (.invokevirtual 134, 3) := by decide +kernel
theorem dX7_cornersOnBoth_32 : decode cX7_cornersOnBoth 32 = .ok (.ifCond .eq 7, 3) := by decide +kernel
theorem dX7_cornersOnBoth_35 : decode cX7_cornersOnBoth 35 = .ok (.iconst 1, 1) := by decide +kernel
theorem dX7_cornersOnBoth_36 : decode cX7_cornersOnBoth 36 = .ok (.goto 4, 3) := by decide +kernel
theorem dX7_cornersOnBoth_39 : decode cX7_cornersOnBoth 39 = .ok (.iconst 0, 1) := by decide +kernel
theorem dX7_cornersOnBoth_40 : decode cX7_cornersOnBoth 40 = .ok (.iadd, 1) := by decide +kernel
theorem dX7_cornersOnBoth_41 : decode cX7_cornersOnBoth 41 = .ok (.istore_n 3, 1) := by decide +kernel
theorem dX7_cornersOnBoth_42 : decode cX7_cornersOnBoth 42 = .ok (.iinc 4 1, 3) := by decide +kernel
theorem dX7_cornersOnBoth_45 : decode cX7_cornersOnBoth 45 = .ok (.goto (-40), 3) := by decide +kernel
theorem dX7_cornersOnBoth_48 : decode cX7_cornersOnBoth 48 = .ok (.iload_n 3, 1) := by decide +kernel
theorem dX7_cornersOnBoth_49 : decode cX7_cornersOnBoth 49 = .ok (.ireturn, 1) := by decide +kernel
theorem dX7_isSame_0 : decode cX7_isSame 0 = .ok (.iconst 1, 1) := by decide +kernel
theorem dX7_isSame_1 : decode cX7_isSame 1 = .ok (.istore_n 3, 1) := by decide +kernel
theorem dX7_isSame_2 : decode cX7_isSame 2 = .ok (.iconst 0, 1) := by decide +kernel
theorem dX7_isSame_3 : decode cX7_isSame 3 = .ok (.istore 4, 2) := by decide +kernel
theorem dX7_isSame_5 : decode cX7_isSame 5 = .ok (.iload 4, 2) := by decide +kernel
theorem dX7_isSame_7 : decode cX7_isSame 7 = .ok (.iconst 3, 1) := by decide +kernel
theorem dX7_isSame_8 : decode cX7_isSame 8 = .ok (.if_icmp .ge 50, 3) := by decide +kernel
theorem dX7_isSame_11 : decode cX7_isSame 11 = .ok (.iload_n 3, 1) := by decide +kernel
theorem dX7_isSame_12 : decode cX7_isSame 12 = .ok (.ifCond .eq 38, 3) := by decide +kernel
theorem dX7_isSame_15 : decode cX7_isSame 15 = .ok (.aload_n 0, 1) := by decide +kernel
theorem dX7_isSame_16 : decode cX7_isSame 16 = .ok (.iload_n 1, 1) := by decide +kernel
theorem dX7_isSame_17 : decode cX7_isSame 17 = .ok (.iload 4, 2) := by decide +kernel
theorem dX7_isSame_19 : decode cX7_isSame 19 = .ok (.invokevirtual 85, 3) := by decide +kernel
theorem dX7_isSame_22 : decode cX7_isSame 22 = .ok (.aload_n 0, 1) := by decide +kernel
theorem dX7_isSame_23 : decode cX7_isSame 23 = .ok (.iload_n 2, 1) := by decide +kernel
theorem dX7_isSame_24 : decode cX7_isSame 24 = .ok (.iconst 3, 1) := by decide +kernel
theorem dX7_isSame_25 : decode cX7_isSame 25 = .ok (.invokevirtual 85, 3) := by decide +kernel
theorem dX7_isSame_28 : decode cX7_isSame 28 = .ok (.imul, 1) := by decide +kernel
theorem dX7_isSame_29 : decode cX7_isSame 29 = .ok (.aload_n 0, 1) := by decide +kernel
theorem dX7_isSame_30 : decode cX7_isSame 30 = .ok (.iload_n 2, 1) := by decide +kernel
theorem dX7_isSame_31 : decode cX7_isSame 31 = .ok (.iload 4, 2) := by decide +kernel
theorem dX7_isSame_33 : decode cX7_isSame 33 = .ok (.invokevirtual 85, 3) := by decide +kernel
theorem dX7_isSame_36 : decode cX7_isSame 36 = .ok (.aload_n 0, 1) := by decide +kernel
theorem dX7_isSame_37 : decode cX7_isSame 37 = .ok (.iload_n 1, 1) := by decide +kernel
theorem dX7_isSame_38 : decode cX7_isSame 38 = .ok (.iconst 3, 1) := by decide +kernel
theorem dX7_isSame_39 : decode cX7_isSame 39 = .ok (.invokevirtual 85, 3) := by decide +kernel
theorem dX7_isSame_42 : decode cX7_isSame 42 = .ok (.imul, 1) := by decide +kernel
theorem dX7_isSame_43 : decode cX7_isSame 43 = .ok (.if_icmp .ne 7, 3) := by decide +kernel
theorem dX7_isSame_46 : decode cX7_isSame 46 = .ok (.iconst 1, 1) := by decide +kernel
theorem dX7_isSame_47 : decode cX7_isSame 47 = .ok (.goto 4, 3) := by decide +kernel
theorem dX7_isSame_50 : decode cX7_isSame 50 = .ok (.iconst 0, 1) := by decide +kernel
theorem dX7_isSame_51 : decode cX7_isSame 51 = .ok (.istore_n 3, 1) := by decide +kernel
theorem dX7_isSame_52 : decode cX7_isSame 52 = .ok (.iinc 4 1, 3) := by decide +kernel
theorem dX7_isSame_55 : decode cX7_isSame 55 = .ok (.goto (-50), 3) := by decide +kernel
theorem dX7_isSame_58 : decode cX7_isSame 58 = .ok (.iload_n 3, 1) := by decide +kernel
theorem dX7_isSame_59 : decode cX7_isSame 59 = .ok (.ireturn, 1) := by decide +kernel
theorem dX7_lays_0 : decode cX7_lays 0 = .ok (.aload_n 0, 1) := by decide +kernel
theorem dX7_lays_1 : decode cX7_lays 1 = .ok (.iconst 0, 1) := by decide +kernel
theorem dX7_lays_2 : decode cX7_lays 2 = .ok (.putfield 114, 3) := by decide +kernel
theorem dX7_lays_5 : decode cX7_lays 5 = .ok (.iconst 0, 1) := by decide +kernel
theorem dX7_lays_6 : decode cX7_lays 6 = .ok (.istore_n 1, 1) := by decide +kernel
theorem dX7_lays_7 : decode cX7_lays 7 = .ok (.iload_n 1, 1) := by decide +kernel
theorem dX7_lays_8 : decode cX7_lays 8 = .ok (.aload_n 0, 1) := by decide +kernel
theorem dX7_lays_9 : decode cX7_lays 9 = .ok (.getfield 7, 3) := by decide +kernel
theorem dX7_lays_12 : decode cX7_lays 12 = .ok (.iconst 0, 1) := by decide +kernel
theorem dX7_lays_13 : decode cX7_lays 13 = .ok (.iaload, 1) := by decide +kernel
theorem dX7_lays_14 : decode cX7_lays 14 = .ok (.if_icmp .ge 73, 3) := by decide +kernel
theorem dX7_lays_17 : decode cX7_lays 17 = .ok (.iload_n 1, 1) := by decide +kernel
theorem dX7_lays_18 : decode cX7_lays 18 = .ok (.iconst 1, 1) := by decide +kernel
theorem dX7_lays_19 : decode cX7_lays 19 = .ok (.iadd, 1) := by decide +kernel
theorem dX7_lays_20 : decode cX7_lays 20 = .ok (.istore_n 2, 1) := by decide +kernel
theorem dX7_lays_21 : decode cX7_lays 21 = .ok (.iload_n 2, 1) := by decide +kernel
theorem dX7_lays_22 : decode cX7_lays 22 = .ok (.aload_n 0, 1) := by decide +kernel
theorem dX7_lays_23 : decode cX7_lays 23 = .ok (.getfield 7, 3) := by decide +kernel
theorem dX7_lays_26 : decode cX7_lays 26 = .ok (.iconst 0, 1) := by decide +kernel
theorem dX7_lays_27 : decode cX7_lays 27 = .ok (.iaload, 1) := by decide +kernel
theorem dX7_lays_28 : decode cX7_lays 28 = .ok (.if_icmp .ge 53, 3) := by decide +kernel
theorem dX7_lays_31 : decode cX7_lays 31 = .ok (.iload_n 2, 1) := by decide +kernel
theorem dX7_lays_32 : decode cX7_lays 32 = .ok (.iconst 1, 1) := by decide +kernel
theorem dX7_lays_33 : decode cX7_lays 33 = .ok (.iadd, 1) := by decide +kernel
theorem dX7_lays_34 : decode cX7_lays 34 = .ok (.istore_n 3, 1) := by decide +kernel
theorem dX7_lays_35 : decode cX7_lays 35 = .ok (.iload_n 3, 1) := by decide +kernel
theorem dX7_lays_36 : decode cX7_lays 36 = .ok (.aload_n 0, 1) := by decide +kernel
theorem dX7_lays_37 : decode cX7_lays 37 = .ok (.getfield 7, 3) := by decide +kernel
theorem dX7_lays_40 : decode cX7_lays 40 = .ok (.iconst 0, 1) := by decide +kernel
theorem dX7_lays_41 : decode cX7_lays 41 = .ok (.iaload, 1) := by decide +kernel
theorem dX7_lays_42 : decode cX7_lays 42 = .ok (.if_icmp .ge 33, 3) := by decide +kernel
theorem dX7_lays_45 : decode cX7_lays 45 = .ok (.aload_n 0, 1) := by decide +kernel
theorem dX7_lays_46 : decode cX7_lays 46 = .ok (.iload_n 1, 1) := by decide +kernel
theorem dX7_lays_47 : decode cX7_lays 47 = .ok (.iload_n 2, 1) := by decide +kernel
theorem dX7_lays_48 : decode cX7_lays 48 = .ok (.iload_n 3, 1) := by decide +kernel
theorem dX7_lays_49 : decode cX7_lays 49 = .ok (.iconst 3, 1) := by decide +kernel
theorem dX7_lays_50 : decode cX7_lays 50 = .ok (.invokevirtual 117, 3) := by decide +kernel
theorem dX7_lays_53 : decode cX7_lays 53 = .ok (.istore 4, 2) := by decide +kernel
theorem dX7_lays_55 : decode cX7_lays 55 = .ok (.iload 4, 2) := by decide +kernel
theorem dX7_lays_57 : decode cX7_lays 57 = .ok (.ifCond .eq 12, 3) := by decide +kernel
theorem dX7_lays_60 : decode cX7_lays 60 = .ok (.aload_n 0, 1) := by decide +kernel
theorem dX7_lays_61 : decode cX7_lays 61 = .ok (.iload_n 1, 1) := by decide +kernel
theorem dX7_lays_62 : decode cX7_lays 62 = .ok (.iload_n 2, 1) := by decide +kernel
theorem dX7_lays_63 : decode cX7_lays 63 = .ok (.iload_n 3, 1) := by decide +kernel
theorem dX7_lays_64 : decode cX7_lays 64 = .ok (.iload 4, 2) := by decide +kernel
theorem dX7_lays_66 : decode cX7_lays 66 = .ok (.invokevirtual 138, 3) := by decide +kernel
theorem dX7_lays_69 : decode cX7_lays 69 = .ok (.iinc 3 1, 3) := by decide +kernel
theorem dX7_lays_72 : decode cX7_lays 72 = .ok (.goto (-37), 3) := by decide +kernel
theorem dX7_lays_75 : decode cX7_lays 75 = .ok (.iinc 2 1, 3) := by decide +kernel
theorem dX7_lays_78 : decode cX7_lays 78 = .ok (.goto (-57), 3) := by decide +kernel
theorem dX7_lays_81 : decode cX7_lays 81 = .ok (.iinc 1 1, 3) := by decide +kernel
theorem dX7_lays_84 : decode cX7_lays 84 = .ok (.goto (-77), 3) := by decide +kernel
theorem dX7_lays_87 : decode cX7_lays 87 = .ok (.iconst 0, 1) := by decide +kernel
theorem dX7_lays_88 : decode cX7_lays 88 = .ok (.istore_n 1, 1) := by decide +kernel
theorem dX7_lays_89 : decode cX7_lays 89 = .ok (.iload_n 1, 1) := by decide +kernel
theorem dX7_lays_90 : decode cX7_lays 90 = .ok (.aload_n 0, 1) := by decide +kernel
theorem dX7_lays_91 : decode cX7_lays 91 = .ok (.getfield 7, 3) := by decide +kernel
theorem dX7_lays_94 : decode cX7_lays 94 = .ok (.iconst 0, 1) := by decide +kernel
theorem dX7_lays_95 : decode cX7_lays 95 = .ok (.iaload, 1) := by decide +kernel
theorem dX7_lays_96 : decode cX7_lays 96 = .ok (.if_icmp .ge 71, 3) := by decide +kernel
theorem dX7_lays_99 : decode cX7_lays 99 = .ok (.aload_n 0, 1) := by decide +kernel
theorem dX7_lays_100 : decode cX7_lays 100 = .ok (.getfield 32, 3) := by decide +kernel
theorem dX7_lays_103 : decode cX7_lays 103 = .ok (.iload_n 1, 1) := by decide +kernel
theorem dX7_lays_104 : decode cX7_lays 104 = .ok (.aload_n 0, 1) := by decide +kernel
theorem dX7_lays_105 : decode cX7_lays 105 = .ok (.iload_n 1, 1) := by decide +kernel
theorem dX7_lays_106 : decode cX7_lays 106 = .ok (.invokevirtual 141, 3) := by decide +kernel
theorem dX7_lays_109 : decode cX7_lays 109 = .ok (.iconst 2, 1) := by decide +kernel
theorem dX7_lays_110 : decode cX7_lays 110 = .ok (.if_icmp .le 7, 3) := by decide +kernel
theorem dX7_lays_113 : decode cX7_lays 113 = .ok (.iconst 1, 1) := by decide +kernel
theorem dX7_lays_114 : decode cX7_lays 114 = .ok (.goto 4, 3) := by decide +kernel
theorem dX7_lays_117 : decode cX7_lays 117 = .ok (.iconst 0, 1) := by decide +kernel
theorem dX7_lays_118 : decode cX7_lays 118 = .ok (.bastore, 1) := by decide +kernel
theorem dX7_lays_119 : decode cX7_lays 119 = .ok (.iconst 0, 1) := by decide +kernel
theorem dX7_lays_120 : decode cX7_lays 120 = .ok (.istore_n 2, 1) := by decide +kernel
theorem dX7_lays_121 : decode cX7_lays 121 = .ok (.iload_n 2, 1) := by decide +kernel
theorem dX7_lays_122 : decode cX7_lays 122 = .ok (.iload_n 1, 1) := by decide +kernel
theorem dX7_lays_123 : decode cX7_lays 123 = .ok (.if_icmp .ge 38, 3) := by decide +kernel
theorem dX7_lays_126 : decode cX7_lays 126 = .ok (.aload_n 0, 1) := by decide +kernel
theorem dX7_lays_127 : decode cX7_lays 127 = .ok (.getfield 32, 3) := by decide +kernel
theorem dX7_lays_130 : decode cX7_lays 130 = .ok (.iload_n 1, 1) := by decide +kernel
theorem dX7_lays_131 : decode cX7_lays 131 = .ok (.aload_n 0, 1) := by decide +kernel
theorem dX7_lays_132 : decode cX7_lays 132 = .ok (.getfield 32, 3) := by decide +kernel
theorem dX7_lays_135 : decode cX7_lays 135 = .ok (.iload_n 1, 1) := by decide +kernel
theorem dX7_lays_136 : decode cX7_lays 136 = .ok (.baload, 1) := by decide +kernel
theorem dX7_lays_137 : decode cX7_lays 137 = .ok (.ifCond .eq 16, 3) := by decide +kernel
theorem dX7_lays_140 : decode cX7_lays 140 = .ok (.aload_n 0, 1) := by decide +kernel
theorem dX7_lays_141 : decode cX7_lays 141 = .ok (.iload_n 1, 1) := by decide +kernel
theorem dX7_lays_142 : decode cX7_lays 142 = .ok (.iload_n 2, 1) := by decide +kernel
theorem dX7_lays_143 : decode cX7_lays 143 = .ok (.invokevirtual 144, 3) := by decide +kernel
theorem dX7_lays_146 : decode cX7_lays 146 = .ok (.ifCond .ne 7, 3) := by decide +kernel
theorem dX7_lays_149 : decode cX7_lays 149 = .ok (.iconst 1, 1) := by decide +kernel
theorem dX7_lays_150 : decode cX7_lays 150 = .ok (.goto 4, 3) := by decide +kernel
theorem dX7_lays_153 : decode cX7_lays 153 = .ok (.iconst 0, 1) := by decide +kernel
theorem dX7_lays_154 : decode cX7_lays 154 = .ok (.bastore, 1) := by decide +kernel
theorem dX7_lays_155 : decode cX7_lays 155 = .ok (.iinc 2 1, 3) := by decide +kernel
theorem dX7_lays_158 : decode cX7_lays 158 = .ok (.goto (-37), 3) := by decide +kernel
theorem dX7_lays_161 : decode cX7_lays 161 = .ok (.iinc 1 1, 3) := by decide +kernel
theorem dX7_lays_164 : decode cX7_lays 164 = .ok (.goto (-75), 3) := by decide +kernel
theorem dX7_lays_167 : decode cX7_lays 167 = .ok (.return_, 1) := by decide +kernel
theorem dX7_isEdge_0 : decode cX7_isEdge 0 = .ok (.aload_n 0, 1) := by decide +kernel
theorem dX7_isEdge_1 : decode cX7_isEdge 1 = .ok (.getfield 32, 3) := by decide +kernel
theorem dX7_isEdge_4 : decode cX7_isEdge 4 = .ok (.iload_n 1, 1) := by decide +kernel
theorem dX7_isEdge_5 : decode cX7_isEdge 5 = .ok (.baload, 1) := by decide +kernel
theorem dX7_isEdge_6 : decode cX7_isEdge 6 = .ok (.ifCond .eq 26, 3) := by decide +kernel
theorem dX7_isEdge_9 : decode cX7_isEdge 9 = .ok (.aload_n 0, 1) := by decide +kernel
theorem dX7_isEdge_10 : decode cX7_isEdge 10 = .ok (.getfield 32, 3) := by decide +kernel
theorem dX7_isEdge_13 : decode cX7_isEdge 13 = .ok (.iload_n 2, 1) := by decide +kernel
theorem dX7_isEdge_14 : decode cX7_isEdge 14 = .ok (.baload, 1) := by decide +kernel
theorem dX7_isEdge_15 : decode cX7_isEdge 15 = .ok (.ifCond .eq 17, 3) := by decide +kernel
theorem dX7_isEdge_18 : decode cX7_isEdge 18 = .ok (.aload_n 0, 1) := by decide +kernel
theorem dX7_isEdge_19 : decode cX7_isEdge 19 = .ok (.iload_n 1, 1) := by decide +kernel
theorem dX7_isEdge_20 : decode cX7_isEdge 20 = .ok (.iload_n 2, 1) := by decide +kernel
theorem dX7_isEdge_21 : decode cX7_isEdge 21 = .ok (.invokevirtual 147, 3) := by decide +kernel
theorem dX7_isEdge_24 : decode cX7_isEdge 24 = .ok (.iconst 1, 1) := by decide +kernel
theorem dX7_isEdge_25 : decode cX7_isEdge 25 = .ok (.if_icmp .le 7, 3) := by decide +kernel
theorem dX7_isEdge_28 : decode cX7_isEdge 28 = .ok (.iconst 1, 1) := by decide +kernel
theorem dX7_isEdge_29 : decode cX7_isEdge 29 = .ok (.goto 4, 3) := by decide +kernel
theorem dX7_isEdge_32 : decode cX7_isEdge 32 = .ok (.iconst 0, 1) := by decide +kernel
theorem dX7_isEdge_33 : decode cX7_isEdge 33 = .ok (.ireturn, 1) := by decide +kernel
theorem dX7_edgesOf_0 : decode cX7_edgesOf 0 = .ok (.iconst 0, 1) := by decide +kernel
theorem dX7_edgesOf_1 : decode cX7_edgesOf 1 = .ok (.istore_n 2, 1) := by decide +kernel
theorem dX7_edgesOf_2 : decode cX7_edgesOf 2 = .ok (.iconst 0, 1) := by decide +kernel
theorem dX7_edgesOf_3 : decode cX7_edgesOf 3 = .ok (.istore_n 3, 1) := by decide +kernel
theorem dX7_edgesOf_4 : decode cX7_edgesOf 4 = .ok (.iload_n 3, 1) := by decide +kernel
theorem dX7_edgesOf_5 : decode cX7_edgesOf 5 = .ok (.aload_n 0, 1) := by decide +kernel
theorem dX7_edgesOf_6 : decode cX7_edgesOf 6 = .ok (.getfield 7, 3) := by decide +kernel
theorem dX7_edgesOf_9 : decode cX7_edgesOf 9 = .ok (.iconst 0, 1) := by decide +kernel
theorem dX7_edgesOf_10 : decode cX7_edgesOf 10 = .ok (.iaload, 1) := by decide +kernel
theorem dX7_edgesOf_11 : decode cX7_edgesOf 11 = .ok (.if_icmp .ge 31, 3) := by decide +kernel
theorem dX7_edgesOf_14 : decode cX7_edgesOf 14 = .ok (.iload_n 2, 1) := by decide +kernel
theorem dX7_edgesOf_15 : decode cX7_edgesOf 15 = .ok (.iload_n 3, 1) := by decide +kernel
theorem dX7_edgesOf_16 : decode cX7_edgesOf 16 = .ok (.iload_n 1, 1) := by decide +kernel
theorem dX7_edgesOf_17 : decode cX7_edgesOf 17 = .ok (.if_icmp .eq 16, 3) := by decide +kernel
theorem dX7_edgesOf_20 : decode cX7_edgesOf 20 = .ok (.aload_n 0, 1) := by decide +kernel
theorem dX7_edgesOf_21 : decode cX7_edgesOf 21 = .ok (.iload_n 1, 1) := by decide +kernel
theorem dX7_edgesOf_22 : decode cX7_edgesOf 22 = .ok (.iload_n 3, 1) := by decide +kernel
theorem dX7_edgesOf_23 : decode cX7_edgesOf 23 = .ok (.invokevirtual 150, 3) := by decide +kernel
theorem dX7_edgesOf_26 : decode cX7_edgesOf 26 = .ok (.ifCond .eq 7, 3) := by decide +kernel
theorem dX7_edgesOf_29 : decode cX7_edgesOf 29 = .ok (.iconst 1, 1) := by decide +kernel
theorem dX7_edgesOf_30 : decode cX7_edgesOf 30 = .ok (.goto 4, 3) := by decide +kernel
theorem dX7_edgesOf_33 : decode cX7_edgesOf 33 = .ok (.iconst 0, 1) := by decide +kernel
theorem dX7_edgesOf_34 : decode cX7_edgesOf 34 = .ok (.iadd, 1) := by decide +kernel
theorem dX7_edgesOf_35 : decode cX7_edgesOf 35 = .ok (.istore_n 2, 1) := by decide +kernel
theorem dX7_edgesOf_36 : decode cX7_edgesOf 36 = .ok (.iinc 3 1, 3) := by decide +kernel
theorem dX7_edgesOf_39 : decode cX7_edgesOf 39 = .ok (.goto (-35), 3) := by decide +kernel
theorem dX7_edgesOf_42 : decode cX7_edgesOf 42 = .ok (.iload_n 2, 1) := by decide +kernel
theorem dX7_edgesOf_43 : decode cX7_edgesOf 43 = .ok (.ireturn, 1) := by decide +kernel
theorem dX7_of_0 : decode cX7_of 0 = .ok (.aload_n 0, 1) := by decide +kernel
theorem dX7_of_1 : decode cX7_of 1 = .ok (.iload_n 1, 1) := by decide +kernel
theorem dX7_of_2 : decode cX7_of 2 = .ok (.invokevirtual 81, 3) := by decide +kernel
theorem dX7_of_5 : decode cX7_of 5 = .ok (.ifCond .eq 13, 3) := by decide +kernel
theorem dX7_of_8 : decode cX7_of 8 = .ok (.iload_n 2, 1) := by decide +kernel
theorem dX7_of_9 : decode cX7_of 9 = .ok (.iconst 0, 1) := by decide +kernel
theorem dX7_of_10 : decode cX7_of 10 = .ok (.bipush 6, 2) := by decide +kernel
theorem dX7_of_12 : decode cX7_of 12 = .ok (.invokestatic 45, 3) := by decide +kernel
theorem dX7_of_15 : decode cX7_of 15 = .ok (.ifCond .ne 10, 3) := by decide +kernel
theorem dX7_of_18 : decode cX7_of 18 = .ok (.aload_n 0, 1) := by decide +kernel
theorem dX7_of_19 : decode cX7_of 19 = .ok (.bipush (-100), 2) := by decide +kernel
theorem dX7_of_21 : decode cX7_of 21 = .ok (.invokevirtual 153, 3) := by decide +kernel
theorem dX7_of_24 : decode cX7_of 24 = .ok (.ireturn, 1) := by decide +kernel
theorem dX7_of_25 : decode cX7_of 25 = .ok (.iload_n 2, 1) := by decide +kernel
theorem dX7_of_26 : decode cX7_of 26 = .ok (.iconst 4, 1) := by decide +kernel
theorem dX7_of_27 : decode cX7_of 27 = .ok (.if_icmp .ge 10, 3) := by decide +kernel
theorem dX7_of_30 : decode cX7_of 30 = .ok (.aload_n 0, 1) := by decide +kernel
theorem dX7_of_31 : decode cX7_of 31 = .ok (.iload_n 1, 1) := by decide +kernel
theorem dX7_of_32 : decode cX7_of 32 = .ok (.iload_n 2, 1) := by decide +kernel
theorem dX7_of_33 : decode cX7_of 33 = .ok (.invokevirtual 85, 3) := by decide +kernel
theorem dX7_of_36 : decode cX7_of 36 = .ok (.ireturn, 1) := by decide +kernel
theorem dX7_of_37 : decode cX7_of 37 = .ok (.aload_n 0, 1) := by decide +kernel
theorem dX7_of_38 : decode cX7_of 38 = .ok (.invokevirtual 111, 3) := by decide +kernel
theorem dX7_of_41 : decode cX7_of 41 = .ok (.iload_n 2, 1) := by decide +kernel
theorem dX7_of_42 : decode cX7_of 42 = .ok (.iconst 4, 1) := by decide +kernel
theorem dX7_of_43 : decode cX7_of 43 = .ok (.if_icmp .ne 20, 3) := by decide +kernel
theorem dX7_of_46 : decode cX7_of 46 = .ok (.aload_n 0, 1) := by decide +kernel
theorem dX7_of_47 : decode cX7_of 47 = .ok (.getfield 32, 3) := by decide +kernel
theorem dX7_of_50 : decode cX7_of 50 = .ok (.iload_n 1, 1) := by decide +kernel
theorem dX7_of_51 : decode cX7_of 51 = .ok (.baload, 1) := by decide +kernel
theorem dX7_of_52 : decode cX7_of 52 = .ok (.ifCond .eq 7, 3) := by decide +kernel
theorem dX7_of_55 : decode cX7_of 55 = .ok (.iconst 1, 1) := by decide +kernel
theorem dX7_of_56 : decode cX7_of 56 = .ok (.goto 25, 3) := by decide +kernel
theorem dX7_of_59 : decode cX7_of 59 = .ok (.iconst 0, 1) := by decide +kernel
theorem dX7_of_60 : decode cX7_of 60 = .ok (.goto 21, 3) := by decide +kernel
theorem dX7_of_63 : decode cX7_of 63 = .ok (.iload_n 2, 1) := by decide +kernel
theorem dX7_of_64 : decode cX7_of 64 = .ok (.iconst 5, 1) := by decide +kernel
theorem dX7_of_65 : decode cX7_of 65 = .ok (.if_icmp .ne 11, 3) := by decide +kernel
theorem dX7_of_68 : decode cX7_of 68 = .ok (.aload_n 0, 1) := by decide +kernel
theorem dX7_of_69 : decode cX7_of 69 = .ok (.iload_n 1, 1) := by decide +kernel
theorem dX7_of_70 : decode cX7_of 70 = .ok (.invokevirtual 141, 3) := by decide +kernel
theorem dX7_of_73 : decode cX7_of 73 = .ok (.goto 8, 3) := by decide +kernel
theorem dX7_of_76 : decode cX7_of 76 = .ok (.aload_n 0, 1) := by decide +kernel
theorem dX7_of_77 : decode cX7_of 77 = .ok (.iload_n 1, 1) := by decide +kernel
theorem dX7_of_78 : decode cX7_of 78 = .ok (.invokevirtual 156, 3) := by decide +kernel
theorem dX7_of_81 : decode cX7_of 81 = .ok (.ireturn, 1) := by decide +kernel
theorem dX7_member_0 : decode cX7_member 0 = .ok (.iload_n 1, 1) := by decide +kernel
theorem dX7_member_1 : decode cX7_member 1 = .ok (.iconst 0, 1) := by decide +kernel
theorem dX7_member_2 : decode cX7_member 2 = .ok (.bipush 63, 2) := by decide +kernel
theorem dX7_member_4 : decode cX7_member 4 = .ok (.invokestatic 45, 3) := by decide +kernel
theorem dX7_member_7 : decode cX7_member 7 = .ok (.ifCond .eq 19, 3) := by decide +kernel
theorem dX7_member_10 : decode cX7_member 10 = .ok (.iload_n 2, 1) := by decide +kernel
theorem dX7_member_11 : decode cX7_member 11 = .ok (.iload_n 3, 1) := by decide +kernel
theorem dX7_member_12 : decode cX7_member 12 = .ok (.iload 4, 2) := by decide +kernel
theorem dX7_member_14 : decode cX7_member 14 = .ok (.invokestatic 53, 3) := by decide +kernel
theorem dX7_member_17 : decode cX7_member 17 = .ok (.ifCond .eq 9, 3) := by decide +kernel
theorem dX7_member_20 : decode cX7_member 20 = .ok (.iload 5, 2) := by decide +kernel
theorem dX7_member_22 : decode cX7_member 22 = .ok (.iconst (-1), 1) := by decide +kernel
theorem dX7_member_23 : decode cX7_member 23 = .ok (.if_icmp .ge 10, 3) := by decide +kernel
theorem dX7_member_26 : decode cX7_member 26 = .ok (.aload_n 0, 1) := by decide +kernel
theorem dX7_member_27 : decode cX7_member 27 = .ok (.bipush (-10), 2) := by decide +kernel
theorem dX7_member_29 : decode cX7_member 29 = .ok (.invokevirtual 153, 3) := by decide +kernel
theorem dX7_member_32 : decode cX7_member 32 = .ok (.ireturn, 1) := by decide +kernel
theorem dX7_member_33 : decode cX7_member 33 = .ok (.aload_n 0, 1) := by decide +kernel
theorem dX7_member_34 : decode cX7_member 34 = .ok (.iload_n 1, 1) := by decide +kernel
theorem dX7_member_35 : decode cX7_member 35 = .ok (.iload_n 2, 1) := by decide +kernel
theorem dX7_member_36 : decode cX7_member 36 = .ok (.iload_n 3, 1) := by decide +kernel
theorem dX7_member_37 : decode cX7_member 37 = .ok (.iload 4, 2) := by decide +kernel
theorem dX7_member_39 : decode cX7_member 39 = .ok (.invokevirtual 73, 3) := by decide +kernel
theorem dX7_member_42 : decode cX7_member 42 = .ok (.istore 6, 2) := by decide +kernel
theorem dX7_member_44 : decode cX7_member 44 = .ok (.iload 5, 2) := by decide +kernel
theorem dX7_member_46 : decode cX7_member 46 = .ok (.iconst (-1), 1) := by decide +kernel
theorem dX7_member_47 : decode cX7_member 47 = .ok (.if_icmp .ne 6, 3) := by decide +kernel
theorem dX7_member_50 : decode cX7_member 50 = .ok (.iload 6, 2) := by decide +kernel
theorem dX7_member_52 : decode cX7_member 52 = .ok (.ireturn, 1) := by decide +kernel
theorem dX7_member_53 : decode cX7_member 53 = .ok (.iconst 0, 1) := by decide +kernel
theorem dX7_member_54 : decode cX7_member 54 = .ok (.istore 7, 2) := by decide +kernel
theorem dX7_member_56 : decode cX7_member 56 = .ok (.iconst 0, 1) := by decide +kernel
theorem dX7_member_57 : decode cX7_member 57 = .ok (.istore 8, 2) := by decide +kernel
theorem dX7_member_59 : decode cX7_member 59 = .ok (.iload 8, 2) := by decide +kernel
theorem dX7_member_61 : decode cX7_member 61 = .ok (.sipush 343, 3) := by decide +kernel
theorem dX7_member_64 : decode cX7_member 64 = .ok (.if_icmp .ge 56, 3) := by decide +kernel
theorem dX7_member_67 : decode cX7_member 67 = .ok (.aload_n 0, 1) := by decide +kernel
theorem dX7_member_68 : decode cX7_member 68 = .ok (.getfield 36, 3) := by decide +kernel
theorem dX7_member_71 : decode cX7_member 71 = .ok (.iload 8, 2) := by decide +kernel
theorem dX7_member_73 : decode cX7_member 73 = .ok (.baload, 1) := by decide +kernel
theorem dX7_member_74 : decode cX7_member 74 = .ok (.ifCond .eq 40, 3) := by decide +kernel
theorem dX7_member_77 : decode cX7_member 77 = .ok (.iload 7, 2) := by decide +kernel
theorem dX7_member_79 : decode cX7_member 79 = .ok (.iload 5, 2) := by decide +kernel
theorem dX7_member_81 : decode cX7_member 81 = .ok (.if_icmp .ne 30, 3) := by decide +kernel
theorem dX7_member_84 : decode cX7_member 84 = .ok (.bipush 100, 2) := by decide +kernel
theorem dX7_member_86 : decode cX7_member 86 = .ok (.iload 8, 2) := by decide +kernel
theorem dX7_member_88 : decode cX7_member 88 = .ok (.bipush 49, 2) := by decide +kernel
theorem dX7_member_90 : decode cX7_member 90 = .ok (.idiv, 1) := by decide +kernel
theorem dX7_member_91 : decode cX7_member 91 = .ok (.imul, 1) := by decide +kernel
theorem dX7_member_92 : decode cX7_member 92 = .ok (.bipush 10, 2) := by decide +kernel
theorem dX7_member_94 : decode cX7_member 94 = .ok (.iload 8, 2) := by decide +kernel
theorem dX7_member_96 : decode cX7_member 96 = .ok (.bipush 7, 2) := by decide +kernel
theorem dX7_member_98 : decode cX7_member 98 = .ok (.idiv, 1) := by decide +kernel
theorem dX7_member_99 : decode cX7_member 99 = .ok (.bipush 7, 2) := by decide +kernel
theorem dX7_member_101 : decode cX7_member 101 = .ok (.irem, 1) := by decide +kernel
theorem dX7_member_102 : decode cX7_member 102 = .ok (.imul, 1) := by decide +kernel
theorem dX7_member_103 : decode cX7_member 103 = .ok (.iadd, 1) := by decide +kernel
theorem dX7_member_104 : decode cX7_member 104 = .ok (.iload 8, 2) := by decide +kernel
theorem dX7_member_106 : decode cX7_member 106 = .ok (.bipush 7, 2) := by decide +kernel
theorem dX7_member_108 : decode cX7_member 108 = .ok (.irem, 1) := by decide +kernel
theorem dX7_member_109 : decode cX7_member 109 = .ok (.iadd, 1) := by decide +kernel
theorem dX7_member_110 : decode cX7_member 110 = .ok (.ireturn, 1) := by decide +kernel
theorem dX7_member_111 : decode cX7_member 111 = .ok (.iinc 7 1, 3) := by decide +kernel
theorem dX7_member_114 : decode cX7_member 114 = .ok (.iinc 8 1, 3) := by decide +kernel
theorem dX7_member_117 : decode cX7_member 117 = .ok (.goto (-58), 3) := by decide +kernel
theorem dX7_member_120 : decode cX7_member 120 = .ok (.bipush (-5), 2) := by decide +kernel
theorem dX7_member_122 : decode cX7_member 122 = .ok (.ireturn, 1) := by decide +kernel
theorem dX7_showing_0 : decode cX7_showing 0 = .ok (.iconst 0, 1) := by decide +kernel
theorem dX7_showing_1 : decode cX7_showing 1 = .ok (.istore_n 1, 1) := by decide +kernel
theorem dX7_showing_2 : decode cX7_showing 2 = .ok (.iconst 0, 1) := by decide +kernel
theorem dX7_showing_3 : decode cX7_showing 3 = .ok (.istore_n 2, 1) := by decide +kernel
theorem dX7_showing_4 : decode cX7_showing 4 = .ok (.iload_n 2, 1) := by decide +kernel
theorem dX7_showing_5 : decode cX7_showing 5 = .ok (.aload_n 0, 1) := by decide +kernel
theorem dX7_showing_6 : decode cX7_showing 6 = .ok (.getfield 7, 3) := by decide +kernel
theorem dX7_showing_9 : decode cX7_showing 9 = .ok (.iconst 0, 1) := by decide +kernel
theorem dX7_showing_10 : decode cX7_showing 10 = .ok (.iaload, 1) := by decide +kernel
theorem dX7_showing_11 : decode cX7_showing 11 = .ok (.if_icmp .ge 26, 3) := by decide +kernel
theorem dX7_showing_14 : decode cX7_showing 14 = .ok (.iload_n 1, 1) := by decide +kernel
theorem dX7_showing_15 : decode cX7_showing 15 = .ok (.aload_n 0, 1) := by decide +kernel
theorem dX7_showing_16 : decode cX7_showing 16 = .ok (.getfield 32, 3) := by decide +kernel
theorem dX7_showing_19 : decode cX7_showing 19 = .ok (.iload_n 2, 1) := by decide +kernel
theorem dX7_showing_20 : decode cX7_showing 20 = .ok (.baload, 1) := by decide +kernel
theorem dX7_showing_21 : decode cX7_showing 21 = .ok (.ifCond .eq 7, 3) := by decide +kernel
theorem dX7_showing_24 : decode cX7_showing 24 = .ok (.iconst 1, 1) := by decide +kernel
theorem dX7_showing_25 : decode cX7_showing 25 = .ok (.goto 4, 3) := by decide +kernel
theorem dX7_showing_28 : decode cX7_showing 28 = .ok (.iconst 0, 1) := by decide +kernel
theorem dX7_showing_29 : decode cX7_showing 29 = .ok (.iadd, 1) := by decide +kernel
theorem dX7_showing_30 : decode cX7_showing 30 = .ok (.istore_n 1, 1) := by decide +kernel
theorem dX7_showing_31 : decode cX7_showing 31 = .ok (.iinc 2 1, 3) := by decide +kernel
theorem dX7_showing_34 : decode cX7_showing 34 = .ok (.goto (-30), 3) := by decide +kernel
theorem dX7_showing_37 : decode cX7_showing 37 = .ok (.iload_n 1, 1) := by decide +kernel
theorem dX7_showing_38 : decode cX7_showing 38 = .ok (.ireturn, 1) := by decide +kernel
theorem dX7_edges_0 : decode cX7_edges 0 = .ok (.iconst 0, 1) := by decide +kernel
theorem dX7_edges_1 : decode cX7_edges 1 = .ok (.istore_n 1, 1) := by decide +kernel
theorem dX7_edges_2 : decode cX7_edges 2 = .ok (.iconst 0, 1) := by decide +kernel
theorem dX7_edges_3 : decode cX7_edges 3 = .ok (.istore_n 2, 1) := by decide +kernel
theorem dX7_edges_4 : decode cX7_edges 4 = .ok (.iload_n 2, 1) := by decide +kernel
theorem dX7_edges_5 : decode cX7_edges 5 = .ok (.aload_n 0, 1) := by decide +kernel
theorem dX7_edges_6 : decode cX7_edges 6 = .ok (.getfield 7, 3) := by decide +kernel
theorem dX7_edges_9 : decode cX7_edges 9 = .ok (.iconst 0, 1) := by decide +kernel
theorem dX7_edges_10 : decode cX7_edges 10 = .ok (.iaload, 1) := by decide +kernel
theorem dX7_edges_11 : decode cX7_edges 11 = .ok (.if_icmp .ge 17, 3) := by decide +kernel
theorem dX7_edges_14 : decode cX7_edges 14 = .ok (.iload_n 1, 1) := by decide +kernel
theorem dX7_edges_15 : decode cX7_edges 15 = .ok (.aload_n 0, 1) := by decide +kernel
theorem dX7_edges_16 : decode cX7_edges 16 = .ok (.iload_n 2, 1) := by decide +kernel
theorem dX7_edges_17 : decode cX7_edges 17 = .ok (.invokevirtual 156, 3) := by decide +kernel
theorem dX7_edges_20 : decode cX7_edges 20 = .ok (.iadd, 1) := by decide +kernel
theorem dX7_edges_21 : decode cX7_edges 21 = .ok (.istore_n 1, 1) := by decide +kernel
theorem dX7_edges_22 : decode cX7_edges 22 = .ok (.iinc 2 1, 3) := by decide +kernel
theorem dX7_edges_25 : decode cX7_edges 25 = .ok (.goto (-21), 3) := by decide +kernel
theorem dX7_edges_28 : decode cX7_edges 28 = .ok (.iload_n 1, 1) := by decide +kernel
theorem dX7_edges_29 : decode cX7_edges 29 = .ok (.iconst 2, 1) := by decide +kernel
theorem dX7_edges_30 : decode cX7_edges 30 = .ok (.idiv, 1) := by decide +kernel
theorem dX7_edges_31 : decode cX7_edges 31 = .ok (.ireturn, 1) := by decide +kernel
theorem dX7_mostOn_0 : decode cX7_mostOn 0 = .ok (.iconst 0, 1) := by decide +kernel
theorem dX7_mostOn_1 : decode cX7_mostOn 1 = .ok (.istore_n 1, 1) := by decide +kernel
theorem dX7_mostOn_2 : decode cX7_mostOn 2 = .ok (.iconst 0, 1) := by decide +kernel
theorem dX7_mostOn_3 : decode cX7_mostOn 3 = .ok (.istore_n 2, 1) := by decide +kernel
theorem dX7_mostOn_4 : decode cX7_mostOn 4 = .ok (.iload_n 2, 1) := by decide +kernel
theorem dX7_mostOn_5 : decode cX7_mostOn 5 = .ok (.aload_n 0, 1) := by decide +kernel
theorem dX7_mostOn_6 : decode cX7_mostOn 6 = .ok (.getfield 7, 3) := by decide +kernel
theorem dX7_mostOn_9 : decode cX7_mostOn 9 = .ok (.iconst 0, 1) := by decide +kernel
theorem dX7_mostOn_10 : decode cX7_mostOn 10 = .ok (.iaload, 1) := by decide +kernel
theorem dX7_mostOn_11 : decode cX7_mostOn 11 = .ok (.if_icmp .ge 37, 3) := by decide +kernel
theorem dX7_mostOn_14 : decode cX7_mostOn 14 = .ok (.aload_n 0, 1) := by decide +kernel
theorem dX7_mostOn_15 : decode cX7_mostOn 15 = .ok (.getfield 32, 3) := by decide +kernel
theorem dX7_mostOn_18 : decode cX7_mostOn 18 = .ok (.iload_n 2, 1) := by decide +kernel
theorem dX7_mostOn_19 : decode cX7_mostOn 19 = .ok (.baload, 1) := by decide +kernel
theorem dX7_mostOn_20 : decode cX7_mostOn 20 = .ok (.ifCond .eq 20, 3) := by decide +kernel
theorem dX7_mostOn_23 : decode cX7_mostOn 23 = .ok (.aload_n 0, 1) := by decide +kernel
theorem dX7_mostOn_24 : decode cX7_mostOn 24 = .ok (.iload_n 2, 1) := by decide +kernel
theorem dX7_mostOn_25 : decode cX7_mostOn 25 = .ok (.invokevirtual 141, 3) := by decide +kernel
theorem dX7_mostOn_28 : decode cX7_mostOn 28 = .ok (.iload_n 1, 1) := by decide +kernel
theorem dX7_mostOn_29 : decode cX7_mostOn 29 = .ok (.if_icmp .le 11, 3) := by decide +kernel
theorem dX7_mostOn_32 : decode cX7_mostOn 32 = .ok (.aload_n 0, 1) := by decide +kernel
theorem dX7_mostOn_33 : decode cX7_mostOn 33 = .ok (.iload_n 2, 1) := by decide +kernel
theorem dX7_mostOn_34 : decode cX7_mostOn 34 = .ok (.invokevirtual 141, 3) := by decide +kernel
theorem dX7_mostOn_37 : decode cX7_mostOn 37 = .ok (.goto 4, 3) := by decide +kernel
theorem dX7_mostOn_40 : decode cX7_mostOn 40 = .ok (.iload_n 1, 1) := by decide +kernel
theorem dX7_mostOn_41 : decode cX7_mostOn 41 = .ok (.istore_n 1, 1) := by decide +kernel
theorem dX7_mostOn_42 : decode cX7_mostOn 42 = .ok (.iinc 2 1, 3) := by decide +kernel
theorem dX7_mostOn_45 : decode cX7_mostOn 45 = .ok (.goto (-41), 3) := by decide +kernel
theorem dX7_mostOn_48 : decode cX7_mostOn 48 = .ok (.iload_n 1, 1) := by decide +kernel
theorem dX7_mostOn_49 : decode cX7_mostOn 49 = .ok (.ireturn, 1) := by decide +kernel
theorem dX7_mostAt_0 : decode cX7_mostAt 0 = .ok (.iconst 0, 1) := by decide +kernel
theorem dX7_mostAt_1 : decode cX7_mostAt 1 = .ok (.istore_n 1, 1) := by decide +kernel
theorem dX7_mostAt_2 : decode cX7_mostAt 2 = .ok (.iconst 0, 1) := by decide +kernel
theorem dX7_mostAt_3 : decode cX7_mostAt 3 = .ok (.istore_n 2, 1) := by decide +kernel
theorem dX7_mostAt_4 : decode cX7_mostAt 4 = .ok (.iload_n 2, 1) := by decide +kernel
theorem dX7_mostAt_5 : decode cX7_mostAt 5 = .ok (.aload_n 0, 1) := by decide +kernel
theorem dX7_mostAt_6 : decode cX7_mostAt 6 = .ok (.getfield 114, 3) := by decide +kernel
theorem dX7_mostAt_9 : decode cX7_mostAt 9 = .ok (.if_icmp .ge 70, 3) := by decide +kernel
theorem dX7_mostAt_12 : decode cX7_mostAt 12 = .ok (.iconst 0, 1) := by decide +kernel
theorem dX7_mostAt_13 : decode cX7_mostAt 13 = .ok (.istore_n 3, 1) := by decide +kernel
theorem dX7_mostAt_14 : decode cX7_mostAt 14 = .ok (.iconst 0, 1) := by decide +kernel
theorem dX7_mostAt_15 : decode cX7_mostAt 15 = .ok (.istore 4, 2) := by decide +kernel
theorem dX7_mostAt_17 : decode cX7_mostAt 17 = .ok (.iload 4, 2) := by decide +kernel
theorem dX7_mostAt_19 : decode cX7_mostAt 19 = .ok (.aload_n 0, 1) := by decide +kernel
theorem dX7_mostAt_20 : decode cX7_mostAt 20 = .ok (.getfield 7, 3) := by decide +kernel
theorem dX7_mostAt_23 : decode cX7_mostAt 23 = .ok (.iconst 0, 1) := by decide +kernel
theorem dX7_mostAt_24 : decode cX7_mostAt 24 = .ok (.iaload, 1) := by decide +kernel
theorem dX7_mostAt_25 : decode cX7_mostAt 25 = .ok (.if_icmp .ge 37, 3) := by decide +kernel
theorem dX7_mostAt_28 : decode cX7_mostAt 28 = .ok (.iload_n 3, 1) := by decide +kernel
theorem dX7_mostAt_29 : decode cX7_mostAt 29 = .ok (.aload_n 0, 1) := by decide +kernel
theorem dX7_mostAt_30 : decode cX7_mostAt 30 = .ok (.getfield 32, 3) := by decide +kernel
theorem dX7_mostAt_33 : decode cX7_mostAt 33 = .ok (.iload 4, 2) := by decide +kernel
theorem dX7_mostAt_35 : decode cX7_mostAt 35 = .ok (.baload, 1) := by decide +kernel
theorem dX7_mostAt_36 : decode cX7_mostAt 36 = .ok (.ifCond .eq 17, 3) := by decide +kernel
theorem dX7_mostAt_39 : decode cX7_mostAt 39 = .ok (.aload_n 0, 1) := by decide +kernel
theorem dX7_mostAt_40 : decode cX7_mostAt 40 = .ok (.iload_n 2, 1) := by decide +kernel
theorem dX7_mostAt_41 : decode cX7_mostAt 41 = .ok (.iload 4, 2) := by decide +kernel
theorem dX7_mostAt_43 : decode cX7_mostAt 43 = .ok (.invokevirtual 134, 3) := by decide +kernel
theorem dX7_mostAt_46 : decode cX7_mostAt 46 = .ok (.ifCond .eq 7, 3) := by decide +kernel
theorem dX7_mostAt_49 : decode cX7_mostAt 49 = .ok (.iconst 1, 1) := by decide +kernel
theorem dX7_mostAt_50 : decode cX7_mostAt 50 = .ok (.goto 4, 3) := by decide +kernel
theorem dX7_mostAt_53 : decode cX7_mostAt 53 = .ok (.iconst 0, 1) := by decide +kernel
theorem dX7_mostAt_54 : decode cX7_mostAt 54 = .ok (.iadd, 1) := by decide +kernel
theorem dX7_mostAt_55 : decode cX7_mostAt 55 = .ok (.istore_n 3, 1) := by decide +kernel
theorem dX7_mostAt_56 : decode cX7_mostAt 56 = .ok (.iinc 4 1, 3) := by decide +kernel
theorem dX7_mostAt_59 : decode cX7_mostAt 59 = .ok (.goto (-42), 3) := by decide +kernel
theorem dX7_mostAt_62 : decode cX7_mostAt 62 = .ok (.iload_n 3, 1) := by decide +kernel
theorem dX7_mostAt_63 : decode cX7_mostAt 63 = .ok (.iload_n 1, 1) := by decide +kernel
theorem dX7_mostAt_64 : decode cX7_mostAt 64 = .ok (.if_icmp .le 7, 3) := by decide +kernel
theorem dX7_mostAt_67 : decode cX7_mostAt 67 = .ok (.iload_n 3, 1) := by decide +kernel
theorem dX7_mostAt_68 : decode cX7_mostAt 68 = .ok (.goto 4, 3) := by decide +kernel
theorem dX7_mostAt_71 : decode cX7_mostAt 71 = .ok (.iload_n 1, 1) := by decide +kernel
theorem dX7_mostAt_72 : decode cX7_mostAt 72 = .ok (.istore_n 1, 1) := by decide +kernel
theorem dX7_mostAt_73 : decode cX7_mostAt 73 = .ok (.iinc 2 1, 3) := by decide +kernel
theorem dX7_mostAt_76 : decode cX7_mostAt 76 = .ok (.goto (-72), 3) := by decide +kernel
theorem dX7_mostAt_79 : decode cX7_mostAt 79 = .ok (.iload_n 1, 1) := by decide +kernel
theorem dX7_mostAt_80 : decode cX7_mostAt 80 = .ok (.ireturn, 1) := by decide +kernel
theorem dX7_all_0 : decode cX7_all 0 = .ok (.iload_n 1, 1) := by decide +kernel
theorem dX7_all_1 : decode cX7_all 1 = .ok (.iconst 0, 1) := by decide +kernel
theorem dX7_all_2 : decode cX7_all 2 = .ok (.bipush 6, 2) := by decide +kernel
theorem dX7_all_4 : decode cX7_all 4 = .ok (.invokestatic 45, 3) := by decide +kernel
theorem dX7_all_7 : decode cX7_all 7 = .ok (.ifCond .ne 10, 3) := by decide +kernel
theorem dX7_all_10 : decode cX7_all 10 = .ok (.aload_n 0, 1) := by decide +kernel
theorem dX7_all_11 : decode cX7_all 11 = .ok (.bipush (-2), 2) := by decide +kernel
theorem dX7_all_13 : decode cX7_all 13 = .ok (.invokevirtual 56, 3) := by decide +kernel
theorem dX7_all_16 : decode cX7_all 16 = .ok (.ireturn, 1) := by decide +kernel
theorem dX7_all_17 : decode cX7_all 17 = .ok (.aload_n 0, 1) := by decide +kernel
theorem dX7_all_18 : decode cX7_all 18 = .ok (.invokevirtual 111, 3) := by decide +kernel
theorem dX7_all_21 : decode cX7_all 21 = .ok (.iload_n 1, 1) := by decide +kernel
theorem dX7_all_22 : decode cX7_all 22 = .ok (.tableswitch 77 0 5 #[38, 45, 50, 62, 67, 72], 38) := by decide +kernel
theorem dX7_all_60 : decode cX7_all 60 = .ok (.aload_n 0, 1) := by decide +kernel
theorem dX7_all_61 : decode cX7_all 61 = .ok (.getfield 7, 3) := by decide +kernel
theorem dX7_all_64 : decode cX7_all 64 = .ok (.iconst 0, 1) := by decide +kernel
theorem dX7_all_65 : decode cX7_all 65 = .ok (.iaload, 1) := by decide +kernel
theorem dX7_all_66 : decode cX7_all 66 = .ok (.ireturn, 1) := by decide +kernel
theorem dX7_all_67 : decode cX7_all 67 = .ok (.aload_n 0, 1) := by decide +kernel
theorem dX7_all_68 : decode cX7_all 68 = .ok (.invokevirtual 159, 3) := by decide +kernel
theorem dX7_all_71 : decode cX7_all 71 = .ok (.ireturn, 1) := by decide +kernel
theorem dX7_all_72 : decode cX7_all 72 = .ok (.aload_n 0, 1) := by decide +kernel
theorem dX7_all_73 : decode cX7_all 73 = .ok (.getfield 7, 3) := by decide +kernel
theorem dX7_all_76 : decode cX7_all 76 = .ok (.iconst 0, 1) := by decide +kernel
theorem dX7_all_77 : decode cX7_all 77 = .ok (.iaload, 1) := by decide +kernel
theorem dX7_all_78 : decode cX7_all 78 = .ok (.aload_n 0, 1) := by decide +kernel
theorem dX7_all_79 : decode cX7_all 79 = .ok (.invokevirtual 159, 3) := by decide +kernel
theorem dX7_all_82 : decode cX7_all 82 = .ok (.isub, 1) := by decide +kernel
theorem dX7_all_83 : decode cX7_all 83 = .ok (.ireturn, 1) := by decide +kernel
theorem dX7_all_84 : decode cX7_all 84 = .ok (.aload_n 0, 1) := by decide +kernel
theorem dX7_all_85 : decode cX7_all 85 = .ok (.getfield 114, 3) := by decide +kernel
theorem dX7_all_88 : decode cX7_all 88 = .ok (.ireturn, 1) := by decide +kernel
theorem dX7_all_89 : decode cX7_all 89 = .ok (.aload_n 0, 1) := by decide +kernel
theorem dX7_all_90 : decode cX7_all 90 = .ok (.invokevirtual 163, 3) := by decide +kernel
theorem dX7_all_93 : decode cX7_all 93 = .ok (.ireturn, 1) := by decide +kernel
theorem dX7_all_94 : decode cX7_all 94 = .ok (.aload_n 0, 1) := by decide +kernel
theorem dX7_all_95 : decode cX7_all 95 = .ok (.invokevirtual 166, 3) := by decide +kernel
theorem dX7_all_98 : decode cX7_all 98 = .ok (.ireturn, 1) := by decide +kernel
theorem dX7_all_99 : decode cX7_all 99 = .ok (.aload_n 0, 1) := by decide +kernel
theorem dX7_all_100 : decode cX7_all 100 = .ok (.invokevirtual 169, 3) := by decide +kernel
theorem dX7_all_103 : decode cX7_all 103 = .ok (.ireturn, 1) := by decide +kernel
theorem dX7_fraction_0 : decode cX7_fraction 0 = .ok (.iload_n 1, 1) := by decide +kernel
theorem dX7_fraction_1 : decode cX7_fraction 1 = .ok (.iload_n 2, 1) := by decide +kernel
theorem dX7_fraction_2 : decode cX7_fraction 2 = .ok (.invokestatic 120, 3) := by decide +kernel
theorem dX7_fraction_5 : decode cX7_fraction 5 = .ok (.istore_n 3, 1) := by decide +kernel
theorem dX7_fraction_6 : decode cX7_fraction 6 = .ok (.aload_n 0, 1) := by decide +kernel
theorem dX7_fraction_7 : decode cX7_fraction 7 = .ok (.iload_n 1, 1) := by decide +kernel
theorem dX7_fraction_8 : decode cX7_fraction 8 = .ok (.iload_n 3, 1) := by decide +kernel
theorem dX7_fraction_9 : decode cX7_fraction 9 = .ok (.idiv, 1) := by decide +kernel
theorem dX7_fraction_10 : decode cX7_fraction 10 = .ok (.i2l, 1) := by decide +kernel
theorem dX7_fraction_11 : decode cX7_fraction 11 = .ok (.putfield 172, 3) := by decide +kernel
theorem dX7_fraction_14 : decode cX7_fraction 14 = .ok (.aload_n 0, 1) := by decide +kernel
theorem dX7_fraction_15 : decode cX7_fraction 15 = .ok (.iload_n 2, 1) := by decide +kernel
theorem dX7_fraction_16 : decode cX7_fraction 16 = .ok (.iload_n 3, 1) := by decide +kernel
theorem dX7_fraction_17 : decode cX7_fraction 17 = .ok (.idiv, 1) := by decide +kernel
theorem dX7_fraction_18 : decode cX7_fraction 18 = .ok (.i2l, 1) := by decide +kernel
theorem dX7_fraction_19 : decode cX7_fraction 19 = .ok (.putfield 25, 3) := by decide +kernel
theorem dX7_fraction_22 : decode cX7_fraction 22 = .ok (.return_, 1) := by decide +kernel
theorem dX7_corner_0 : decode cX7_corner 0 = .ok (.iload_n 1, 1) := by decide +kernel
theorem dX7_corner_1 : decode cX7_corner 1 = .ok (.ifCond .lt 12, 3) := by decide +kernel
theorem dX7_corner_4 : decode cX7_corner 4 = .ok (.iload_n 2, 1) := by decide +kernel
theorem dX7_corner_5 : decode cX7_corner 5 = .ok (.iconst 0, 1) := by decide +kernel
theorem dX7_corner_6 : decode cX7_corner 6 = .ok (.iconst 2, 1) := by decide +kernel
theorem dX7_corner_7 : decode cX7_corner 7 = .ok (.invokestatic 45, 3) := by decide +kernel
theorem dX7_corner_10 : decode cX7_corner 10 = .ok (.ifCond .ne 10, 3) := by decide +kernel
theorem dX7_corner_13 : decode cX7_corner 13 = .ok (.aload_n 0, 1) := by decide +kernel
theorem dX7_corner_14 : decode cX7_corner 14 = .ok (.bipush (-2), 2) := by decide +kernel
theorem dX7_corner_16 : decode cX7_corner 16 = .ok (.invokevirtual 56, 3) := by decide +kernel
theorem dX7_corner_19 : decode cX7_corner 19 = .ok (.ireturn, 1) := by decide +kernel
theorem dX7_corner_20 : decode cX7_corner 20 = .ok (.aload_n 0, 1) := by decide +kernel
theorem dX7_corner_21 : decode cX7_corner 21 = .ok (.invokevirtual 111, 3) := by decide +kernel
theorem dX7_corner_24 : decode cX7_corner 24 = .ok (.iload_n 1, 1) := by decide +kernel
theorem dX7_corner_25 : decode cX7_corner 25 = .ok (.aload_n 0, 1) := by decide +kernel
theorem dX7_corner_26 : decode cX7_corner 26 = .ok (.getfield 114, 3) := by decide +kernel
theorem dX7_corner_29 : decode cX7_corner 29 = .ok (.if_icmp .lt 10, 3) := by decide +kernel
theorem dX7_corner_32 : decode cX7_corner 32 = .ok (.aload_n 0, 1) := by decide +kernel
theorem dX7_corner_33 : decode cX7_corner 33 = .ok (.bipush (-3), 2) := by decide +kernel
theorem dX7_corner_35 : decode cX7_corner 35 = .ok (.invokevirtual 56, 3) := by decide +kernel
theorem dX7_corner_38 : decode cX7_corner 38 = .ok (.ireturn, 1) := by decide +kernel
theorem dX7_corner_39 : decode cX7_corner 39 = .ok (.aload_n 0, 1) := by decide +kernel
theorem dX7_corner_40 : decode cX7_corner 40 = .ok (.aload_n 0, 1) := by decide +kernel
theorem dX7_corner_41 : decode cX7_corner 41 = .ok (.getfield 29, 3) := by decide +kernel
theorem dX7_corner_44 : decode cX7_corner 44 = .ok (.iconst 5, 1) := by decide +kernel
theorem dX7_corner_45 : decode cX7_corner 45 = .ok (.iload_n 1, 1) := by decide +kernel
theorem dX7_corner_46 : decode cX7_corner 46 = .ok (.imul, 1) := by decide +kernel
theorem dX7_corner_47 : decode cX7_corner 47 = .ok (.iload_n 2, 1) := by decide +kernel
theorem dX7_corner_48 : decode cX7_corner 48 = .ok (.iadd, 1) := by decide +kernel
theorem dX7_corner_49 : decode cX7_corner 49 = .ok (.iaload, 1) := by decide +kernel
theorem dX7_corner_50 : decode cX7_corner 50 = .ok (.aload_n 0, 1) := by decide +kernel
theorem dX7_corner_51 : decode cX7_corner 51 = .ok (.getfield 29, 3) := by decide +kernel
theorem dX7_corner_54 : decode cX7_corner 54 = .ok (.iconst 5, 1) := by decide +kernel
theorem dX7_corner_55 : decode cX7_corner 55 = .ok (.iload_n 1, 1) := by decide +kernel
theorem dX7_corner_56 : decode cX7_corner 56 = .ok (.imul, 1) := by decide +kernel
theorem dX7_corner_57 : decode cX7_corner 57 = .ok (.iconst 3, 1) := by decide +kernel
theorem dX7_corner_58 : decode cX7_corner 58 = .ok (.iadd, 1) := by decide +kernel
theorem dX7_corner_59 : decode cX7_corner 59 = .ok (.iaload, 1) := by decide +kernel
theorem dX7_corner_60 : decode cX7_corner 60 = .ok (.invokevirtual 175, 3) := by decide +kernel
theorem dX7_corner_63 : decode cX7_corner 63 = .ok (.iconst 1, 1) := by decide +kernel
theorem dX7_corner_64 : decode cX7_corner 64 = .ok (.ireturn, 1) := by decide +kernel
theorem dX7_meets_0 : decode cX7_meets 0 = .ok (.iload_n 1, 1) := by decide +kernel
theorem dX7_meets_1 : decode cX7_meets 1 = .ok (.ifCond .lt 12, 3) := by decide +kernel
theorem dX7_meets_4 : decode cX7_meets 4 = .ok (.iload_n 2, 1) := by decide +kernel
theorem dX7_meets_5 : decode cX7_meets 5 = .ok (.iconst 0, 1) := by decide +kernel
theorem dX7_meets_6 : decode cX7_meets 6 = .ok (.iconst 1, 1) := by decide +kernel
theorem dX7_meets_7 : decode cX7_meets 7 = .ok (.invokestatic 45, 3) := by decide +kernel
theorem dX7_meets_10 : decode cX7_meets 10 = .ok (.ifCond .ne 10, 3) := by decide +kernel
theorem dX7_meets_13 : decode cX7_meets 13 = .ok (.aload_n 0, 1) := by decide +kernel
theorem dX7_meets_14 : decode cX7_meets 14 = .ok (.bipush (-2), 2) := by decide +kernel
theorem dX7_meets_16 : decode cX7_meets 16 = .ok (.invokevirtual 56, 3) := by decide +kernel
theorem dX7_meets_19 : decode cX7_meets 19 = .ok (.ireturn, 1) := by decide +kernel
theorem dX7_meets_20 : decode cX7_meets 20 = .ok (.aload_n 0, 1) := by decide +kernel
theorem dX7_meets_21 : decode cX7_meets 21 = .ok (.invokevirtual 111, 3) := by decide +kernel
theorem dX7_meets_24 : decode cX7_meets 24 = .ok (.iload_n 1, 1) := by decide +kernel
theorem dX7_meets_25 : decode cX7_meets 25 = .ok (.aload_n 0, 1) := by decide +kernel
theorem dX7_meets_26 : decode cX7_meets 26 = .ok (.getfield 114, 3) := by decide +kernel
theorem dX7_meets_29 : decode cX7_meets 29 = .ok (.if_icmp .lt 5, 3) := by decide +kernel
theorem dX7_meets_32 : decode cX7_meets 32 = .ok (.iconst (-1), 1) := by decide +kernel
theorem dX7_meets_33 : decode cX7_meets 33 = .ok (.ireturn, 1) := by decide +kernel
theorem dX7_meets_34 : decode cX7_meets 34 = .ok (.iconst 0, 1) := by decide +kernel
theorem dX7_meets_35 : decode cX7_meets 35 = .ok (.istore_n 3, 1) := by decide +kernel
theorem dX7_meets_36 : decode cX7_meets 36 = .ok (.iconst 0, 1) := by decide +kernel
theorem dX7_meets_37 : decode cX7_meets 37 = .ok (.istore 4, 2) := by decide +kernel
theorem dX7_meets_39 : decode cX7_meets 39 = .ok (.iload 4, 2) := by decide +kernel
theorem dX7_meets_41 : decode cX7_meets 41 = .ok (.aload_n 0, 1) := by decide +kernel
theorem dX7_meets_42 : decode cX7_meets 42 = .ok (.getfield 7, 3) := by decide +kernel
theorem dX7_meets_45 : decode cX7_meets 45 = .ok (.iconst 0, 1) := by decide +kernel
theorem dX7_meets_46 : decode cX7_meets 46 = .ok (.iaload, 1) := by decide +kernel
theorem dX7_meets_47 : decode cX7_meets 47 = .ok (.if_icmp .ge 27, 3) := by decide +kernel
theorem dX7_meets_50 : decode cX7_meets 50 = .ok (.iload_n 3, 1) := by decide +kernel
theorem dX7_meets_51 : decode cX7_meets 51 = .ok (.aload_n 0, 1) := by decide +kernel
theorem dX7_meets_52 : decode cX7_meets 52 = .ok (.iload_n 1, 1) := by decide +kernel
theorem dX7_meets_53 : decode cX7_meets 53 = .ok (.iload 4, 2) := by decide +kernel
theorem dX7_meets_55 : decode cX7_meets 55 = .ok (.invokevirtual 134, 3) := by decide +kernel
theorem dX7_meets_58 : decode cX7_meets 58 = .ok (.ifCond .eq 7, 3) := by decide +kernel
theorem dX7_meets_61 : decode cX7_meets 61 = .ok (.iconst 1, 1) := by decide +kernel
theorem dX7_meets_62 : decode cX7_meets 62 = .ok (.goto 4, 3) := by decide +kernel
theorem dX7_meets_65 : decode cX7_meets 65 = .ok (.iconst 0, 1) := by decide +kernel
theorem dX7_meets_66 : decode cX7_meets 66 = .ok (.iadd, 1) := by decide +kernel
theorem dX7_meets_67 : decode cX7_meets 67 = .ok (.istore_n 3, 1) := by decide +kernel
theorem dX7_meets_68 : decode cX7_meets 68 = .ok (.iinc 4 1, 3) := by decide +kernel
theorem dX7_meets_71 : decode cX7_meets 71 = .ok (.goto (-32), 3) := by decide +kernel
theorem dX7_meets_74 : decode cX7_meets 74 = .ok (.iload_n 2, 1) := by decide +kernel
theorem dX7_meets_75 : decode cX7_meets 75 = .ok (.ifCond .ne 7, 3) := by decide +kernel
theorem dX7_meets_78 : decode cX7_meets 78 = .ok (.iload_n 3, 1) := by decide +kernel
theorem dX7_meets_79 : decode cX7_meets 79 = .ok (.goto 13, 3) := by decide +kernel
theorem dX7_meets_82 : decode cX7_meets 82 = .ok (.aload_n 0, 1) := by decide +kernel
theorem dX7_meets_83 : decode cX7_meets 83 = .ok (.getfield 29, 3) := by decide +kernel
theorem dX7_meets_86 : decode cX7_meets 86 = .ok (.iconst 5, 1) := by decide +kernel
theorem dX7_meets_87 : decode cX7_meets 87 = .ok (.iload_n 1, 1) := by decide +kernel
theorem dX7_meets_88 : decode cX7_meets 88 = .ok (.imul, 1) := by decide +kernel
theorem dX7_meets_89 : decode cX7_meets 89 = .ok (.iconst 4, 1) := by decide +kernel
theorem dX7_meets_90 : decode cX7_meets 90 = .ok (.iadd, 1) := by decide +kernel
theorem dX7_meets_91 : decode cX7_meets 91 = .ok (.iaload, 1) := by decide +kernel
theorem dX7_meets_92 : decode cX7_meets 92 = .ok (.ireturn, 1) := by decide +kernel
theorem dX7_part_0 : decode cX7_part 0 = .ok (.iload_n 1, 1) := by decide +kernel
theorem dX7_part_1 : decode cX7_part 1 = .ok (.ifCond .ne 10, 3) := by decide +kernel
theorem dX7_part_4 : decode cX7_part 4 = .ok (.aload_n 0, 1) := by decide +kernel
theorem dX7_part_5 : decode cX7_part 5 = .ok (.getfield 172, 3) := by decide +kernel
theorem dX7_part_8 : decode cX7_part 8 = .ok (.goto 22, 3) := by decide +kernel
theorem dX7_part_11 : decode cX7_part 11 = .ok (.iload_n 1, 1) := by decide +kernel
theorem dX7_part_12 : decode cX7_part 12 = .ok (.iconst 1, 1) := by decide +kernel
theorem dX7_part_13 : decode cX7_part 13 = .ok (.if_icmp .ne 10, 3) := by decide +kernel
theorem dX7_part_16 : decode cX7_part 16 = .ok (.aload_n 0, 1) := by decide +kernel
theorem dX7_part_17 : decode cX7_part 17 = .ok (.getfield 25, 3) := by decide +kernel
theorem dX7_part_20 : decode cX7_part 20 = .ok (.goto 10, 3) := by decide +kernel
theorem dX7_part_23 : decode cX7_part 23 = .ok (.aload_n 0, 1) := by decide +kernel
theorem dX7_part_24 : decode cX7_part 24 = .ok (.ldc 179, 2) := by decide +kernel
theorem dX7_part_26 : decode cX7_part 26 = .ok (.invokevirtual 153, 3) := by decide +kernel
theorem dX7_part_29 : decode cX7_part 29 = .ok (.i2l, 1) := by decide +kernel
theorem dX7_part_30 : decode cX7_part 30 = .ok (.lreturn, 1) := by decide +kernel
theorem dX7_edge_0 : decode cX7_edge 0 = .ok (.aload_n 0, 1) := by decide +kernel
theorem dX7_edge_1 : decode cX7_edge 1 = .ok (.iload_n 1, 1) := by decide +kernel
theorem dX7_edge_2 : decode cX7_edge 2 = .ok (.invokevirtual 81, 3) := by decide +kernel
theorem dX7_edge_5 : decode cX7_edge 5 = .ok (.ifCond .eq 25, 3) := by decide +kernel
theorem dX7_edge_8 : decode cX7_edge 8 = .ok (.aload_n 0, 1) := by decide +kernel
theorem dX7_edge_9 : decode cX7_edge 9 = .ok (.iload_n 2, 1) := by decide +kernel
theorem dX7_edge_10 : decode cX7_edge 10 = .ok (.invokevirtual 81, 3) := by decide +kernel
theorem dX7_edge_13 : decode cX7_edge 13 = .ok (.ifCond .eq 17, 3) := by decide +kernel
theorem dX7_edge_16 : decode cX7_edge 16 = .ok (.iload_n 1, 1) := by decide +kernel
