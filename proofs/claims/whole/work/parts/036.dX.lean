theorem dX11_heapHour_0 : decode cX11_heapHour 0 = .ok (.iconst 0, 1) := by decide +kernel
theorem dX11_heapHour_1 : decode cX11_heapHour 1 = .ok (.istore_n 1, 1) := by decide +kernel
theorem dX11_heapHour_2 : decode cX11_heapHour 2 = .ok (.iload_n 1, 1) := by decide +kernel
theorem dX11_heapHour_3 : decode cX11_heapHour 3 = .ok (.bipush 64, 2) := by decide +kernel
theorem dX11_heapHour_5 : decode cX11_heapHour 5 = .ok (.if_icmp .ge 132, 3) := by decide +kernel
theorem dX11_heapHour_8 : decode cX11_heapHour 8 = .ok (.aload_n 0, 1) := by decide +kernel
theorem dX11_heapHour_9 : decode cX11_heapHour 9 = .ok (.iload_n 1, 1) := by decide +kernel
theorem dX11_heapHour_10 : decode cX11_heapHour 10 = .ok (.invokevirtual 290, 3) := by decide +kernel
theorem dX11_heapHour_13 : decode cX11_heapHour 13 = .ok (.istore_n 2, 1) := by decide +kernel
theorem dX11_heapHour_14 : decode cX11_heapHour 14 = .ok (.iload_n 2, 1) := by decide +kernel
theorem dX11_heapHour_15 : decode cX11_heapHour 15 = .ok (.ifCond .ne 6, 3) := by decide +kernel
theorem dX11_heapHour_18 : decode cX11_heapHour 18 = .ok (.goto 113, 3) := by decide +kernel
theorem dX11_heapHour_21 : decode cX11_heapHour 21 = .ok (.bipush 64, 2) := by decide +kernel
theorem dX11_heapHour_23 : decode cX11_heapHour 23 = .ok (.iload_n 2, 1) := by decide +kernel
theorem dX11_heapHour_24 : decode cX11_heapHour 24 = .ok (.imul, 1) := by decide +kernel
theorem dX11_heapHour_25 : decode cX11_heapHour 25 = .ok (.bipush 64, 2) := by decide +kernel
theorem dX11_heapHour_27 : decode cX11_heapHour 27 = .ok (.isub, 1) := by decide +kernel
theorem dX11_heapHour_28 : decode cX11_heapHour 28 = .ok (.iload_n 1, 1) := by decide +kernel
theorem dX11_heapHour_29 : decode cX11_heapHour 29 = .ok (.iadd, 1) := by decide +kernel
theorem dX11_heapHour_30 : decode cX11_heapHour 30 = .ok (.istore_n 3, 1) := by decide +kernel
theorem dX11_heapHour_31 : decode cX11_heapHour 31 = .ok (.aload_n 0, 1) := by decide +kernel
theorem dX11_heapHour_32 : decode cX11_heapHour 32 = .ok (.getfield 19, 3) := by decide +kernel
theorem dX11_heapHour_35 : decode cX11_heapHour 35 = .ok (.iload_n 3, 1) := by decide +kernel
theorem dX11_heapHour_36 : decode cX11_heapHour 36 = .ok (.iaload, 1) := by decide +kernel
theorem dX11_heapHour_37 : decode cX11_heapHour 37 = .ok (.aload_n 0, 1) := by decide +kernel
theorem dX11_heapHour_38 : decode cX11_heapHour 38 = .ok (.getfield 7, 3) := by decide +kernel
theorem dX11_heapHour_41 : decode cX11_heapHour 41 = .ok (.aload_n 0, 1) := by decide +kernel
theorem dX11_heapHour_42 : decode cX11_heapHour 42 = .ok (.getfield 283, 3) := by decide +kernel
theorem dX11_heapHour_45 : decode cX11_heapHour 45 = .ok (.bipush 24, 2) := by decide +kernel
theorem dX11_heapHour_47 : decode cX11_heapHour 47 = .ok (.idiv, 1) := by decide +kernel
theorem dX11_heapHour_48 : decode cX11_heapHour 48 = .ok (.iaload, 1) := by decide +kernel
theorem dX11_heapHour_49 : decode cX11_heapHour 49 = .ok (.iadd, 1) := by decide +kernel
theorem dX11_heapHour_50 : decode cX11_heapHour 50 = .ok (.istore 4, 2) := by decide +kernel
theorem dX11_heapHour_52 : decode cX11_heapHour 52 = .ok (.aload_n 0, 1) := by decide +kernel
theorem dX11_heapHour_53 : decode cX11_heapHour 53 = .ok (.getfield 19, 3) := by decide +kernel
theorem dX11_heapHour_56 : decode cX11_heapHour 56 = .ok (.iload_n 3, 1) := by decide +kernel
theorem dX11_heapHour_57 : decode cX11_heapHour 57 = .ok (.aload_n 0, 1) := by decide +kernel
theorem dX11_heapHour_58 : decode cX11_heapHour 58 = .ok (.aload_n 0, 1) := by decide +kernel
theorem dX11_heapHour_59 : decode cX11_heapHour 59 = .ok (.getfield 19, 3) := by decide +kernel
theorem dX11_heapHour_62 : decode cX11_heapHour 62 = .ok (.iload_n 3, 1) := by decide +kernel
theorem dX11_heapHour_63 : decode cX11_heapHour 63 = .ok (.iaload, 1) := by decide +kernel
theorem dX11_heapHour_64 : decode cX11_heapHour 64 = .ok (.aload_n 0, 1) := by decide +kernel
theorem dX11_heapHour_65 : decode cX11_heapHour 65 = .ok (.getfield 7, 3) := by decide +kernel
theorem dX11_heapHour_68 : decode cX11_heapHour 68 = .ok (.aload_n 0, 1) := by decide +kernel
theorem dX11_heapHour_69 : decode cX11_heapHour 69 = .ok (.getfield 283, 3) := by decide +kernel
theorem dX11_heapHour_72 : decode cX11_heapHour 72 = .ok (.bipush 24, 2) := by decide +kernel
theorem dX11_heapHour_74 : decode cX11_heapHour 74 = .ok (.idiv, 1) := by decide +kernel
theorem dX11_heapHour_75 : decode cX11_heapHour 75 = .ok (.iaload, 1) := by decide +kernel
theorem dX11_heapHour_76 : decode cX11_heapHour 76 = .ok (.invokevirtual 303, 3) := by decide +kernel
theorem dX11_heapHour_79 : decode cX11_heapHour 79 = .ok (.iastore, 1) := by decide +kernel
theorem dX11_heapHour_80 : decode cX11_heapHour 80 = .ok (.aload_n 0, 1) := by decide +kernel
theorem dX11_heapHour_81 : decode cX11_heapHour 81 = .ok (.aload_n 0, 1) := by decide +kernel
theorem dX11_heapHour_82 : decode cX11_heapHour 82 = .ok (.getfield 306, 3) := by decide +kernel
theorem dX11_heapHour_85 : decode cX11_heapHour 85 = .ok (.iload 4, 2) := by decide +kernel
theorem dX11_heapHour_87 : decode cX11_heapHour 87 = .ok (.iadd, 1) := by decide +kernel
theorem dX11_heapHour_88 : decode cX11_heapHour 88 = .ok (.aload_n 0, 1) := by decide +kernel
theorem dX11_heapHour_89 : decode cX11_heapHour 89 = .ok (.getfield 19, 3) := by decide +kernel
theorem dX11_heapHour_92 : decode cX11_heapHour 92 = .ok (.iload_n 3, 1) := by decide +kernel
theorem dX11_heapHour_93 : decode cX11_heapHour 93 = .ok (.iaload, 1) := by decide +kernel
theorem dX11_heapHour_94 : decode cX11_heapHour 94 = .ok (.isub, 1) := by decide +kernel
theorem dX11_heapHour_95 : decode cX11_heapHour 95 = .ok (.putfield 306, 3) := by decide +kernel
theorem dX11_heapHour_98 : decode cX11_heapHour 98 = .ok (.aload_n 0, 1) := by decide +kernel
theorem dX11_heapHour_99 : decode cX11_heapHour 99 = .ok (.iload_n 3, 1) := by decide +kernel
theorem dX11_heapHour_100 : decode cX11_heapHour 100 = .ok (.invokevirtual 294, 3) := by decide +kernel
theorem dX11_heapHour_103 : decode cX11_heapHour 103 = .ok (.aload_n 0, 1) := by decide +kernel
theorem dX11_heapHour_104 : decode cX11_heapHour 104 = .ok (.getfield 19, 3) := by decide +kernel
theorem dX11_heapHour_107 : decode cX11_heapHour 107 = .ok (.iload_n 3, 1) := by decide +kernel
theorem dX11_heapHour_108 : decode cX11_heapHour 108 = .ok (.aload_n 0, 1) := by decide +kernel
theorem dX11_heapHour_109 : decode cX11_heapHour 109 = .ok (.getfield 19, 3) := by decide +kernel
theorem dX11_heapHour_112 : decode cX11_heapHour 112 = .ok (.iload_n 3, 1) := by decide +kernel
theorem dX11_heapHour_113 : decode cX11_heapHour 113 = .ok (.iaload, 1) := by decide +kernel
theorem dX11_heapHour_114 : decode cX11_heapHour 114 = .ok (.aload_n 0, 1) := by decide +kernel
theorem dX11_heapHour_115 : decode cX11_heapHour 115 = .ok (.aload_n 0, 1) := by decide +kernel
theorem dX11_heapHour_116 : decode cX11_heapHour 116 = .ok (.iconst 1, 1) := by decide +kernel
theorem dX11_heapHour_117 : decode cX11_heapHour 117 = .ok (.invokevirtual 300, 3) := by decide +kernel
theorem dX11_heapHour_120 : decode cX11_heapHour 120 = .ok (.aload_n 0, 1) := by decide +kernel
theorem dX11_heapHour_121 : decode cX11_heapHour 121 = .ok (.getfield 19, 3) := by decide +kernel
theorem dX11_heapHour_124 : decode cX11_heapHour 124 = .ok (.iload_n 3, 1) := by decide +kernel
theorem dX11_heapHour_125 : decode cX11_heapHour 125 = .ok (.iaload, 1) := by decide +kernel
theorem dX11_heapHour_126 : decode cX11_heapHour 126 = .ok (.invokevirtual 309, 3) := by decide +kernel
theorem dX11_heapHour_129 : decode cX11_heapHour 129 = .ok (.isub, 1) := by decide +kernel
theorem dX11_heapHour_130 : decode cX11_heapHour 130 = .ok (.iastore, 1) := by decide +kernel
theorem dX11_heapHour_131 : decode cX11_heapHour 131 = .ok (.iinc 1 1, 3) := by decide +kernel
theorem dX11_heapHour_134 : decode cX11_heapHour 134 = .ok (.goto (-132), 3) := by decide +kernel
theorem dX11_heapHour_137 : decode cX11_heapHour 137 = .ok (.iconst 0, 1) := by decide +kernel
theorem dX11_heapHour_138 : decode cX11_heapHour 138 = .ok (.istore_n 1, 1) := by decide +kernel
theorem dX11_heapHour_139 : decode cX11_heapHour 139 = .ok (.iload_n 1, 1) := by decide +kernel
theorem dX11_heapHour_140 : decode cX11_heapHour 140 = .ok (.sipush 256, 3) := by decide +kernel
theorem dX11_heapHour_143 : decode cX11_heapHour 143 = .ok (.if_icmp .ge 54, 3) := by decide +kernel
theorem dX11_heapHour_146 : decode cX11_heapHour 146 = .ok (.aload_n 0, 1) := by decide +kernel
theorem dX11_heapHour_147 : decode cX11_heapHour 147 = .ok (.getfield 90, 3) := by decide +kernel
theorem dX11_heapHour_150 : decode cX11_heapHour 150 = .ok (.iload_n 1, 1) := by decide +kernel
theorem dX11_heapHour_151 : decode cX11_heapHour 151 = .ok (.iconst 0, 1) := by decide +kernel
theorem dX11_heapHour_152 : decode cX11_heapHour 152 = .ok (.iastore, 1) := by decide +kernel
theorem dX11_heapHour_153 : decode cX11_heapHour 153 = .ok (.aload_n 0, 1) := by decide +kernel
theorem dX11_heapHour_154 : decode cX11_heapHour 154 = .ok (.getfield 16, 3) := by decide +kernel
theorem dX11_heapHour_157 : decode cX11_heapHour 157 = .ok (.iload_n 1, 1) := by decide +kernel
theorem dX11_heapHour_158 : decode cX11_heapHour 158 = .ok (.iaload, 1) := by decide +kernel
theorem dX11_heapHour_159 : decode cX11_heapHour 159 = .ok (.ifCond .ne 6, 3) := by decide +kernel
theorem dX11_heapHour_162 : decode cX11_heapHour 162 = .ok (.goto 29, 3) := by decide +kernel
theorem dX11_heapHour_165 : decode cX11_heapHour 165 = .ok (.aload_n 0, 1) := by decide +kernel
theorem dX11_heapHour_166 : decode cX11_heapHour 166 = .ok (.iload_n 1, 1) := by decide +kernel
theorem dX11_heapHour_167 : decode cX11_heapHour 167 = .ok (.invokevirtual 294, 3) := by decide +kernel
theorem dX11_heapHour_170 : decode cX11_heapHour 170 = .ok (.aload_n 0, 1) := by decide +kernel
theorem dX11_heapHour_171 : decode cX11_heapHour 171 = .ok (.getfield 90, 3) := by decide +kernel
theorem dX11_heapHour_174 : decode cX11_heapHour 174 = .ok (.iload_n 1, 1) := by decide +kernel
theorem dX11_heapHour_175 : decode cX11_heapHour 175 = .ok (.aload_n 0, 1) := by decide +kernel
theorem dX11_heapHour_176 : decode cX11_heapHour 176 = .ok (.aload_n 0, 1) := by decide +kernel
theorem dX11_heapHour_177 : decode cX11_heapHour 177 = .ok (.iconst 0, 1) := by decide +kernel
theorem dX11_heapHour_178 : decode cX11_heapHour 178 = .ok (.invokevirtual 300, 3) := by decide +kernel
theorem dX11_heapHour_181 : decode cX11_heapHour 181 = .ok (.aload_n 0, 1) := by decide +kernel
theorem dX11_heapHour_182 : decode cX11_heapHour 182 = .ok (.getfield 19, 3) := by decide +kernel
theorem dX11_heapHour_185 : decode cX11_heapHour 185 = .ok (.iload_n 1, 1) := by decide +kernel
theorem dX11_heapHour_186 : decode cX11_heapHour 186 = .ok (.iaload, 1) := by decide +kernel
theorem dX11_heapHour_187 : decode cX11_heapHour 187 = .ok (.invokevirtual 309, 3) := by decide +kernel
theorem dX11_heapHour_190 : decode cX11_heapHour 190 = .ok (.iastore, 1) := by decide +kernel
theorem dX11_heapHour_191 : decode cX11_heapHour 191 = .ok (.iinc 1 1, 3) := by decide +kernel
theorem dX11_heapHour_194 : decode cX11_heapHour 194 = .ok (.goto (-55), 3) := by decide +kernel
theorem dX11_heapHour_197 : decode cX11_heapHour 197 = .ok (.iconst 0, 1) := by decide +kernel
theorem dX11_heapHour_198 : decode cX11_heapHour 198 = .ok (.istore_n 1, 1) := by decide +kernel
theorem dX11_heapHour_199 : decode cX11_heapHour 199 = .ok (.iload_n 1, 1) := by decide +kernel
theorem dX11_heapHour_200 : decode cX11_heapHour 200 = .ok (.sipush 256, 3) := by decide +kernel
theorem dX11_heapHour_203 : decode cX11_heapHour 203 = .ok (.if_icmp .ge 49, 3) := by decide +kernel
theorem dX11_heapHour_206 : decode cX11_heapHour 206 = .ok (.aload_n 0, 1) := by decide +kernel
theorem dX11_heapHour_207 : decode cX11_heapHour 207 = .ok (.getfield 19, 3) := by decide +kernel
theorem dX11_heapHour_210 : decode cX11_heapHour 210 = .ok (.iload_n 1, 1) := by decide +kernel
theorem dX11_heapHour_211 : decode cX11_heapHour 211 = .ok (.aload_n 0, 1) := by decide +kernel
theorem dX11_heapHour_212 : decode cX11_heapHour 212 = .ok (.getfield 19, 3) := by decide +kernel
theorem dX11_heapHour_215 : decode cX11_heapHour 215 = .ok (.iload_n 1, 1) := by decide +kernel
theorem dX11_heapHour_216 : decode cX11_heapHour 216 = .ok (.iaload, 1) := by decide +kernel
theorem dX11_heapHour_217 : decode cX11_heapHour 217 = .ok (.aload_n 0, 1) := by decide +kernel
theorem dX11_heapHour_218 : decode cX11_heapHour 218 = .ok (.getfield 90, 3) := by decide +kernel
theorem dX11_heapHour_221 : decode cX11_heapHour 221 = .ok (.iload_n 1, 1) := by decide +kernel
theorem dX11_heapHour_222 : decode cX11_heapHour 222 = .ok (.iaload, 1) := by decide +kernel
theorem dX11_heapHour_223 : decode cX11_heapHour 223 = .ok (.isub, 1) := by decide +kernel
theorem dX11_heapHour_224 : decode cX11_heapHour 224 = .ok (.iastore, 1) := by decide +kernel
theorem dX11_heapHour_225 : decode cX11_heapHour 225 = .ok (.iload_n 1, 1) := by decide +kernel
theorem dX11_heapHour_226 : decode cX11_heapHour 226 = .ok (.bipush 64, 2) := by decide +kernel
theorem dX11_heapHour_228 : decode cX11_heapHour 228 = .ok (.if_icmp .ge 18, 3) := by decide +kernel
theorem dX11_heapHour_231 : decode cX11_heapHour 231 = .ok (.aload_n 0, 1) := by decide +kernel
theorem dX11_heapHour_232 : decode cX11_heapHour 232 = .ok (.aload_n 0, 1) := by decide +kernel
theorem dX11_heapHour_233 : decode cX11_heapHour 233 = .ok (.getfield 306, 3) := by decide +kernel
theorem dX11_heapHour_236 : decode cX11_heapHour 236 = .ok (.aload_n 0, 1) := by decide +kernel
theorem dX11_heapHour_237 : decode cX11_heapHour 237 = .ok (.getfield 90, 3) := by decide +kernel
theorem dX11_heapHour_240 : decode cX11_heapHour 240 = .ok (.iload_n 1, 1) := by decide +kernel
theorem dX11_heapHour_241 : decode cX11_heapHour 241 = .ok (.iaload, 1) := by decide +kernel
theorem dX11_heapHour_242 : decode cX11_heapHour 242 = .ok (.iadd, 1) := by decide +kernel
theorem dX11_heapHour_243 : decode cX11_heapHour 243 = .ok (.putfield 306, 3) := by decide +kernel
theorem dX11_heapHour_246 : decode cX11_heapHour 246 = .ok (.iinc 1 1, 3) := by decide +kernel
theorem dX11_heapHour_249 : decode cX11_heapHour 249 = .ok (.goto (-50), 3) := by decide +kernel
theorem dX11_heapHour_252 : decode cX11_heapHour 252 = .ok (.iconst 0, 1) := by decide +kernel
theorem dX11_heapHour_253 : decode cX11_heapHour 253 = .ok (.istore_n 1, 1) := by decide +kernel
theorem dX11_heapHour_254 : decode cX11_heapHour 254 = .ok (.iload_n 1, 1) := by decide +kernel
theorem dX11_heapHour_255 : decode cX11_heapHour 255 = .ok (.sipush 192, 3) := by decide +kernel
theorem dX11_heapHour_258 : decode cX11_heapHour 258 = .ok (.if_icmp .ge 68, 3) := by decide +kernel
theorem dX11_heapHour_261 : decode cX11_heapHour 261 = .ok (.aload_n 0, 1) := by decide +kernel
theorem dX11_heapHour_262 : decode cX11_heapHour 262 = .ok (.getfield 19, 3) := by decide +kernel
theorem dX11_heapHour_265 : decode cX11_heapHour 265 = .ok (.iload_n 1, 1) := by decide +kernel
theorem dX11_heapHour_266 : decode cX11_heapHour 266 = .ok (.iaload, 1) := by decide +kernel
theorem dX11_heapHour_267 : decode cX11_heapHour 267 = .ok (.aload_n 0, 1) := by decide +kernel
theorem dX11_heapHour_268 : decode cX11_heapHour 268 = .ok (.getfield 90, 3) := by decide +kernel
theorem dX11_heapHour_271 : decode cX11_heapHour 271 = .ok (.iload_n 1, 1) := by decide +kernel
theorem dX11_heapHour_272 : decode cX11_heapHour 272 = .ok (.bipush 64, 2) := by decide +kernel
theorem dX11_heapHour_274 : decode cX11_heapHour 274 = .ok (.iadd, 1) := by decide +kernel
theorem dX11_heapHour_275 : decode cX11_heapHour 275 = .ok (.iaload, 1) := by decide +kernel
theorem dX11_heapHour_276 : decode cX11_heapHour 276 = .ok (.iadd, 1) := by decide +kernel
theorem dX11_heapHour_277 : decode cX11_heapHour 277 = .ok (.istore_n 2, 1) := by decide +kernel
theorem dX11_heapHour_278 : decode cX11_heapHour 278 = .ok (.aload_n 0, 1) := by decide +kernel
theorem dX11_heapHour_279 : decode cX11_heapHour 279 = .ok (.getfield 19, 3) := by decide +kernel
theorem dX11_heapHour_282 : decode cX11_heapHour 282 = .ok (.iload_n 1, 1) := by decide +kernel
theorem dX11_heapHour_283 : decode cX11_heapHour 283 = .ok (.aload_n 0, 1) := by decide +kernel
theorem dX11_heapHour_284 : decode cX11_heapHour 284 = .ok (.aload_n 0, 1) := by decide +kernel
theorem dX11_heapHour_285 : decode cX11_heapHour 285 = .ok (.getfield 19, 3) := by decide +kernel
theorem dX11_heapHour_288 : decode cX11_heapHour 288 = .ok (.iload_n 1, 1) := by decide +kernel
theorem dX11_heapHour_289 : decode cX11_heapHour 289 = .ok (.iaload, 1) := by decide +kernel
theorem dX11_heapHour_290 : decode cX11_heapHour 290 = .ok (.aload_n 0, 1) := by decide +kernel
theorem dX11_heapHour_291 : decode cX11_heapHour 291 = .ok (.getfield 90, 3) := by decide +kernel
theorem dX11_heapHour_294 : decode cX11_heapHour 294 = .ok (.iload_n 1, 1) := by decide +kernel
theorem dX11_heapHour_295 : decode cX11_heapHour 295 = .ok (.bipush 64, 2) := by decide +kernel
theorem dX11_heapHour_297 : decode cX11_heapHour 297 = .ok (.iadd, 1) := by decide +kernel
theorem dX11_heapHour_298 : decode cX11_heapHour 298 = .ok (.iaload, 1) := by decide +kernel
theorem dX11_heapHour_299 : decode cX11_heapHour 299 = .ok (.invokevirtual 303, 3) := by decide +kernel
theorem dX11_heapHour_302 : decode cX11_heapHour 302 = .ok (.iastore, 1) := by decide +kernel
theorem dX11_heapHour_303 : decode cX11_heapHour 303 = .ok (.aload_n 0, 1) := by decide +kernel
theorem dX11_heapHour_304 : decode cX11_heapHour 304 = .ok (.aload_n 0, 1) := by decide +kernel
theorem dX11_heapHour_305 : decode cX11_heapHour 305 = .ok (.getfield 306, 3) := by decide +kernel
theorem dX11_heapHour_308 : decode cX11_heapHour 308 = .ok (.iload_n 2, 1) := by decide +kernel
theorem dX11_heapHour_309 : decode cX11_heapHour 309 = .ok (.iadd, 1) := by decide +kernel
theorem dX11_heapHour_310 : decode cX11_heapHour 310 = .ok (.aload_n 0, 1) := by decide +kernel
theorem dX11_heapHour_311 : decode cX11_heapHour 311 = .ok (.getfield 19, 3) := by decide +kernel
theorem dX11_heapHour_314 : decode cX11_heapHour 314 = .ok (.iload_n 1, 1) := by decide +kernel
theorem dX11_heapHour_315 : decode cX11_heapHour 315 = .ok (.iaload, 1) := by decide +kernel
theorem dX11_heapHour_316 : decode cX11_heapHour 316 = .ok (.isub, 1) := by decide +kernel
theorem dX11_heapHour_317 : decode cX11_heapHour 317 = .ok (.putfield 306, 3) := by decide +kernel
theorem dX11_heapHour_320 : decode cX11_heapHour 320 = .ok (.iinc 1 1, 3) := by decide +kernel
theorem dX11_heapHour_323 : decode cX11_heapHour 323 = .ok (.goto (-69), 3) := by decide +kernel
theorem dX11_heapHour_326 : decode cX11_heapHour 326 = .ok (.return_, 1) := by decide +kernel
theorem dX11_shakes_0 : decode cX11_shakes 0 = .ok (.sipush 144, 3) := by decide +kernel
theorem dX11_shakes_3 : decode cX11_shakes 3 = .ok (.iload_n 1, 1) := by decide +kernel
theorem dX11_shakes_4 : decode cX11_shakes 4 = .ok (.imul, 1) := by decide +kernel
theorem dX11_shakes_5 : decode cX11_shakes 5 = .ok (.istore_n 3, 1) := by decide +kernel
theorem dX11_shakes_6 : decode cX11_shakes 6 = .ok (.iload_n 3, 1) := by decide +kernel
theorem dX11_shakes_7 : decode cX11_shakes 7 = .ok (.sipush 144, 3) := by decide +kernel
theorem dX11_shakes_10 : decode cX11_shakes 10 = .ok (.iload_n 1, 1) := by decide +kernel
theorem dX11_shakes_11 : decode cX11_shakes 11 = .ok (.imul, 1) := by decide +kernel
theorem dX11_shakes_12 : decode cX11_shakes 12 = .ok (.sipush 144, 3) := by decide +kernel
theorem dX11_shakes_15 : decode cX11_shakes 15 = .ok (.iadd, 1) := by decide +kernel
theorem dX11_shakes_16 : decode cX11_shakes 16 = .ok (.if_icmp .ge 43, 3) := by decide +kernel
theorem dX11_shakes_19 : decode cX11_shakes 19 = .ok (.aload_n 0, 1) := by decide +kernel
theorem dX11_shakes_20 : decode cX11_shakes 20 = .ok (.getfield 22, 3) := by decide +kernel
theorem dX11_shakes_23 : decode cX11_shakes 23 = .ok (.iload_n 3, 1) := by decide +kernel
theorem dX11_shakes_24 : decode cX11_shakes 24 = .ok (.iaload, 1) := by decide +kernel
theorem dX11_shakes_25 : decode cX11_shakes 25 = .ok (.ifCond .le 28, 3) := by decide +kernel
theorem dX11_shakes_28 : decode cX11_shakes 28 = .ok (.aload_n 0, 1) := by decide +kernel
theorem dX11_shakes_29 : decode cX11_shakes 29 = .ok (.getfield 28, 3) := by decide +kernel
theorem dX11_shakes_32 : decode cX11_shakes 32 = .ok (.iload_n 3, 1) := by decide +kernel
theorem dX11_shakes_33 : decode cX11_shakes 33 = .ok (.aload_n 0, 1) := by decide +kernel
theorem dX11_shakes_34 : decode cX11_shakes 34 = .ok (.aload_n 0, 1) := by decide +kernel
theorem dX11_shakes_35 : decode cX11_shakes 35 = .ok (.getfield 28, 3) := by decide +kernel
theorem dX11_shakes_38 : decode cX11_shakes 38 = .ok (.iload_n 3, 1) := by decide +kernel
theorem dX11_shakes_39 : decode cX11_shakes 39 = .ok (.iaload, 1) := by decide +kernel
theorem dX11_shakes_40 : decode cX11_shakes 40 = .ok (.aload_n 0, 1) := by decide +kernel
theorem dX11_shakes_41 : decode cX11_shakes 41 = .ok (.getfield 13, 3) := by decide +kernel
theorem dX11_shakes_44 : decode cX11_shakes 44 = .ok (.iload_n 2, 1) := by decide +kernel
theorem dX11_shakes_45 : decode cX11_shakes 45 = .ok (.bipush 24, 2) := by decide +kernel
theorem dX11_shakes_47 : decode cX11_shakes 47 = .ok (.idiv, 1) := by decide +kernel
theorem dX11_shakes_48 : decode cX11_shakes 48 = .ok (.iaload, 1) := by decide +kernel
theorem dX11_shakes_49 : decode cX11_shakes 49 = .ok (.invokevirtual 303, 3) := by decide +kernel
theorem dX11_shakes_52 : decode cX11_shakes 52 = .ok (.iastore, 1) := by decide +kernel
theorem dX11_shakes_53 : decode cX11_shakes 53 = .ok (.iinc 3 1, 3) := by decide +kernel
theorem dX11_shakes_56 : decode cX11_shakes 56 = .ok (.goto (-50), 3) := by decide +kernel
theorem dX11_shakes_59 : decode cX11_shakes 59 = .ok (.return_, 1) := by decide +kernel
theorem dX11_shipWater_0 : decode cX11_shipWater 0 = .ok (.sipush 144, 3) := by decide +kernel
theorem dX11_shipWater_3 : decode cX11_shipWater 3 = .ok (.iload_n 1, 1) := by decide +kernel
theorem dX11_shipWater_4 : decode cX11_shipWater 4 = .ok (.imul, 1) := by decide +kernel
theorem dX11_shipWater_5 : decode cX11_shipWater 5 = .ok (.istore_n 3, 1) := by decide +kernel
theorem dX11_shipWater_6 : decode cX11_shipWater 6 = .ok (.iconst 0, 1) := by decide +kernel
theorem dX11_shipWater_7 : decode cX11_shipWater 7 = .ok (.istore 4, 2) := by decide +kernel
theorem dX11_shipWater_9 : decode cX11_shipWater 9 = .ok (.iload 4, 2) := by decide +kernel
theorem dX11_shipWater_11 : decode cX11_shipWater 11 = .ok (.sipush 144, 3) := by decide +kernel
theorem dX11_shipWater_14 : decode cX11_shipWater 14 = .ok (.if_icmp .ge 66, 3) := by decide +kernel
theorem dX11_shipWater_17 : decode cX11_shipWater 17 = .ok (.aload_n 0, 1) := by decide +kernel
theorem dX11_shipWater_18 : decode cX11_shipWater 18 = .ok (.getfield 90, 3) := by decide +kernel
theorem dX11_shipWater_21 : decode cX11_shipWater 21 = .ok (.iload 4, 2) := by decide +kernel
theorem dX11_shipWater_23 : decode cX11_shipWater 23 = .ok (.iconst 0, 1) := by decide +kernel
theorem dX11_shipWater_24 : decode cX11_shipWater 24 = .ok (.iastore, 1) := by decide +kernel
theorem dX11_shipWater_25 : decode cX11_shipWater 25 = .ok (.aload_n 0, 1) := by decide +kernel
theorem dX11_shipWater_26 : decode cX11_shipWater 26 = .ok (.getfield 22, 3) := by decide +kernel
theorem dX11_shipWater_29 : decode cX11_shipWater 29 = .ok (.iload_n 3, 1) := by decide +kernel
theorem dX11_shipWater_30 : decode cX11_shipWater 30 = .ok (.iload 4, 2) := by decide +kernel
theorem dX11_shipWater_32 : decode cX11_shipWater 32 = .ok (.iadd, 1) := by decide +kernel
theorem dX11_shipWater_33 : decode cX11_shipWater 33 = .ok (.iaload, 1) := by decide +kernel
theorem dX11_shipWater_34 : decode cX11_shipWater 34 = .ok (.ifCond .ne 6, 3) := by decide +kernel
theorem dX11_shipWater_37 : decode cX11_shipWater 37 = .ok (.goto 37, 3) := by decide +kernel
theorem dX11_shipWater_40 : decode cX11_shipWater 40 = .ok (.aload_n 0, 1) := by decide +kernel
theorem dX11_shipWater_41 : decode cX11_shipWater 41 = .ok (.iload_n 3, 1) := by decide +kernel
theorem dX11_shipWater_42 : decode cX11_shipWater 42 = .ok (.iload 4, 2) := by decide +kernel
theorem dX11_shipWater_44 : decode cX11_shipWater 44 = .ok (.iadd, 1) := by decide +kernel
theorem dX11_shipWater_45 : decode cX11_shipWater 45 = .ok (.iload_n 2, 1) := by decide +kernel
theorem dX11_shipWater_46 : decode cX11_shipWater 46 = .ok (.invokevirtual 297, 3) := by decide +kernel
theorem dX11_shipWater_49 : decode cX11_shipWater 49 = .ok (.aload_n 0, 1) := by decide +kernel
theorem dX11_shipWater_50 : decode cX11_shipWater 50 = .ok (.getfield 90, 3) := by decide +kernel
theorem dX11_shipWater_53 : decode cX11_shipWater 53 = .ok (.iload 4, 2) := by decide +kernel
theorem dX11_shipWater_55 : decode cX11_shipWater 55 = .ok (.aload_n 0, 1) := by decide +kernel
theorem dX11_shipWater_56 : decode cX11_shipWater 56 = .ok (.aload_n 0, 1) := by decide +kernel
theorem dX11_shipWater_57 : decode cX11_shipWater 57 = .ok (.iconst 0, 1) := by decide +kernel
theorem dX11_shipWater_58 : decode cX11_shipWater 58 = .ok (.invokevirtual 300, 3) := by decide +kernel
theorem dX11_shipWater_61 : decode cX11_shipWater 61 = .ok (.aload_n 0, 1) := by decide +kernel
theorem dX11_shipWater_62 : decode cX11_shipWater 62 = .ok (.getfield 25, 3) := by decide +kernel
theorem dX11_shipWater_65 : decode cX11_shipWater 65 = .ok (.iload_n 3, 1) := by decide +kernel
theorem dX11_shipWater_66 : decode cX11_shipWater 66 = .ok (.iload 4, 2) := by decide +kernel
theorem dX11_shipWater_68 : decode cX11_shipWater 68 = .ok (.iadd, 1) := by decide +kernel
theorem dX11_shipWater_69 : decode cX11_shipWater 69 = .ok (.iaload, 1) := by decide +kernel
theorem dX11_shipWater_70 : decode cX11_shipWater 70 = .ok (.invokevirtual 309, 3) := by decide +kernel
theorem dX11_shipWater_73 : decode cX11_shipWater 73 = .ok (.iastore, 1) := by decide +kernel
theorem dX11_shipWater_74 : decode cX11_shipWater 74 = .ok (.iinc 4 1, 3) := by decide +kernel
theorem dX11_shipWater_77 : decode cX11_shipWater 77 = .ok (.goto (-68), 3) := by decide +kernel
theorem dX11_shipWater_80 : decode cX11_shipWater 80 = .ok (.iconst 0, 1) := by decide +kernel
theorem dX11_shipWater_81 : decode cX11_shipWater 81 = .ok (.istore 4, 2) := by decide +kernel
theorem dX11_shipWater_83 : decode cX11_shipWater 83 = .ok (.iload 4, 2) := by decide +kernel
theorem dX11_shipWater_85 : decode cX11_shipWater 85 = .ok (.sipush 144, 3) := by decide +kernel
theorem dX11_shipWater_88 : decode cX11_shipWater 88 = .ok (.if_icmp .ge 63, 3) := by decide +kernel
theorem dX11_shipWater_91 : decode cX11_shipWater 91 = .ok (.aload_n 0, 1) := by decide +kernel
theorem dX11_shipWater_92 : decode cX11_shipWater 92 = .ok (.getfield 25, 3) := by decide +kernel
theorem dX11_shipWater_95 : decode cX11_shipWater 95 = .ok (.iload_n 3, 1) := by decide +kernel
theorem dX11_shipWater_96 : decode cX11_shipWater 96 = .ok (.iload 4, 2) := by decide +kernel
theorem dX11_shipWater_98 : decode cX11_shipWater 98 = .ok (.iadd, 1) := by decide +kernel
theorem dX11_shipWater_99 : decode cX11_shipWater 99 = .ok (.aload_n 0, 1) := by decide +kernel
theorem dX11_shipWater_100 : decode cX11_shipWater 100 = .ok (.getfield 25, 3) := by decide +kernel
theorem dX11_shipWater_103 : decode cX11_shipWater 103 = .ok (.iload_n 3, 1) := by decide +kernel
theorem dX11_shipWater_104 : decode cX11_shipWater 104 = .ok (.iload 4, 2) := by decide +kernel
theorem dX11_shipWater_106 : decode cX11_shipWater 106 = .ok (.iadd, 1) := by decide +kernel
theorem dX11_shipWater_107 : decode cX11_shipWater 107 = .ok (.iaload, 1) := by decide +kernel
theorem dX11_shipWater_108 : decode cX11_shipWater 108 = .ok (.aload_n 0, 1) := by decide +kernel
theorem dX11_shipWater_109 : decode cX11_shipWater 109 = .ok (.getfield 90, 3) := by decide +kernel
theorem dX11_shipWater_112 : decode cX11_shipWater 112 = .ok (.iload 4, 2) := by decide +kernel
theorem dX11_shipWater_114 : decode cX11_shipWater 114 = .ok (.iaload, 1) := by decide +kernel
theorem dX11_shipWater_115 : decode cX11_shipWater 115 = .ok (.isub, 1) := by decide +kernel
theorem dX11_shipWater_116 : decode cX11_shipWater 116 = .ok (.iastore, 1) := by decide +kernel
theorem dX11_shipWater_117 : decode cX11_shipWater 117 = .ok (.iload 4, 2) := by decide +kernel
theorem dX11_shipWater_119 : decode cX11_shipWater 119 = .ok (.bipush 6, 2) := by decide +kernel
theorem dX11_shipWater_121 : decode cX11_shipWater 121 = .ok (.irem, 1) := by decide +kernel
theorem dX11_shipWater_122 : decode cX11_shipWater 122 = .ok (.ifCond .ne 23, 3) := by decide +kernel
theorem dX11_shipWater_125 : decode cX11_shipWater 125 = .ok (.aload_n 0, 1) := by decide +kernel
theorem dX11_shipWater_126 : decode cX11_shipWater 126 = .ok (.getfield 35, 3) := by decide +kernel
theorem dX11_shipWater_129 : decode cX11_shipWater 129 = .ok (.iload_n 1, 1) := by decide +kernel
theorem dX11_shipWater_130 : decode cX11_shipWater 130 = .ok (.aload_n 0, 1) := by decide +kernel
theorem dX11_shipWater_131 : decode cX11_shipWater 131 = .ok (.getfield 35, 3) := by decide +kernel
theorem dX11_shipWater_134 : decode cX11_shipWater 134 = .ok (.iload_n 1, 1) := by decide +kernel
theorem dX11_shipWater_135 : decode cX11_shipWater 135 = .ok (.iaload, 1) := by decide +kernel
theorem dX11_shipWater_136 : decode cX11_shipWater 136 = .ok (.aload_n 0, 1) := by decide +kernel
theorem dX11_shipWater_137 : decode cX11_shipWater 137 = .ok (.getfield 90, 3) := by decide +kernel
theorem dX11_shipWater_140 : decode cX11_shipWater 140 = .ok (.iload 4, 2) := by decide +kernel
theorem dX11_shipWater_142 : decode cX11_shipWater 142 = .ok (.iaload, 1) := by decide +kernel
theorem dX11_shipWater_143 : decode cX11_shipWater 143 = .ok (.iadd, 1) := by decide +kernel
theorem dX11_shipWater_144 : decode cX11_shipWater 144 = .ok (.iastore, 1) := by decide +kernel
theorem dX11_shipWater_145 : decode cX11_shipWater 145 = .ok (.iinc 4 1, 3) := by decide +kernel
theorem dX11_shipWater_148 : decode cX11_shipWater 148 = .ok (.goto (-65), 3) := by decide +kernel
theorem dX11_shipWater_151 : decode cX11_shipWater 151 = .ok (.iconst 0, 1) := by decide +kernel
theorem dX11_shipWater_152 : decode cX11_shipWater 152 = .ok (.istore 4, 2) := by decide +kernel
theorem dX11_shipWater_154 : decode cX11_shipWater 154 = .ok (.iload 4, 2) := by decide +kernel
theorem dX11_shipWater_156 : decode cX11_shipWater 156 = .ok (.sipush 144, 3) := by decide +kernel
theorem dX11_shipWater_159 : decode cX11_shipWater 159 = .ok (.if_icmp .ge 98, 3) := by decide +kernel
theorem dX11_shipWater_162 : decode cX11_shipWater 162 = .ok (.iload 4, 2) := by decide +kernel
theorem dX11_shipWater_164 : decode cX11_shipWater 164 = .ok (.bipush 6, 2) := by decide +kernel
theorem dX11_shipWater_166 : decode cX11_shipWater 166 = .ok (.irem, 1) := by decide +kernel
theorem dX11_shipWater_167 : decode cX11_shipWater 167 = .ok (.iconst 5, 1) := by decide +kernel
theorem dX11_shipWater_168 : decode cX11_shipWater 168 = .ok (.if_icmp .ne 6, 3) := by decide +kernel
theorem dX11_shipWater_171 : decode cX11_shipWater 171 = .ok (.goto 80, 3) := by decide +kernel
theorem dX11_shipWater_174 : decode cX11_shipWater 174 = .ok (.aload_n 0, 1) := by decide +kernel
theorem dX11_shipWater_175 : decode cX11_shipWater 175 = .ok (.getfield 25, 3) := by decide +kernel
theorem dX11_shipWater_178 : decode cX11_shipWater 178 = .ok (.iload_n 3, 1) := by decide +kernel
theorem dX11_shipWater_179 : decode cX11_shipWater 179 = .ok (.iload 4, 2) := by decide +kernel
theorem dX11_shipWater_181 : decode cX11_shipWater 181 = .ok (.iadd, 1) := by decide +kernel
theorem dX11_shipWater_182 : decode cX11_shipWater 182 = .ok (.iaload, 1) := by decide +kernel
theorem dX11_shipWater_183 : decode cX11_shipWater 183 = .ok (.aload_n 0, 1) := by decide +kernel
theorem dX11_shipWater_184 : decode cX11_shipWater 184 = .ok (.getfield 90, 3) := by decide +kernel
theorem dX11_shipWater_187 : decode cX11_shipWater 187 = .ok (.iload 4, 2) := by decide +kernel
theorem dX11_shipWater_189 : decode cX11_shipWater 189 = .ok (.iconst 1, 1) := by decide +kernel
theorem dX11_shipWater_190 : decode cX11_shipWater 190 = .ok (.iadd, 1) := by decide +kernel
theorem dX11_shipWater_191 : decode cX11_shipWater 191 = .ok (.iaload, 1) := by decide +kernel
theorem dX11_shipWater_192 : decode cX11_shipWater 192 = .ok (.iadd, 1) := by decide +kernel
theorem dX11_shipWater_193 : decode cX11_shipWater 193 = .ok (.istore 5, 2) := by decide +kernel
theorem dX11_shipWater_195 : decode cX11_shipWater 195 = .ok (.aload_n 0, 1) := by decide +kernel
theorem dX11_shipWater_196 : decode cX11_shipWater 196 = .ok (.getfield 25, 3) := by decide +kernel
theorem dX11_shipWater_199 : decode cX11_shipWater 199 = .ok (.iload_n 3, 1) := by decide +kernel
theorem dX11_shipWater_200 : decode cX11_shipWater 200 = .ok (.iload 4, 2) := by decide +kernel
theorem dX11_shipWater_202 : decode cX11_shipWater 202 = .ok (.iadd, 1) := by decide +kernel
theorem dX11_shipWater_203 : decode cX11_shipWater 203 = .ok (.aload_n 0, 1) := by decide +kernel
theorem dX11_shipWater_204 : decode cX11_shipWater 204 = .ok (.aload_n 0, 1) := by decide +kernel
theorem dX11_shipWater_205 : decode cX11_shipWater 205 = .ok (.getfield 25, 3) := by decide +kernel
theorem dX11_shipWater_208 : decode cX11_shipWater 208 = .ok (.iload_n 3, 1) := by decide +kernel
theorem dX11_shipWater_209 : decode cX11_shipWater 209 = .ok (.iload 4, 2) := by decide +kernel
theorem dX11_shipWater_211 : decode cX11_shipWater 211 = .ok (.iadd, 1) := by decide +kernel
theorem dX11_shipWater_212 : decode cX11_shipWater 212 = .ok (.iaload, 1) := by decide +kernel
theorem dX11_shipWater_213 : decode cX11_shipWater 213 = .ok (.aload_n 0, 1) := by decide +kernel
theorem dX11_shipWater_214 : decode cX11_shipWater 214 = .ok (.getfield 90, 3) := by decide +kernel
theorem dX11_shipWater_217 : decode cX11_shipWater 217 = .ok (.iload 4, 2) := by decide +kernel
theorem dX11_shipWater_219 : decode cX11_shipWater 219 = .ok (.iconst 1, 1) := by decide +kernel
theorem dX11_shipWater_220 : decode cX11_shipWater 220 = .ok (.iadd, 1) := by decide +kernel
theorem dX11_shipWater_221 : decode cX11_shipWater 221 = .ok (.iaload, 1) := by decide +kernel
theorem dX11_shipWater_222 : decode cX11_shipWater 222 = .ok (.invokevirtual 303, 3) := by decide +kernel
theorem dX11_shipWater_225 : decode cX11_shipWater 225 = .ok (.iastore, 1) := by decide +kernel
theorem dX11_shipWater_226 : decode cX11_shipWater 226 = .ok (.aload_n 0, 1) := by decide +kernel
theorem dX11_shipWater_227 : decode cX11_shipWater 227 = .ok (.getfield 35, 3) := by decide +kernel
theorem dX11_shipWater_230 : decode cX11_shipWater 230 = .ok (.iload_n 1, 1) := by decide +kernel
theorem dX11_shipWater_231 : decode cX11_shipWater 231 = .ok (.aload_n 0, 1) := by decide +kernel
theorem dX11_shipWater_232 : decode cX11_shipWater 232 = .ok (.getfield 35, 3) := by decide +kernel
theorem dX11_shipWater_235 : decode cX11_shipWater 235 = .ok (.iload_n 1, 1) := by decide +kernel
theorem dX11_shipWater_236 : decode cX11_shipWater 236 = .ok (.iaload, 1) := by decide +kernel
theorem dX11_shipWater_237 : decode cX11_shipWater 237 = .ok (.iload 5, 2) := by decide +kernel
theorem dX11_shipWater_239 : decode cX11_shipWater 239 = .ok (.iadd, 1) := by decide +kernel
theorem dX11_shipWater_240 : decode cX11_shipWater 240 = .ok (.aload_n 0, 1) := by decide +kernel
theorem dX11_shipWater_241 : decode cX11_shipWater 241 = .ok (.getfield 25, 3) := by decide +kernel
theorem dX11_shipWater_244 : decode cX11_shipWater 244 = .ok (.iload_n 3, 1) := by decide +kernel
theorem dX11_shipWater_245 : decode cX11_shipWater 245 = .ok (.iload 4, 2) := by decide +kernel
theorem dX11_shipWater_247 : decode cX11_shipWater 247 = .ok (.iadd, 1) := by decide +kernel
theorem dX11_shipWater_248 : decode cX11_shipWater 248 = .ok (.iaload, 1) := by decide +kernel
theorem dX11_shipWater_249 : decode cX11_shipWater 249 = .ok (.isub, 1) := by decide +kernel
theorem dX11_shipWater_250 : decode cX11_shipWater 250 = .ok (.iastore, 1) := by decide +kernel
theorem dX11_shipWater_251 : decode cX11_shipWater 251 = .ok (.iinc 4 1, 3) := by decide +kernel
theorem dX11_shipWater_254 : decode cX11_shipWater 254 = .ok (.goto (-100), 3) := by decide +kernel
theorem dX11_shipWater_257 : decode cX11_shipWater 257 = .ok (.iload_n 3, 1) := by decide +kernel
theorem dX11_shipWater_258 : decode cX11_shipWater 258 = .ok (.istore 4, 2) := by decide +kernel
theorem dX11_shipWater_260 : decode cX11_shipWater 260 = .ok (.iload 4, 2) := by decide +kernel
theorem dX11_shipWater_262 : decode cX11_shipWater 262 = .ok (.iload_n 3, 1) := by decide +kernel
theorem dX11_shipWater_263 : decode cX11_shipWater 263 = .ok (.sipush 144, 3) := by decide +kernel
theorem dX11_shipWater_266 : decode cX11_shipWater 266 = .ok (.iadd, 1) := by decide +kernel
theorem dX11_shipWater_267 : decode cX11_shipWater 267 = .ok (.if_icmp .ge 57, 3) := by decide +kernel
theorem dX11_shipWater_270 : decode cX11_shipWater 270 = .ok (.aload_n 0, 1) := by decide +kernel
theorem dX11_shipWater_271 : decode cX11_shipWater 271 = .ok (.getfield 31, 3) := by decide +kernel
theorem dX11_shipWater_274 : decode cX11_shipWater 274 = .ok (.iload 4, 2) := by decide +kernel
theorem dX11_shipWater_276 : decode cX11_shipWater 276 = .ok (.iconst 0, 1) := by decide +kernel
theorem dX11_shipWater_277 : decode cX11_shipWater 277 = .ok (.bastore, 1) := by decide +kernel
theorem dX11_shipWater_278 : decode cX11_shipWater 278 = .ok (.aload_n 0, 1) := by decide +kernel
theorem dX11_shipWater_279 : decode cX11_shipWater 279 = .ok (.getfield 22, 3) := by decide +kernel
theorem dX11_shipWater_282 : decode cX11_shipWater 282 = .ok (.iload 4, 2) := by decide +kernel
theorem dX11_shipWater_284 : decode cX11_shipWater 284 = .ok (.iaload, 1) := by decide +kernel
theorem dX11_shipWater_285 : decode cX11_shipWater 285 = .ok (.ifCond .ne 6, 3) := by decide +kernel
theorem dX11_shipWater_288 : decode cX11_shipWater 288 = .ok (.goto 30, 3) := by decide +kernel
theorem dX11_shipWater_291 : decode cX11_shipWater 291 = .ok (.aload_n 0, 1) := by decide +kernel
theorem dX11_shipWater_292 : decode cX11_shipWater 292 = .ok (.iload 4, 2) := by decide +kernel
theorem dX11_shipWater_294 : decode cX11_shipWater 294 = .ok (.iload_n 2, 1) := by decide +kernel
theorem dX11_shipWater_295 : decode cX11_shipWater 295 = .ok (.invokevirtual 297, 3) := by decide +kernel
theorem dX11_shipWater_298 : decode cX11_shipWater 298 = .ok (.aload_n 0, 1) := by decide +kernel
theorem dX11_shipWater_299 : decode cX11_shipWater 299 = .ok (.getfield 31, 3) := by decide +kernel
theorem dX11_shipWater_302 : decode cX11_shipWater 302 = .ok (.iload 4, 2) := by decide +kernel
theorem dX11_shipWater_304 : decode cX11_shipWater 304 = .ok (.aload_n 0, 1) := by decide +kernel
theorem dX11_shipWater_305 : decode cX11_shipWater 305 = .ok (.iconst 2, 1) := by decide +kernel
theorem dX11_shipWater_306 : decode cX11_shipWater 306 = .ok (.invokevirtual 300, 3) := by decide +kernel
theorem dX11_shipWater_309 : decode cX11_shipWater 309 = .ok (.ifCond .le 7, 3) := by decide +kernel
theorem dX11_shipWater_312 : decode cX11_shipWater 312 = .ok (.iconst 1, 1) := by decide +kernel
theorem dX11_shipWater_313 : decode cX11_shipWater 313 = .ok (.goto 4, 3) := by decide +kernel
theorem dX11_shipWater_316 : decode cX11_shipWater 316 = .ok (.iconst 0, 1) := by decide +kernel
theorem dX11_shipWater_317 : decode cX11_shipWater 317 = .ok (.bastore, 1) := by decide +kernel
theorem dX11_shipWater_318 : decode cX11_shipWater 318 = .ok (.iinc 4 1, 3) := by decide +kernel
theorem dX11_shipWater_321 : decode cX11_shipWater 321 = .ok (.goto (-61), 3) := by decide +kernel
theorem dX11_shipWater_324 : decode cX11_shipWater 324 = .ok (.return_, 1) := by decide +kernel
theorem dX11_columnArm_0 : decode cX11_columnArm 0 = .ok (.iconst 2, 1) := by decide +kernel
theorem dX11_columnArm_1 : decode cX11_columnArm 1 = .ok (.iload_n 1, 1) := by decide +kernel
theorem dX11_columnArm_2 : decode cX11_columnArm 2 = .ok (.bipush 6, 2) := by decide +kernel
theorem dX11_columnArm_4 : decode cX11_columnArm 4 = .ok (.idiv, 1) := by decide +kernel
theorem dX11_columnArm_5 : decode cX11_columnArm 5 = .ok (.bipush 6, 2) := by decide +kernel
theorem dX11_columnArm_7 : decode cX11_columnArm 7 = .ok (.irem, 1) := by decide +kernel
theorem dX11_columnArm_8 : decode cX11_columnArm 8 = .ok (.imul, 1) := by decide +kernel
theorem dX11_columnArm_9 : decode cX11_columnArm 9 = .ok (.iconst 5, 1) := by decide +kernel
theorem dX11_columnArm_10 : decode cX11_columnArm 10 = .ok (.isub, 1) := by decide +kernel
theorem dX11_columnArm_11 : decode cX11_columnArm 11 = .ok (.ireturn, 1) := by decide +kernel
theorem dX11_momentOf_0 : decode cX11_momentOf 0 = .ok (.iconst 0, 1) := by decide +kernel
theorem dX11_momentOf_1 : decode cX11_momentOf 1 = .ok (.istore_n 2, 1) := by decide +kernel
theorem dX11_momentOf_2 : decode cX11_momentOf 2 = .ok (.sipush 144, 3) := by decide +kernel
theorem dX11_momentOf_5 : decode cX11_momentOf 5 = .ok (.iload_n 1, 1) := by decide +kernel
theorem dX11_momentOf_6 : decode cX11_momentOf 6 = .ok (.imul, 1) := by decide +kernel
theorem dX11_momentOf_7 : decode cX11_momentOf 7 = .ok (.istore_n 3, 1) := by decide +kernel
theorem dX11_momentOf_8 : decode cX11_momentOf 8 = .ok (.iload_n 3, 1) := by decide +kernel
theorem dX11_momentOf_9 : decode cX11_momentOf 9 = .ok (.sipush 144, 3) := by decide +kernel
theorem dX11_momentOf_12 : decode cX11_momentOf 12 = .ok (.iload_n 1, 1) := by decide +kernel
theorem dX11_momentOf_13 : decode cX11_momentOf 13 = .ok (.imul, 1) := by decide +kernel
theorem dX11_momentOf_14 : decode cX11_momentOf 14 = .ok (.sipush 144, 3) := by decide +kernel
theorem dX11_momentOf_17 : decode cX11_momentOf 17 = .ok (.iadd, 1) := by decide +kernel
theorem dX11_momentOf_18 : decode cX11_momentOf 18 = .ok (.if_icmp .ge 34, 3) := by decide +kernel
theorem dX11_momentOf_21 : decode cX11_momentOf 21 = .ok (.iload_n 2, 1) := by decide +kernel
theorem dX11_momentOf_22 : decode cX11_momentOf 22 = .ok (.bipush 10, 2) := by decide +kernel
theorem dX11_momentOf_24 : decode cX11_momentOf 24 = .ok (.aload_n 0, 1) := by decide +kernel
theorem dX11_momentOf_25 : decode cX11_momentOf 25 = .ok (.getfield 22, 3) := by decide +kernel
theorem dX11_momentOf_28 : decode cX11_momentOf 28 = .ok (.iload_n 3, 1) := by decide +kernel
theorem dX11_momentOf_29 : decode cX11_momentOf 29 = .ok (.iaload, 1) := by decide +kernel
theorem dX11_momentOf_30 : decode cX11_momentOf 30 = .ok (.imul, 1) := by decide +kernel
theorem dX11_momentOf_31 : decode cX11_momentOf 31 = .ok (.aload_n 0, 1) := by decide +kernel
theorem dX11_momentOf_32 : decode cX11_momentOf 32 = .ok (.getfield 25, 3) := by decide +kernel
theorem dX11_momentOf_35 : decode cX11_momentOf 35 = .ok (.iload_n 3, 1) := by decide +kernel
theorem dX11_momentOf_36 : decode cX11_momentOf 36 = .ok (.iaload, 1) := by decide +kernel
theorem dX11_momentOf_37 : decode cX11_momentOf 37 = .ok (.iadd, 1) := by decide +kernel
theorem dX11_momentOf_38 : decode cX11_momentOf 38 = .ok (.aload_n 0, 1) := by decide +kernel
theorem dX11_momentOf_39 : decode cX11_momentOf 39 = .ok (.iload_n 3, 1) := by decide +kernel
theorem dX11_momentOf_40 : decode cX11_momentOf 40 = .ok (.invokevirtual 312, 3) := by decide +kernel
theorem dX11_momentOf_43 : decode cX11_momentOf 43 = .ok (.imul, 1) := by decide +kernel
theorem dX11_momentOf_44 : decode cX11_momentOf 44 = .ok (.iadd, 1) := by decide +kernel
theorem dX11_momentOf_45 : decode cX11_momentOf 45 = .ok (.istore_n 2, 1) := by decide +kernel
theorem dX11_momentOf_46 : decode cX11_momentOf 46 = .ok (.iinc 3 1, 3) := by decide +kernel
theorem dX11_momentOf_49 : decode cX11_momentOf 49 = .ok (.goto (-41), 3) := by decide +kernel
theorem dX11_momentOf_52 : decode cX11_momentOf 52 = .ok (.iload_n 2, 1) := by decide +kernel
theorem dX11_momentOf_53 : decode cX11_momentOf 53 = .ok (.ireturn, 1) := by decide +kernel
theorem dX11_weightOf_0 : decode cX11_weightOf 0 = .ok (.sipush 2000, 3) := by decide +kernel
theorem dX11_weightOf_3 : decode cX11_weightOf 3 = .ok (.istore_n 2, 1) := by decide +kernel
theorem dX11_weightOf_4 : decode cX11_weightOf 4 = .ok (.sipush 144, 3) := by decide +kernel
theorem dX11_weightOf_7 : decode cX11_weightOf 7 = .ok (.iload_n 1, 1) := by decide +kernel
theorem dX11_weightOf_8 : decode cX11_weightOf 8 = .ok (.imul, 1) := by decide +kernel
theorem dX11_weightOf_9 : decode cX11_weightOf 9 = .ok (.istore_n 3, 1) := by decide +kernel
theorem dX11_weightOf_10 : decode cX11_weightOf 10 = .ok (.iload_n 3, 1) := by decide +kernel
theorem dX11_weightOf_11 : decode cX11_weightOf 11 = .ok (.sipush 144, 3) := by decide +kernel
theorem dX11_weightOf_14 : decode cX11_weightOf 14 = .ok (.iload_n 1, 1) := by decide +kernel
theorem dX11_weightOf_15 : decode cX11_weightOf 15 = .ok (.imul, 1) := by decide +kernel
theorem dX11_weightOf_16 : decode cX11_weightOf 16 = .ok (.sipush 144, 3) := by decide +kernel
theorem dX11_weightOf_19 : decode cX11_weightOf 19 = .ok (.iadd, 1) := by decide +kernel
theorem dX11_weightOf_20 : decode cX11_weightOf 20 = .ok (.if_icmp .ge 28, 3) := by decide +kernel
theorem dX11_weightOf_23 : decode cX11_weightOf 23 = .ok (.iload_n 2, 1) := by decide +kernel
theorem dX11_weightOf_24 : decode cX11_weightOf 24 = .ok (.bipush 10, 2) := by decide +kernel
theorem dX11_weightOf_26 : decode cX11_weightOf 26 = .ok (.aload_n 0, 1) := by decide +kernel
theorem dX11_weightOf_27 : decode cX11_weightOf 27 = .ok (.getfield 22, 3) := by decide +kernel
theorem dX11_weightOf_30 : decode cX11_weightOf 30 = .ok (.iload_n 3, 1) := by decide +kernel
theorem dX11_weightOf_31 : decode cX11_weightOf 31 = .ok (.iaload, 1) := by decide +kernel
theorem dX11_weightOf_32 : decode cX11_weightOf 32 = .ok (.imul, 1) := by decide +kernel
theorem dX11_weightOf_33 : decode cX11_weightOf 33 = .ok (.iadd, 1) := by decide +kernel
theorem dX11_weightOf_34 : decode cX11_weightOf 34 = .ok (.aload_n 0, 1) := by decide +kernel
theorem dX11_weightOf_35 : decode cX11_weightOf 35 = .ok (.getfield 25, 3) := by decide +kernel
theorem dX11_weightOf_38 : decode cX11_weightOf 38 = .ok (.iload_n 3, 1) := by decide +kernel
theorem dX11_weightOf_39 : decode cX11_weightOf 39 = .ok (.iaload, 1) := by decide +kernel
theorem dX11_weightOf_40 : decode cX11_weightOf 40 = .ok (.iadd, 1) := by decide +kernel
theorem dX11_weightOf_41 : decode cX11_weightOf 41 = .ok (.istore_n 2, 1) := by decide +kernel
theorem dX11_weightOf_42 : decode cX11_weightOf 42 = .ok (.iinc 3 1, 3) := by decide +kernel
theorem dX11_weightOf_45 : decode cX11_weightOf 45 = .ok (.goto (-35), 3) := by decide +kernel
theorem dX11_weightOf_48 : decode cX11_weightOf 48 = .ok (.iload_n 2, 1) := by decide +kernel
theorem dX11_weightOf_49 : decode cX11_weightOf 49 = .ok (.ireturn, 1) := by decide +kernel
theorem dX11_armAt_0 : decode cX11_armAt 0 = .ok (.iload_n 1, 1) := by decide +kernel
theorem dX11_armAt_1 : decode cX11_armAt 1 = .ok (.bipush 10, 2) := by decide +kernel
theorem dX11_armAt_3 : decode cX11_armAt 3 = .ok (.idiv, 1) := by decide +kernel
theorem dX11_armAt_4 : decode cX11_armAt 4 = .ok (.istore_n 2, 1) := by decide +kernel
theorem dX11_armAt_5 : decode cX11_armAt 5 = .ok (.iload_n 1, 1) := by decide +kernel
theorem dX11_armAt_6 : decode cX11_armAt 6 = .ok (.bipush 60, 2) := by decide +kernel
theorem dX11_armAt_8 : decode cX11_armAt 8 = .ok (.if_icmp .ne 16, 3) := by decide +kernel
theorem dX11_armAt_11 : decode cX11_armAt 11 = .ok (.bipush 10, 2) := by decide +kernel
theorem dX11_armAt_13 : decode cX11_armAt 13 = .ok (.aload_n 0, 1) := by decide +kernel
theorem dX11_armAt_14 : decode cX11_armAt 14 = .ok (.getfield 93, 3) := by decide +kernel
theorem dX11_armAt_17 : decode cX11_armAt 17 = .ok (.bipush 6, 2) := by decide +kernel
theorem dX11_armAt_19 : decode cX11_armAt 19 = .ok (.iaload, 1) := by decide +kernel
theorem dX11_armAt_20 : decode cX11_armAt 20 = .ok (.imul, 1) := by decide +kernel
theorem dX11_armAt_21 : decode cX11_armAt 21 = .ok (.goto 33, 3) := by decide +kernel
theorem dX11_armAt_24 : decode cX11_armAt 24 = .ok (.bipush 10, 2) := by decide +kernel
theorem dX11_armAt_26 : decode cX11_armAt 26 = .ok (.aload_n 0, 1) := by decide +kernel
theorem dX11_armAt_27 : decode cX11_armAt 27 = .ok (.getfield 93, 3) := by decide +kernel
theorem dX11_armAt_30 : decode cX11_armAt 30 = .ok (.iload_n 2, 1) := by decide +kernel
theorem dX11_armAt_31 : decode cX11_armAt 31 = .ok (.iaload, 1) := by decide +kernel
theorem dX11_armAt_32 : decode cX11_armAt 32 = .ok (.imul, 1) := by decide +kernel
theorem dX11_armAt_33 : decode cX11_armAt 33 = .ok (.aload_n 0, 1) := by decide +kernel
theorem dX11_armAt_34 : decode cX11_armAt 34 = .ok (.getfield 93, 3) := by decide +kernel
theorem dX11_armAt_37 : decode cX11_armAt 37 = .ok (.iload_n 2, 1) := by decide +kernel
theorem dX11_armAt_38 : decode cX11_armAt 38 = .ok (.iconst 1, 1) := by decide +kernel
theorem dX11_armAt_39 : decode cX11_armAt 39 = .ok (.iadd, 1) := by decide +kernel
theorem dX11_armAt_40 : decode cX11_armAt 40 = .ok (.iaload, 1) := by decide +kernel
theorem dX11_armAt_41 : decode cX11_armAt 41 = .ok (.aload_n 0, 1) := by decide +kernel
theorem dX11_armAt_42 : decode cX11_armAt 42 = .ok (.getfield 93, 3) := by decide +kernel
theorem dX11_armAt_45 : decode cX11_armAt 45 = .ok (.iload_n 2, 1) := by decide +kernel
theorem dX11_armAt_46 : decode cX11_armAt 46 = .ok (.iaload, 1) := by decide +kernel
theorem dX11_armAt_47 : decode cX11_armAt 47 = .ok (.isub, 1) := by decide +kernel
theorem dX11_armAt_48 : decode cX11_armAt 48 = .ok (.iload_n 1, 1) := by decide +kernel
theorem dX11_armAt_49 : decode cX11_armAt 49 = .ok (.bipush 10, 2) := by decide +kernel
theorem dX11_armAt_51 : decode cX11_armAt 51 = .ok (.irem, 1) := by decide +kernel
theorem dX11_armAt_52 : decode cX11_armAt 52 = .ok (.imul, 1) := by decide +kernel
theorem dX11_armAt_53 : decode cX11_armAt 53 = .ok (.iadd, 1) := by decide +kernel
theorem dX11_armAt_54 : decode cX11_armAt 54 = .ok (.ireturn, 1) := by decide +kernel
theorem dX11_leanOf_0 : decode cX11_leanOf 0 = .ok (.ldc2_w 315, 3) := by decide +kernel
theorem dX11_leanOf_3 : decode cX11_leanOf 3 = .ok (.iload_n 1, 1) := by decide +kernel
theorem dX11_leanOf_4 : decode cX11_leanOf 4 = .ok (.ifCond .ge 8, 3) := by decide +kernel
theorem dX11_leanOf_7 : decode cX11_leanOf 7 = .ok (.iload_n 1, 1) := by decide +kernel
theorem dX11_leanOf_8 : decode cX11_leanOf 8 = .ok (.ineg, 1) := by decide +kernel
theorem dX11_leanOf_9 : decode cX11_leanOf 9 = .ok (.goto 4, 3) := by decide +kernel
theorem dX11_leanOf_12 : decode cX11_leanOf 12 = .ok (.iload_n 1, 1) := by decide +kernel
theorem dX11_leanOf_13 : decode cX11_leanOf 13 = .ok (.i2l, 1) := by decide +kernel
theorem dX11_leanOf_14 : decode cX11_leanOf 14 = .ok (.lmul, 1) := by decide +kernel
theorem dX11_leanOf_15 : decode cX11_leanOf 15 = .ok (.lstore_n 3, 1) := by decide +kernel
theorem dX11_leanOf_16 : decode cX11_leanOf 16 = .ok (.iconst 0, 1) := by decide +kernel
theorem dX11_leanOf_17 : decode cX11_leanOf 17 = .ok (.istore 5, 2) := by decide +kernel
theorem dX11_leanOf_19 : decode cX11_leanOf 19 = .ok (.iload 5, 2) := by decide +kernel
theorem dX11_leanOf_21 : decode cX11_leanOf 21 = .ok (.bipush 60, 2) := by decide +kernel
theorem dX11_leanOf_23 : decode cX11_leanOf 23 = .ok (.if_icmp .gt 27, 3) := by decide +kernel
theorem dX11_leanOf_26 : decode cX11_leanOf 26 = .ok (.aload_n 0, 1) := by decide +kernel
theorem dX11_leanOf_27 : decode cX11_leanOf 27 = .ok (.iload 5, 2) := by decide +kernel
theorem dX11_leanOf_29 : decode cX11_leanOf 29 = .ok (.invokevirtual 317, 3) := by decide +kernel
theorem dX11_leanOf_32 : decode cX11_leanOf 32 = .ok (.i2l, 1) := by decide +kernel
theorem dX11_leanOf_33 : decode cX11_leanOf 33 = .ok (.iload_n 2, 1) := by decide +kernel
theorem dX11_leanOf_34 : decode cX11_leanOf 34 = .ok (.i2l, 1) := by decide +kernel
theorem dX11_leanOf_35 : decode cX11_leanOf 35 = .ok (.lmul, 1) := by decide +kernel
theorem dX11_leanOf_36 : decode cX11_leanOf 36 = .ok (.lload_n 3, 1) := by decide +kernel
theorem dX11_leanOf_37 : decode cX11_leanOf 37 = .ok (.lcmp, 1) := by decide +kernel
theorem dX11_leanOf_38 : decode cX11_leanOf 38 = .ok (.ifCond .lt 6, 3) := by decide +kernel
theorem dX11_leanOf_41 : decode cX11_leanOf 41 = .ok (.iload 5, 2) := by decide +kernel
theorem dX11_leanOf_43 : decode cX11_leanOf 43 = .ok (.ireturn, 1) := by decide +kernel
theorem dX11_leanOf_44 : decode cX11_leanOf 44 = .ok (.iinc 5 1, 3) := by decide +kernel
theorem dX11_leanOf_47 : decode cX11_leanOf 47 = .ok (.goto (-28), 3) := by decide +kernel
theorem dX11_leanOf_50 : decode cX11_leanOf 50 = .ok (.iconst (-1), 1) := by decide +kernel
theorem dX11_leanOf_51 : decode cX11_leanOf 51 = .ok (.ireturn, 1) := by decide +kernel
theorem dX11_flows_0 : decode cX11_flows 0 = .ok (.sipush 144, 3) := by decide +kernel
theorem dX11_flows_3 : decode cX11_flows 3 = .ok (.iload_n 1, 1) := by decide +kernel
theorem dX11_flows_4 : decode cX11_flows 4 = .ok (.imul, 1) := by decide +kernel
theorem dX11_flows_5 : decode cX11_flows 5 = .ok (.bipush 36, 2) := by decide +kernel
theorem dX11_flows_7 : decode cX11_flows 7 = .ok (.iload_n 2, 1) := by decide +kernel
theorem dX11_flows_8 : decode cX11_flows 8 = .ok (.imul, 1) := by decide +kernel
theorem dX11_flows_9 : decode cX11_flows 9 = .ok (.iadd, 1) := by decide +kernel
theorem dX11_flows_10 : decode cX11_flows 10 = .ok (.bipush 6, 2) := by decide +kernel
theorem dX11_flows_12 : decode cX11_flows 12 = .ok (.iload_n 3, 1) := by decide +kernel
theorem dX11_flows_13 : decode cX11_flows 13 = .ok (.imul, 1) := by decide +kernel
theorem dX11_flows_14 : decode cX11_flows 14 = .ok (.iadd, 1) := by decide +kernel
theorem dX11_flows_15 : decode cX11_flows 15 = .ok (.istore 6, 2) := by decide +kernel
theorem dX11_flows_17 : decode cX11_flows 17 = .ok (.iload 6, 2) := by decide +kernel
theorem dX11_flows_19 : decode cX11_flows 19 = .ok (.bipush 6, 2) := by decide +kernel
theorem dX11_flows_21 : decode cX11_flows 21 = .ok (.iload 4, 2) := by decide +kernel
theorem dX11_flows_23 : decode cX11_flows 23 = .ok (.imul, 1) := by decide +kernel
theorem dX11_flows_24 : decode cX11_flows 24 = .ok (.iadd, 1) := by decide +kernel
theorem dX11_flows_25 : decode cX11_flows 25 = .ok (.istore 7, 2) := by decide +kernel
theorem dX11_flows_27 : decode cX11_flows 27 = .ok (.aload_n 0, 1) := by decide +kernel
theorem dX11_flows_28 : decode cX11_flows 28 = .ok (.iload 6, 2) := by decide +kernel
theorem dX11_flows_30 : decode cX11_flows 30 = .ok (.invokevirtual 320, 3) := by decide +kernel
theorem dX11_flows_33 : decode cX11_flows 33 = .ok (.istore 8, 2) := by decide +kernel
theorem dX11_flows_35 : decode cX11_flows 35 = .ok (.aload_n 0, 1) := by decide +kernel
theorem dX11_flows_36 : decode cX11_flows 36 = .ok (.iload 7, 2) := by decide +kernel
theorem dX11_flows_38 : decode cX11_flows 38 = .ok (.invokevirtual 320, 3) := by decide +kernel
theorem dX11_flows_41 : decode cX11_flows 41 = .ok (.istore 9, 2) := by decide +kernel
theorem dX11_flows_43 : decode cX11_flows 43 = .ok (.iload 8, 2) := by decide +kernel
theorem dX11_flows_45 : decode cX11_flows 45 = .ok (.ifCond .eq 47, 3) := by decide +kernel
theorem dX11_flows_48 : decode cX11_flows 48 = .ok (.iload 9, 2) := by decide +kernel
theorem dX11_flows_50 : decode cX11_flows 50 = .ok (.bipush 6, 2) := by decide +kernel
theorem dX11_flows_52 : decode cX11_flows 52 = .ok (.if_icmp .eq 40, 3) := by decide +kernel
theorem dX11_flows_55 : decode cX11_flows 55 = .ok (.aload_n 0, 1) := by decide +kernel
theorem dX11_flows_56 : decode cX11_flows 56 = .ok (.getfield 31, 3) := by decide +kernel
theorem dX11_flows_59 : decode cX11_flows 59 = .ok (.iload 6, 2) := by decide +kernel
theorem dX11_flows_61 : decode cX11_flows 61 = .ok (.iload 8, 2) := by decide +kernel
theorem dX11_flows_63 : decode cX11_flows 63 = .ok (.iadd, 1) := by decide +kernel
theorem dX11_flows_64 : decode cX11_flows 64 = .ok (.iconst 1, 1) := by decide +kernel
theorem dX11_flows_65 : decode cX11_flows 65 = .ok (.isub, 1) := by decide +kernel
theorem dX11_flows_66 : decode cX11_flows 66 = .ok (.baload, 1) := by decide +kernel
theorem dX11_flows_67 : decode cX11_flows 67 = .ok (.ifCond .eq 25, 3) := by decide +kernel
theorem dX11_flows_70 : decode cX11_flows 70 = .ok (.iload 9, 2) := by decide +kernel
theorem dX11_flows_72 : decode cX11_flows 72 = .ok (.iload 8, 2) := by decide +kernel
theorem dX11_flows_74 : decode cX11_flows 74 = .ok (.iconst 1, 1) := by decide +kernel
theorem dX11_flows_75 : decode cX11_flows 75 = .ok (.isub, 1) := by decide +kernel
theorem dX11_flows_76 : decode cX11_flows 76 = .ok (.iload 5, 2) := by decide +kernel
theorem dX11_flows_78 : decode cX11_flows 78 = .ok (.bipush 10, 2) := by decide +kernel
theorem dX11_flows_80 : decode cX11_flows 80 = .ok (.if_icmp .lt 7, 3) := by decide +kernel
theorem dX11_flows_83 : decode cX11_flows 83 = .ok (.iconst 1, 1) := by decide +kernel
theorem dX11_flows_84 : decode cX11_flows 84 = .ok (.goto 4, 3) := by decide +kernel
theorem dX11_flows_87 : decode cX11_flows 87 = .ok (.iconst 0, 1) := by decide +kernel
theorem dX11_flows_88 : decode cX11_flows 88 = .ok (.iadd, 1) := by decide +kernel
theorem dX11_flows_89 : decode cX11_flows 89 = .ok (.if_icmp .le 4, 3) := by decide +kernel
theorem dX11_flows_92 : decode cX11_flows 92 = .ok (.return_, 1) := by decide +kernel
theorem dX11_flows_93 : decode cX11_flows 93 = .ok (.aload_n 0, 1) := by decide +kernel
theorem dX11_flows_94 : decode cX11_flows 94 = .ok (.getfield 22, 3) := by decide +kernel
theorem dX11_flows_97 : decode cX11_flows 97 = .ok (.iload 7, 2) := by decide +kernel
theorem dX11_flows_99 : decode cX11_flows 99 = .ok (.iload 9, 2) := by decide +kernel
theorem dX11_flows_101 : decode cX11_flows 101 = .ok (.iadd, 1) := by decide +kernel
theorem dX11_flows_102 : decode cX11_flows 102 = .ok (.aload_n 0, 1) := by decide +kernel
theorem dX11_flows_103 : decode cX11_flows 103 = .ok (.getfield 22, 3) := by decide +kernel
theorem dX11_flows_106 : decode cX11_flows 106 = .ok (.iload 6, 2) := by decide +kernel
theorem dX11_flows_108 : decode cX11_flows 108 = .ok (.iload 8, 2) := by decide +kernel
theorem dX11_flows_110 : decode cX11_flows 110 = .ok (.iadd, 1) := by decide +kernel
theorem dX11_flows_111 : decode cX11_flows 111 = .ok (.iconst 1, 1) := by decide +kernel
theorem dX11_flows_112 : decode cX11_flows 112 = .ok (.isub, 1) := by decide +kernel
theorem dX11_flows_113 : decode cX11_flows 113 = .ok (.iaload, 1) := by decide +kernel
theorem dX11_flows_114 : decode cX11_flows 114 = .ok (.iastore, 1) := by decide +kernel
theorem dX11_flows_115 : decode cX11_flows 115 = .ok (.aload_n 0, 1) := by decide +kernel
theorem dX11_flows_116 : decode cX11_flows 116 = .ok (.getfield 25, 3) := by decide +kernel
theorem dX11_flows_119 : decode cX11_flows 119 = .ok (.iload 7, 2) := by decide +kernel
theorem dX11_flows_121 : decode cX11_flows 121 = .ok (.iload 9, 2) := by decide +kernel
theorem dX11_flows_123 : decode cX11_flows 123 = .ok (.iadd, 1) := by decide +kernel
theorem dX11_flows_124 : decode cX11_flows 124 = .ok (.aload_n 0, 1) := by decide +kernel
theorem dX11_flows_125 : decode cX11_flows 125 = .ok (.getfield 25, 3) := by decide +kernel
theorem dX11_flows_128 : decode cX11_flows 128 = .ok (.iload 6, 2) := by decide +kernel
theorem dX11_flows_130 : decode cX11_flows 130 = .ok (.iload 8, 2) := by decide +kernel
theorem dX11_flows_132 : decode cX11_flows 132 = .ok (.iadd, 1) := by decide +kernel
theorem dX11_flows_133 : decode cX11_flows 133 = .ok (.iconst 1, 1) := by decide +kernel
theorem dX11_flows_134 : decode cX11_flows 134 = .ok (.isub, 1) := by decide +kernel
theorem dX11_flows_135 : decode cX11_flows 135 = .ok (.iaload, 1) := by decide +kernel
theorem dX11_flows_136 : decode cX11_flows 136 = .ok (.iastore, 1) := by decide +kernel
theorem dX11_flows_137 : decode cX11_flows 137 = .ok (.aload_n 0, 1) := by decide +kernel
theorem dX11_flows_138 : decode cX11_flows 138 = .ok (.getfield 28, 3) := by decide +kernel
theorem dX11_flows_141 : decode cX11_flows 141 = .ok (.iload 7, 2) := by decide +kernel
theorem dX11_flows_143 : decode cX11_flows 143 = .ok (.iload 9, 2) := by decide +kernel
theorem dX11_flows_145 : decode cX11_flows 145 = .ok (.iadd, 1) := by decide +kernel
theorem dX11_flows_146 : decode cX11_flows 146 = .ok (.aload_n 0, 1) := by decide +kernel
theorem dX11_flows_147 : decode cX11_flows 147 = .ok (.getfield 28, 3) := by decide +kernel
theorem dX11_flows_150 : decode cX11_flows 150 = .ok (.iload 6, 2) := by decide +kernel
theorem dX11_flows_152 : decode cX11_flows 152 = .ok (.iload 8, 2) := by decide +kernel
theorem dX11_flows_154 : decode cX11_flows 154 = .ok (.iadd, 1) := by decide +kernel
theorem dX11_flows_155 : decode cX11_flows 155 = .ok (.iconst 1, 1) := by decide +kernel
theorem dX11_flows_156 : decode cX11_flows 156 = .ok (.isub, 1) := by decide +kernel
theorem dX11_flows_157 : decode cX11_flows 157 = .ok (.iaload, 1) := by decide +kernel
theorem dX11_flows_158 : decode cX11_flows 158 = .ok (.iastore, 1) := by decide +kernel
theorem dX11_flows_159 : decode cX11_flows 159 = .ok (.aload_n 0, 1) := by decide +kernel
theorem dX11_flows_160 : decode cX11_flows 160 = .ok (.getfield 31, 3) := by decide +kernel
theorem dX11_flows_163 : decode cX11_flows 163 = .ok (.iload 7, 2) := by decide +kernel
theorem dX11_flows_165 : decode cX11_flows 165 = .ok (.iload 9, 2) := by decide +kernel
theorem dX11_flows_167 : decode cX11_flows 167 = .ok (.iadd, 1) := by decide +kernel
theorem dX11_flows_168 : decode cX11_flows 168 = .ok (.iconst 1, 1) := by decide +kernel
theorem dX11_flows_169 : decode cX11_flows 169 = .ok (.bastore, 1) := by decide +kernel
theorem dX11_flows_170 : decode cX11_flows 170 = .ok (.aload_n 0, 1) := by decide +kernel
theorem dX11_flows_171 : decode cX11_flows 171 = .ok (.getfield 22, 3) := by decide +kernel
theorem dX11_flows_174 : decode cX11_flows 174 = .ok (.iload 6, 2) := by decide +kernel
theorem dX11_flows_176 : decode cX11_flows 176 = .ok (.iload 8, 2) := by decide +kernel
theorem dX11_flows_178 : decode cX11_flows 178 = .ok (.iadd, 1) := by decide +kernel
theorem dX11_flows_179 : decode cX11_flows 179 = .ok (.iconst 1, 1) := by decide +kernel
theorem dX11_flows_180 : decode cX11_flows 180 = .ok (.isub, 1) := by decide +kernel
theorem dX11_flows_181 : decode cX11_flows 181 = .ok (.iconst 0, 1) := by decide +kernel
theorem dX11_flows_182 : decode cX11_flows 182 = .ok (.iastore, 1) := by decide +kernel
theorem dX11_flows_183 : decode cX11_flows 183 = .ok (.aload_n 0, 1) := by decide +kernel
theorem dX11_flows_184 : decode cX11_flows 184 = .ok (.getfield 25, 3) := by decide +kernel
theorem dX11_flows_187 : decode cX11_flows 187 = .ok (.iload 6, 2) := by decide +kernel
theorem dX11_flows_189 : decode cX11_flows 189 = .ok (.iload 8, 2) := by decide +kernel
theorem dX11_flows_191 : decode cX11_flows 191 = .ok (.iadd, 1) := by decide +kernel
theorem dX11_flows_192 : decode cX11_flows 192 = .ok (.iconst 1, 1) := by decide +kernel
theorem dX11_flows_193 : decode cX11_flows 193 = .ok (.isub, 1) := by decide +kernel
theorem dX11_flows_194 : decode cX11_flows 194 = .ok (.iconst 0, 1) := by decide +kernel
theorem dX11_flows_195 : decode cX11_flows 195 = .ok (.iastore, 1) := by decide +kernel
theorem dX11_flows_196 : decode cX11_flows 196 = .ok (.aload_n 0, 1) := by decide +kernel
theorem dX11_flows_197 : decode cX11_flows 197 = .ok (.getfield 28, 3) := by decide +kernel
theorem dX11_flows_200 : decode cX11_flows 200 = .ok (.iload 6, 2) := by decide +kernel
theorem dX11_flows_202 : decode cX11_flows 202 = .ok (.iload 8, 2) := by decide +kernel
theorem dX11_flows_204 : decode cX11_flows 204 = .ok (.iadd, 1) := by decide +kernel
theorem dX11_flows_205 : decode cX11_flows 205 = .ok (.iconst 1, 1) := by decide +kernel
theorem dX11_flows_206 : decode cX11_flows 206 = .ok (.isub, 1) := by decide +kernel
theorem dX11_flows_207 : decode cX11_flows 207 = .ok (.iconst 0, 1) := by decide +kernel
theorem dX11_flows_208 : decode cX11_flows 208 = .ok (.iastore, 1) := by decide +kernel
theorem dX11_flows_209 : decode cX11_flows 209 = .ok (.aload_n 0, 1) := by decide +kernel
theorem dX11_flows_210 : decode cX11_flows 210 = .ok (.getfield 31, 3) := by decide +kernel
theorem dX11_flows_213 : decode cX11_flows 213 = .ok (.iload 6, 2) := by decide +kernel
theorem dX11_flows_215 : decode cX11_flows 215 = .ok (.iload 8, 2) := by decide +kernel
theorem dX11_flows_217 : decode cX11_flows 217 = .ok (.iadd, 1) := by decide +kernel
theorem dX11_flows_218 : decode cX11_flows 218 = .ok (.iconst 1, 1) := by decide +kernel
theorem dX11_flows_219 : decode cX11_flows 219 = .ok (.isub, 1) := by decide +kernel
theorem dX11_flows_220 : decode cX11_flows 220 = .ok (.iconst 0, 1) := by decide +kernel
theorem dX11_flows_221 : decode cX11_flows 221 = .ok (.bastore, 1) := by decide +kernel
theorem dX11_flows_222 : decode cX11_flows 222 = .ok (.return_, 1) := by decide +kernel
theorem dX11_shipHour_0 : decode cX11_shipHour 0 = .ok (.aload_n 0, 1) := by decide +kernel
theorem dX11_shipHour_1 : decode cX11_shipHour 1 = .ok (.getfield 44, 3) := by decide +kernel
theorem dX11_shipHour_4 : decode cX11_shipHour 4 = .ok (.iload_n 1, 1) := by decide +kernel
theorem dX11_shipHour_5 : decode cX11_shipHour 5 = .ok (.iaload, 1) := by decide +kernel
theorem dX11_shipHour_6 : decode cX11_shipHour 6 = .ok (.iconst (-1), 1) := by decide +kernel
theorem dX11_shipHour_7 : decode cX11_shipHour 7 = .ok (.if_icmp .eq 4, 3) := by decide +kernel
theorem dX11_shipHour_10 : decode cX11_shipHour 10 = .ok (.return_, 1) := by decide +kernel
theorem dX11_shipHour_11 : decode cX11_shipHour 11 = .ok (.aload_n 0, 1) := by decide +kernel
theorem dX11_shipHour_12 : decode cX11_shipHour 12 = .ok (.iload_n 1, 1) := by decide +kernel
theorem dX11_shipHour_13 : decode cX11_shipHour 13 = .ok (.iload_n 2, 1) := by decide +kernel
theorem dX11_shipHour_14 : decode cX11_shipHour 14 = .ok (.invokevirtual 323, 3) := by decide +kernel
theorem dX11_shipHour_17 : decode cX11_shipHour 17 = .ok (.aload_n 0, 1) := by decide +kernel
theorem dX11_shipHour_18 : decode cX11_shipHour 18 = .ok (.iload_n 1, 1) := by decide +kernel
theorem dX11_shipHour_19 : decode cX11_shipHour 19 = .ok (.iload_n 2, 1) := by decide +kernel
theorem dX11_shipHour_20 : decode cX11_shipHour 20 = .ok (.invokevirtual 326, 3) := by decide +kernel
theorem dX11_shipHour_23 : decode cX11_shipHour 23 = .ok (.aload_n 0, 1) := by decide +kernel
theorem dX11_shipHour_24 : decode cX11_shipHour 24 = .ok (.iload_n 1, 1) := by decide +kernel
theorem dX11_shipHour_25 : decode cX11_shipHour 25 = .ok (.invokevirtual 329, 3) := by decide +kernel
theorem dX11_shipHour_28 : decode cX11_shipHour 28 = .ok (.istore_n 3, 1) := by decide +kernel
theorem dX11_shipHour_29 : decode cX11_shipHour 29 = .ok (.aload_n 0, 1) := by decide +kernel
theorem dX11_shipHour_30 : decode cX11_shipHour 30 = .ok (.iload_n 3, 1) := by decide +kernel
theorem dX11_shipHour_31 : decode cX11_shipHour 31 = .ok (.aload_n 0, 1) := by decide +kernel
theorem dX11_shipHour_32 : decode cX11_shipHour 32 = .ok (.iload_n 1, 1) := by decide +kernel
theorem dX11_shipHour_33 : decode cX11_shipHour 33 = .ok (.invokevirtual 332, 3) := by decide +kernel
theorem dX11_shipHour_36 : decode cX11_shipHour 36 = .ok (.invokevirtual 335, 3) := by decide +kernel
theorem dX11_shipHour_39 : decode cX11_shipHour 39 = .ok (.istore 4, 2) := by decide +kernel
theorem dX11_shipHour_41 : decode cX11_shipHour 41 = .ok (.iload 4, 2) := by decide +kernel
theorem dX11_shipHour_43 : decode cX11_shipHour 43 = .ok (.iconst (-1), 1) := by decide +kernel
theorem dX11_shipHour_44 : decode cX11_shipHour 44 = .ok (.if_icmp .ne 28, 3) := by decide +kernel
theorem dX11_shipHour_47 : decode cX11_shipHour 47 = .ok (.aload_n 0, 1) := by decide +kernel
theorem dX11_shipHour_48 : decode cX11_shipHour 48 = .ok (.getfield 41, 3) := by decide +kernel
theorem dX11_shipHour_51 : decode cX11_shipHour 51 = .ok (.iload_n 1, 1) := by decide +kernel
theorem dX11_shipHour_52 : decode cX11_shipHour 52 = .ok (.iload_n 3, 1) := by decide +kernel
theorem dX11_shipHour_53 : decode cX11_shipHour 53 = .ok (.ifCond .le 8, 3) := by decide +kernel
theorem dX11_shipHour_56 : decode cX11_shipHour 56 = .ok (.bipush 61, 2) := by decide +kernel
theorem dX11_shipHour_58 : decode cX11_shipHour 58 = .ok (.goto 5, 3) := by decide +kernel
theorem dX11_shipHour_61 : decode cX11_shipHour 61 = .ok (.bipush (-61), 2) := by decide +kernel
theorem dX11_shipHour_63 : decode cX11_shipHour 63 = .ok (.iastore, 1) := by decide +kernel
theorem dX11_shipHour_64 : decode cX11_shipHour 64 = .ok (.aload_n 0, 1) := by decide +kernel
theorem dX11_shipHour_65 : decode cX11_shipHour 65 = .ok (.getfield 44, 3) := by decide +kernel
theorem dX11_shipHour_68 : decode cX11_shipHour 68 = .ok (.iload_n 1, 1) := by decide +kernel
theorem dX11_shipHour_69 : decode cX11_shipHour 69 = .ok (.iload_n 2, 1) := by decide +kernel
theorem dX11_shipHour_70 : decode cX11_shipHour 70 = .ok (.iastore, 1) := by decide +kernel
theorem dX11_shipHour_71 : decode cX11_shipHour 71 = .ok (.return_, 1) := by decide +kernel
theorem dX11_shipHour_72 : decode cX11_shipHour 72 = .ok (.aload_n 0, 1) := by decide +kernel
theorem dX11_shipHour_73 : decode cX11_shipHour 73 = .ok (.getfield 38, 3) := by decide +kernel
theorem dX11_shipHour_76 : decode cX11_shipHour 76 = .ok (.iload_n 1, 1) := by decide +kernel
theorem dX11_shipHour_77 : decode cX11_shipHour 77 = .ok (.ldc_w 338, 3) := by decide +kernel
theorem dX11_shipHour_80 : decode cX11_shipHour 80 = .ok (.aload_n 0, 1) := by decide +kernel
theorem dX11_shipHour_81 : decode cX11_shipHour 81 = .ok (.getfield 38, 3) := by decide +kernel
theorem dX11_shipHour_84 : decode cX11_shipHour 84 = .ok (.iload_n 1, 1) := by decide +kernel
theorem dX11_shipHour_85 : decode cX11_shipHour 85 = .ok (.iaload, 1) := by decide +kernel
theorem dX11_shipHour_86 : decode cX11_shipHour 86 = .ok (.imul, 1) := by decide +kernel
theorem dX11_shipHour_87 : decode cX11_shipHour 87 = .ok (.ldc_w 339, 3) := by decide +kernel
theorem dX11_shipHour_90 : decode cX11_shipHour 90 = .ok (.iadd, 1) := by decide +kernel
theorem dX11_shipHour_91 : decode cX11_shipHour 91 = .ok (.iastore, 1) := by decide +kernel
theorem dX11_shipHour_92 : decode cX11_shipHour 92 = .ok (.aload_n 0, 1) := by decide +kernel
theorem dX11_shipHour_93 : decode cX11_shipHour 93 = .ok (.getfield 41, 3) := by decide +kernel
theorem dX11_shipHour_96 : decode cX11_shipHour 96 = .ok (.iload_n 1, 1) := by decide +kernel
theorem dX11_shipHour_97 : decode cX11_shipHour 97 = .ok (.iload_n 3, 1) := by decide +kernel
theorem dX11_shipHour_98 : decode cX11_shipHour 98 = .ok (.ifCond .le 8, 3) := by decide +kernel
theorem dX11_shipHour_101 : decode cX11_shipHour 101 = .ok (.iload 4, 2) := by decide +kernel
theorem dX11_shipHour_103 : decode cX11_shipHour 103 = .ok (.goto 6, 3) := by decide +kernel
theorem dX11_shipHour_106 : decode cX11_shipHour 106 = .ok (.iload 4, 2) := by decide +kernel
theorem dX11_shipHour_108 : decode cX11_shipHour 108 = .ok (.ineg, 1) := by decide +kernel
theorem dX11_shipHour_109 : decode cX11_shipHour 109 = .ok (.iastore, 1) := by decide +kernel
theorem dX11_shipHour_110 : decode cX11_shipHour 110 = .ok (.iload 4, 2) := by decide +kernel
theorem dX11_shipHour_112 : decode cX11_shipHour 112 = .ok (.aload_n 0, 1) := by decide +kernel
theorem dX11_shipHour_113 : decode cX11_shipHour 113 = .ok (.getfield 13, 3) := by decide +kernel
theorem dX11_shipHour_116 : decode cX11_shipHour 116 = .ok (.iload_n 2, 1) := by decide +kernel
theorem dX11_shipHour_117 : decode cX11_shipHour 117 = .ok (.bipush 24, 2) := by decide +kernel
theorem dX11_shipHour_119 : decode cX11_shipHour 119 = .ok (.idiv, 1) := by decide +kernel
theorem dX11_shipHour_120 : decode cX11_shipHour 120 = .ok (.iaload, 1) := by decide +kernel
theorem dX11_shipHour_121 : decode cX11_shipHour 121 = .ok (.aload_n 0, 1) := by decide +kernel
theorem dX11_shipHour_122 : decode cX11_shipHour 122 = .ok (.getfield 38, 3) := by decide +kernel
theorem dX11_shipHour_125 : decode cX11_shipHour 125 = .ok (.iload_n 1, 1) := by decide +kernel
theorem dX11_shipHour_126 : decode cX11_shipHour 126 = .ok (.iaload, 1) := by decide +kernel
theorem dX11_shipHour_127 : decode cX11_shipHour 127 = .ok (.bipush 30, 2) := by decide +kernel
theorem dX11_shipHour_129 : decode cX11_shipHour 129 = .ok (.iushr, 1) := by decide +kernel
theorem dX11_shipHour_130 : decode cX11_shipHour 130 = .ok (.imul, 1) := by decide +kernel
theorem dX11_shipHour_131 : decode cX11_shipHour 131 = .ok (.iadd, 1) := by decide +kernel
theorem dX11_shipHour_132 : decode cX11_shipHour 132 = .ok (.aload_n 0, 1) := by decide +kernel
theorem dX11_shipHour_133 : decode cX11_shipHour 133 = .ok (.getfield 96, 3) := by decide +kernel
theorem dX11_shipHour_136 : decode cX11_shipHour 136 = .ok (.if_icmp .le 11, 3) := by decide +kernel
theorem dX11_shipHour_139 : decode cX11_shipHour 139 = .ok (.aload_n 0, 1) := by decide +kernel
theorem dX11_shipHour_140 : decode cX11_shipHour 140 = .ok (.getfield 44, 3) := by decide +kernel
theorem dX11_shipHour_143 : decode cX11_shipHour 143 = .ok (.iload_n 1, 1) := by decide +kernel
theorem dX11_shipHour_144 : decode cX11_shipHour 144 = .ok (.iload_n 2, 1) := by decide +kernel
theorem dX11_shipHour_145 : decode cX11_shipHour 145 = .ok (.iastore, 1) := by decide +kernel
theorem dX11_shipHour_146 : decode cX11_shipHour 146 = .ok (.return_, 1) := by decide +kernel
theorem dX11_shipHour_147 : decode cX11_shipHour 147 = .ok (.iload 4, 2) := by decide +kernel
theorem dX11_shipHour_149 : decode cX11_shipHour 149 = .ok (.ifCond .ne 7, 3) := by decide +kernel
theorem dX11_shipHour_152 : decode cX11_shipHour 152 = .ok (.iconst 0, 1) := by decide +kernel
theorem dX11_shipHour_153 : decode cX11_shipHour 153 = .ok (.goto 12, 3) := by decide +kernel
theorem dX11_shipHour_156 : decode cX11_shipHour 156 = .ok (.iload_n 3, 1) := by decide +kernel
theorem dX11_shipHour_157 : decode cX11_shipHour 157 = .ok (.ifCond .le 7, 3) := by decide +kernel
theorem dX11_shipHour_160 : decode cX11_shipHour 160 = .ok (.iconst 1, 1) := by decide +kernel
theorem dX11_shipHour_161 : decode cX11_shipHour 161 = .ok (.goto 4, 3) := by decide +kernel
theorem dX11_shipHour_164 : decode cX11_shipHour 164 = .ok (.iconst (-1), 1) := by decide +kernel
theorem dX11_shipHour_165 : decode cX11_shipHour 165 = .ok (.istore 5, 2) := by decide +kernel
theorem dX11_shipHour_167 : decode cX11_shipHour 167 = .ok (.iconst 0, 1) := by decide +kernel
theorem dX11_shipHour_168 : decode cX11_shipHour 168 = .ok (.istore 6, 2) := by decide +kernel
theorem dX11_shipHour_170 : decode cX11_shipHour 170 = .ok (.iload 6, 2) := by decide +kernel
theorem dX11_shipHour_172 : decode cX11_shipHour 172 = .ok (.iconst 4, 1) := by decide +kernel
theorem dX11_shipHour_173 : decode cX11_shipHour 173 = .ok (.if_icmp .ge 55, 3) := by decide +kernel
theorem dX11_shipHour_176 : decode cX11_shipHour 176 = .ok (.iload 5, 2) := by decide +kernel
theorem dX11_shipHour_178 : decode cX11_shipHour 178 = .ok (.ifCond .eq 50, 3) := by decide +kernel
theorem dX11_shipHour_181 : decode cX11_shipHour 181 = .ok (.iconst 1, 1) := by decide +kernel
theorem dX11_shipHour_182 : decode cX11_shipHour 182 = .ok (.istore 7, 2) := by decide +kernel
theorem dX11_shipHour_184 : decode cX11_shipHour 184 = .ok (.iload 7, 2) := by decide +kernel
theorem dX11_shipHour_186 : decode cX11_shipHour 186 = .ok (.bipush 6, 2) := by decide +kernel
theorem dX11_shipHour_188 : decode cX11_shipHour 188 = .ok (.if_icmp .ge 34, 3) := by decide +kernel
theorem dX11_shipHour_191 : decode cX11_shipHour 191 = .ok (.aload_n 0, 1) := by decide +kernel
theorem dX11_shipHour_192 : decode cX11_shipHour 192 = .ok (.iload_n 1, 1) := by decide +kernel
theorem dX11_shipHour_193 : decode cX11_shipHour 193 = .ok (.iload 6, 2) := by decide +kernel
theorem dX11_shipHour_195 : decode cX11_shipHour 195 = .ok (.iload 5, 2) := by decide +kernel
theorem dX11_shipHour_197 : decode cX11_shipHour 197 = .ok (.ifCond .le 10, 3) := by decide +kernel
theorem dX11_shipHour_200 : decode cX11_shipHour 200 = .ok (.iconst 5, 1) := by decide +kernel
theorem dX11_shipHour_201 : decode cX11_shipHour 201 = .ok (.iload 7, 2) := by decide +kernel
theorem dX11_shipHour_203 : decode cX11_shipHour 203 = .ok (.isub, 1) := by decide +kernel
theorem dX11_shipHour_204 : decode cX11_shipHour 204 = .ok (.goto 5, 3) := by decide +kernel
theorem dX11_shipHour_207 : decode cX11_shipHour 207 = .ok (.iload 7, 2) := by decide +kernel
theorem dX11_shipHour_209 : decode cX11_shipHour 209 = .ok (.iload 5, 2) := by decide +kernel
theorem dX11_shipHour_211 : decode cX11_shipHour 211 = .ok (.iload 4, 2) := by decide +kernel
theorem dX11_shipHour_213 : decode cX11_shipHour 213 = .ok (.invokevirtual 340, 3) := by decide +kernel
theorem dX11_shipHour_216 : decode cX11_shipHour 216 = .ok (.iinc 7 1, 3) := by decide +kernel
theorem dX11_shipHour_219 : decode cX11_shipHour 219 = .ok (.goto (-35), 3) := by decide +kernel
theorem dX11_shipHour_222 : decode cX11_shipHour 222 = .ok (.iinc 6 1, 3) := by decide +kernel
theorem dX11_shipHour_225 : decode cX11_shipHour 225 = .ok (.goto (-55), 3) := by decide +kernel
theorem dX11_shipHour_228 : decode cX11_shipHour 228 = .ok (.return_, 1) := by decide +kernel
theorem dX11_hours_0 : decode cX11_hours 0 = .ok (.aload_n 0, 1) := by decide +kernel
theorem dX11_hours_1 : decode cX11_hours 1 = .ok (.iconst 0, 1) := by decide +kernel
theorem dX11_hours_2 : decode cX11_hours 2 = .ok (.putfield 141, 3) := by decide +kernel
theorem dX11_hours_5 : decode cX11_hours 5 = .ok (.aload_n 0, 1) := by decide +kernel
theorem dX11_hours_6 : decode cX11_hours 6 = .ok (.iload_n 1, 1) := by decide +kernel
theorem dX11_hours_7 : decode cX11_hours 7 = .ok (.iconst 1, 1) := by decide +kernel
theorem dX11_hours_8 : decode cX11_hours 8 = .ok (.bipush 48, 2) := by decide +kernel
theorem dX11_hours_10 : decode cX11_hours 10 = .ok (.invokevirtual 144, 3) := by decide +kernel
theorem dX11_hours_13 : decode cX11_hours 13 = .ok (.ifCond .eq 15, 3) := by decide +kernel
theorem dX11_hours_16 : decode cX11_hours 16 = .ok (.aload_n 0, 1) := by decide +kernel
theorem dX11_hours_17 : decode cX11_hours 17 = .ok (.getfield 283, 3) := by decide +kernel
theorem dX11_hours_20 : decode cX11_hours 20 = .ok (.iload_n 1, 1) := by decide +kernel
theorem dX11_hours_21 : decode cX11_hours 21 = .ok (.iadd, 1) := by decide +kernel
theorem dX11_hours_22 : decode cX11_hours 22 = .ok (.sipush 719, 3) := by decide +kernel
theorem dX11_hours_25 : decode cX11_hours 25 = .ok (.if_icmp .le 5, 3) := by decide +kernel
theorem dX11_hours_28 : decode cX11_hours 28 = .ok (.iconst (-1), 1) := by decide +kernel
theorem dX11_hours_29 : decode cX11_hours 29 = .ok (.ireturn, 1) := by decide +kernel
theorem dX11_hours_30 : decode cX11_hours 30 = .ok (.iconst 0, 1) := by decide +kernel
theorem dX11_hours_31 : decode cX11_hours 31 = .ok (.istore_n 2, 1) := by decide +kernel
theorem dX11_hours_32 : decode cX11_hours 32 = .ok (.iload_n 2, 1) := by decide +kernel
theorem dX11_hours_33 : decode cX11_hours 33 = .ok (.iload_n 1, 1) := by decide +kernel
theorem dX11_hours_34 : decode cX11_hours 34 = .ok (.if_icmp .ge 39, 3) := by decide +kernel
theorem dX11_hours_37 : decode cX11_hours 37 = .ok (.aload_n 0, 1) := by decide +kernel
theorem dX11_hours_38 : decode cX11_hours 38 = .ok (.invokevirtual 344, 3) := by decide +kernel
theorem dX11_hours_41 : decode cX11_hours 41 = .ok (.aload_n 0, 1) := by decide +kernel
theorem dX11_hours_42 : decode cX11_hours 42 = .ok (.getfield 347, 3) := by decide +kernel
theorem dX11_hours_45 : decode cX11_hours 45 = .ok (.ifCond .eq 12, 3) := by decide +kernel
theorem dX11_hours_48 : decode cX11_hours 48 = .ok (.aload_n 0, 1) := by decide +kernel
theorem dX11_hours_49 : decode cX11_hours 49 = .ok (.iconst 0, 1) := by decide +kernel
theorem dX11_hours_50 : decode cX11_hours 50 = .ok (.aload_n 0, 1) := by decide +kernel
theorem dX11_hours_51 : decode cX11_hours 51 = .ok (.getfield 283, 3) := by decide +kernel
theorem dX11_hours_54 : decode cX11_hours 54 = .ok (.invokevirtual 350, 3) := by decide +kernel
theorem dX11_hours_57 : decode cX11_hours 57 = .ok (.aload_n 0, 1) := by decide +kernel
theorem dX11_hours_58 : decode cX11_hours 58 = .ok (.aload_n 0, 1) := by decide +kernel
theorem dX11_hours_59 : decode cX11_hours 59 = .ok (.getfield 283, 3) := by decide +kernel
theorem dX11_hours_62 : decode cX11_hours 62 = .ok (.iconst 1, 1) := by decide +kernel
theorem dX11_hours_63 : decode cX11_hours 63 = .ok (.iadd, 1) := by decide +kernel
theorem dX11_hours_64 : decode cX11_hours 64 = .ok (.putfield 283, 3) := by decide +kernel
theorem dX11_hours_67 : decode cX11_hours 67 = .ok (.iinc 2 1, 3) := by decide +kernel
theorem dX11_hours_70 : decode cX11_hours 70 = .ok (.goto (-38), 3) := by decide +kernel
theorem dX11_hours_73 : decode cX11_hours 73 = .ok (.aload_n 0, 1) := by decide +kernel
theorem dX11_hours_74 : decode cX11_hours 74 = .ok (.getfield 283, 3) := by decide +kernel
theorem dX11_hours_77 : decode cX11_hours 77 = .ok (.ireturn, 1) := by decide +kernel
theorem dX11_load_0 : decode cX11_load 0 = .ok (.aload_n 0, 1) := by decide +kernel
theorem dX11_load_1 : decode cX11_load 1 = .ok (.iconst 0, 1) := by decide +kernel
theorem dX11_load_2 : decode cX11_load 2 = .ok (.putfield 141, 3) := by decide +kernel
theorem dX11_load_5 : decode cX11_load 5 = .ok (.aload_n 0, 1) := by decide +kernel
theorem dX11_load_6 : decode cX11_load 6 = .ok (.iload_n 1, 1) := by decide +kernel
theorem dX11_load_7 : decode cX11_load 7 = .ok (.iload_n 2, 1) := by decide +kernel
theorem dX11_load_8 : decode cX11_load 8 = .ok (.iconst 0, 1) := by decide +kernel
theorem dX11_load_9 : decode cX11_load 9 = .ok (.invokevirtual 151, 3) := by decide +kernel
theorem dX11_load_12 : decode cX11_load 12 = .ok (.istore 5, 2) := by decide +kernel
theorem dX11_load_14 : decode cX11_load 14 = .ok (.aload_n 0, 1) := by decide +kernel
theorem dX11_load_15 : decode cX11_load 15 = .ok (.iload_n 3, 1) := by decide +kernel
theorem dX11_load_16 : decode cX11_load 16 = .ok (.iload 4, 2) := by decide +kernel
theorem dX11_load_18 : decode cX11_load 18 = .ok (.iconst 0, 1) := by decide +kernel
theorem dX11_load_19 : decode cX11_load 19 = .ok (.invokevirtual 155, 3) := by decide +kernel
theorem dX11_load_22 : decode cX11_load 22 = .ok (.istore 6, 2) := by decide +kernel
theorem dX11_load_24 : decode cX11_load 24 = .ok (.iload 5, 2) := by decide +kernel
theorem dX11_load_26 : decode cX11_load 26 = .ok (.iconst (-1), 1) := by decide +kernel
theorem dX11_load_27 : decode cX11_load 27 = .ok (.if_icmp .eq 36, 3) := by decide +kernel
theorem dX11_load_30 : decode cX11_load 30 = .ok (.iload 6, 2) := by decide +kernel
theorem dX11_load_32 : decode cX11_load 32 = .ok (.iconst (-1), 1) := by decide +kernel
theorem dX11_load_33 : decode cX11_load 33 = .ok (.if_icmp .eq 30, 3) := by decide +kernel
theorem dX11_load_36 : decode cX11_load 36 = .ok (.aload_n 0, 1) := by decide +kernel
theorem dX11_load_37 : decode cX11_load 37 = .ok (.getfield 347, 3) := by decide +kernel
theorem dX11_load_40 : decode cX11_load 40 = .ok (.ifCond .ne 23, 3) := by decide +kernel
theorem dX11_load_43 : decode cX11_load 43 = .ok (.aload_n 0, 1) := by decide +kernel
theorem dX11_load_44 : decode cX11_load 44 = .ok (.iload 5, 2) := by decide +kernel
theorem dX11_load_46 : decode cX11_load 46 = .ok (.invokevirtual 290, 3) := by decide +kernel
theorem dX11_load_49 : decode cX11_load 49 = .ok (.ifCond .eq 14, 3) := by decide +kernel
theorem dX11_load_52 : decode cX11_load 52 = .ok (.aload_n 0, 1) := by decide +kernel
theorem dX11_load_53 : decode cX11_load 53 = .ok (.iload 6, 2) := by decide +kernel
theorem dX11_load_55 : decode cX11_load 55 = .ok (.invokevirtual 320, 3) := by decide +kernel
theorem dX11_load_58 : decode cX11_load 58 = .ok (.bipush 6, 2) := by decide +kernel
theorem dX11_load_60 : decode cX11_load 60 = .ok (.if_icmp .ne 5, 3) := by decide +kernel
theorem dX11_load_63 : decode cX11_load 63 = .ok (.iconst 0, 1) := by decide +kernel
theorem dX11_load_64 : decode cX11_load 64 = .ok (.ireturn, 1) := by decide +kernel
theorem dX11_load_65 : decode cX11_load 65 = .ok (.iload 5, 2) := by decide +kernel
theorem dX11_load_67 : decode cX11_load 67 = .ok (.bipush 64, 2) := by decide +kernel
theorem dX11_load_69 : decode cX11_load 69 = .ok (.aload_n 0, 1) := by decide +kernel
theorem dX11_load_70 : decode cX11_load 70 = .ok (.iload 5, 2) := by decide +kernel
theorem dX11_load_72 : decode cX11_load 72 = .ok (.invokevirtual 290, 3) := by decide +kernel
theorem dX11_load_75 : decode cX11_load 75 = .ok (.imul, 1) := by decide +kernel
theorem dX11_load_76 : decode cX11_load 76 = .ok (.iadd, 1) := by decide +kernel
theorem dX11_load_77 : decode cX11_load 77 = .ok (.bipush 64, 2) := by decide +kernel
theorem dX11_load_79 : decode cX11_load 79 = .ok (.isub, 1) := by decide +kernel
theorem dX11_load_80 : decode cX11_load 80 = .ok (.istore 7, 2) := by decide +kernel
theorem dX11_load_82 : decode cX11_load 82 = .ok (.iload 6, 2) := by decide +kernel
theorem dX11_load_84 : decode cX11_load 84 = .ok (.aload_n 0, 1) := by decide +kernel
theorem dX11_load_85 : decode cX11_load 85 = .ok (.iload 6, 2) := by decide +kernel
theorem dX11_load_87 : decode cX11_load 87 = .ok (.invokevirtual 320, 3) := by decide +kernel
theorem dX11_load_90 : decode cX11_load 90 = .ok (.iadd, 1) := by decide +kernel
theorem dX11_load_91 : decode cX11_load 91 = .ok (.istore 8, 2) := by decide +kernel
theorem dX11_load_93 : decode cX11_load 93 = .ok (.aload_n 0, 1) := by decide +kernel
theorem dX11_load_94 : decode cX11_load 94 = .ok (.getfield 22, 3) := by decide +kernel
theorem dX11_load_97 : decode cX11_load 97 = .ok (.iload 8, 2) := by decide +kernel
theorem dX11_load_99 : decode cX11_load 99 = .ok (.aload_n 0, 1) := by decide +kernel
theorem dX11_load_100 : decode cX11_load 100 = .ok (.getfield 16, 3) := by decide +kernel
theorem dX11_load_103 : decode cX11_load 103 = .ok (.iload 7, 2) := by decide +kernel
theorem dX11_load_105 : decode cX11_load 105 = .ok (.iaload, 1) := by decide +kernel
theorem dX11_load_106 : decode cX11_load 106 = .ok (.iastore, 1) := by decide +kernel
theorem dX11_load_107 : decode cX11_load 107 = .ok (.aload_n 0, 1) := by decide +kernel
theorem dX11_load_108 : decode cX11_load 108 = .ok (.getfield 25, 3) := by decide +kernel
theorem dX11_load_111 : decode cX11_load 111 = .ok (.iload 8, 2) := by decide +kernel
theorem dX11_load_113 : decode cX11_load 113 = .ok (.aload_n 0, 1) := by decide +kernel
theorem dX11_load_114 : decode cX11_load 114 = .ok (.getfield 19, 3) := by decide +kernel
theorem dX11_load_117 : decode cX11_load 117 = .ok (.iload 7, 2) := by decide +kernel
theorem dX11_load_119 : decode cX11_load 119 = .ok (.iaload, 1) := by decide +kernel
theorem dX11_load_120 : decode cX11_load 120 = .ok (.iastore, 1) := by decide +kernel
theorem dX11_load_121 : decode cX11_load 121 = .ok (.aload_n 0, 1) := by decide +kernel
theorem dX11_load_122 : decode cX11_load 122 = .ok (.getfield 28, 3) := by decide +kernel
theorem dX11_load_125 : decode cX11_load 125 = .ok (.iload 8, 2) := by decide +kernel
theorem dX11_load_127 : decode cX11_load 127 = .ok (.iconst 0, 1) := by decide +kernel
theorem dX11_load_128 : decode cX11_load 128 = .ok (.iastore, 1) := by decide +kernel
theorem dX11_load_129 : decode cX11_load 129 = .ok (.aload_n 0, 1) := by decide +kernel
theorem dX11_load_130 : decode cX11_load 130 = .ok (.getfield 31, 3) := by decide +kernel
theorem dX11_load_133 : decode cX11_load 133 = .ok (.iload 8, 2) := by decide +kernel
theorem dX11_load_135 : decode cX11_load 135 = .ok (.iconst 0, 1) := by decide +kernel
theorem dX11_load_136 : decode cX11_load 136 = .ok (.bastore, 1) := by decide +kernel
theorem dX11_load_137 : decode cX11_load 137 = .ok (.aload_n 0, 1) := by decide +kernel
theorem dX11_load_138 : decode cX11_load 138 = .ok (.getfield 16, 3) := by decide +kernel
theorem dX11_load_141 : decode cX11_load 141 = .ok (.iload 7, 2) := by decide +kernel
theorem dX11_load_143 : decode cX11_load 143 = .ok (.iconst 0, 1) := by decide +kernel
theorem dX11_load_144 : decode cX11_load 144 = .ok (.iastore, 1) := by decide +kernel
theorem dX11_load_145 : decode cX11_load 145 = .ok (.aload_n 0, 1) := by decide +kernel
theorem dX11_load_146 : decode cX11_load 146 = .ok (.getfield 19, 3) := by decide +kernel
theorem dX11_load_149 : decode cX11_load 149 = .ok (.iload 7, 2) := by decide +kernel
theorem dX11_load_151 : decode cX11_load 151 = .ok (.iconst 0, 1) := by decide +kernel
theorem dX11_load_152 : decode cX11_load 152 = .ok (.iastore, 1) := by decide +kernel
theorem dX11_load_153 : decode cX11_load 153 = .ok (.iconst 1, 1) := by decide +kernel
theorem dX11_load_154 : decode cX11_load 154 = .ok (.ireturn, 1) := by decide +kernel
theorem dX11_arm_0 : decode cX11_arm 0 = .ok (.aload_n 0, 1) := by decide +kernel
theorem dX11_arm_1 : decode cX11_arm 1 = .ok (.iconst 0, 1) := by decide +kernel
theorem dX11_arm_2 : decode cX11_arm 2 = .ok (.putfield 141, 3) := by decide +kernel
theorem dX11_arm_5 : decode cX11_arm 5 = .ok (.aload_n 0, 1) := by decide +kernel
theorem dX11_arm_6 : decode cX11_arm 6 = .ok (.iload_n 1, 1) := by decide +kernel
theorem dX11_arm_7 : decode cX11_arm 7 = .ok (.iconst 0, 1) := by decide +kernel
theorem dX11_arm_8 : decode cX11_arm 8 = .ok (.bipush 7, 2) := by decide +kernel
theorem dX11_arm_10 : decode cX11_arm 10 = .ok (.invokevirtual 144, 3) := by decide +kernel
theorem dX11_arm_13 : decode cX11_arm 13 = .ok (.ifCond .eq 25, 3) := by decide +kernel
theorem dX11_arm_16 : decode cX11_arm 16 = .ok (.aload_n 0, 1) := by decide +kernel
theorem dX11_arm_17 : decode cX11_arm 17 = .ok (.iload_n 2, 1) := by decide +kernel
theorem dX11_arm_18 : decode cX11_arm 18 = .ok (.iconst 0, 1) := by decide +kernel
theorem dX11_arm_19 : decode cX11_arm 19 = .ok (.iload_n 1, 1) := by decide +kernel
theorem dX11_arm_20 : decode cX11_arm 20 = .ok (.bipush 7, 2) := by decide +kernel
theorem dX11_arm_22 : decode cX11_arm 22 = .ok (.if_icmp .ne 8, 3) := by decide +kernel
theorem dX11_arm_25 : decode cX11_arm 25 = .ok (.bipush 90, 2) := by decide +kernel
theorem dX11_arm_27 : decode cX11_arm 27 = .ok (.goto 5, 3) := by decide +kernel
theorem dX11_arm_30 : decode cX11_arm 30 = .ok (.bipush 99, 2) := by decide +kernel
theorem dX11_arm_32 : decode cX11_arm 32 = .ok (.invokevirtual 144, 3) := by decide +kernel
theorem dX11_arm_35 : decode cX11_arm 35 = .ok (.ifCond .ne 5, 3) := by decide +kernel
theorem dX11_arm_38 : decode cX11_arm 38 = .ok (.iconst 0, 1) := by decide +kernel
theorem dX11_arm_39 : decode cX11_arm 39 = .ok (.ireturn, 1) := by decide +kernel
theorem dX11_arm_40 : decode cX11_arm 40 = .ok (.iload_n 1, 1) := by decide +kernel
theorem dX11_arm_41 : decode cX11_arm 41 = .ok (.bipush 7, 2) := by decide +kernel
theorem dX11_arm_43 : decode cX11_arm 43 = .ok (.if_icmp .ne 11, 3) := by decide +kernel
theorem dX11_arm_46 : decode cX11_arm 46 = .ok (.aload_n 0, 1) := by decide +kernel
theorem dX11_arm_47 : decode cX11_arm 47 = .ok (.iload_n 2, 1) := by decide +kernel
theorem dX11_arm_48 : decode cX11_arm 48 = .ok (.putfield 96, 3) := by decide +kernel
theorem dX11_arm_51 : decode cX11_arm 51 = .ok (.goto 10, 3) := by decide +kernel
theorem dX11_arm_54 : decode cX11_arm 54 = .ok (.aload_n 0, 1) := by decide +kernel
theorem dX11_arm_55 : decode cX11_arm 55 = .ok (.getfield 93, 3) := by decide +kernel
theorem dX11_arm_58 : decode cX11_arm 58 = .ok (.iload_n 1, 1) := by decide +kernel
theorem dX11_arm_59 : decode cX11_arm 59 = .ok (.iload_n 2, 1) := by decide +kernel
theorem dX11_arm_60 : decode cX11_arm 60 = .ok (.iastore, 1) := by decide +kernel
theorem dX11_arm_61 : decode cX11_arm 61 = .ok (.iconst 1, 1) := by decide +kernel
theorem dX11_arm_62 : decode cX11_arm 62 = .ok (.ireturn, 1) := by decide +kernel
theorem dX11_sail_0 : decode cX11_sail 0 = .ok (.aload_n 0, 1) := by decide +kernel
theorem dX11_sail_1 : decode cX11_sail 1 = .ok (.iconst 0, 1) := by decide +kernel
theorem dX11_sail_2 : decode cX11_sail 2 = .ok (.putfield 141, 3) := by decide +kernel
theorem dX11_sail_5 : decode cX11_sail 5 = .ok (.aload_n 0, 1) := by decide +kernel
theorem dX11_sail_6 : decode cX11_sail 6 = .ok (.getfield 347, 3) := by decide +kernel
theorem dX11_sail_9 : decode cX11_sail 9 = .ok (.ifCond .eq 5, 3) := by decide +kernel
theorem dX11_sail_12 : decode cX11_sail 12 = .ok (.iconst 0, 1) := by decide +kernel
theorem dX11_sail_13 : decode cX11_sail 13 = .ok (.ireturn, 1) := by decide +kernel
theorem dX11_sail_14 : decode cX11_sail 14 = .ok (.aload_n 0, 1) := by decide +kernel
theorem dX11_sail_15 : decode cX11_sail 15 = .ok (.iconst 1, 1) := by decide +kernel
theorem dX11_sail_16 : decode cX11_sail 16 = .ok (.putfield 347, 3) := by decide +kernel
theorem dX11_sail_19 : decode cX11_sail 19 = .ok (.aload_n 0, 1) := by decide +kernel
theorem dX11_sail_20 : decode cX11_sail 20 = .ok (.getfield 38, 3) := by decide +kernel
theorem dX11_sail_23 : decode cX11_sail 23 = .ok (.iconst 0, 1) := by decide +kernel
theorem dX11_sail_24 : decode cX11_sail 24 = .ok (.iload_n 1, 1) := by decide +kernel
theorem dX11_sail_25 : decode cX11_sail 25 = .ok (.iastore, 1) := by decide +kernel
theorem dX11_sail_26 : decode cX11_sail 26 = .ok (.iconst 1, 1) := by decide +kernel
theorem dX11_sail_27 : decode cX11_sail 27 = .ok (.ireturn, 1) := by decide +kernel
theorem dX11_loaded_0 : decode cX11_loaded 0 = .ok (.iconst 0, 1) := by decide +kernel
theorem dX11_loaded_1 : decode cX11_loaded 1 = .ok (.istore_n 1, 1) := by decide +kernel
theorem dX11_loaded_2 : decode cX11_loaded 2 = .ok (.iconst 0, 1) := by decide +kernel
theorem dX11_loaded_3 : decode cX11_loaded 3 = .ok (.istore_n 2, 1) := by decide +kernel
theorem dX11_loaded_4 : decode cX11_loaded 4 = .ok (.iload_n 2, 1) := by decide +kernel
theorem dX11_loaded_5 : decode cX11_loaded 5 = .ok (.sipush 144, 3) := by decide +kernel
theorem dX11_loaded_8 : decode cX11_loaded 8 = .ok (.if_icmp .ge 22, 3) := by decide +kernel
theorem dX11_loaded_11 : decode cX11_loaded 11 = .ok (.aload_n 0, 1) := by decide +kernel
theorem dX11_loaded_12 : decode cX11_loaded 12 = .ok (.getfield 22, 3) := by decide +kernel
theorem dX11_loaded_15 : decode cX11_loaded 15 = .ok (.iload_n 2, 1) := by decide +kernel
theorem dX11_loaded_16 : decode cX11_loaded 16 = .ok (.iaload, 1) := by decide +kernel
theorem dX11_loaded_17 : decode cX11_loaded 17 = .ok (.ifCond .le 7, 3) := by decide +kernel
theorem dX11_loaded_20 : decode cX11_loaded 20 = .ok (.iload_n 1, 1) := by decide +kernel
theorem dX11_loaded_21 : decode cX11_loaded 21 = .ok (.iconst 1, 1) := by decide +kernel
theorem dX11_loaded_22 : decode cX11_loaded 22 = .ok (.iadd, 1) := by decide +kernel
theorem dX11_loaded_23 : decode cX11_loaded 23 = .ok (.istore_n 1, 1) := by decide +kernel
theorem dX11_loaded_24 : decode cX11_loaded 24 = .ok (.iinc 2 1, 3) := by decide +kernel
theorem dX11_loaded_27 : decode cX11_loaded 27 = .ok (.goto (-23), 3) := by decide +kernel
theorem dX11_loaded_30 : decode cX11_loaded 30 = .ok (.iload_n 1, 1) := by decide +kernel
theorem dX11_loaded_31 : decode cX11_loaded 31 = .ok (.ireturn, 1) := by decide +kernel
theorem dX11_ship_0 : decode cX11_ship 0 = .ok (.aload_n 0, 1) := by decide +kernel
theorem dX11_ship_1 : decode cX11_ship 1 = .ok (.iconst 0, 1) := by decide +kernel
theorem dX11_ship_2 : decode cX11_ship 2 = .ok (.putfield 141, 3) := by decide +kernel
theorem dX11_ship_5 : decode cX11_ship 5 = .ok (.iload_n 1, 1) := by decide +kernel
theorem dX11_ship_6 : decode cX11_ship 6 = .ok (.ifCond .ne 8, 3) := by decide +kernel
theorem dX11_ship_9 : decode cX11_ship 9 = .ok (.aload_n 0, 1) := by decide +kernel
theorem dX11_ship_10 : decode cX11_ship 10 = .ok (.getfield 283, 3) := by decide +kernel
theorem dX11_ship_13 : decode cX11_ship 13 = .ok (.ireturn, 1) := by decide +kernel
theorem dX11_ship_14 : decode cX11_ship 14 = .ok (.iload_n 1, 1) := by decide +kernel
theorem dX11_ship_15 : decode cX11_ship 15 = .ok (.iconst 1, 1) := by decide +kernel
theorem dX11_ship_16 : decode cX11_ship 16 = .ok (.if_icmp .ne 16, 3) := by decide +kernel
theorem dX11_ship_19 : decode cX11_ship 19 = .ok (.aload_n 0, 1) := by decide +kernel
theorem dX11_ship_20 : decode cX11_ship 20 = .ok (.getfield 347, 3) := by decide +kernel
theorem dX11_ship_23 : decode cX11_ship 23 = .ok (.ifCond .eq 7, 3) := by decide +kernel
theorem dX11_ship_26 : decode cX11_ship 26 = .ok (.iconst 1, 1) := by decide +kernel
theorem dX11_ship_27 : decode cX11_ship 27 = .ok (.goto 4, 3) := by decide +kernel
theorem dX11_ship_30 : decode cX11_ship 30 = .ok (.iconst 0, 1) := by decide +kernel
theorem dX11_ship_31 : decode cX11_ship 31 = .ok (.ireturn, 1) := by decide +kernel
theorem dX11_ship_32 : decode cX11_ship 32 = .ok (.iload_n 1, 1) := by decide +kernel
theorem dX11_ship_33 : decode cX11_ship 33 = .ok (.iconst 2, 1) := by decide +kernel
theorem dX11_ship_34 : decode cX11_ship 34 = .ok (.if_icmp .ne 9, 3) := by decide +kernel
theorem dX11_ship_37 : decode cX11_ship 37 = .ok (.aload_n 0, 1) := by decide +kernel
theorem dX11_ship_38 : decode cX11_ship 38 = .ok (.iconst 0, 1) := by decide +kernel
theorem dX11_ship_39 : decode cX11_ship 39 = .ok (.invokevirtual 329, 3) := by decide +kernel
theorem dX11_ship_42 : decode cX11_ship 42 = .ok (.ireturn, 1) := by decide +kernel
theorem dX11_ship_43 : decode cX11_ship 43 = .ok (.iload_n 1, 1) := by decide +kernel
theorem dX11_ship_44 : decode cX11_ship 44 = .ok (.iconst 3, 1) := by decide +kernel
theorem dX11_ship_45 : decode cX11_ship 45 = .ok (.if_icmp .ne 9, 3) := by decide +kernel
theorem dX11_ship_48 : decode cX11_ship 48 = .ok (.aload_n 0, 1) := by decide +kernel
theorem dX11_ship_49 : decode cX11_ship 49 = .ok (.iconst 0, 1) := by decide +kernel
theorem dX11_ship_50 : decode cX11_ship 50 = .ok (.invokevirtual 332, 3) := by decide +kernel
theorem dX11_ship_53 : decode cX11_ship 53 = .ok (.ireturn, 1) := by decide +kernel
theorem dX11_ship_54 : decode cX11_ship 54 = .ok (.iload_n 1, 1) := by decide +kernel
theorem dX11_ship_55 : decode cX11_ship 55 = .ok (.iconst 4, 1) := by decide +kernel
theorem dX11_ship_56 : decode cX11_ship 56 = .ok (.if_icmp .ne 10, 3) := by decide +kernel
theorem dX11_ship_59 : decode cX11_ship 59 = .ok (.aload_n 0, 1) := by decide +kernel
theorem dX11_ship_60 : decode cX11_ship 60 = .ok (.getfield 41, 3) := by decide +kernel
theorem dX11_ship_63 : decode cX11_ship 63 = .ok (.iconst 0, 1) := by decide +kernel
theorem dX11_ship_64 : decode cX11_ship 64 = .ok (.iaload, 1) := by decide +kernel
theorem dX11_ship_65 : decode cX11_ship 65 = .ok (.ireturn, 1) := by decide +kernel
theorem dX11_ship_66 : decode cX11_ship 66 = .ok (.iload_n 1, 1) := by decide +kernel
theorem dX11_ship_67 : decode cX11_ship 67 = .ok (.iconst 5, 1) := by decide +kernel
theorem dX11_ship_68 : decode cX11_ship 68 = .ok (.if_icmp .ne 10, 3) := by decide +kernel
theorem dX11_ship_71 : decode cX11_ship 71 = .ok (.aload_n 0, 1) := by decide +kernel
theorem dX11_ship_72 : decode cX11_ship 72 = .ok (.getfield 44, 3) := by decide +kernel
theorem dX11_ship_75 : decode cX11_ship 75 = .ok (.iconst 0, 1) := by decide +kernel
theorem dX11_ship_76 : decode cX11_ship 76 = .ok (.iaload, 1) := by decide +kernel
theorem dX11_ship_77 : decode cX11_ship 77 = .ok (.ireturn, 1) := by decide +kernel
theorem dX11_ship_78 : decode cX11_ship 78 = .ok (.iload_n 1, 1) := by decide +kernel
theorem dX11_ship_79 : decode cX11_ship 79 = .ok (.bipush 6, 2) := by decide +kernel
theorem dX11_ship_81 : decode cX11_ship 81 = .ok (.if_icmp .ne 10, 3) := by decide +kernel
theorem dX11_ship_84 : decode cX11_ship 84 = .ok (.aload_n 0, 1) := by decide +kernel
theorem dX11_ship_85 : decode cX11_ship 85 = .ok (.getfield 35, 3) := by decide +kernel
theorem dX11_ship_88 : decode cX11_ship 88 = .ok (.iconst 0, 1) := by decide +kernel
theorem dX11_ship_89 : decode cX11_ship 89 = .ok (.iaload, 1) := by decide +kernel
theorem dX11_ship_90 : decode cX11_ship 90 = .ok (.ireturn, 1) := by decide +kernel
theorem dX11_ship_91 : decode cX11_ship 91 = .ok (.iload_n 1, 1) := by decide +kernel
theorem dX11_ship_92 : decode cX11_ship 92 = .ok (.bipush 7, 2) := by decide +kernel
theorem dX11_ship_94 : decode cX11_ship 94 = .ok (.if_icmp .ne 8, 3) := by decide +kernel
theorem dX11_ship_97 : decode cX11_ship 97 = .ok (.aload_n 0, 1) := by decide +kernel
theorem dX11_ship_98 : decode cX11_ship 98 = .ok (.getfield 306, 3) := by decide +kernel
theorem dX11_ship_101 : decode cX11_ship 101 = .ok (.ireturn, 1) := by decide +kernel
theorem dX11_ship_102 : decode cX11_ship 102 = .ok (.iload_n 1, 1) := by decide +kernel
theorem dX11_ship_103 : decode cX11_ship 103 = .ok (.bipush 8, 2) := by decide +kernel
theorem dX11_ship_105 : decode cX11_ship 105 = .ok (.if_icmp .ne 8, 3) := by decide +kernel
theorem dX11_ship_108 : decode cX11_ship 108 = .ok (.aload_n 0, 1) := by decide +kernel
theorem dX11_ship_109 : decode cX11_ship 109 = .ok (.invokevirtual 353, 3) := by decide +kernel
theorem dX11_ship_112 : decode cX11_ship 112 = .ok (.ireturn, 1) := by decide +kernel
theorem dX11_ship_113 : decode cX11_ship 113 = .ok (.iload_n 1, 1) := by decide +kernel
theorem dX11_ship_114 : decode cX11_ship 114 = .ok (.bipush 10, 2) := by decide +kernel
theorem dX11_ship_116 : decode cX11_ship 116 = .ok (.if_icmp .ne 8, 3) := by decide +kernel
theorem dX11_ship_119 : decode cX11_ship 119 = .ok (.aload_n 0, 1) := by decide +kernel
theorem dX11_ship_120 : decode cX11_ship 120 = .ok (.getfield 148, 3) := by decide +kernel
theorem dX11_ship_123 : decode cX11_ship 123 = .ok (.ireturn, 1) := by decide +kernel
theorem dX11_ship_124 : decode cX11_ship 124 = .ok (.iload_n 1, 1) := by decide +kernel
theorem dX11_ship_125 : decode cX11_ship 125 = .ok (.bipush 9, 2) := by decide +kernel
theorem dX11_ship_127 : decode cX11_ship 127 = .ok (.if_icmp .eq 7, 3) := by decide +kernel
theorem dX11_ship_130 : decode cX11_ship 130 = .ok (.ldc_w 293, 3) := by decide +kernel
theorem dX11_ship_133 : decode cX11_ship 133 = .ok (.ireturn, 1) := by decide +kernel
theorem dX11_ship_134 : decode cX11_ship 134 = .ok (.iconst 0, 1) := by decide +kernel
theorem dX11_ship_135 : decode cX11_ship 135 = .ok (.istore_n 2, 1) := by decide +kernel
theorem dX11_ship_136 : decode cX11_ship 136 = .ok (.iconst 0, 1) := by decide +kernel
theorem dX11_ship_137 : decode cX11_ship 137 = .ok (.istore_n 3, 1) := by decide +kernel
theorem dX11_ship_138 : decode cX11_ship 138 = .ok (.iload_n 3, 1) := by decide +kernel
theorem dX11_ship_139 : decode cX11_ship 139 = .ok (.sipush 144, 3) := by decide +kernel
theorem dX11_ship_142 : decode cX11_ship 142 = .ok (.if_icmp .ge 22, 3) := by decide +kernel
theorem dX11_ship_145 : decode cX11_ship 145 = .ok (.aload_n 0, 1) := by decide +kernel
theorem dX11_ship_146 : decode cX11_ship 146 = .ok (.getfield 31, 3) := by decide +kernel
theorem dX11_ship_149 : decode cX11_ship 149 = .ok (.iload_n 3, 1) := by decide +kernel
theorem dX11_ship_150 : decode cX11_ship 150 = .ok (.baload, 1) := by decide +kernel
theorem dX11_ship_151 : decode cX11_ship 151 = .ok (.ifCond .eq 7, 3) := by decide +kernel
theorem dX11_ship_154 : decode cX11_ship 154 = .ok (.iload_n 2, 1) := by decide +kernel
theorem dX11_ship_155 : decode cX11_ship 155 = .ok (.iconst 1, 1) := by decide +kernel
theorem dX11_ship_156 : decode cX11_ship 156 = .ok (.iadd, 1) := by decide +kernel
theorem dX11_ship_157 : decode cX11_ship 157 = .ok (.istore_n 2, 1) := by decide +kernel
theorem dX11_ship_158 : decode cX11_ship 158 = .ok (.iinc 3 1, 3) := by decide +kernel
theorem dX11_ship_161 : decode cX11_ship 161 = .ok (.goto (-23), 3) := by decide +kernel
theorem dX11_ship_164 : decode cX11_ship 164 = .ok (.iload_n 2, 1) := by decide +kernel
theorem dX11_ship_165 : decode cX11_ship 165 = .ok (.ireturn, 1) := by decide +kernel
theorem dX11_arms_0 : decode cX11_arms 0 = .ok (.aload_n 0, 1) := by decide +kernel
theorem dX11_arms_1 : decode cX11_arms 1 = .ok (.iconst 0, 1) := by decide +kernel
theorem dX11_arms_2 : decode cX11_arms 2 = .ok (.putfield 141, 3) := by decide +kernel
theorem dX11_arms_5 : decode cX11_arms 5 = .ok (.aload_n 0, 1) := by decide +kernel
theorem dX11_arms_6 : decode cX11_arms 6 = .ok (.iload_n 1, 1) := by decide +kernel
theorem dX11_arms_7 : decode cX11_arms 7 = .ok (.iconst 0, 1) := by decide +kernel
theorem dX11_arms_8 : decode cX11_arms 8 = .ok (.bipush 60, 2) := by decide +kernel
theorem dX11_arms_10 : decode cX11_arms 10 = .ok (.invokevirtual 144, 3) := by decide +kernel
theorem dX11_arms_13 : decode cX11_arms 13 = .ok (.ifCond .eq 11, 3) := by decide +kernel
theorem dX11_arms_16 : decode cX11_arms 16 = .ok (.aload_n 0, 1) := by decide +kernel
theorem dX11_arms_17 : decode cX11_arms 17 = .ok (.iload_n 1, 1) := by decide +kernel
theorem dX11_arms_18 : decode cX11_arms 18 = .ok (.invokevirtual 317, 3) := by decide +kernel
theorem dX11_arms_21 : decode cX11_arms 21 = .ok (.goto 4, 3) := by decide +kernel
theorem dX11_arms_24 : decode cX11_arms 24 = .ok (.iconst (-1), 1) := by decide +kernel
theorem dX11_arms_25 : decode cX11_arms 25 = .ok (.ireturn, 1) := by decide +kernel
theorem dX11_worstOf_0 : decode cX11_worstOf 0 = .ok (.iconst 0, 1) := by decide +kernel
theorem dX11_worstOf_1 : decode cX11_worstOf 1 = .ok (.istore_n 2, 1) := by decide +kernel
theorem dX11_worstOf_2 : decode cX11_worstOf 2 = .ok (.iconst 0, 1) := by decide +kernel
theorem dX11_worstOf_3 : decode cX11_worstOf 3 = .ok (.istore_n 3, 1) := by decide +kernel
theorem dX11_worstOf_4 : decode cX11_worstOf 4 = .ok (.iload_n 3, 1) := by decide +kernel
theorem dX11_worstOf_5 : decode cX11_worstOf 5 = .ok (.iload_n 1, 1) := by decide +kernel
theorem dX11_worstOf_6 : decode cX11_worstOf 6 = .ok (.if_icmp .ge 20, 3) := by decide +kernel
theorem dX11_worstOf_9 : decode cX11_worstOf 9 = .ok (.iload_n 2, 1) := by decide +kernel
theorem dX11_worstOf_10 : decode cX11_worstOf 10 = .ok (.iconst 5, 1) := by decide +kernel
theorem dX11_worstOf_11 : decode cX11_worstOf 11 = .ok (.iadd, 1) := by decide +kernel
theorem dX11_worstOf_12 : decode cX11_worstOf 12 = .ok (.iconst 2, 1) := by decide +kernel
theorem dX11_worstOf_13 : decode cX11_worstOf 13 = .ok (.iload_n 3, 1) := by decide +kernel
theorem dX11_worstOf_14 : decode cX11_worstOf 14 = .ok (.bipush 6, 2) := by decide +kernel
theorem dX11_worstOf_16 : decode cX11_worstOf 16 = .ok (.idiv, 1) := by decide +kernel
theorem dX11_worstOf_17 : decode cX11_worstOf 17 = .ok (.imul, 1) := by decide +kernel
theorem dX11_worstOf_18 : decode cX11_worstOf 18 = .ok (.isub, 1) := by decide +kernel
theorem dX11_worstOf_19 : decode cX11_worstOf 19 = .ok (.istore_n 2, 1) := by decide +kernel
theorem dX11_worstOf_20 : decode cX11_worstOf 20 = .ok (.iinc 3 1, 3) := by decide +kernel
theorem dX11_worstOf_23 : decode cX11_worstOf 23 = .ok (.goto (-19), 3) := by decide +kernel
theorem dX11_worstOf_26 : decode cX11_worstOf 26 = .ok (.iload_n 2, 1) := by decide +kernel
theorem dX11_worstOf_27 : decode cX11_worstOf 27 = .ok (.ireturn, 1) := by decide +kernel
theorem dX11_split_0 : decode cX11_split 0 = .ok (.aload_n 0, 1) := by decide +kernel
theorem dX11_split_1 : decode cX11_split 1 = .ok (.iconst 0, 1) := by decide +kernel
theorem dX11_split_2 : decode cX11_split 2 = .ok (.putfield 141, 3) := by decide +kernel
theorem dX11_split_5 : decode cX11_split 5 = .ok (.aload_n 0, 1) := by decide +kernel
theorem dX11_split_6 : decode cX11_split 6 = .ok (.iload_n 1, 1) := by decide +kernel
theorem dX11_split_7 : decode cX11_split 7 = .ok (.iconst 0, 1) := by decide +kernel
theorem dX11_split_8 : decode cX11_split 8 = .ok (.sipush 144, 3) := by decide +kernel
theorem dX11_split_11 : decode cX11_split 11 = .ok (.invokevirtual 144, 3) := by decide +kernel
theorem dX11_split_14 : decode cX11_split 14 = .ok (.ifCond .eq 13, 3) := by decide +kernel
theorem dX11_split_17 : decode cX11_split 17 = .ok (.aload_n 0, 1) := by decide +kernel
theorem dX11_split_18 : decode cX11_split 18 = .ok (.iload_n 2, 1) := by decide +kernel
theorem dX11_split_19 : decode cX11_split 19 = .ok (.iconst 0, 1) := by decide +kernel
theorem dX11_split_20 : decode cX11_split 20 = .ok (.iconst 4, 1) := by decide +kernel
theorem dX11_split_21 : decode cX11_split 21 = .ok (.invokevirtual 144, 3) := by decide +kernel
theorem dX11_split_24 : decode cX11_split 24 = .ok (.ifCond .ne 5, 3) := by decide +kernel
theorem dX11_split_27 : decode cX11_split 27 = .ok (.iconst (-1), 1) := by decide +kernel
theorem dX11_split_28 : decode cX11_split 28 = .ok (.ireturn, 1) := by decide +kernel
theorem dX11_split_29 : decode cX11_split 29 = .ok (.iconst (-1), 1) := by decide +kernel
theorem dX11_split_30 : decode cX11_split 30 = .ok (.istore_n 3, 1) := by decide +kernel
theorem dX11_split_31 : decode cX11_split 31 = .ok (.iconst 0, 1) := by decide +kernel
theorem dX11_split_32 : decode cX11_split 32 = .ok (.istore 4, 2) := by decide +kernel
theorem dX11_split_34 : decode cX11_split 34 = .ok (.iconst 0, 1) := by decide +kernel
theorem dX11_split_35 : decode cX11_split 35 = .ok (.istore 5, 2) := by decide +kernel
theorem dX11_split_37 : decode cX11_split 37 = .ok (.iload 5, 2) := by decide +kernel
theorem dX11_split_39 : decode cX11_split 39 = .ok (.bipush 36, 2) := by decide +kernel
theorem dX11_split_41 : decode cX11_split 41 = .ok (.if_icmp .gt 149, 3) := by decide +kernel
theorem dX11_split_44 : decode cX11_split 44 = .ok (.iconst 0, 1) := by decide +kernel
theorem dX11_split_45 : decode cX11_split 45 = .ok (.istore 6, 2) := by decide +kernel
theorem dX11_split_47 : decode cX11_split 47 = .ok (.iload 6, 2) := by decide +kernel
theorem dX11_split_49 : decode cX11_split 49 = .ok (.bipush 36, 2) := by decide +kernel
theorem dX11_split_51 : decode cX11_split 51 = .ok (.if_icmp .gt 133, 3) := by decide +kernel
theorem dX11_split_54 : decode cX11_split 54 = .ok (.iconst 0, 1) := by decide +kernel
theorem dX11_split_55 : decode cX11_split 55 = .ok (.istore 7, 2) := by decide +kernel
theorem dX11_split_57 : decode cX11_split 57 = .ok (.iload 7, 2) := by decide +kernel
theorem dX11_split_59 : decode cX11_split 59 = .ok (.bipush 36, 2) := by decide +kernel
theorem dX11_split_61 : decode cX11_split 61 = .ok (.if_icmp .gt 117, 3) := by decide +kernel
theorem dX11_split_64 : decode cX11_split 64 = .ok (.iload_n 1, 1) := by decide +kernel
theorem dX11_split_65 : decode cX11_split 65 = .ok (.iload 5, 2) := by decide +kernel
theorem dX11_split_67 : decode cX11_split 67 = .ok (.isub, 1) := by decide +kernel
theorem dX11_split_68 : decode cX11_split 68 = .ok (.iload 6, 2) := by decide +kernel
theorem dX11_split_70 : decode cX11_split 70 = .ok (.isub, 1) := by decide +kernel
theorem dX11_split_71 : decode cX11_split 71 = .ok (.iload 7, 2) := by decide +kernel
theorem dX11_split_73 : decode cX11_split 73 = .ok (.isub, 1) := by decide +kernel
theorem dX11_split_74 : decode cX11_split 74 = .ok (.istore 8, 2) := by decide +kernel
theorem dX11_split_76 : decode cX11_split 76 = .ok (.aload_n 0, 1) := by decide +kernel
theorem dX11_split_77 : decode cX11_split 77 = .ok (.iload 8, 2) := by decide +kernel
theorem dX11_split_79 : decode cX11_split 79 = .ok (.iconst 0, 1) := by decide +kernel
theorem dX11_split_80 : decode cX11_split 80 = .ok (.bipush 36, 2) := by decide +kernel
theorem dX11_split_82 : decode cX11_split 82 = .ok (.invokevirtual 144, 3) := by decide +kernel
theorem dX11_split_85 : decode cX11_split 85 = .ok (.ifCond .ne 6, 3) := by decide +kernel
theorem dX11_split_88 : decode cX11_split 88 = .ok (.goto 84, 3) := by decide +kernel
theorem dX11_split_91 : decode cX11_split 91 = .ok (.aload_n 0, 1) := by decide +kernel
theorem dX11_split_92 : decode cX11_split 92 = .ok (.iload 5, 2) := by decide +kernel
theorem dX11_split_94 : decode cX11_split 94 = .ok (.invokevirtual 356, 3) := by decide +kernel
theorem dX11_split_97 : decode cX11_split 97 = .ok (.aload_n 0, 1) := by decide +kernel
theorem dX11_split_98 : decode cX11_split 98 = .ok (.iload 6, 2) := by decide +kernel
theorem dX11_split_100 : decode cX11_split 100 = .ok (.invokevirtual 356, 3) := by decide +kernel
theorem dX11_split_103 : decode cX11_split 103 = .ok (.iadd, 1) := by decide +kernel
theorem dX11_split_104 : decode cX11_split 104 = .ok (.aload_n 0, 1) := by decide +kernel
theorem dX11_split_105 : decode cX11_split 105 = .ok (.iload 7, 2) := by decide +kernel
theorem dX11_split_107 : decode cX11_split 107 = .ok (.invokevirtual 356, 3) := by decide +kernel
theorem dX11_split_110 : decode cX11_split 110 = .ok (.iadd, 1) := by decide +kernel
theorem dX11_split_111 : decode cX11_split 111 = .ok (.aload_n 0, 1) := by decide +kernel
theorem dX11_split_112 : decode cX11_split 112 = .ok (.iload 8, 2) := by decide +kernel
theorem dX11_split_114 : decode cX11_split 114 = .ok (.invokevirtual 356, 3) := by decide +kernel
theorem dX11_split_117 : decode cX11_split 117 = .ok (.iadd, 1) := by decide +kernel
theorem dX11_split_118 : decode cX11_split 118 = .ok (.istore 9, 2) := by decide +kernel
theorem dX11_split_120 : decode cX11_split 120 = .ok (.iload 4, 2) := by decide +kernel
theorem dX11_split_122 : decode cX11_split 122 = .ok (.ifCond .eq 12, 3) := by decide +kernel
theorem dX11_split_125 : decode cX11_split 125 = .ok (.iload 9, 2) := by decide +kernel
theorem dX11_split_127 : decode cX11_split 127 = .ok (.iload_n 3, 1) := by decide +kernel
theorem dX11_split_128 : decode cX11_split 128 = .ok (.if_icmp .lt 6, 3) := by decide +kernel
theorem dX11_split_131 : decode cX11_split 131 = .ok (.goto 41, 3) := by decide +kernel
theorem dX11_split_134 : decode cX11_split 134 = .ok (.iconst 1, 1) := by decide +kernel
theorem dX11_split_135 : decode cX11_split 135 = .ok (.istore 4, 2) := by decide +kernel
theorem dX11_split_137 : decode cX11_split 137 = .ok (.iload 9, 2) := by decide +kernel
theorem dX11_split_139 : decode cX11_split 139 = .ok (.istore_n 3, 1) := by decide +kernel
theorem dX11_split_140 : decode cX11_split 140 = .ok (.aload_n 0, 1) := by decide +kernel
theorem dX11_split_141 : decode cX11_split 141 = .ok (.getfield 99, 3) := by decide +kernel
theorem dX11_split_144 : decode cX11_split 144 = .ok (.iconst 0, 1) := by decide +kernel
theorem dX11_split_145 : decode cX11_split 145 = .ok (.iload 5, 2) := by decide +kernel
theorem dX11_split_147 : decode cX11_split 147 = .ok (.iastore, 1) := by decide +kernel
theorem dX11_split_148 : decode cX11_split 148 = .ok (.aload_n 0, 1) := by decide +kernel
theorem dX11_split_149 : decode cX11_split 149 = .ok (.getfield 99, 3) := by decide +kernel
theorem dX11_split_152 : decode cX11_split 152 = .ok (.iconst 1, 1) := by decide +kernel
theorem dX11_split_153 : decode cX11_split 153 = .ok (.iload 6, 2) := by decide +kernel
theorem dX11_split_155 : decode cX11_split 155 = .ok (.iastore, 1) := by decide +kernel
theorem dX11_split_156 : decode cX11_split 156 = .ok (.aload_n 0, 1) := by decide +kernel
theorem dX11_split_157 : decode cX11_split 157 = .ok (.getfield 99, 3) := by decide +kernel
theorem dX11_split_160 : decode cX11_split 160 = .ok (.iconst 2, 1) := by decide +kernel
theorem dX11_split_161 : decode cX11_split 161 = .ok (.iload 7, 2) := by decide +kernel
theorem dX11_split_163 : decode cX11_split 163 = .ok (.iastore, 1) := by decide +kernel
theorem dX11_split_164 : decode cX11_split 164 = .ok (.aload_n 0, 1) := by decide +kernel
theorem dX11_split_165 : decode cX11_split 165 = .ok (.getfield 99, 3) := by decide +kernel
theorem dX11_split_168 : decode cX11_split 168 = .ok (.iconst 3, 1) := by decide +kernel
theorem dX11_split_169 : decode cX11_split 169 = .ok (.iload 8, 2) := by decide +kernel
theorem dX11_split_171 : decode cX11_split 171 = .ok (.iastore, 1) := by decide +kernel
theorem dX11_split_172 : decode cX11_split 172 = .ok (.iinc 7 1, 3) := by decide +kernel
theorem dX11_split_175 : decode cX11_split 175 = .ok (.goto (-118), 3) := by decide +kernel
theorem dX11_split_178 : decode cX11_split 178 = .ok (.iinc 6 1, 3) := by decide +kernel
theorem dX11_split_181 : decode cX11_split 181 = .ok (.goto (-134), 3) := by decide +kernel
theorem dX11_split_184 : decode cX11_split 184 = .ok (.iinc 5 1, 3) := by decide +kernel
theorem dX11_split_187 : decode cX11_split 187 = .ok (.goto (-150), 3) := by decide +kernel
theorem dX11_split_190 : decode cX11_split 190 = .ok (.iload_n 2, 1) := by decide +kernel
theorem dX11_split_191 : decode cX11_split 191 = .ok (.ifCond .ne 7, 3) := by decide +kernel
theorem dX11_split_194 : decode cX11_split 194 = .ok (.iload_n 3, 1) := by decide +kernel
theorem dX11_split_195 : decode cX11_split 195 = .ok (.goto 11, 3) := by decide +kernel
theorem dX11_split_198 : decode cX11_split 198 = .ok (.aload_n 0, 1) := by decide +kernel
theorem dX11_split_199 : decode cX11_split 199 = .ok (.getfield 99, 3) := by decide +kernel
theorem dX11_split_202 : decode cX11_split 202 = .ok (.iload_n 2, 1) := by decide +kernel
theorem dX11_split_203 : decode cX11_split 203 = .ok (.iconst 1, 1) := by decide +kernel
theorem dX11_split_204 : decode cX11_split 204 = .ok (.isub, 1) := by decide +kernel
theorem dX11_split_205 : decode cX11_split 205 = .ok (.iaload, 1) := by decide +kernel
theorem dX11_split_206 : decode cX11_split 206 = .ok (.ireturn, 1) := by decide +kernel
theorem dX11_worstKept_0 : decode cX11_worstKept 0 = .ok (.aload_n 0, 1) := by decide +kernel
theorem dX11_worstKept_1 : decode cX11_worstKept 1 = .ok (.getfield 102, 3) := by decide +kernel
theorem dX11_worstKept_4 : decode cX11_worstKept 4 = .ok (.iload_n 1, 1) := by decide +kernel
theorem dX11_worstKept_5 : decode cX11_worstKept 5 = .ok (.iaload, 1) := by decide +kernel
theorem dX11_worstKept_6 : decode cX11_worstKept 6 = .ok (.ifCond .ne 18, 3) := by decide +kernel
theorem dX11_worstKept_9 : decode cX11_worstKept 9 = .ok (.aload_n 0, 1) := by decide +kernel
theorem dX11_worstKept_10 : decode cX11_worstKept 10 = .ok (.getfield 102, 3) := by decide +kernel
theorem dX11_worstKept_13 : decode cX11_worstKept 13 = .ok (.iload_n 1, 1) := by decide +kernel
theorem dX11_worstKept_14 : decode cX11_worstKept 14 = .ok (.aload_n 0, 1) := by decide +kernel
theorem dX11_worstKept_15 : decode cX11_worstKept 15 = .ok (.iload_n 1, 1) := by decide +kernel
theorem dX11_worstKept_16 : decode cX11_worstKept 16 = .ok (.invokevirtual 359, 3) := by decide +kernel
theorem dX11_worstKept_19 : decode cX11_worstKept 19 = .ok (.sipush 1000, 3) := by decide +kernel
theorem dX11_worstKept_22 : decode cX11_worstKept 22 = .ok (.iadd, 1) := by decide +kernel
theorem dX11_worstKept_23 : decode cX11_worstKept 23 = .ok (.iastore, 1) := by decide +kernel
theorem dX11_worstKept_24 : decode cX11_worstKept 24 = .ok (.aload_n 0, 1) := by decide +kernel
theorem dX11_worstKept_25 : decode cX11_worstKept 25 = .ok (.getfield 102, 3) := by decide +kernel
theorem dX11_worstKept_28 : decode cX11_worstKept 28 = .ok (.iload_n 1, 1) := by decide +kernel
theorem dX11_worstKept_29 : decode cX11_worstKept 29 = .ok (.iaload, 1) := by decide +kernel
theorem dX11_worstKept_30 : decode cX11_worstKept 30 = .ok (.sipush 1000, 3) := by decide +kernel
theorem dX11_worstKept_33 : decode cX11_worstKept 33 = .ok (.isub, 1) := by decide +kernel
theorem dX11_worstKept_34 : decode cX11_worstKept 34 = .ok (.ireturn, 1) := by decide +kernel
theorem dX11_can_0 : decode cX11_can 0 = .ok (.aload_n 0, 1) := by decide +kernel
theorem dX11_can_1 : decode cX11_can 1 = .ok (.iconst 0, 1) := by decide +kernel
theorem dX11_can_2 : decode cX11_can 2 = .ok (.putfield 141, 3) := by decide +kernel
theorem dX11_can_5 : decode cX11_can 5 = .ok (.aload_n 0, 1) := by decide +kernel
theorem dX11_can_6 : decode cX11_can 6 = .ok (.iload_n 1, 1) := by decide +kernel
theorem dX11_can_7 : decode cX11_can 7 = .ok (.iload_n 2, 1) := by decide +kernel
theorem dX11_can_8 : decode cX11_can 8 = .ok (.iload_n 3, 1) := by decide +kernel
theorem dX11_can_9 : decode cX11_can 9 = .ok (.invokevirtual 151, 3) := by decide +kernel
theorem dX11_can_12 : decode cX11_can 12 = .ok (.istore 4, 2) := by decide +kernel
theorem dX11_can_14 : decode cX11_can 14 = .ok (.iload 4, 2) := by decide +kernel
theorem dX11_can_16 : decode cX11_can 16 = .ok (.iconst (-1), 1) := by decide +kernel
theorem dX11_can_17 : decode cX11_can 17 = .ok (.if_icmp .eq 22, 3) := by decide +kernel
theorem dX11_can_20 : decode cX11_can 20 = .ok (.aload_n 0, 1) := by decide +kernel
theorem dX11_can_21 : decode cX11_can 21 = .ok (.getfield 16, 3) := by decide +kernel
theorem dX11_can_24 : decode cX11_can 24 = .ok (.iload 4, 2) := by decide +kernel
theorem dX11_can_26 : decode cX11_can 26 = .ok (.iaload, 1) := by decide +kernel
theorem dX11_can_27 : decode cX11_can 27 = .ok (.ifCond .eq 12, 3) := by decide +kernel
theorem dX11_can_30 : decode cX11_can 30 = .ok (.aload_n 0, 1) := by decide +kernel
theorem dX11_can_31 : decode cX11_can 31 = .ok (.getfield 362, 3) := by decide +kernel
theorem dX11_can_34 : decode cX11_can 34 = .ok (.bipush 60, 2) := by decide +kernel
theorem dX11_can_36 : decode cX11_can 36 = .ok (.if_icmp .ne 5, 3) := by decide +kernel
theorem dX11_can_39 : decode cX11_can 39 = .ok (.iconst (-1), 1) := by decide +kernel
theorem dX11_can_40 : decode cX11_can 40 = .ok (.ireturn, 1) := by decide +kernel
theorem dX11_can_41 : decode cX11_can 41 = .ok (.aload_n 0, 1) := by decide +kernel
theorem dX11_can_42 : decode cX11_can 42 = .ok (.getfield 105, 3) := by decide +kernel
theorem dX11_can_45 : decode cX11_can 45 = .ok (.aload_n 0, 1) := by decide +kernel
theorem dX11_can_46 : decode cX11_can 46 = .ok (.getfield 362, 3) := by decide +kernel
theorem dX11_can_49 : decode cX11_can 49 = .ok (.iload 4, 2) := by decide +kernel
theorem dX11_can_51 : decode cX11_can 51 = .ok (.iastore, 1) := by decide +kernel
theorem dX11_can_52 : decode cX11_can 52 = .ok (.aload_n 0, 1) := by decide +kernel
theorem dX11_can_53 : decode cX11_can 53 = .ok (.getfield 108, 3) := by decide +kernel
theorem dX11_can_56 : decode cX11_can 56 = .ok (.aload_n 0, 1) := by decide +kernel
theorem dX11_can_57 : decode cX11_can 57 = .ok (.getfield 362, 3) := by decide +kernel
theorem dX11_can_60 : decode cX11_can 60 = .ok (.aload_n 0, 1) := by decide +kernel
theorem dX11_can_61 : decode cX11_can 61 = .ok (.getfield 283, 3) := by decide +kernel
theorem dX11_can_64 : decode cX11_can 64 = .ok (.iastore, 1) := by decide +kernel
theorem dX11_can_65 : decode cX11_can 65 = .ok (.aload_n 0, 1) := by decide +kernel
theorem dX11_can_66 : decode cX11_can 66 = .ok (.getfield 111, 3) := by decide +kernel
theorem dX11_can_69 : decode cX11_can 69 = .ok (.aload_n 0, 1) := by decide +kernel
theorem dX11_can_70 : decode cX11_can 70 = .ok (.getfield 362, 3) := by decide +kernel
theorem dX11_can_73 : decode cX11_can 73 = .ok (.aload_n 0, 1) := by decide +kernel
theorem dX11_can_74 : decode cX11_can 74 = .ok (.aload_n 0, 1) := by decide +kernel
theorem dX11_can_75 : decode cX11_can 75 = .ok (.getfield 16, 3) := by decide +kernel
theorem dX11_can_78 : decode cX11_can 78 = .ok (.iload 4, 2) := by decide +kernel
theorem dX11_can_80 : decode cX11_can 80 = .ok (.iaload, 1) := by decide +kernel
theorem dX11_can_81 : decode cX11_can 81 = .ok (.aload_n 0, 1) := by decide +kernel
theorem dX11_can_82 : decode cX11_can 82 = .ok (.getfield 19, 3) := by decide +kernel
theorem dX11_can_85 : decode cX11_can 85 = .ok (.iload 4, 2) := by decide +kernel
theorem dX11_can_87 : decode cX11_can 87 = .ok (.iaload, 1) := by decide +kernel
theorem dX11_can_88 : decode cX11_can 88 = .ok (.invokevirtual 158, 3) := by decide +kernel
theorem dX11_can_91 : decode cX11_can 91 = .ok (.iastore, 1) := by decide +kernel
theorem dX11_can_92 : decode cX11_can 92 = .ok (.aload_n 0, 1) := by decide +kernel
theorem dX11_can_93 : decode cX11_can 93 = .ok (.aload_n 0, 1) := by decide +kernel
theorem dX11_can_94 : decode cX11_can 94 = .ok (.getfield 362, 3) := by decide +kernel
theorem dX11_can_97 : decode cX11_can 97 = .ok (.iconst 1, 1) := by decide +kernel
theorem dX11_can_98 : decode cX11_can 98 = .ok (.iadd, 1) := by decide +kernel
theorem dX11_can_99 : decode cX11_can 99 = .ok (.putfield 362, 3) := by decide +kernel
theorem dX11_can_102 : decode cX11_can 102 = .ok (.aload_n 0, 1) := by decide +kernel
theorem dX11_can_103 : decode cX11_can 103 = .ok (.getfield 362, 3) := by decide +kernel
theorem dX11_can_106 : decode cX11_can 106 = .ok (.iconst 1, 1) := by decide +kernel
theorem dX11_can_107 : decode cX11_can 107 = .ok (.isub, 1) := by decide +kernel
theorem dX11_can_108 : decode cX11_can 108 = .ok (.ireturn, 1) := by decide +kernel
theorem dX11_step_0 : decode cX11_step 0 = .ok (.aload_n 0, 1) := by decide +kernel
theorem dX11_step_1 : decode cX11_step 1 = .ok (.iconst 0, 1) := by decide +kernel
theorem dX11_step_2 : decode cX11_step 2 = .ok (.putfield 141, 3) := by decide +kernel
theorem dX11_step_5 : decode cX11_step 5 = .ok (.aload_n 0, 1) := by decide +kernel
theorem dX11_step_6 : decode cX11_step 6 = .ok (.iload_n 1, 1) := by decide +kernel
theorem dX11_step_7 : decode cX11_step 7 = .ok (.iconst 0, 1) := by decide +kernel
theorem dX11_step_8 : decode cX11_step 8 = .ok (.bipush 20, 2) := by decide +kernel
theorem dX11_step_10 : decode cX11_step 10 = .ok (.invokevirtual 144, 3) := by decide +kernel
theorem dX11_step_13 : decode cX11_step 13 = .ok (.ifCond .ne 5, 3) := by decide +kernel
theorem dX11_step_16 : decode cX11_step 16 = .ok (.iconst 0, 1) := by decide +kernel
theorem dX11_step_17 : decode cX11_step 17 = .ok (.ireturn, 1) := by decide +kernel
theorem dX11_step_18 : decode cX11_step 18 = .ok (.aload_n 0, 1) := by decide +kernel
theorem dX11_step_19 : decode cX11_step 19 = .ok (.iload_n 1, 1) := by decide +kernel
theorem dX11_step_20 : decode cX11_step 20 = .ok (.putfield 114, 3) := by decide +kernel
theorem dX11_step_23 : decode cX11_step 23 = .ok (.iconst 1, 1) := by decide +kernel
theorem dX11_step_24 : decode cX11_step 24 = .ok (.ireturn, 1) := by decide +kernel
theorem dX11_apart_0 : decode cX11_apart 0 = .ok (.iload_n 1, 1) := by decide +kernel
theorem dX11_apart_1 : decode cX11_apart 1 = .ok (.iload_n 2, 1) := by decide +kernel
theorem dX11_apart_2 : decode cX11_apart 2 = .ok (.if_icmp .ge 9, 3) := by decide +kernel
theorem dX11_apart_5 : decode cX11_apart 5 = .ok (.iload_n 2, 1) := by decide +kernel
theorem dX11_apart_6 : decode cX11_apart 6 = .ok (.iload_n 1, 1) := by decide +kernel
theorem dX11_apart_7 : decode cX11_apart 7 = .ok (.isub, 1) := by decide +kernel
theorem dX11_apart_8 : decode cX11_apart 8 = .ok (.goto 6, 3) := by decide +kernel
theorem dX11_apart_11 : decode cX11_apart 11 = .ok (.iload_n 1, 1) := by decide +kernel
theorem dX11_apart_12 : decode cX11_apart 12 = .ok (.iload_n 2, 1) := by decide +kernel
theorem dX11_apart_13 : decode cX11_apart 13 = .ok (.isub, 1) := by decide +kernel
theorem dX11_apart_14 : decode cX11_apart 14 = .ok (.ireturn, 1) := by decide +kernel
