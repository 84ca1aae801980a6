theorem dX11_init_0 : decode cX11_init 0 = .ok (.aload_n 0, 1) := by decide +kernel
theorem dX11_init_1 : decode cX11_init 1 = .ok (.invokespecial 1, 3) := by decide +kernel
theorem dX11_init_4 : decode cX11_init 4 = .ok (.aload_n 0, 1) := by decide +kernel
theorem dX11_init_5 : decode cX11_init 5 = .ok (.bipush 30, 2) := by decide +kernel
theorem dX11_init_7 : decode cX11_init 7 = .ok (.newarray .int, 2) := by decide +kernel
theorem dX11_init_9 : decode cX11_init 9 = .ok (.putfield 7, 3) := by decide +kernel
theorem dX11_init_12 : decode cX11_init 12 = .ok (.aload_n 0, 1) := by decide +kernel
theorem dX11_init_13 : decode cX11_init 13 = .ok (.bipush 30, 2) := by decide +kernel
theorem dX11_init_15 : decode cX11_init 15 = .ok (.newarray .int, 2) := by decide +kernel
theorem dX11_init_17 : decode cX11_init 17 = .ok (.putfield 13, 3) := by decide +kernel
theorem dX11_init_20 : decode cX11_init 20 = .ok (.aload_n 0, 1) := by decide +kernel
theorem dX11_init_21 : decode cX11_init 21 = .ok (.sipush 256, 3) := by decide +kernel
theorem dX11_init_24 : decode cX11_init 24 = .ok (.newarray .int, 2) := by decide +kernel
theorem dX11_init_26 : decode cX11_init 26 = .ok (.putfield 16, 3) := by decide +kernel
theorem dX11_init_29 : decode cX11_init 29 = .ok (.aload_n 0, 1) := by decide +kernel
theorem dX11_init_30 : decode cX11_init 30 = .ok (.sipush 256, 3) := by decide +kernel
theorem dX11_init_33 : decode cX11_init 33 = .ok (.newarray .int, 2) := by decide +kernel
theorem dX11_init_35 : decode cX11_init 35 = .ok (.putfield 19, 3) := by decide +kernel
theorem dX11_init_38 : decode cX11_init 38 = .ok (.aload_n 0, 1) := by decide +kernel
theorem dX11_init_39 : decode cX11_init 39 = .ok (.sipush 288, 3) := by decide +kernel
theorem dX11_init_42 : decode cX11_init 42 = .ok (.newarray .int, 2) := by decide +kernel
theorem dX11_init_44 : decode cX11_init 44 = .ok (.putfield 22, 3) := by decide +kernel
theorem dX11_init_47 : decode cX11_init 47 = .ok (.aload_n 0, 1) := by decide +kernel
theorem dX11_init_48 : decode cX11_init 48 = .ok (.sipush 288, 3) := by decide +kernel
theorem dX11_init_51 : decode cX11_init 51 = .ok (.newarray .int, 2) := by decide +kernel
theorem dX11_init_53 : decode cX11_init 53 = .ok (.putfield 25, 3) := by decide +kernel
theorem dX11_init_56 : decode cX11_init 56 = .ok (.aload_n 0, 1) := by decide +kernel
theorem dX11_init_57 : decode cX11_init 57 = .ok (.sipush 288, 3) := by decide +kernel
theorem dX11_init_60 : decode cX11_init 60 = .ok (.newarray .int, 2) := by decide +kernel
theorem dX11_init_62 : decode cX11_init 62 = .ok (.putfield 28, 3) := by decide +kernel
theorem dX11_init_65 : decode cX11_init 65 = .ok (.aload_n 0, 1) := by decide +kernel
theorem dX11_init_66 : decode cX11_init 66 = .ok (.sipush 288, 3) := by decide +kernel
theorem dX11_init_69 : decode cX11_init 69 = .ok (.newarray .boolean, 2) := by decide +kernel
theorem dX11_init_71 : decode cX11_init 71 = .ok (.putfield 31, 3) := by decide +kernel
theorem dX11_init_74 : decode cX11_init 74 = .ok (.aload_n 0, 1) := by decide +kernel
theorem dX11_init_75 : decode cX11_init 75 = .ok (.iconst 2, 1) := by decide +kernel
theorem dX11_init_76 : decode cX11_init 76 = .ok (.newarray .int, 2) := by decide +kernel
theorem dX11_init_78 : decode cX11_init 78 = .ok (.putfield 35, 3) := by decide +kernel
theorem dX11_init_81 : decode cX11_init 81 = .ok (.aload_n 0, 1) := by decide +kernel
theorem dX11_init_82 : decode cX11_init 82 = .ok (.iconst 2, 1) := by decide +kernel
theorem dX11_init_83 : decode cX11_init 83 = .ok (.newarray .int, 2) := by decide +kernel
theorem dX11_init_85 : decode cX11_init 85 = .ok (.putfield 38, 3) := by decide +kernel
theorem dX11_init_88 : decode cX11_init 88 = .ok (.aload_n 0, 1) := by decide +kernel
theorem dX11_init_89 : decode cX11_init 89 = .ok (.iconst 2, 1) := by decide +kernel
theorem dX11_init_90 : decode cX11_init 90 = .ok (.newarray .int, 2) := by decide +kernel
theorem dX11_init_92 : decode cX11_init 92 = .ok (.putfield 41, 3) := by decide +kernel
theorem dX11_init_95 : decode cX11_init 95 = .ok (.aload_n 0, 1) := by decide +kernel
theorem dX11_init_96 : decode cX11_init 96 = .ok (.iconst 2, 1) := by decide +kernel
theorem dX11_init_97 : decode cX11_init 97 = .ok (.newarray .int, 2) := by decide +kernel
theorem dX11_init_99 : decode cX11_init 99 = .ok (.dup, 1) := by decide +kernel
theorem dX11_init_100 : decode cX11_init 100 = .ok (.iconst 0, 1) := by decide +kernel
theorem dX11_init_101 : decode cX11_init 101 = .ok (.iconst (-1), 1) := by decide +kernel
theorem dX11_init_102 : decode cX11_init 102 = .ok (.iastore, 1) := by decide +kernel
theorem dX11_init_103 : decode cX11_init 103 = .ok (.dup, 1) := by decide +kernel
theorem dX11_init_104 : decode cX11_init 104 = .ok (.iconst 1, 1) := by decide +kernel
theorem dX11_init_105 : decode cX11_init 105 = .ok (.iconst (-1), 1) := by decide +kernel
theorem dX11_init_106 : decode cX11_init 106 = .ok (.iastore, 1) := by decide +kernel
theorem dX11_init_107 : decode cX11_init 107 = .ok (.putfield 44, 3) := by decide +kernel
theorem dX11_init_110 : decode cX11_init 110 = .ok (.aload_n 0, 1) := by decide +kernel
theorem dX11_init_111 : decode cX11_init 111 = .ok (.sipush 600, 3) := by decide +kernel
theorem dX11_init_114 : decode cX11_init 114 = .ok (.newarray .int, 2) := by decide +kernel
theorem dX11_init_116 : decode cX11_init 116 = .ok (.putfield 47, 3) := by decide +kernel
theorem dX11_init_119 : decode cX11_init 119 = .ok (.aload_n 0, 1) := by decide +kernel
theorem dX11_init_120 : decode cX11_init 120 = .ok (.sipush 134, 3) := by decide +kernel
theorem dX11_init_123 : decode cX11_init 123 = .ok (.newarray .int, 2) := by decide +kernel
theorem dX11_init_125 : decode cX11_init 125 = .ok (.dup, 1) := by decide +kernel
theorem dX11_init_126 : decode cX11_init 126 = .ok (.iconst 0, 1) := by decide +kernel
theorem dX11_init_127 : decode cX11_init 127 = .ok (.bipush 32, 2) := by decide +kernel
theorem dX11_init_129 : decode cX11_init 129 = .ok (.iastore, 1) := by decide +kernel
theorem dX11_init_130 : decode cX11_init 130 = .ok (.dup, 1) := by decide +kernel
theorem dX11_init_131 : decode cX11_init 131 = .ok (.iconst 1, 1) := by decide +kernel
theorem dX11_init_132 : decode cX11_init 132 = .ok (.bipush 100, 2) := by decide +kernel
theorem dX11_init_134 : decode cX11_init 134 = .ok (.iastore, 1) := by decide +kernel
theorem dX11_init_135 : decode cX11_init 135 = .ok (.dup, 1) := by decide +kernel
theorem dX11_init_136 : decode cX11_init 136 = .ok (.iconst 2, 1) := by decide +kernel
theorem dX11_init_137 : decode cX11_init 137 = .ok (.bipush 111, 2) := by decide +kernel
theorem dX11_init_139 : decode cX11_init 139 = .ok (.iastore, 1) := by decide +kernel
theorem dX11_init_140 : decode cX11_init 140 = .ok (.dup, 1) := by decide +kernel
theorem dX11_init_141 : decode cX11_init 141 = .ok (.iconst 3, 1) := by decide +kernel
theorem dX11_init_142 : decode cX11_init 142 = .ok (.bipush 119, 2) := by decide +kernel
theorem dX11_init_144 : decode cX11_init 144 = .ok (.iastore, 1) := by decide +kernel
theorem dX11_init_145 : decode cX11_init 145 = .ok (.dup, 1) := by decide +kernel
theorem dX11_init_146 : decode cX11_init 146 = .ok (.iconst 4, 1) := by decide +kernel
theorem dX11_init_147 : decode cX11_init 147 = .ok (.bipush 110, 2) := by decide +kernel
theorem dX11_init_149 : decode cX11_init 149 = .ok (.iastore, 1) := by decide +kernel
theorem dX11_init_150 : decode cX11_init 150 = .ok (.dup, 1) := by decide +kernel
theorem dX11_init_151 : decode cX11_init 151 = .ok (.iconst 5, 1) := by decide +kernel
theorem dX11_init_152 : decode cX11_init 152 = .ok (.bipush 32, 2) := by decide +kernel
theorem dX11_init_154 : decode cX11_init 154 = .ok (.iastore, 1) := by decide +kernel
theorem dX11_init_155 : decode cX11_init 155 = .ok (.dup, 1) := by decide +kernel
theorem dX11_init_156 : decode cX11_init 156 = .ok (.bipush 6, 2) := by decide +kernel
theorem dX11_init_158 : decode cX11_init 158 = .ok (.bipush 100, 2) := by decide +kernel
theorem dX11_init_160 : decode cX11_init 160 = .ok (.iastore, 1) := by decide +kernel
theorem dX11_init_161 : decode cX11_init 161 = .ok (.dup, 1) := by decide +kernel
theorem dX11_init_162 : decode cX11_init 162 = .ok (.bipush 7, 2) := by decide +kernel
theorem dX11_init_164 : decode cX11_init 164 = .ok (.bipush 114, 2) := by decide +kernel
theorem dX11_init_166 : decode cX11_init 166 = .ok (.iastore, 1) := by decide +kernel
theorem dX11_init_167 : decode cX11_init 167 = .ok (.dup, 1) := by decide +kernel
theorem dX11_init_168 : decode cX11_init 168 = .ok (.bipush 8, 2) := by decide +kernel
theorem dX11_init_170 : decode cX11_init 170 = .ok (.bipush 121, 2) := by decide +kernel
theorem dX11_init_172 : decode cX11_init 172 = .ok (.iastore, 1) := by decide +kernel
theorem dX11_init_173 : decode cX11_init 173 = .ok (.dup, 1) := by decide +kernel
theorem dX11_init_174 : decode cX11_init 174 = .ok (.bipush 9, 2) := by decide +kernel
theorem dX11_init_176 : decode cX11_init 176 = .ok (.bipush 32, 2) := by decide +kernel
theorem dX11_init_178 : decode cX11_init 178 = .ok (.iastore, 1) := by decide +kernel
theorem dX11_init_179 : decode cX11_init 179 = .ok (.dup, 1) := by decide +kernel
theorem dX11_init_180 : decode cX11_init 180 = .ok (.bipush 10, 2) := by decide +kernel
theorem dX11_init_182 : decode cX11_init 182 = .ok (.bipush 115, 2) := by decide +kernel
theorem dX11_init_184 : decode cX11_init 184 = .ok (.iastore, 1) := by decide +kernel
theorem dX11_init_185 : decode cX11_init 185 = .ok (.dup, 1) := by decide +kernel
theorem dX11_init_186 : decode cX11_init 186 = .ok (.bipush 11, 2) := by decide +kernel
theorem dX11_init_188 : decode cX11_init 188 = .ok (.bipush 111, 2) := by decide +kernel
theorem dX11_init_190 : decode cX11_init 190 = .ok (.iastore, 1) := by decide +kernel
theorem dX11_init_191 : decode cX11_init 191 = .ok (.dup, 1) := by decide +kernel
theorem dX11_init_192 : decode cX11_init 192 = .ok (.bipush 12, 2) := by decide +kernel
theorem dX11_init_194 : decode cX11_init 194 = .ok (.bipush 117, 2) := by decide +kernel
theorem dX11_init_196 : decode cX11_init 196 = .ok (.iastore, 1) := by decide +kernel
theorem dX11_init_197 : decode cX11_init 197 = .ok (.dup, 1) := by decide +kernel
theorem dX11_init_198 : decode cX11_init 198 = .ok (.bipush 13, 2) := by decide +kernel
theorem dX11_init_200 : decode cX11_init 200 = .ok (.bipush 112, 2) := by decide +kernel
theorem dX11_init_202 : decode cX11_init 202 = .ok (.iastore, 1) := by decide +kernel
theorem dX11_init_203 : decode cX11_init 203 = .ok (.dup, 1) := by decide +kernel
theorem dX11_init_204 : decode cX11_init 204 = .ok (.bipush 14, 2) := by decide +kernel
theorem dX11_init_206 : decode cX11_init 206 = .ok (.bipush 32, 2) := by decide +kernel
theorem dX11_init_208 : decode cX11_init 208 = .ok (.iastore, 1) := by decide +kernel
theorem dX11_init_209 : decode cX11_init 209 = .ok (.dup, 1) := by decide +kernel
theorem dX11_init_210 : decode cX11_init 210 = .ok (.bipush 15, 2) := by decide +kernel
theorem dX11_init_212 : decode cX11_init 212 = .ok (.bipush 115, 2) := by decide +kernel
theorem dX11_init_214 : decode cX11_init 214 = .ok (.iastore, 1) := by decide +kernel
theorem dX11_init_215 : decode cX11_init 215 = .ok (.dup, 1) := by decide +kernel
theorem dX11_init_216 : decode cX11_init 216 = .ok (.bipush 16, 2) := by decide +kernel
theorem dX11_init_218 : decode cX11_init 218 = .ok (.bipush 119, 2) := by decide +kernel
theorem dX11_init_220 : decode cX11_init 220 = .ok (.iastore, 1) := by decide +kernel
theorem dX11_init_221 : decode cX11_init 221 = .ok (.dup, 1) := by decide +kernel
theorem dX11_init_222 : decode cX11_init 222 = .ok (.bipush 17, 2) := by decide +kernel
theorem dX11_init_224 : decode cX11_init 224 = .ok (.bipush 101, 2) := by decide +kernel
theorem dX11_init_226 : decode cX11_init 226 = .ok (.iastore, 1) := by decide +kernel
theorem dX11_init_227 : decode cX11_init 227 = .ok (.dup, 1) := by decide +kernel
theorem dX11_init_228 : decode cX11_init 228 = .ok (.bipush 18, 2) := by decide +kernel
theorem dX11_init_230 : decode cX11_init 230 = .ok (.bipush 97, 2) := by decide +kernel
theorem dX11_init_232 : decode cX11_init 232 = .ok (.iastore, 1) := by decide +kernel
theorem dX11_init_233 : decode cX11_init 233 = .ok (.dup, 1) := by decide +kernel
theorem dX11_init_234 : decode cX11_init 234 = .ok (.bipush 19, 2) := by decide +kernel
theorem dX11_init_236 : decode cX11_init 236 = .ok (.bipush 116, 2) := by decide +kernel
theorem dX11_init_238 : decode cX11_init 238 = .ok (.iastore, 1) := by decide +kernel
theorem dX11_init_239 : decode cX11_init 239 = .ok (.dup, 1) := by decide +kernel
theorem dX11_init_240 : decode cX11_init 240 = .ok (.bipush 20, 2) := by decide +kernel
theorem dX11_init_242 : decode cX11_init 242 = .ok (.bipush 32, 2) := by decide +kernel
theorem dX11_init_244 : decode cX11_init 244 = .ok (.iastore, 1) := by decide +kernel
theorem dX11_init_245 : decode cX11_init 245 = .ok (.dup, 1) := by decide +kernel
theorem dX11_init_246 : decode cX11_init 246 = .ok (.bipush 21, 2) := by decide +kernel
theorem dX11_init_248 : decode cX11_init 248 = .ok (.bipush 108, 2) := by decide +kernel
theorem dX11_init_250 : decode cX11_init 250 = .ok (.iastore, 1) := by decide +kernel
theorem dX11_init_251 : decode cX11_init 251 = .ok (.dup, 1) := by decide +kernel
theorem dX11_init_252 : decode cX11_init 252 = .ok (.bipush 22, 2) := by decide +kernel
theorem dX11_init_254 : decode cX11_init 254 = .ok (.bipush 111, 2) := by decide +kernel
theorem dX11_init_256 : decode cX11_init 256 = .ok (.iastore, 1) := by decide +kernel
theorem dX11_init_257 : decode cX11_init 257 = .ok (.dup, 1) := by decide +kernel
theorem dX11_init_258 : decode cX11_init 258 = .ok (.bipush 23, 2) := by decide +kernel
theorem dX11_init_260 : decode cX11_init 260 = .ok (.bipush 97, 2) := by decide +kernel
theorem dX11_init_262 : decode cX11_init 262 = .ok (.iastore, 1) := by decide +kernel
theorem dX11_init_263 : decode cX11_init 263 = .ok (.dup, 1) := by decide +kernel
theorem dX11_init_264 : decode cX11_init 264 = .ok (.bipush 24, 2) := by decide +kernel
theorem dX11_init_266 : decode cX11_init 266 = .ok (.bipush 100, 2) := by decide +kernel
theorem dX11_init_268 : decode cX11_init 268 = .ok (.iastore, 1) := by decide +kernel
theorem dX11_init_269 : decode cX11_init 269 = .ok (.dup, 1) := by decide +kernel
theorem dX11_init_270 : decode cX11_init 270 = .ok (.bipush 25, 2) := by decide +kernel
theorem dX11_init_272 : decode cX11_init 272 = .ok (.bipush 32, 2) := by decide +kernel
theorem dX11_init_274 : decode cX11_init 274 = .ok (.iastore, 1) := by decide +kernel
theorem dX11_init_275 : decode cX11_init 275 = .ok (.dup, 1) := by decide +kernel
theorem dX11_init_276 : decode cX11_init 276 = .ok (.bipush 26, 2) := by decide +kernel
theorem dX11_init_278 : decode cX11_init 278 = .ok (.bipush 115, 2) := by decide +kernel
theorem dX11_init_280 : decode cX11_init 280 = .ok (.iastore, 1) := by decide +kernel
theorem dX11_init_281 : decode cX11_init 281 = .ok (.dup, 1) := by decide +kernel
theorem dX11_init_282 : decode cX11_init 282 = .ok (.bipush 27, 2) := by decide +kernel
theorem dX11_init_284 : decode cX11_init 284 = .ok (.bipush 116, 2) := by decide +kernel
theorem dX11_init_286 : decode cX11_init 286 = .ok (.iastore, 1) := by decide +kernel
theorem dX11_init_287 : decode cX11_init 287 = .ok (.dup, 1) := by decide +kernel
theorem dX11_init_288 : decode cX11_init 288 = .ok (.bipush 28, 2) := by decide +kernel
theorem dX11_init_290 : decode cX11_init 290 = .ok (.bipush 111, 2) := by decide +kernel
theorem dX11_init_292 : decode cX11_init 292 = .ok (.iastore, 1) := by decide +kernel
theorem dX11_init_293 : decode cX11_init 293 = .ok (.dup, 1) := by decide +kernel
theorem dX11_init_294 : decode cX11_init 294 = .ok (.bipush 29, 2) := by decide +kernel
theorem dX11_init_296 : decode cX11_init 296 = .ok (.bipush 112, 2) := by decide +kernel
theorem dX11_init_298 : decode cX11_init 298 = .ok (.iastore, 1) := by decide +kernel
theorem dX11_init_299 : decode cX11_init 299 = .ok (.dup, 1) := by decide +kernel
theorem dX11_init_300 : decode cX11_init 300 = .ok (.bipush 30, 2) := by decide +kernel
theorem dX11_init_302 : decode cX11_init 302 = .ok (.bipush 32, 2) := by decide +kernel
theorem dX11_init_304 : decode cX11_init 304 = .ok (.iastore, 1) := by decide +kernel
theorem dX11_init_305 : decode cX11_init 305 = .ok (.dup, 1) := by decide +kernel
theorem dX11_init_306 : decode cX11_init 306 = .ok (.bipush 31, 2) := by decide +kernel
theorem dX11_init_308 : decode cX11_init 308 = .ok (.bipush 116, 2) := by decide +kernel
theorem dX11_init_310 : decode cX11_init 310 = .ok (.iastore, 1) := by decide +kernel
theorem dX11_init_311 : decode cX11_init 311 = .ok (.dup, 1) := by decide +kernel
theorem dX11_init_312 : decode cX11_init 312 = .ok (.bipush 32, 2) := by decide +kernel
theorem dX11_init_314 : decode cX11_init 314 = .ok (.bipush 101, 2) := by decide +kernel
theorem dX11_init_316 : decode cX11_init 316 = .ok (.iastore, 1) := by decide +kernel
theorem dX11_init_317 : decode cX11_init 317 = .ok (.dup, 1) := by decide +kernel
theorem dX11_init_318 : decode cX11_init 318 = .ok (.bipush 33, 2) := by decide +kernel
theorem dX11_init_320 : decode cX11_init 320 = .ok (.bipush 115, 2) := by decide +kernel
theorem dX11_init_322 : decode cX11_init 322 = .ok (.iastore, 1) := by decide +kernel
theorem dX11_init_323 : decode cX11_init 323 = .ok (.dup, 1) := by decide +kernel
theorem dX11_init_324 : decode cX11_init 324 = .ok (.bipush 34, 2) := by decide +kernel
theorem dX11_init_326 : decode cX11_init 326 = .ok (.bipush 116, 2) := by decide +kernel
theorem dX11_init_328 : decode cX11_init 328 = .ok (.iastore, 1) := by decide +kernel
theorem dX11_init_329 : decode cX11_init 329 = .ok (.dup, 1) := by decide +kernel
theorem dX11_init_330 : decode cX11_init 330 = .ok (.bipush 35, 2) := by decide +kernel
theorem dX11_init_332 : decode cX11_init 332 = .ok (.bipush 32, 2) := by decide +kernel
theorem dX11_init_334 : decode cX11_init 334 = .ok (.iastore, 1) := by decide +kernel
theorem dX11_init_335 : decode cX11_init 335 = .ok (.dup, 1) := by decide +kernel
theorem dX11_init_336 : decode cX11_init 336 = .ok (.bipush 36, 2) := by decide +kernel
theorem dX11_init_338 : decode cX11_init 338 = .ok (.bipush 119, 2) := by decide +kernel
theorem dX11_init_340 : decode cX11_init 340 = .ok (.iastore, 1) := by decide +kernel
theorem dX11_init_341 : decode cX11_init 341 = .ok (.dup, 1) := by decide +kernel
theorem dX11_init_342 : decode cX11_init 342 = .ok (.bipush 37, 2) := by decide +kernel
theorem dX11_init_344 : decode cX11_init 344 = .ok (.bipush 104, 2) := by decide +kernel
theorem dX11_init_346 : decode cX11_init 346 = .ok (.iastore, 1) := by decide +kernel
theorem dX11_init_347 : decode cX11_init 347 = .ok (.dup, 1) := by decide +kernel
theorem dX11_init_348 : decode cX11_init 348 = .ok (.bipush 38, 2) := by decide +kernel
theorem dX11_init_350 : decode cX11_init 350 = .ok (.bipush 101, 2) := by decide +kernel
theorem dX11_init_352 : decode cX11_init 352 = .ok (.iastore, 1) := by decide +kernel
theorem dX11_init_353 : decode cX11_init 353 = .ok (.dup, 1) := by decide +kernel
theorem dX11_init_354 : decode cX11_init 354 = .ok (.bipush 39, 2) := by decide +kernel
theorem dX11_init_356 : decode cX11_init 356 = .ok (.bipush 110, 2) := by decide +kernel
theorem dX11_init_358 : decode cX11_init 358 = .ok (.iastore, 1) := by decide +kernel
theorem dX11_init_359 : decode cX11_init 359 = .ok (.dup, 1) := by decide +kernel
theorem dX11_init_360 : decode cX11_init 360 = .ok (.bipush 40, 2) := by decide +kernel
theorem dX11_init_362 : decode cX11_init 362 = .ok (.bipush 32, 2) := by decide +kernel
theorem dX11_init_364 : decode cX11_init 364 = .ok (.iastore, 1) := by decide +kernel
theorem dX11_init_365 : decode cX11_init 365 = .ok (.dup, 1) := by decide +kernel
theorem dX11_init_366 : decode cX11_init 366 = .ok (.bipush 41, 2) := by decide +kernel
theorem dX11_init_368 : decode cX11_init 368 = .ok (.bipush 111, 2) := by decide +kernel
theorem dX11_init_370 : decode cX11_init 370 = .ok (.iastore, 1) := by decide +kernel
theorem dX11_init_371 : decode cX11_init 371 = .ok (.dup, 1) := by decide +kernel
theorem dX11_init_372 : decode cX11_init 372 = .ok (.bipush 42, 2) := by decide +kernel
theorem dX11_init_374 : decode cX11_init 374 = .ok (.bipush 114, 2) := by decide +kernel
theorem dX11_init_376 : decode cX11_init 376 = .ok (.iastore, 1) := by decide +kernel
theorem dX11_init_377 : decode cX11_init 377 = .ok (.dup, 1) := by decide +kernel
theorem dX11_init_378 : decode cX11_init 378 = .ok (.bipush 43, 2) := by decide +kernel
theorem dX11_init_380 : decode cX11_init 380 = .ok (.bipush 32, 2) := by decide +kernel
theorem dX11_init_382 : decode cX11_init 382 = .ok (.iastore, 1) := by decide +kernel
theorem dX11_init_383 : decode cX11_init 383 = .ok (.dup, 1) := by decide +kernel
theorem dX11_init_384 : decode cX11_init 384 = .ok (.bipush 44, 2) := by decide +kernel
theorem dX11_init_386 : decode cX11_init 386 = .ok (.bipush 97, 2) := by decide +kernel
theorem dX11_init_388 : decode cX11_init 388 = .ok (.iastore, 1) := by decide +kernel
theorem dX11_init_389 : decode cX11_init 389 = .ok (.dup, 1) := by decide +kernel
theorem dX11_init_390 : decode cX11_init 390 = .ok (.bipush 45, 2) := by decide +kernel
theorem dX11_init_392 : decode cX11_init 392 = .ok (.bipush 110, 2) := by decide +kernel
theorem dX11_init_394 : decode cX11_init 394 = .ok (.iastore, 1) := by decide +kernel
theorem dX11_init_395 : decode cX11_init 395 = .ok (.dup, 1) := by decide +kernel
theorem dX11_init_396 : decode cX11_init 396 = .ok (.bipush 46, 2) := by decide +kernel
theorem dX11_init_398 : decode cX11_init 398 = .ok (.bipush 100, 2) := by decide +kernel
theorem dX11_init_400 : decode cX11_init 400 = .ok (.iastore, 1) := by decide +kernel
theorem dX11_init_401 : decode cX11_init 401 = .ok (.dup, 1) := by decide +kernel
theorem dX11_init_402 : decode cX11_init 402 = .ok (.bipush 47, 2) := by decide +kernel
theorem dX11_init_404 : decode cX11_init 404 = .ok (.bipush 32, 2) := by decide +kernel
theorem dX11_init_406 : decode cX11_init 406 = .ok (.iastore, 1) := by decide +kernel
theorem dX11_init_407 : decode cX11_init 407 = .ok (.dup, 1) := by decide +kernel
theorem dX11_init_408 : decode cX11_init 408 = .ok (.bipush 48, 2) := by decide +kernel
theorem dX11_init_410 : decode cX11_init 410 = .ok (.bipush 110, 2) := by decide +kernel
theorem dX11_init_412 : decode cX11_init 412 = .ok (.iastore, 1) := by decide +kernel
theorem dX11_init_413 : decode cX11_init 413 = .ok (.dup, 1) := by decide +kernel
theorem dX11_init_414 : decode cX11_init 414 = .ok (.bipush 49, 2) := by decide +kernel
theorem dX11_init_416 : decode cX11_init 416 = .ok (.bipush 111, 2) := by decide +kernel
theorem dX11_init_418 : decode cX11_init 418 = .ok (.iastore, 1) := by decide +kernel
theorem dX11_init_419 : decode cX11_init 419 = .ok (.dup, 1) := by decide +kernel
theorem dX11_init_420 : decode cX11_init 420 = .ok (.bipush 50, 2) := by decide +kernel
theorem dX11_init_422 : decode cX11_init 422 = .ok (.bipush 116, 2) := by decide +kernel
theorem dX11_init_424 : decode cX11_init 424 = .ok (.iastore, 1) := by decide +kernel
theorem dX11_init_425 : decode cX11_init 425 = .ok (.dup, 1) := by decide +kernel
theorem dX11_init_426 : decode cX11_init 426 = .ok (.bipush 51, 2) := by decide +kernel
theorem dX11_init_428 : decode cX11_init 428 = .ok (.bipush 32, 2) := by decide +kernel
theorem dX11_init_430 : decode cX11_init 430 = .ok (.iastore, 1) := by decide +kernel
theorem dX11_init_431 : decode cX11_init 431 = .ok (.dup, 1) := by decide +kernel
theorem dX11_init_432 : decode cX11_init 432 = .ok (.bipush 52, 2) := by decide +kernel
theorem dX11_init_434 : decode cX11_init 434 = .ok (.bipush 119, 2) := by decide +kernel
theorem dX11_init_436 : decode cX11_init 436 = .ok (.iastore, 1) := by decide +kernel
theorem dX11_init_437 : decode cX11_init 437 = .ok (.dup, 1) := by decide +kernel
theorem dX11_init_438 : decode cX11_init 438 = .ok (.bipush 53, 2) := by decide +kernel
theorem dX11_init_440 : decode cX11_init 440 = .ok (.bipush 101, 2) := by decide +kernel
theorem dX11_init_442 : decode cX11_init 442 = .ok (.iastore, 1) := by decide +kernel
theorem dX11_init_443 : decode cX11_init 443 = .ok (.dup, 1) := by decide +kernel
theorem dX11_init_444 : decode cX11_init 444 = .ok (.bipush 54, 2) := by decide +kernel
theorem dX11_init_446 : decode cX11_init 446 = .ok (.bipush 116, 2) := by decide +kernel
theorem dX11_init_448 : decode cX11_init 448 = .ok (.iastore, 1) := by decide +kernel
theorem dX11_init_449 : decode cX11_init 449 = .ok (.dup, 1) := by decide +kernel
theorem dX11_init_450 : decode cX11_init 450 = .ok (.bipush 55, 2) := by decide +kernel
theorem dX11_init_452 : decode cX11_init 452 = .ok (.bipush 32, 2) := by decide +kernel
theorem dX11_init_454 : decode cX11_init 454 = .ok (.iastore, 1) := by decide +kernel
theorem dX11_init_455 : decode cX11_init 455 = .ok (.dup, 1) := by decide +kernel
theorem dX11_init_456 : decode cX11_init 456 = .ok (.bipush 56, 2) := by decide +kernel
theorem dX11_init_458 : decode cX11_init 458 = .ok (.bipush 119, 2) := by decide +kernel
theorem dX11_init_460 : decode cX11_init 460 = .ok (.iastore, 1) := by decide +kernel
theorem dX11_init_461 : decode cX11_init 461 = .ok (.dup, 1) := by decide +kernel
theorem dX11_init_462 : decode cX11_init 462 = .ok (.bipush 57, 2) := by decide +kernel
theorem dX11_init_464 : decode cX11_init 464 = .ok (.bipush 97, 2) := by decide +kernel
theorem dX11_init_466 : decode cX11_init 466 = .ok (.iastore, 1) := by decide +kernel
theorem dX11_init_467 : decode cX11_init 467 = .ok (.dup, 1) := by decide +kernel
theorem dX11_init_468 : decode cX11_init 468 = .ok (.bipush 58, 2) := by decide +kernel
theorem dX11_init_470 : decode cX11_init 470 = .ok (.bipush 116, 2) := by decide +kernel
theorem dX11_init_472 : decode cX11_init 472 = .ok (.iastore, 1) := by decide +kernel
theorem dX11_init_473 : decode cX11_init 473 = .ok (.dup, 1) := by decide +kernel
theorem dX11_init_474 : decode cX11_init 474 = .ok (.bipush 59, 2) := by decide +kernel
theorem dX11_init_476 : decode cX11_init 476 = .ok (.bipush 101, 2) := by decide +kernel
theorem dX11_init_478 : decode cX11_init 478 = .ok (.iastore, 1) := by decide +kernel
theorem dX11_init_479 : decode cX11_init 479 = .ok (.dup, 1) := by decide +kernel
theorem dX11_init_480 : decode cX11_init 480 = .ok (.bipush 60, 2) := by decide +kernel
theorem dX11_init_482 : decode cX11_init 482 = .ok (.bipush 114, 2) := by decide +kernel
theorem dX11_init_484 : decode cX11_init 484 = .ok (.iastore, 1) := by decide +kernel
theorem dX11_init_485 : decode cX11_init 485 = .ok (.dup, 1) := by decide +kernel
theorem dX11_init_486 : decode cX11_init 486 = .ok (.bipush 61, 2) := by decide +kernel
theorem dX11_init_488 : decode cX11_init 488 = .ok (.bipush 32, 2) := by decide +kernel
theorem dX11_init_490 : decode cX11_init 490 = .ok (.iastore, 1) := by decide +kernel
theorem dX11_init_491 : decode cX11_init 491 = .ok (.dup, 1) := by decide +kernel
theorem dX11_init_492 : decode cX11_init 492 = .ok (.bipush 62, 2) := by decide +kernel
theorem dX11_init_494 : decode cX11_init 494 = .ok (.bipush 111, 2) := by decide +kernel
theorem dX11_init_496 : decode cX11_init 496 = .ok (.iastore, 1) := by decide +kernel
theorem dX11_init_497 : decode cX11_init 497 = .ok (.dup, 1) := by decide +kernel
theorem dX11_init_498 : decode cX11_init 498 = .ok (.bipush 63, 2) := by decide +kernel
theorem dX11_init_500 : decode cX11_init 500 = .ok (.bipush 114, 2) := by decide +kernel
theorem dX11_init_502 : decode cX11_init 502 = .ok (.iastore, 1) := by decide +kernel
theorem dX11_init_503 : decode cX11_init 503 = .ok (.dup, 1) := by decide +kernel
theorem dX11_init_504 : decode cX11_init 504 = .ok (.bipush 64, 2) := by decide +kernel
theorem dX11_init_506 : decode cX11_init 506 = .ok (.bipush 101, 2) := by decide +kernel
theorem dX11_init_508 : decode cX11_init 508 = .ok (.iastore, 1) := by decide +kernel
theorem dX11_init_509 : decode cX11_init 509 = .ok (.dup, 1) := by decide +kernel
theorem dX11_init_510 : decode cX11_init 510 = .ok (.bipush 65, 2) := by decide +kernel
theorem dX11_init_512 : decode cX11_init 512 = .ok (.bipush 32, 2) := by decide +kernel
theorem dX11_init_514 : decode cX11_init 514 = .ok (.iastore, 1) := by decide +kernel
theorem dX11_init_515 : decode cX11_init 515 = .ok (.dup, 1) := by decide +kernel
theorem dX11_init_516 : decode cX11_init 516 = .ok (.bipush 66, 2) := by decide +kernel
theorem dX11_init_518 : decode cX11_init 518 = .ok (.bipush 108, 2) := by decide +kernel
theorem dX11_init_520 : decode cX11_init 520 = .ok (.iastore, 1) := by decide +kernel
theorem dX11_init_521 : decode cX11_init 521 = .ok (.dup, 1) := by decide +kernel
theorem dX11_init_522 : decode cX11_init 522 = .ok (.bipush 67, 2) := by decide +kernel
theorem dX11_init_524 : decode cX11_init 524 = .ok (.bipush 97, 2) := by decide +kernel
theorem dX11_init_526 : decode cX11_init 526 = .ok (.iastore, 1) := by decide +kernel
theorem dX11_init_527 : decode cX11_init 527 = .ok (.dup, 1) := by decide +kernel
theorem dX11_init_528 : decode cX11_init 528 = .ok (.bipush 68, 2) := by decide +kernel
theorem dX11_init_530 : decode cX11_init 530 = .ok (.bipush 121, 2) := by decide +kernel
theorem dX11_init_532 : decode cX11_init 532 = .ok (.iastore, 1) := by decide +kernel
theorem dX11_init_533 : decode cX11_init 533 = .ok (.dup, 1) := by decide +kernel
theorem dX11_init_534 : decode cX11_init 534 = .ok (.bipush 69, 2) := by decide +kernel
theorem dX11_init_536 : decode cX11_init 536 = .ok (.bipush 101, 2) := by decide +kernel
theorem dX11_init_538 : decode cX11_init 538 = .ok (.iastore, 1) := by decide +kernel
theorem dX11_init_539 : decode cX11_init 539 = .ok (.dup, 1) := by decide +kernel
theorem dX11_init_540 : decode cX11_init 540 = .ok (.bipush 70, 2) := by decide +kernel
theorem dX11_init_542 : decode cX11_init 542 = .ok (.bipush 114, 2) := by decide +kernel
theorem dX11_init_544 : decode cX11_init 544 = .ok (.iastore, 1) := by decide +kernel
theorem dX11_init_545 : decode cX11_init 545 = .ok (.dup, 1) := by decide +kernel
theorem dX11_init_546 : decode cX11_init 546 = .ok (.bipush 71, 2) := by decide +kernel
theorem dX11_init_548 : decode cX11_init 548 = .ok (.bipush 32, 2) := by decide +kernel
theorem dX11_init_550 : decode cX11_init 550 = .ok (.iastore, 1) := by decide +kernel
theorem dX11_init_551 : decode cX11_init 551 = .ok (.dup, 1) := by decide +kernel
theorem dX11_init_552 : decode cX11_init 552 = .ok (.bipush 72, 2) := by decide +kernel
theorem dX11_init_554 : decode cX11_init 554 = .ok (.bipush 115, 2) := by decide +kernel
theorem dX11_init_556 : decode cX11_init 556 = .ok (.iastore, 1) := by decide +kernel
theorem dX11_init_557 : decode cX11_init 557 = .ok (.dup, 1) := by decide +kernel
theorem dX11_init_558 : decode cX11_init 558 = .ok (.bipush 73, 2) := by decide +kernel
theorem dX11_init_560 : decode cX11_init 560 = .ok (.bipush 111, 2) := by decide +kernel
theorem dX11_init_562 : decode cX11_init 562 = .ok (.iastore, 1) := by decide +kernel
theorem dX11_init_563 : decode cX11_init 563 = .ok (.dup, 1) := by decide +kernel
theorem dX11_init_564 : decode cX11_init 564 = .ok (.bipush 74, 2) := by decide +kernel
theorem dX11_init_566 : decode cX11_init 566 = .ok (.bipush 114, 2) := by decide +kernel
theorem dX11_init_568 : decode cX11_init 568 = .ok (.iastore, 1) := by decide +kernel
theorem dX11_init_569 : decode cX11_init 569 = .ok (.dup, 1) := by decide +kernel
theorem dX11_init_570 : decode cX11_init 570 = .ok (.bipush 75, 2) := by decide +kernel
theorem dX11_init_572 : decode cX11_init 572 = .ok (.bipush 116, 2) := by decide +kernel
theorem dX11_init_574 : decode cX11_init 574 = .ok (.iastore, 1) := by decide +kernel
theorem dX11_init_575 : decode cX11_init 575 = .ok (.dup, 1) := by decide +kernel
theorem dX11_init_576 : decode cX11_init 576 = .ok (.bipush 76, 2) := by decide +kernel
theorem dX11_init_578 : decode cX11_init 578 = .ok (.bipush 32, 2) := by decide +kernel
theorem dX11_init_580 : decode cX11_init 580 = .ok (.iastore, 1) := by decide +kernel
theorem dX11_init_581 : decode cX11_init 581 = .ok (.dup, 1) := by decide +kernel
theorem dX11_init_582 : decode cX11_init 582 = .ok (.bipush 77, 2) := by decide +kernel
theorem dX11_init_584 : decode cX11_init 584 = .ok (.bipush 114, 2) := by decide +kernel
theorem dX11_init_586 : decode cX11_init 586 = .ok (.iastore, 1) := by decide +kernel
theorem dX11_init_587 : decode cX11_init 587 = .ok (.dup, 1) := by decide +kernel
theorem dX11_init_588 : decode cX11_init 588 = .ok (.bipush 78, 2) := by decide +kernel
theorem dX11_init_590 : decode cX11_init 590 = .ok (.bipush 97, 2) := by decide +kernel
theorem dX11_init_592 : decode cX11_init 592 = .ok (.iastore, 1) := by decide +kernel
theorem dX11_init_593 : decode cX11_init 593 = .ok (.dup, 1) := by decide +kernel
theorem dX11_init_594 : decode cX11_init 594 = .ok (.bipush 79, 2) := by decide +kernel
theorem dX11_init_596 : decode cX11_init 596 = .ok (.bipush 105, 2) := by decide +kernel
theorem dX11_init_598 : decode cX11_init 598 = .ok (.iastore, 1) := by decide +kernel
theorem dX11_init_599 : decode cX11_init 599 = .ok (.dup, 1) := by decide +kernel
theorem dX11_init_600 : decode cX11_init 600 = .ok (.bipush 80, 2) := by decide +kernel
theorem dX11_init_602 : decode cX11_init 602 = .ok (.bipush 110, 2) := by decide +kernel
theorem dX11_init_604 : decode cX11_init 604 = .ok (.iastore, 1) := by decide +kernel
theorem dX11_init_605 : decode cX11_init 605 = .ok (.dup, 1) := by decide +kernel
theorem dX11_init_606 : decode cX11_init 606 = .ok (.bipush 81, 2) := by decide +kernel
theorem dX11_init_608 : decode cX11_init 608 = .ok (.bipush 32, 2) := by decide +kernel
theorem dX11_init_610 : decode cX11_init 610 = .ok (.iastore, 1) := by decide +kernel
theorem dX11_init_611 : decode cX11_init 611 = .ok (.dup, 1) := by decide +kernel
theorem dX11_init_612 : decode cX11_init 612 = .ok (.bipush 82, 2) := by decide +kernel
theorem dX11_init_614 : decode cX11_init 614 = .ok (.bipush 99, 2) := by decide +kernel
theorem dX11_init_616 : decode cX11_init 616 = .ok (.iastore, 1) := by decide +kernel
theorem dX11_init_617 : decode cX11_init 617 = .ok (.dup, 1) := by decide +kernel
theorem dX11_init_618 : decode cX11_init 618 = .ok (.bipush 83, 2) := by decide +kernel
theorem dX11_init_620 : decode cX11_init 620 = .ok (.bipush 108, 2) := by decide +kernel
theorem dX11_init_622 : decode cX11_init 622 = .ok (.iastore, 1) := by decide +kernel
theorem dX11_init_623 : decode cX11_init 623 = .ok (.dup, 1) := by decide +kernel
theorem dX11_init_624 : decode cX11_init 624 = .ok (.bipush 84, 2) := by decide +kernel
theorem dX11_init_626 : decode cX11_init 626 = .ok (.bipush 111, 2) := by decide +kernel
theorem dX11_init_628 : decode cX11_init 628 = .ok (.iastore, 1) := by decide +kernel
theorem dX11_init_629 : decode cX11_init 629 = .ok (.dup, 1) := by decide +kernel
theorem dX11_init_630 : decode cX11_init 630 = .ok (.bipush 85, 2) := by decide +kernel
theorem dX11_init_632 : decode cX11_init 632 = .ok (.bipush 99, 2) := by decide +kernel
theorem dX11_init_634 : decode cX11_init 634 = .ok (.iastore, 1) := by decide +kernel
theorem dX11_init_635 : decode cX11_init 635 = .ok (.dup, 1) := by decide +kernel
theorem dX11_init_636 : decode cX11_init 636 = .ok (.bipush 86, 2) := by decide +kernel
theorem dX11_init_638 : decode cX11_init 638 = .ok (.bipush 107, 2) := by decide +kernel
theorem dX11_init_640 : decode cX11_init 640 = .ok (.iastore, 1) := by decide +kernel
theorem dX11_init_641 : decode cX11_init 641 = .ok (.dup, 1) := by decide +kernel
theorem dX11_init_642 : decode cX11_init 642 = .ok (.bipush 87, 2) := by decide +kernel
theorem dX11_init_644 : decode cX11_init 644 = .ok (.bipush 32, 2) := by decide +kernel
theorem dX11_init_646 : decode cX11_init 646 = .ok (.iastore, 1) := by decide +kernel
theorem dX11_init_647 : decode cX11_init 647 = .ok (.dup, 1) := by decide +kernel
theorem dX11_init_648 : decode cX11_init 648 = .ok (.bipush 88, 2) := by decide +kernel
theorem dX11_init_650 : decode cX11_init 650 = .ok (.bipush 115, 2) := by decide +kernel
theorem dX11_init_652 : decode cX11_init 652 = .ok (.iastore, 1) := by decide +kernel
theorem dX11_init_653 : decode cX11_init 653 = .ok (.dup, 1) := by decide +kernel
theorem dX11_init_654 : decode cX11_init 654 = .ok (.bipush 89, 2) := by decide +kernel
theorem dX11_init_656 : decode cX11_init 656 = .ok (.bipush 104, 2) := by decide +kernel
theorem dX11_init_658 : decode cX11_init 658 = .ok (.iastore, 1) := by decide +kernel
theorem dX11_init_659 : decode cX11_init 659 = .ok (.dup, 1) := by decide +kernel
theorem dX11_init_660 : decode cX11_init 660 = .ok (.bipush 90, 2) := by decide +kernel
theorem dX11_init_662 : decode cX11_init 662 = .ok (.bipush 97, 2) := by decide +kernel
theorem dX11_init_664 : decode cX11_init 664 = .ok (.iastore, 1) := by decide +kernel
theorem dX11_init_665 : decode cX11_init 665 = .ok (.dup, 1) := by decide +kernel
theorem dX11_init_666 : decode cX11_init 666 = .ok (.bipush 91, 2) := by decide +kernel
theorem dX11_init_668 : decode cX11_init 668 = .ok (.bipush 107, 2) := by decide +kernel
theorem dX11_init_670 : decode cX11_init 670 = .ok (.iastore, 1) := by decide +kernel
theorem dX11_init_671 : decode cX11_init 671 = .ok (.dup, 1) := by decide +kernel
theorem dX11_init_672 : decode cX11_init 672 = .ok (.bipush 92, 2) := by decide +kernel
theorem dX11_init_674 : decode cX11_init 674 = .ok (.bipush 101, 2) := by decide +kernel
theorem dX11_init_676 : decode cX11_init 676 = .ok (.iastore, 1) := by decide +kernel
theorem dX11_init_677 : decode cX11_init 677 = .ok (.dup, 1) := by decide +kernel
theorem dX11_init_678 : decode cX11_init 678 = .ok (.bipush 93, 2) := by decide +kernel
theorem dX11_init_680 : decode cX11_init 680 = .ok (.bipush 110, 2) := by decide +kernel
theorem dX11_init_682 : decode cX11_init 682 = .ok (.iastore, 1) := by decide +kernel
theorem dX11_init_683 : decode cX11_init 683 = .ok (.dup, 1) := by decide +kernel
theorem dX11_init_684 : decode cX11_init 684 = .ok (.bipush 94, 2) := by decide +kernel
theorem dX11_init_686 : decode cX11_init 686 = .ok (.bipush 32, 2) := by decide +kernel
theorem dX11_init_688 : decode cX11_init 688 = .ok (.iastore, 1) := by decide +kernel
theorem dX11_init_689 : decode cX11_init 689 = .ok (.dup, 1) := by decide +kernel
theorem dX11_init_690 : decode cX11_init 690 = .ok (.bipush 95, 2) := by decide +kernel
theorem dX11_init_692 : decode cX11_init 692 = .ok (.bipush 108, 2) := by decide +kernel
theorem dX11_init_694 : decode cX11_init 694 = .ok (.iastore, 1) := by decide +kernel
theorem dX11_init_695 : decode cX11_init 695 = .ok (.dup, 1) := by decide +kernel
theorem dX11_init_696 : decode cX11_init 696 = .ok (.bipush 96, 2) := by decide +kernel
theorem dX11_init_698 : decode cX11_init 698 = .ok (.bipush 105, 2) := by decide +kernel
theorem dX11_init_700 : decode cX11_init 700 = .ok (.iastore, 1) := by decide +kernel
theorem dX11_init_701 : decode cX11_init 701 = .ok (.dup, 1) := by decide +kernel
theorem dX11_init_702 : decode cX11_init 702 = .ok (.bipush 97, 2) := by decide +kernel
theorem dX11_init_704 : decode cX11_init 704 = .ok (.bipush 116, 2) := by decide +kernel
theorem dX11_init_706 : decode cX11_init 706 = .ok (.iastore, 1) := by decide +kernel
theorem dX11_init_707 : decode cX11_init 707 = .ok (.dup, 1) := by decide +kernel
theorem dX11_init_708 : decode cX11_init 708 = .ok (.bipush 98, 2) := by decide +kernel
theorem dX11_init_710 : decode cX11_init 710 = .ok (.bipush 32, 2) := by decide +kernel
theorem dX11_init_712 : decode cX11_init 712 = .ok (.iastore, 1) := by decide +kernel
theorem dX11_init_713 : decode cX11_init 713 = .ok (.dup, 1) := by decide +kernel
theorem dX11_init_714 : decode cX11_init 714 = .ok (.bipush 99, 2) := by decide +kernel
theorem dX11_init_716 : decode cX11_init 716 = .ok (.bipush 115, 2) := by decide +kernel
theorem dX11_init_718 : decode cX11_init 718 = .ok (.iastore, 1) := by decide +kernel
theorem dX11_init_719 : decode cX11_init 719 = .ok (.dup, 1) := by decide +kernel
theorem dX11_init_720 : decode cX11_init 720 = .ok (.bipush 100, 2) := by decide +kernel
theorem dX11_init_722 : decode cX11_init 722 = .ok (.bipush 97, 2) := by decide +kernel
theorem dX11_init_724 : decode cX11_init 724 = .ok (.iastore, 1) := by decide +kernel
theorem dX11_init_725 : decode cX11_init 725 = .ok (.dup, 1) := by decide +kernel
theorem dX11_init_726 : decode cX11_init 726 = .ok (.bipush 101, 2) := by decide +kernel
theorem dX11_init_728 : decode cX11_init 728 = .ok (.bipush 105, 2) := by decide +kernel
theorem dX11_init_730 : decode cX11_init 730 = .ok (.iastore, 1) := by decide +kernel
theorem dX11_init_731 : decode cX11_init 731 = .ok (.dup, 1) := by decide +kernel
theorem dX11_init_732 : decode cX11_init 732 = .ok (.bipush 102, 2) := by decide +kernel
theorem dX11_init_734 : decode cX11_init 734 = .ok (.bipush 100, 2) := by decide +kernel
theorem dX11_init_736 : decode cX11_init 736 = .ok (.iastore, 1) := by decide +kernel
theorem dX11_init_737 : decode cX11_init 737 = .ok (.dup, 1) := by decide +kernel
theorem dX11_init_738 : decode cX11_init 738 = .ok (.bipush 103, 2) := by decide +kernel
theorem dX11_init_740 : decode cX11_init 740 = .ok (.bipush 32, 2) := by decide +kernel
theorem dX11_init_742 : decode cX11_init 742 = .ok (.iastore, 1) := by decide +kernel
theorem dX11_init_743 : decode cX11_init 743 = .ok (.dup, 1) := by decide +kernel
theorem dX11_init_744 : decode cX11_init 744 = .ok (.bipush 104, 2) := by decide +kernel
theorem dX11_init_746 : decode cX11_init 746 = .ok (.bipush 99, 2) := by decide +kernel
theorem dX11_init_748 : decode cX11_init 748 = .ok (.iastore, 1) := by decide +kernel
theorem dX11_init_749 : decode cX11_init 749 = .ok (.dup, 1) := by decide +kernel
theorem dX11_init_750 : decode cX11_init 750 = .ok (.bipush 105, 2) := by decide +kernel
theorem dX11_init_752 : decode cX11_init 752 = .ok (.bipush 97, 2) := by decide +kernel
theorem dX11_init_754 : decode cX11_init 754 = .ok (.iastore, 1) := by decide +kernel
theorem dX11_init_755 : decode cX11_init 755 = .ok (.dup, 1) := by decide +kernel
theorem dX11_init_756 : decode cX11_init 756 = .ok (.bipush 106, 2) := by decide +kernel
theorem dX11_init_758 : decode cX11_init 758 = .ok (.bipush 110, 2) := by decide +kernel
theorem dX11_init_760 : decode cX11_init 760 = .ok (.iastore, 1) := by decide +kernel
theorem dX11_init_761 : decode cX11_init 761 = .ok (.dup, 1) := by decide +kernel
theorem dX11_init_762 : decode cX11_init 762 = .ok (.bipush 107, 2) := by decide +kernel
theorem dX11_init_764 : decode cX11_init 764 = .ok (.bipush 32, 2) := by decide +kernel
theorem dX11_init_766 : decode cX11_init 766 = .ok (.iastore, 1) := by decide +kernel
theorem dX11_init_767 : decode cX11_init 767 = .ok (.dup, 1) := by decide +kernel
theorem dX11_init_768 : decode cX11_init 768 = .ok (.bipush 108, 2) := by decide +kernel
theorem dX11_init_770 : decode cX11_init 770 = .ok (.bipush 97, 2) := by decide +kernel
theorem dX11_init_772 : decode cX11_init 772 = .ok (.iastore, 1) := by decide +kernel
theorem dX11_init_773 : decode cX11_init 773 = .ok (.dup, 1) := by decide +kernel
theorem dX11_init_774 : decode cX11_init 774 = .ok (.bipush 109, 2) := by decide +kernel
theorem dX11_init_776 : decode cX11_init 776 = .ok (.bipush 103, 2) := by decide +kernel
theorem dX11_init_778 : decode cX11_init 778 = .ok (.iastore, 1) := by decide +kernel
theorem dX11_init_779 : decode cX11_init 779 = .ok (.dup, 1) := by decide +kernel
theorem dX11_init_780 : decode cX11_init 780 = .ok (.bipush 110, 2) := by decide +kernel
theorem dX11_init_782 : decode cX11_init 782 = .ok (.bipush 101, 2) := by decide +kernel
theorem dX11_init_784 : decode cX11_init 784 = .ok (.iastore, 1) := by decide +kernel
theorem dX11_init_785 : decode cX11_init 785 = .ok (.dup, 1) := by decide +kernel
theorem dX11_init_786 : decode cX11_init 786 = .ok (.bipush 111, 2) := by decide +kernel
theorem dX11_init_788 : decode cX11_init 788 = .ok (.bipush 32, 2) := by decide +kernel
theorem dX11_init_790 : decode cX11_init 790 = .ok (.iastore, 1) := by decide +kernel
theorem dX11_init_791 : decode cX11_init 791 = .ok (.dup, 1) := by decide +kernel
theorem dX11_init_792 : decode cX11_init 792 = .ok (.bipush 112, 2) := by decide +kernel
theorem dX11_init_794 : decode cX11_init 794 = .ok (.bipush 100, 2) := by decide +kernel
theorem dX11_init_796 : decode cX11_init 796 = .ok (.iastore, 1) := by decide +kernel
theorem dX11_init_797 : decode cX11_init 797 = .ok (.dup, 1) := by decide +kernel
theorem dX11_init_798 : decode cX11_init 798 = .ok (.bipush 113, 2) := by decide +kernel
theorem dX11_init_800 : decode cX11_init 800 = .ok (.bipush 97, 2) := by decide +kernel
theorem dX11_init_802 : decode cX11_init 802 = .ok (.iastore, 1) := by decide +kernel
theorem dX11_init_803 : decode cX11_init 803 = .ok (.dup, 1) := by decide +kernel
theorem dX11_init_804 : decode cX11_init 804 = .ok (.bipush 114, 2) := by decide +kernel
theorem dX11_init_806 : decode cX11_init 806 = .ok (.bipush 121, 2) := by decide +kernel
theorem dX11_init_808 : decode cX11_init 808 = .ok (.iastore, 1) := by decide +kernel
theorem dX11_init_809 : decode cX11_init 809 = .ok (.dup, 1) := by decide +kernel
theorem dX11_init_810 : decode cX11_init 810 = .ok (.bipush 115, 2) := by decide +kernel
theorem dX11_init_812 : decode cX11_init 812 = .ok (.bipush 32, 2) := by decide +kernel
theorem dX11_init_814 : decode cX11_init 814 = .ok (.iastore, 1) := by decide +kernel
theorem dX11_init_815 : decode cX11_init 815 = .ok (.dup, 1) := by decide +kernel
theorem dX11_init_816 : decode cX11_init 816 = .ok (.bipush 116, 2) := by decide +kernel
theorem dX11_init_818 : decode cX11_init 818 = .ok (.bipush 108, 2) := by decide +kernel
theorem dX11_init_820 : decode cX11_init 820 = .ok (.iastore, 1) := by decide +kernel
theorem dX11_init_821 : decode cX11_init 821 = .ok (.dup, 1) := by decide +kernel
theorem dX11_init_822 : decode cX11_init 822 = .ok (.bipush 117, 2) := by decide +kernel
theorem dX11_init_824 : decode cX11_init 824 = .ok (.bipush 111, 2) := by decide +kernel
theorem dX11_init_826 : decode cX11_init 826 = .ok (.iastore, 1) := by decide +kernel
theorem dX11_init_827 : decode cX11_init 827 = .ok (.dup, 1) := by decide +kernel
theorem dX11_init_828 : decode cX11_init 828 = .ok (.bipush 118, 2) := by decide +kernel
theorem dX11_init_830 : decode cX11_init 830 = .ok (.bipush 97, 2) := by decide +kernel
theorem dX11_init_832 : decode cX11_init 832 = .ok (.iastore, 1) := by decide +kernel
theorem dX11_init_833 : decode cX11_init 833 = .ok (.dup, 1) := by decide +kernel
theorem dX11_init_834 : decode cX11_init 834 = .ok (.bipush 119, 2) := by decide +kernel
theorem dX11_init_836 : decode cX11_init 836 = .ok (.bipush 100, 2) := by decide +kernel
theorem dX11_init_838 : decode cX11_init 838 = .ok (.iastore, 1) := by decide +kernel
theorem dX11_init_839 : decode cX11_init 839 = .ok (.dup, 1) := by decide +kernel
theorem dX11_init_840 : decode cX11_init 840 = .ok (.bipush 120, 2) := by decide +kernel
theorem dX11_init_842 : decode cX11_init 842 = .ok (.bipush 101, 2) := by decide +kernel
theorem dX11_init_844 : decode cX11_init 844 = .ok (.iastore, 1) := by decide +kernel
theorem dX11_init_845 : decode cX11_init 845 = .ok (.dup, 1) := by decide +kernel
theorem dX11_init_846 : decode cX11_init 846 = .ok (.bipush 121, 2) := by decide +kernel
theorem dX11_init_848 : decode cX11_init 848 = .ok (.bipush 100, 2) := by decide +kernel
theorem dX11_init_850 : decode cX11_init 850 = .ok (.iastore, 1) := by decide +kernel
theorem dX11_init_851 : decode cX11_init 851 = .ok (.dup, 1) := by decide +kernel
theorem dX11_init_852 : decode cX11_init 852 = .ok (.bipush 122, 2) := by decide +kernel
theorem dX11_init_854 : decode cX11_init 854 = .ok (.bipush 32, 2) := by decide +kernel
theorem dX11_init_856 : decode cX11_init 856 = .ok (.iastore, 1) := by decide +kernel
theorem dX11_init_857 : decode cX11_init 857 = .ok (.dup, 1) := by decide +kernel
theorem dX11_init_858 : decode cX11_init 858 = .ok (.bipush 123, 2) := by decide +kernel
theorem dX11_init_860 : decode cX11_init 860 = .ok (.bipush 115, 2) := by decide +kernel
theorem dX11_init_862 : decode cX11_init 862 = .ok (.iastore, 1) := by decide +kernel
theorem dX11_init_863 : decode cX11_init 863 = .ok (.dup, 1) := by decide +kernel
theorem dX11_init_864 : decode cX11_init 864 = .ok (.bipush 124, 2) := by decide +kernel
theorem dX11_init_866 : decode cX11_init 866 = .ok (.bipush 119, 2) := by decide +kernel
theorem dX11_init_868 : decode cX11_init 868 = .ok (.iastore, 1) := by decide +kernel
theorem dX11_init_869 : decode cX11_init 869 = .ok (.dup, 1) := by decide +kernel
theorem dX11_init_870 : decode cX11_init 870 = .ok (.bipush 125, 2) := by decide +kernel
theorem dX11_init_872 : decode cX11_init 872 = .ok (.bipush 101, 2) := by decide +kernel
theorem dX11_init_874 : decode cX11_init 874 = .ok (.iastore, 1) := by decide +kernel
theorem dX11_init_875 : decode cX11_init 875 = .ok (.dup, 1) := by decide +kernel
theorem dX11_init_876 : decode cX11_init 876 = .ok (.bipush 126, 2) := by decide +kernel
theorem dX11_init_878 : decode cX11_init 878 = .ok (.bipush 108, 2) := by decide +kernel
theorem dX11_init_880 : decode cX11_init 880 = .ok (.iastore, 1) := by decide +kernel
theorem dX11_init_881 : decode cX11_init 881 = .ok (.dup, 1) := by decide +kernel
theorem dX11_init_882 : decode cX11_init 882 = .ok (.bipush 127, 2) := by decide +kernel
theorem dX11_init_884 : decode cX11_init 884 = .ok (.bipush 108, 2) := by decide +kernel
theorem dX11_init_886 : decode cX11_init 886 = .ok (.iastore, 1) := by decide +kernel
theorem dX11_init_887 : decode cX11_init 887 = .ok (.dup, 1) := by decide +kernel
theorem dX11_init_888 : decode cX11_init 888 = .ok (.sipush 128, 3) := by decide +kernel
theorem dX11_init_891 : decode cX11_init 891 = .ok (.bipush 32, 2) := by decide +kernel
theorem dX11_init_893 : decode cX11_init 893 = .ok (.iastore, 1) := by decide +kernel
theorem dX11_init_894 : decode cX11_init 894 = .ok (.dup, 1) := by decide +kernel
theorem dX11_init_895 : decode cX11_init 895 = .ok (.sipush 129, 3) := by decide +kernel
theorem dX11_init_898 : decode cX11_init 898 = .ok (.bipush 112, 2) := by decide +kernel
theorem dX11_init_900 : decode cX11_init 900 = .ok (.iastore, 1) := by decide +kernel
theorem dX11_init_901 : decode cX11_init 901 = .ok (.dup, 1) := by decide +kernel
theorem dX11_init_902 : decode cX11_init 902 = .ok (.sipush 130, 3) := by decide +kernel
theorem dX11_init_905 : decode cX11_init 905 = .ok (.bipush 111, 2) := by decide +kernel
theorem dX11_init_907 : decode cX11_init 907 = .ok (.iastore, 1) := by decide +kernel
theorem dX11_init_908 : decode cX11_init 908 = .ok (.dup, 1) := by decide +kernel
theorem dX11_init_909 : decode cX11_init 909 = .ok (.sipush 131, 3) := by decide +kernel
theorem dX11_init_912 : decode cX11_init 912 = .ok (.bipush 114, 2) := by decide +kernel
theorem dX11_init_914 : decode cX11_init 914 = .ok (.iastore, 1) := by decide +kernel
theorem dX11_init_915 : decode cX11_init 915 = .ok (.dup, 1) := by decide +kernel
theorem dX11_init_916 : decode cX11_init 916 = .ok (.sipush 132, 3) := by decide +kernel
theorem dX11_init_919 : decode cX11_init 919 = .ok (.bipush 116, 2) := by decide +kernel
theorem dX11_init_921 : decode cX11_init 921 = .ok (.iastore, 1) := by decide +kernel
theorem dX11_init_922 : decode cX11_init 922 = .ok (.dup, 1) := by decide +kernel
theorem dX11_init_923 : decode cX11_init 923 = .ok (.sipush 133, 3) := by decide +kernel
theorem dX11_init_926 : decode cX11_init 926 = .ok (.bipush 32, 2) := by decide +kernel
theorem dX11_init_928 : decode cX11_init 928 = .ok (.iastore, 1) := by decide +kernel
theorem dX11_init_929 : decode cX11_init 929 = .ok (.putfield 50, 3) := by decide +kernel
theorem dX11_init_932 : decode cX11_init 932 = .ok (.aload_n 0, 1) := by decide +kernel
theorem dX11_init_933 : decode cX11_init 933 = .ok (.iconst 3, 1) := by decide +kernel
theorem dX11_init_934 : decode cX11_init 934 = .ok (.newarray .int, 2) := by decide +kernel
theorem dX11_init_936 : decode cX11_init 936 = .ok (.putfield 53, 3) := by decide +kernel
theorem dX11_init_939 : decode cX11_init 939 = .ok (.aload_n 0, 1) := by decide +kernel
theorem dX11_init_940 : decode cX11_init 940 = .ok (.bipush 48, 2) := by decide +kernel
theorem dX11_init_942 : decode cX11_init 942 = .ok (.newarray .int, 2) := by decide +kernel
theorem dX11_init_944 : decode cX11_init 944 = .ok (.putfield 56, 3) := by decide +kernel
theorem dX11_init_947 : decode cX11_init 947 = .ok (.aload_n 0, 1) := by decide +kernel
theorem dX11_init_948 : decode cX11_init 948 = .ok (.bipush 48, 2) := by decide +kernel
theorem dX11_init_950 : decode cX11_init 950 = .ok (.newarray .int, 2) := by decide +kernel
theorem dX11_init_952 : decode cX11_init 952 = .ok (.putfield 59, 3) := by decide +kernel
theorem dX11_init_955 : decode cX11_init 955 = .ok (.aload_n 0, 1) := by decide +kernel
theorem dX11_init_956 : decode cX11_init 956 = .ok (.bipush 48, 2) := by decide +kernel
theorem dX11_init_958 : decode cX11_init 958 = .ok (.newarray .int, 2) := by decide +kernel
theorem dX11_init_960 : decode cX11_init 960 = .ok (.putfield 62, 3) := by decide +kernel
theorem dX11_init_963 : decode cX11_init 963 = .ok (.aload_n 0, 1) := by decide +kernel
theorem dX11_init_964 : decode cX11_init 964 = .ok (.bipush 48, 2) := by decide +kernel
theorem dX11_init_966 : decode cX11_init 966 = .ok (.newarray .int, 2) := by decide +kernel
theorem dX11_init_968 : decode cX11_init 968 = .ok (.putfield 65, 3) := by decide +kernel
theorem dX11_init_971 : decode cX11_init 971 = .ok (.aload_n 0, 1) := by decide +kernel
theorem dX11_init_972 : decode cX11_init 972 = .ok (.bipush 48, 2) := by decide +kernel
theorem dX11_init_974 : decode cX11_init 974 = .ok (.newarray .int, 2) := by decide +kernel
theorem dX11_init_976 : decode cX11_init 976 = .ok (.putfield 68, 3) := by decide +kernel
theorem dX11_init_979 : decode cX11_init 979 = .ok (.aload_n 0, 1) := by decide +kernel
theorem dX11_init_980 : decode cX11_init 980 = .ok (.sipush 1800, 3) := by decide +kernel
theorem dX11_init_983 : decode cX11_init 983 = .ok (.newarray .int, 2) := by decide +kernel
theorem dX11_init_985 : decode cX11_init 985 = .ok (.putfield 71, 3) := by decide +kernel
theorem dX11_init_988 : decode cX11_init 988 = .ok (.aload_n 0, 1) := by decide +kernel
theorem dX11_init_989 : decode cX11_init 989 = .ok (.sipush 1800, 3) := by decide +kernel
theorem dX11_init_992 : decode cX11_init 992 = .ok (.newarray .int, 2) := by decide +kernel
theorem dX11_init_994 : decode cX11_init 994 = .ok (.putfield 74, 3) := by decide +kernel
theorem dX11_init_997 : decode cX11_init 997 = .ok (.aload_n 0, 1) := by decide +kernel
theorem dX11_init_998 : decode cX11_init 998 = .ok (.bipush 40, 2) := by decide +kernel
theorem dX11_init_1000 : decode cX11_init 1000 = .ok (.newarray .int, 2) := by decide +kernel
theorem dX11_init_1002 : decode cX11_init 1002 = .ok (.putfield 77, 3) := by decide +kernel
theorem dX11_init_1005 : decode cX11_init 1005 = .ok (.aload_n 0, 1) := by decide +kernel
theorem dX11_init_1006 : decode cX11_init 1006 = .ok (.iconst (-1), 1) := by decide +kernel
theorem dX11_init_1007 : decode cX11_init 1007 = .ok (.putfield 80, 3) := by decide +kernel
theorem dX11_init_1010 : decode cX11_init 1010 = .ok (.aload_n 0, 1) := by decide +kernel
theorem dX11_init_1011 : decode cX11_init 1011 = .ok (.bipush 16, 2) := by decide +kernel
theorem dX11_init_1013 : decode cX11_init 1013 = .ok (.newarray .int, 2) := by decide +kernel
theorem dX11_init_1015 : decode cX11_init 1015 = .ok (.putfield 84, 3) := by decide +kernel
theorem dX11_init_1018 : decode cX11_init 1018 = .ok (.aload_n 0, 1) := by decide +kernel
theorem dX11_init_1019 : decode cX11_init 1019 = .ok (.sipush 620, 3) := by decide +kernel
theorem dX11_init_1022 : decode cX11_init 1022 = .ok (.newarray .int, 2) := by decide +kernel
theorem dX11_init_1024 : decode cX11_init 1024 = .ok (.putfield 87, 3) := by decide +kernel
theorem dX11_init_1027 : decode cX11_init 1027 = .ok (.aload_n 0, 1) := by decide +kernel
theorem dX11_init_1028 : decode cX11_init 1028 = .ok (.sipush 256, 3) := by decide +kernel
theorem dX11_init_1031 : decode cX11_init 1031 = .ok (.newarray .int, 2) := by decide +kernel
theorem dX11_init_1033 : decode cX11_init 1033 = .ok (.putfield 90, 3) := by decide +kernel
theorem dX11_init_1036 : decode cX11_init 1036 = .ok (.aload_n 0, 1) := by decide +kernel
theorem dX11_init_1037 : decode cX11_init 1037 = .ok (.bipush 7, 2) := by decide +kernel
theorem dX11_init_1039 : decode cX11_init 1039 = .ok (.newarray .int, 2) := by decide +kernel
theorem dX11_init_1041 : decode cX11_init 1041 = .ok (.dup, 1) := by decide +kernel
theorem dX11_init_1042 : decode cX11_init 1042 = .ok (.iconst 0, 1) := by decide +kernel
theorem dX11_init_1043 : decode cX11_init 1043 = .ok (.iconst 0, 1) := by decide +kernel
theorem dX11_init_1044 : decode cX11_init 1044 = .ok (.iastore, 1) := by decide +kernel
theorem dX11_init_1045 : decode cX11_init 1045 = .ok (.dup, 1) := by decide +kernel
theorem dX11_init_1046 : decode cX11_init 1046 = .ok (.iconst 1, 1) := by decide +kernel
theorem dX11_init_1047 : decode cX11_init 1047 = .ok (.bipush 20, 2) := by decide +kernel
theorem dX11_init_1049 : decode cX11_init 1049 = .ok (.iastore, 1) := by decide +kernel
theorem dX11_init_1050 : decode cX11_init 1050 = .ok (.dup, 1) := by decide +kernel
theorem dX11_init_1051 : decode cX11_init 1051 = .ok (.iconst 2, 1) := by decide +kernel
theorem dX11_init_1052 : decode cX11_init 1052 = .ok (.bipush 40, 2) := by decide +kernel
theorem dX11_init_1054 : decode cX11_init 1054 = .ok (.iastore, 1) := by decide +kernel
theorem dX11_init_1055 : decode cX11_init 1055 = .ok (.dup, 1) := by decide +kernel
theorem dX11_init_1056 : decode cX11_init 1056 = .ok (.iconst 3, 1) := by decide +kernel
theorem dX11_init_1057 : decode cX11_init 1057 = .ok (.bipush 50, 2) := by decide +kernel
theorem dX11_init_1059 : decode cX11_init 1059 = .ok (.iastore, 1) := by decide +kernel
theorem dX11_init_1060 : decode cX11_init 1060 = .ok (.dup, 1) := by decide +kernel
theorem dX11_init_1061 : decode cX11_init 1061 = .ok (.iconst 4, 1) := by decide +kernel
theorem dX11_init_1062 : decode cX11_init 1062 = .ok (.bipush 40, 2) := by decide +kernel
theorem dX11_init_1064 : decode cX11_init 1064 = .ok (.iastore, 1) := by decide +kernel
theorem dX11_init_1065 : decode cX11_init 1065 = .ok (.dup, 1) := by decide +kernel
theorem dX11_init_1066 : decode cX11_init 1066 = .ok (.iconst 5, 1) := by decide +kernel
theorem dX11_init_1067 : decode cX11_init 1067 = .ok (.bipush 20, 2) := by decide +kernel
theorem dX11_init_1069 : decode cX11_init 1069 = .ok (.iastore, 1) := by decide +kernel
theorem dX11_init_1070 : decode cX11_init 1070 = .ok (.dup, 1) := by decide +kernel
theorem dX11_init_1071 : decode cX11_init 1071 = .ok (.bipush 6, 2) := by decide +kernel
theorem dX11_init_1073 : decode cX11_init 1073 = .ok (.iconst 0, 1) := by decide +kernel
theorem dX11_init_1074 : decode cX11_init 1074 = .ok (.iastore, 1) := by decide +kernel
theorem dX11_init_1075 : decode cX11_init 1075 = .ok (.putfield 93, 3) := by decide +kernel
theorem dX11_init_1078 : decode cX11_init 1078 = .ok (.aload_n 0, 1) := by decide +kernel
theorem dX11_init_1079 : decode cX11_init 1079 = .ok (.bipush 60, 2) := by decide +kernel
theorem dX11_init_1081 : decode cX11_init 1081 = .ok (.putfield 96, 3) := by decide +kernel
theorem dX11_init_1084 : decode cX11_init 1084 = .ok (.aload_n 0, 1) := by decide +kernel
theorem dX11_init_1085 : decode cX11_init 1085 = .ok (.iconst 4, 1) := by decide +kernel
theorem dX11_init_1086 : decode cX11_init 1086 = .ok (.newarray .int, 2) := by decide +kernel
theorem dX11_init_1088 : decode cX11_init 1088 = .ok (.putfield 99, 3) := by decide +kernel
theorem dX11_init_1091 : decode cX11_init 1091 = .ok (.aload_n 0, 1) := by decide +kernel
theorem dX11_init_1092 : decode cX11_init 1092 = .ok (.bipush 37, 2) := by decide +kernel
theorem dX11_init_1094 : decode cX11_init 1094 = .ok (.newarray .int, 2) := by decide +kernel
theorem dX11_init_1096 : decode cX11_init 1096 = .ok (.putfield 102, 3) := by decide +kernel
theorem dX11_init_1099 : decode cX11_init 1099 = .ok (.aload_n 0, 1) := by decide +kernel
theorem dX11_init_1100 : decode cX11_init 1100 = .ok (.bipush 60, 2) := by decide +kernel
theorem dX11_init_1102 : decode cX11_init 1102 = .ok (.newarray .int, 2) := by decide +kernel
theorem dX11_init_1104 : decode cX11_init 1104 = .ok (.putfield 105, 3) := by decide +kernel
theorem dX11_init_1107 : decode cX11_init 1107 = .ok (.aload_n 0, 1) := by decide +kernel
theorem dX11_init_1108 : decode cX11_init 1108 = .ok (.bipush 60, 2) := by decide +kernel
theorem dX11_init_1110 : decode cX11_init 1110 = .ok (.newarray .int, 2) := by decide +kernel
theorem dX11_init_1112 : decode cX11_init 1112 = .ok (.putfield 108, 3) := by decide +kernel
theorem dX11_init_1115 : decode cX11_init 1115 = .ok (.aload_n 0, 1) := by decide +kernel
theorem dX11_init_1116 : decode cX11_init 1116 = .ok (.bipush 60, 2) := by decide +kernel
theorem dX11_init_1118 : decode cX11_init 1118 = .ok (.newarray .int, 2) := by decide +kernel
theorem dX11_init_1120 : decode cX11_init 1120 = .ok (.putfield 111, 3) := by decide +kernel
theorem dX11_init_1123 : decode cX11_init 1123 = .ok (.aload_n 0, 1) := by decide +kernel
theorem dX11_init_1124 : decode cX11_init 1124 = .ok (.iconst 3, 1) := by decide +kernel
theorem dX11_init_1125 : decode cX11_init 1125 = .ok (.putfield 114, 3) := by decide +kernel
theorem dX11_init_1128 : decode cX11_init 1128 = .ok (.aload_n 0, 1) := by decide +kernel
theorem dX11_init_1129 : decode cX11_init 1129 = .ok (.iconst (-1), 1) := by decide +kernel
theorem dX11_init_1130 : decode cX11_init 1130 = .ok (.putfield 117, 3) := by decide +kernel
theorem dX11_init_1133 : decode cX11_init 1133 = .ok (.aload_n 0, 1) := by decide +kernel
theorem dX11_init_1134 : decode cX11_init 1134 = .ok (.bipush 8, 2) := by decide +kernel
theorem dX11_init_1136 : decode cX11_init 1136 = .ok (.newarray .int, 2) := by decide +kernel
theorem dX11_init_1138 : decode cX11_init 1138 = .ok (.dup, 1) := by decide +kernel
theorem dX11_init_1139 : decode cX11_init 1139 = .ok (.iconst 0, 1) := by decide +kernel
theorem dX11_init_1140 : decode cX11_init 1140 = .ok (.iconst (-1), 1) := by decide +kernel
theorem dX11_init_1141 : decode cX11_init 1141 = .ok (.iastore, 1) := by decide +kernel
theorem dX11_init_1142 : decode cX11_init 1142 = .ok (.dup, 1) := by decide +kernel
theorem dX11_init_1143 : decode cX11_init 1143 = .ok (.iconst 1, 1) := by decide +kernel
theorem dX11_init_1144 : decode cX11_init 1144 = .ok (.iconst (-1), 1) := by decide +kernel
theorem dX11_init_1145 : decode cX11_init 1145 = .ok (.iastore, 1) := by decide +kernel
theorem dX11_init_1146 : decode cX11_init 1146 = .ok (.dup, 1) := by decide +kernel
theorem dX11_init_1147 : decode cX11_init 1147 = .ok (.iconst 2, 1) := by decide +kernel
theorem dX11_init_1148 : decode cX11_init 1148 = .ok (.iconst (-1), 1) := by decide +kernel
theorem dX11_init_1149 : decode cX11_init 1149 = .ok (.iastore, 1) := by decide +kernel
theorem dX11_init_1150 : decode cX11_init 1150 = .ok (.dup, 1) := by decide +kernel
theorem dX11_init_1151 : decode cX11_init 1151 = .ok (.iconst 3, 1) := by decide +kernel
theorem dX11_init_1152 : decode cX11_init 1152 = .ok (.iconst (-1), 1) := by decide +kernel
theorem dX11_init_1153 : decode cX11_init 1153 = .ok (.iastore, 1) := by decide +kernel
theorem dX11_init_1154 : decode cX11_init 1154 = .ok (.dup, 1) := by decide +kernel
theorem dX11_init_1155 : decode cX11_init 1155 = .ok (.iconst 4, 1) := by decide +kernel
theorem dX11_init_1156 : decode cX11_init 1156 = .ok (.iconst (-1), 1) := by decide +kernel
theorem dX11_init_1157 : decode cX11_init 1157 = .ok (.iastore, 1) := by decide +kernel
theorem dX11_init_1158 : decode cX11_init 1158 = .ok (.dup, 1) := by decide +kernel
theorem dX11_init_1159 : decode cX11_init 1159 = .ok (.iconst 5, 1) := by decide +kernel
theorem dX11_init_1160 : decode cX11_init 1160 = .ok (.iconst (-1), 1) := by decide +kernel
theorem dX11_init_1161 : decode cX11_init 1161 = .ok (.iastore, 1) := by decide +kernel
theorem dX11_init_1162 : decode cX11_init 1162 = .ok (.dup, 1) := by decide +kernel
theorem dX11_init_1163 : decode cX11_init 1163 = .ok (.bipush 6, 2) := by decide +kernel
theorem dX11_init_1165 : decode cX11_init 1165 = .ok (.iconst (-1), 1) := by decide +kernel
theorem dX11_init_1166 : decode cX11_init 1166 = .ok (.iastore, 1) := by decide +kernel
theorem dX11_init_1167 : decode cX11_init 1167 = .ok (.dup, 1) := by decide +kernel
theorem dX11_init_1168 : decode cX11_init 1168 = .ok (.bipush 7, 2) := by decide +kernel
theorem dX11_init_1170 : decode cX11_init 1170 = .ok (.iconst (-1), 1) := by decide +kernel
theorem dX11_init_1171 : decode cX11_init 1171 = .ok (.iastore, 1) := by decide +kernel
theorem dX11_init_1172 : decode cX11_init 1172 = .ok (.putfield 120, 3) := by decide +kernel
theorem dX11_init_1175 : decode cX11_init 1175 = .ok (.aload_n 0, 1) := by decide +kernel
theorem dX11_init_1176 : decode cX11_init 1176 = .ok (.sipush 256, 3) := by decide +kernel
theorem dX11_init_1179 : decode cX11_init 1179 = .ok (.newarray .int, 2) := by decide +kernel
theorem dX11_init_1181 : decode cX11_init 1181 = .ok (.putfield 123, 3) := by decide +kernel
theorem dX11_init_1184 : decode cX11_init 1184 = .ok (.aload_n 0, 1) := by decide +kernel
theorem dX11_init_1185 : decode cX11_init 1185 = .ok (.bipush 6, 2) := by decide +kernel
theorem dX11_init_1187 : decode cX11_init 1187 = .ok (.newarray .int, 2) := by decide +kernel
theorem dX11_init_1189 : decode cX11_init 1189 = .ok (.putfield 126, 3) := by decide +kernel
theorem dX11_init_1192 : decode cX11_init 1192 = .ok (.aload_n 0, 1) := by decide +kernel
theorem dX11_init_1193 : decode cX11_init 1193 = .ok (.sipush 200, 3) := by decide +kernel
theorem dX11_init_1196 : decode cX11_init 1196 = .ok (.newarray .int, 2) := by decide +kernel
theorem dX11_init_1198 : decode cX11_init 1198 = .ok (.putfield 129, 3) := by decide +kernel
theorem dX11_init_1201 : decode cX11_init 1201 = .ok (.aload_n 0, 1) := by decide +kernel
theorem dX11_init_1202 : decode cX11_init 1202 = .ok (.sipush 200, 3) := by decide +kernel
theorem dX11_init_1205 : decode cX11_init 1205 = .ok (.newarray .int, 2) := by decide +kernel
theorem dX11_init_1207 : decode cX11_init 1207 = .ok (.putfield 132, 3) := by decide +kernel
theorem dX11_init_1210 : decode cX11_init 1210 = .ok (.aload_n 0, 1) := by decide +kernel
theorem dX11_init_1211 : decode cX11_init 1211 = .ok (.sipush 200, 3) := by decide +kernel
theorem dX11_init_1214 : decode cX11_init 1214 = .ok (.newarray .int, 2) := by decide +kernel
theorem dX11_init_1216 : decode cX11_init 1216 = .ok (.putfield 135, 3) := by decide +kernel
theorem dX11_init_1219 : decode cX11_init 1219 = .ok (.aload_n 0, 1) := by decide +kernel
theorem dX11_init_1220 : decode cX11_init 1220 = .ok (.sipush 200, 3) := by decide +kernel
theorem dX11_init_1223 : decode cX11_init 1223 = .ok (.newarray .boolean, 2) := by decide +kernel
theorem dX11_init_1225 : decode cX11_init 1225 = .ok (.putfield 138, 3) := by decide +kernel
theorem dX11_init_1228 : decode cX11_init 1228 = .ok (.return_, 1) := by decide +kernel
theorem dX11_isIn_0 : decode cX11_isIn 0 = .ok (.iload_n 1, 1) := by decide +kernel
theorem dX11_isIn_1 : decode cX11_isIn 1 = .ok (.iload_n 2, 1) := by decide +kernel
theorem dX11_isIn_2 : decode cX11_isIn 2 = .ok (.if_icmp .lt 12, 3) := by decide +kernel
theorem dX11_isIn_5 : decode cX11_isIn 5 = .ok (.iload_n 1, 1) := by decide +kernel
theorem dX11_isIn_6 : decode cX11_isIn 6 = .ok (.iload_n 3, 1) := by decide +kernel
theorem dX11_isIn_7 : decode cX11_isIn 7 = .ok (.if_icmp .gt 7, 3) := by decide +kernel
theorem dX11_isIn_10 : decode cX11_isIn 10 = .ok (.iconst 1, 1) := by decide +kernel
theorem dX11_isIn_11 : decode cX11_isIn 11 = .ok (.goto 4, 3) := by decide +kernel
theorem dX11_isIn_14 : decode cX11_isIn 14 = .ok (.iconst 0, 1) := by decide +kernel
theorem dX11_isIn_15 : decode cX11_isIn 15 = .ok (.ireturn, 1) := by decide +kernel
theorem dX11_sort_0 : decode cX11_sort 0 = .ok (.aload_n 0, 1) := by decide +kernel
theorem dX11_sort_1 : decode cX11_sort 1 = .ok (.iconst 0, 1) := by decide +kernel
theorem dX11_sort_2 : decode cX11_sort 2 = .ok (.putfield 141, 3) := by decide +kernel
theorem dX11_sort_5 : decode cX11_sort 5 = .ok (.aload_n 0, 1) := by decide +kernel
theorem dX11_sort_6 : decode cX11_sort 6 = .ok (.iload_n 1, 1) := by decide +kernel
theorem dX11_sort_7 : decode cX11_sort 7 = .ok (.iconst 0, 1) := by decide +kernel
theorem dX11_sort_8 : decode cX11_sort 8 = .ok (.iconst 2, 1) := by decide +kernel
theorem dX11_sort_9 : decode cX11_sort 9 = .ok (.invokevirtual 144, 3) := by decide +kernel
theorem dX11_sort_12 : decode cX11_sort 12 = .ok (.ifCond .ne 5, 3) := by decide +kernel
theorem dX11_sort_15 : decode cX11_sort 15 = .ok (.iconst 0, 1) := by decide +kernel
theorem dX11_sort_16 : decode cX11_sort 16 = .ok (.ireturn, 1) := by decide +kernel
theorem dX11_sort_17 : decode cX11_sort 17 = .ok (.aload_n 0, 1) := by decide +kernel
theorem dX11_sort_18 : decode cX11_sort 18 = .ok (.iload_n 1, 1) := by decide +kernel
theorem dX11_sort_19 : decode cX11_sort 19 = .ok (.putfield 148, 3) := by decide +kernel
theorem dX11_sort_22 : decode cX11_sort 22 = .ok (.iconst 1, 1) := by decide +kernel
theorem dX11_sort_23 : decode cX11_sort 23 = .ok (.ireturn, 1) := by decide +kernel
theorem dX11_sky_0 : decode cX11_sky 0 = .ok (.aload_n 0, 1) := by decide +kernel
theorem dX11_sky_1 : decode cX11_sky 1 = .ok (.iconst 0, 1) := by decide +kernel
theorem dX11_sky_2 : decode cX11_sky 2 = .ok (.putfield 141, 3) := by decide +kernel
theorem dX11_sky_5 : decode cX11_sky 5 = .ok (.aload_n 0, 1) := by decide +kernel
theorem dX11_sky_6 : decode cX11_sky 6 = .ok (.iload_n 1, 1) := by decide +kernel
theorem dX11_sky_7 : decode cX11_sky 7 = .ok (.iconst 0, 1) := by decide +kernel
theorem dX11_sky_8 : decode cX11_sky 8 = .ok (.bipush 29, 2) := by decide +kernel
theorem dX11_sky_10 : decode cX11_sky 10 = .ok (.invokevirtual 144, 3) := by decide +kernel
theorem dX11_sky_13 : decode cX11_sky 13 = .ok (.ifCond .eq 25, 3) := by decide +kernel
theorem dX11_sky_16 : decode cX11_sky 16 = .ok (.aload_n 0, 1) := by decide +kernel
theorem dX11_sky_17 : decode cX11_sky 17 = .ok (.iload_n 2, 1) := by decide +kernel
theorem dX11_sky_18 : decode cX11_sky 18 = .ok (.iconst 0, 1) := by decide +kernel
theorem dX11_sky_19 : decode cX11_sky 19 = .ok (.bipush 9, 2) := by decide +kernel
theorem dX11_sky_21 : decode cX11_sky 21 = .ok (.invokevirtual 144, 3) := by decide +kernel
theorem dX11_sky_24 : decode cX11_sky 24 = .ok (.ifCond .eq 14, 3) := by decide +kernel
theorem dX11_sky_27 : decode cX11_sky 27 = .ok (.aload_n 0, 1) := by decide +kernel
theorem dX11_sky_28 : decode cX11_sky 28 = .ok (.iload_n 3, 1) := by decide +kernel
theorem dX11_sky_29 : decode cX11_sky 29 = .ok (.iconst 0, 1) := by decide +kernel
theorem dX11_sky_30 : decode cX11_sky 30 = .ok (.bipush 9, 2) := by decide +kernel
theorem dX11_sky_32 : decode cX11_sky 32 = .ok (.invokevirtual 144, 3) := by decide +kernel
theorem dX11_sky_35 : decode cX11_sky 35 = .ok (.ifCond .ne 5, 3) := by decide +kernel
theorem dX11_sky_38 : decode cX11_sky 38 = .ok (.iconst 0, 1) := by decide +kernel
theorem dX11_sky_39 : decode cX11_sky 39 = .ok (.ireturn, 1) := by decide +kernel
theorem dX11_sky_40 : decode cX11_sky 40 = .ok (.aload_n 0, 1) := by decide +kernel
theorem dX11_sky_41 : decode cX11_sky 41 = .ok (.getfield 7, 3) := by decide +kernel
theorem dX11_sky_44 : decode cX11_sky 44 = .ok (.iload_n 1, 1) := by decide +kernel
theorem dX11_sky_45 : decode cX11_sky 45 = .ok (.iload_n 2, 1) := by decide +kernel
theorem dX11_sky_46 : decode cX11_sky 46 = .ok (.iastore, 1) := by decide +kernel
theorem dX11_sky_47 : decode cX11_sky 47 = .ok (.aload_n 0, 1) := by decide +kernel
theorem dX11_sky_48 : decode cX11_sky 48 = .ok (.getfield 13, 3) := by decide +kernel
theorem dX11_sky_51 : decode cX11_sky 51 = .ok (.iload_n 1, 1) := by decide +kernel
theorem dX11_sky_52 : decode cX11_sky 52 = .ok (.iload_n 3, 1) := by decide +kernel
theorem dX11_sky_53 : decode cX11_sky 53 = .ok (.iastore, 1) := by decide +kernel
theorem dX11_sky_54 : decode cX11_sky 54 = .ok (.iconst 1, 1) := by decide +kernel
theorem dX11_sky_55 : decode cX11_sky 55 = .ok (.ireturn, 1) := by decide +kernel
theorem dX11_heapAt_0 : decode cX11_heapAt 0 = .ok (.aload_n 0, 1) := by decide +kernel
theorem dX11_heapAt_1 : decode cX11_heapAt 1 = .ok (.iload_n 1, 1) := by decide +kernel
theorem dX11_heapAt_2 : decode cX11_heapAt 2 = .ok (.iconst 0, 1) := by decide +kernel
theorem dX11_heapAt_3 : decode cX11_heapAt 3 = .ok (.bipush 7, 2) := by decide +kernel
theorem dX11_heapAt_5 : decode cX11_heapAt 5 = .ok (.invokevirtual 144, 3) := by decide +kernel
theorem dX11_heapAt_8 : decode cX11_heapAt 8 = .ok (.ifCond .eq 38, 3) := by decide +kernel
theorem dX11_heapAt_11 : decode cX11_heapAt 11 = .ok (.aload_n 0, 1) := by decide +kernel
theorem dX11_heapAt_12 : decode cX11_heapAt 12 = .ok (.iload_n 2, 1) := by decide +kernel
theorem dX11_heapAt_13 : decode cX11_heapAt 13 = .ok (.iconst 0, 1) := by decide +kernel
theorem dX11_heapAt_14 : decode cX11_heapAt 14 = .ok (.bipush 7, 2) := by decide +kernel
theorem dX11_heapAt_16 : decode cX11_heapAt 16 = .ok (.invokevirtual 144, 3) := by decide +kernel
theorem dX11_heapAt_19 : decode cX11_heapAt 19 = .ok (.ifCond .eq 27, 3) := by decide +kernel
theorem dX11_heapAt_22 : decode cX11_heapAt 22 = .ok (.aload_n 0, 1) := by decide +kernel
theorem dX11_heapAt_23 : decode cX11_heapAt 23 = .ok (.iload_n 3, 1) := by decide +kernel
theorem dX11_heapAt_24 : decode cX11_heapAt 24 = .ok (.iconst 0, 1) := by decide +kernel
theorem dX11_heapAt_25 : decode cX11_heapAt 25 = .ok (.iconst 3, 1) := by decide +kernel
theorem dX11_heapAt_26 : decode cX11_heapAt 26 = .ok (.invokevirtual 144, 3) := by decide +kernel
theorem dX11_heapAt_29 : decode cX11_heapAt 29 = .ok (.ifCond .eq 17, 3) := by decide +kernel
theorem dX11_heapAt_32 : decode cX11_heapAt 32 = .ok (.bipush 64, 2) := by decide +kernel
theorem dX11_heapAt_34 : decode cX11_heapAt 34 = .ok (.iload_n 3, 1) := by decide +kernel
theorem dX11_heapAt_35 : decode cX11_heapAt 35 = .ok (.imul, 1) := by decide +kernel
theorem dX11_heapAt_36 : decode cX11_heapAt 36 = .ok (.bipush 8, 2) := by decide +kernel
theorem dX11_heapAt_38 : decode cX11_heapAt 38 = .ok (.iload_n 2, 1) := by decide +kernel
theorem dX11_heapAt_39 : decode cX11_heapAt 39 = .ok (.imul, 1) := by decide +kernel
theorem dX11_heapAt_40 : decode cX11_heapAt 40 = .ok (.iadd, 1) := by decide +kernel
theorem dX11_heapAt_41 : decode cX11_heapAt 41 = .ok (.iload_n 1, 1) := by decide +kernel
theorem dX11_heapAt_42 : decode cX11_heapAt 42 = .ok (.iadd, 1) := by decide +kernel
theorem dX11_heapAt_43 : decode cX11_heapAt 43 = .ok (.goto 4, 3) := by decide +kernel
theorem dX11_heapAt_46 : decode cX11_heapAt 46 = .ok (.iconst (-1), 1) := by decide +kernel
theorem dX11_heapAt_47 : decode cX11_heapAt 47 = .ok (.ireturn, 1) := by decide +kernel
theorem dX11_holdAt_0 : decode cX11_holdAt 0 = .ok (.aload_n 0, 1) := by decide +kernel
theorem dX11_holdAt_1 : decode cX11_holdAt 1 = .ok (.iload_n 1, 1) := by decide +kernel
theorem dX11_holdAt_2 : decode cX11_holdAt 2 = .ok (.iconst 0, 1) := by decide +kernel
theorem dX11_holdAt_3 : decode cX11_holdAt 3 = .ok (.iconst 3, 1) := by decide +kernel
theorem dX11_holdAt_4 : decode cX11_holdAt 4 = .ok (.invokevirtual 144, 3) := by decide +kernel
theorem dX11_holdAt_7 : decode cX11_holdAt 7 = .ok (.ifCond .eq 37, 3) := by decide +kernel
theorem dX11_holdAt_10 : decode cX11_holdAt 10 = .ok (.aload_n 0, 1) := by decide +kernel
theorem dX11_holdAt_11 : decode cX11_holdAt 11 = .ok (.iload_n 2, 1) := by decide +kernel
theorem dX11_holdAt_12 : decode cX11_holdAt 12 = .ok (.iconst 0, 1) := by decide +kernel
theorem dX11_holdAt_13 : decode cX11_holdAt 13 = .ok (.iconst 5, 1) := by decide +kernel
theorem dX11_holdAt_14 : decode cX11_holdAt 14 = .ok (.invokevirtual 144, 3) := by decide +kernel
theorem dX11_holdAt_17 : decode cX11_holdAt 17 = .ok (.ifCond .eq 27, 3) := by decide +kernel
theorem dX11_holdAt_20 : decode cX11_holdAt 20 = .ok (.aload_n 0, 1) := by decide +kernel
theorem dX11_holdAt_21 : decode cX11_holdAt 21 = .ok (.iload_n 3, 1) := by decide +kernel
theorem dX11_holdAt_22 : decode cX11_holdAt 22 = .ok (.iconst 0, 1) := by decide +kernel
theorem dX11_holdAt_23 : decode cX11_holdAt 23 = .ok (.iconst 5, 1) := by decide +kernel
theorem dX11_holdAt_24 : decode cX11_holdAt 24 = .ok (.invokevirtual 144, 3) := by decide +kernel
theorem dX11_holdAt_27 : decode cX11_holdAt 27 = .ok (.ifCond .eq 17, 3) := by decide +kernel
theorem dX11_holdAt_30 : decode cX11_holdAt 30 = .ok (.bipush 36, 2) := by decide +kernel
theorem dX11_holdAt_32 : decode cX11_holdAt 32 = .ok (.iload_n 1, 1) := by decide +kernel
theorem dX11_holdAt_33 : decode cX11_holdAt 33 = .ok (.imul, 1) := by decide +kernel
theorem dX11_holdAt_34 : decode cX11_holdAt 34 = .ok (.bipush 6, 2) := by decide +kernel
theorem dX11_holdAt_36 : decode cX11_holdAt 36 = .ok (.iload_n 2, 1) := by decide +kernel
theorem dX11_holdAt_37 : decode cX11_holdAt 37 = .ok (.imul, 1) := by decide +kernel
theorem dX11_holdAt_38 : decode cX11_holdAt 38 = .ok (.iadd, 1) := by decide +kernel
theorem dX11_holdAt_39 : decode cX11_holdAt 39 = .ok (.iload_n 3, 1) := by decide +kernel
theorem dX11_holdAt_40 : decode cX11_holdAt 40 = .ok (.iadd, 1) := by decide +kernel
theorem dX11_holdAt_41 : decode cX11_holdAt 41 = .ok (.goto 4, 3) := by decide +kernel
theorem dX11_holdAt_44 : decode cX11_holdAt 44 = .ok (.iconst (-1), 1) := by decide +kernel
theorem dX11_holdAt_45 : decode cX11_holdAt 45 = .ok (.ireturn, 1) := by decide +kernel
theorem dX11_wetOf_0 : decode cX11_wetOf 0 = .ok (.iload_n 1, 1) := by decide +kernel
theorem dX11_wetOf_1 : decode cX11_wetOf 1 = .ok (.ifCond .ne 7, 3) := by decide +kernel
theorem dX11_wetOf_4 : decode cX11_wetOf 4 = .ok (.iconst 0, 1) := by decide +kernel
theorem dX11_wetOf_5 : decode cX11_wetOf 5 = .ok (.goto 6, 3) := by decide +kernel
theorem dX11_wetOf_8 : decode cX11_wetOf 8 = .ok (.iload_n 2, 1) := by decide +kernel
theorem dX11_wetOf_9 : decode cX11_wetOf 9 = .ok (.iload_n 1, 1) := by decide +kernel
theorem dX11_wetOf_10 : decode cX11_wetOf 10 = .ok (.idiv, 1) := by decide +kernel
theorem dX11_wetOf_11 : decode cX11_wetOf 11 = .ok (.ireturn, 1) := by decide +kernel
theorem dX11_heap_0 : decode cX11_heap 0 = .ok (.aload_n 0, 1) := by decide +kernel
theorem dX11_heap_1 : decode cX11_heap 1 = .ok (.iconst 0, 1) := by decide +kernel
theorem dX11_heap_2 : decode cX11_heap 2 = .ok (.putfield 141, 3) := by decide +kernel
theorem dX11_heap_5 : decode cX11_heap 5 = .ok (.aload_n 0, 1) := by decide +kernel
theorem dX11_heap_6 : decode cX11_heap 6 = .ok (.iload_n 1, 1) := by decide +kernel
theorem dX11_heap_7 : decode cX11_heap 7 = .ok (.iload_n 2, 1) := by decide +kernel
theorem dX11_heap_8 : decode cX11_heap 8 = .ok (.iload_n 3, 1) := by decide +kernel
theorem dX11_heap_9 : decode cX11_heap 9 = .ok (.invokevirtual 151, 3) := by decide +kernel
theorem dX11_heap_12 : decode cX11_heap 12 = .ok (.istore 6, 2) := by decide +kernel
theorem dX11_heap_14 : decode cX11_heap 14 = .ok (.iload 6, 2) := by decide +kernel
theorem dX11_heap_16 : decode cX11_heap 16 = .ok (.iconst (-1), 1) := by decide +kernel
theorem dX11_heap_17 : decode cX11_heap 17 = .ok (.if_icmp .eq 38, 3) := by decide +kernel
theorem dX11_heap_20 : decode cX11_heap 20 = .ok (.aload_n 0, 1) := by decide +kernel
theorem dX11_heap_21 : decode cX11_heap 21 = .ok (.iload 4, 2) := by decide +kernel
theorem dX11_heap_23 : decode cX11_heap 23 = .ok (.iconst 0, 1) := by decide +kernel
theorem dX11_heap_24 : decode cX11_heap 24 = .ok (.bipush 99, 2) := by decide +kernel
theorem dX11_heap_26 : decode cX11_heap 26 = .ok (.invokevirtual 144, 3) := by decide +kernel
theorem dX11_heap_29 : decode cX11_heap 29 = .ok (.ifCond .eq 26, 3) := by decide +kernel
theorem dX11_heap_32 : decode cX11_heap 32 = .ok (.aload_n 0, 1) := by decide +kernel
theorem dX11_heap_33 : decode cX11_heap 33 = .ok (.iload 5, 2) := by decide +kernel
theorem dX11_heap_35 : decode cX11_heap 35 = .ok (.iconst 0, 1) := by decide +kernel
theorem dX11_heap_36 : decode cX11_heap 36 = .ok (.sipush 9999, 3) := by decide +kernel
theorem dX11_heap_39 : decode cX11_heap 39 = .ok (.invokevirtual 144, 3) := by decide +kernel
theorem dX11_heap_42 : decode cX11_heap 42 = .ok (.ifCond .eq 13, 3) := by decide +kernel
theorem dX11_heap_45 : decode cX11_heap 45 = .ok (.iload 4, 2) := by decide +kernel
theorem dX11_heap_47 : decode cX11_heap 47 = .ok (.ifCond .ne 10, 3) := by decide +kernel
theorem dX11_heap_50 : decode cX11_heap 50 = .ok (.iload 5, 2) := by decide +kernel
theorem dX11_heap_52 : decode cX11_heap 52 = .ok (.ifCond .le 5, 3) := by decide +kernel
theorem dX11_heap_55 : decode cX11_heap 55 = .ok (.iconst 0, 1) := by decide +kernel
theorem dX11_heap_56 : decode cX11_heap 56 = .ok (.ireturn, 1) := by decide +kernel
theorem dX11_heap_57 : decode cX11_heap 57 = .ok (.iload 4, 2) := by decide +kernel
theorem dX11_heap_59 : decode cX11_heap 59 = .ok (.ifCond .le 20, 3) := by decide +kernel
theorem dX11_heap_62 : decode cX11_heap 62 = .ok (.iload_n 3, 1) := by decide +kernel
theorem dX11_heap_63 : decode cX11_heap 63 = .ok (.ifCond .le 16, 3) := by decide +kernel
theorem dX11_heap_66 : decode cX11_heap 66 = .ok (.aload_n 0, 1) := by decide +kernel
theorem dX11_heap_67 : decode cX11_heap 67 = .ok (.getfield 16, 3) := by decide +kernel
theorem dX11_heap_70 : decode cX11_heap 70 = .ok (.iload 6, 2) := by decide +kernel
theorem dX11_heap_72 : decode cX11_heap 72 = .ok (.bipush 64, 2) := by decide +kernel
theorem dX11_heap_74 : decode cX11_heap 74 = .ok (.isub, 1) := by decide +kernel
theorem dX11_heap_75 : decode cX11_heap 75 = .ok (.iaload, 1) := by decide +kernel
theorem dX11_heap_76 : decode cX11_heap 76 = .ok (.ifCond .eq 26, 3) := by decide +kernel
theorem dX11_heap_79 : decode cX11_heap 79 = .ok (.iload 4, 2) := by decide +kernel
theorem dX11_heap_81 : decode cX11_heap 81 = .ok (.ifCond .ne 23, 3) := by decide +kernel
theorem dX11_heap_84 : decode cX11_heap 84 = .ok (.iload_n 3, 1) := by decide +kernel
theorem dX11_heap_85 : decode cX11_heap 85 = .ok (.iconst 3, 1) := by decide +kernel
theorem dX11_heap_86 : decode cX11_heap 86 = .ok (.if_icmp .ge 18, 3) := by decide +kernel
theorem dX11_heap_89 : decode cX11_heap 89 = .ok (.aload_n 0, 1) := by decide +kernel
theorem dX11_heap_90 : decode cX11_heap 90 = .ok (.getfield 16, 3) := by decide +kernel
theorem dX11_heap_93 : decode cX11_heap 93 = .ok (.iload 6, 2) := by decide +kernel
theorem dX11_heap_95 : decode cX11_heap 95 = .ok (.bipush 64, 2) := by decide +kernel
theorem dX11_heap_97 : decode cX11_heap 97 = .ok (.iadd, 1) := by decide +kernel
theorem dX11_heap_98 : decode cX11_heap 98 = .ok (.iaload, 1) := by decide +kernel
theorem dX11_heap_99 : decode cX11_heap 99 = .ok (.ifCond .le 5, 3) := by decide +kernel
theorem dX11_heap_102 : decode cX11_heap 102 = .ok (.iconst 0, 1) := by decide +kernel
theorem dX11_heap_103 : decode cX11_heap 103 = .ok (.ireturn, 1) := by decide +kernel
theorem dX11_heap_104 : decode cX11_heap 104 = .ok (.aload_n 0, 1) := by decide +kernel
theorem dX11_heap_105 : decode cX11_heap 105 = .ok (.getfield 16, 3) := by decide +kernel
theorem dX11_heap_108 : decode cX11_heap 108 = .ok (.iload 6, 2) := by decide +kernel
theorem dX11_heap_110 : decode cX11_heap 110 = .ok (.iload 4, 2) := by decide +kernel
theorem dX11_heap_112 : decode cX11_heap 112 = .ok (.iastore, 1) := by decide +kernel
theorem dX11_heap_113 : decode cX11_heap 113 = .ok (.aload_n 0, 1) := by decide +kernel
theorem dX11_heap_114 : decode cX11_heap 114 = .ok (.getfield 19, 3) := by decide +kernel
theorem dX11_heap_117 : decode cX11_heap 117 = .ok (.iload 6, 2) := by decide +kernel
theorem dX11_heap_119 : decode cX11_heap 119 = .ok (.iload 5, 2) := by decide +kernel
theorem dX11_heap_121 : decode cX11_heap 121 = .ok (.iastore, 1) := by decide +kernel
theorem dX11_heap_122 : decode cX11_heap 122 = .ok (.iconst 1, 1) := by decide +kernel
theorem dX11_heap_123 : decode cX11_heap 123 = .ok (.ireturn, 1) := by decide +kernel
theorem dX11_cell_0 : decode cX11_cell 0 = .ok (.aload_n 0, 1) := by decide +kernel
theorem dX11_cell_1 : decode cX11_cell 1 = .ok (.iconst 0, 1) := by decide +kernel
theorem dX11_cell_2 : decode cX11_cell 2 = .ok (.putfield 141, 3) := by decide +kernel
theorem dX11_cell_5 : decode cX11_cell 5 = .ok (.iload_n 1, 1) := by decide +kernel
theorem dX11_cell_6 : decode cX11_cell 6 = .ok (.iconst (-1), 1) := by decide +kernel
theorem dX11_cell_7 : decode cX11_cell 7 = .ok (.if_icmp .ne 14, 3) := by decide +kernel
theorem dX11_cell_10 : decode cX11_cell 10 = .ok (.aload_n 0, 1) := by decide +kernel
theorem dX11_cell_11 : decode cX11_cell 11 = .ok (.iload_n 2, 1) := by decide +kernel
theorem dX11_cell_12 : decode cX11_cell 12 = .ok (.iload_n 3, 1) := by decide +kernel
theorem dX11_cell_13 : decode cX11_cell 13 = .ok (.iload 4, 2) := by decide +kernel
theorem dX11_cell_15 : decode cX11_cell 15 = .ok (.invokevirtual 151, 3) := by decide +kernel
theorem dX11_cell_18 : decode cX11_cell 18 = .ok (.goto 11, 3) := by decide +kernel
theorem dX11_cell_21 : decode cX11_cell 21 = .ok (.aload_n 0, 1) := by decide +kernel
theorem dX11_cell_22 : decode cX11_cell 22 = .ok (.iload_n 1, 1) := by decide +kernel
theorem dX11_cell_23 : decode cX11_cell 23 = .ok (.iload_n 2, 1) := by decide +kernel
theorem dX11_cell_24 : decode cX11_cell 24 = .ok (.iload 4, 2) := by decide +kernel
theorem dX11_cell_26 : decode cX11_cell 26 = .ok (.invokevirtual 155, 3) := by decide +kernel
theorem dX11_cell_29 : decode cX11_cell 29 = .ok (.istore 6, 2) := by decide +kernel
theorem dX11_cell_31 : decode cX11_cell 31 = .ok (.iload 6, 2) := by decide +kernel
theorem dX11_cell_33 : decode cX11_cell 33 = .ok (.iconst (-1), 1) := by decide +kernel
theorem dX11_cell_34 : decode cX11_cell 34 = .ok (.if_icmp .eq 14, 3) := by decide +kernel
theorem dX11_cell_37 : decode cX11_cell 37 = .ok (.aload_n 0, 1) := by decide +kernel
theorem dX11_cell_38 : decode cX11_cell 38 = .ok (.iload 5, 2) := by decide +kernel
theorem dX11_cell_40 : decode cX11_cell 40 = .ok (.iconst 0, 1) := by decide +kernel
theorem dX11_cell_41 : decode cX11_cell 41 = .ok (.iconst 4, 1) := by decide +kernel
theorem dX11_cell_42 : decode cX11_cell 42 = .ok (.invokevirtual 144, 3) := by decide +kernel
theorem dX11_cell_45 : decode cX11_cell 45 = .ok (.ifCond .ne 5, 3) := by decide +kernel
theorem dX11_cell_48 : decode cX11_cell 48 = .ok (.iconst (-1), 1) := by decide +kernel
theorem dX11_cell_49 : decode cX11_cell 49 = .ok (.ireturn, 1) := by decide +kernel
theorem dX11_cell_50 : decode cX11_cell 50 = .ok (.iload_n 1, 1) := by decide +kernel
theorem dX11_cell_51 : decode cX11_cell 51 = .ok (.iconst (-1), 1) := by decide +kernel
theorem dX11_cell_52 : decode cX11_cell 52 = .ok (.if_icmp .ne 13, 3) := by decide +kernel
theorem dX11_cell_55 : decode cX11_cell 55 = .ok (.aload_n 0, 1) := by decide +kernel
theorem dX11_cell_56 : decode cX11_cell 56 = .ok (.getfield 16, 3) := by decide +kernel
theorem dX11_cell_59 : decode cX11_cell 59 = .ok (.iload 6, 2) := by decide +kernel
theorem dX11_cell_61 : decode cX11_cell 61 = .ok (.iaload, 1) := by decide +kernel
theorem dX11_cell_62 : decode cX11_cell 62 = .ok (.goto 10, 3) := by decide +kernel
theorem dX11_cell_65 : decode cX11_cell 65 = .ok (.aload_n 0, 1) := by decide +kernel
theorem dX11_cell_66 : decode cX11_cell 66 = .ok (.getfield 22, 3) := by decide +kernel
theorem dX11_cell_69 : decode cX11_cell 69 = .ok (.iload 6, 2) := by decide +kernel
theorem dX11_cell_71 : decode cX11_cell 71 = .ok (.iaload, 1) := by decide +kernel
theorem dX11_cell_72 : decode cX11_cell 72 = .ok (.istore 7, 2) := by decide +kernel
theorem dX11_cell_74 : decode cX11_cell 74 = .ok (.iload_n 1, 1) := by decide +kernel
theorem dX11_cell_75 : decode cX11_cell 75 = .ok (.iconst (-1), 1) := by decide +kernel
theorem dX11_cell_76 : decode cX11_cell 76 = .ok (.if_icmp .ne 13, 3) := by decide +kernel
theorem dX11_cell_79 : decode cX11_cell 79 = .ok (.aload_n 0, 1) := by decide +kernel
theorem dX11_cell_80 : decode cX11_cell 80 = .ok (.getfield 19, 3) := by decide +kernel
theorem dX11_cell_83 : decode cX11_cell 83 = .ok (.iload 6, 2) := by decide +kernel
theorem dX11_cell_85 : decode cX11_cell 85 = .ok (.iaload, 1) := by decide +kernel
theorem dX11_cell_86 : decode cX11_cell 86 = .ok (.goto 10, 3) := by decide +kernel
theorem dX11_cell_89 : decode cX11_cell 89 = .ok (.aload_n 0, 1) := by decide +kernel
theorem dX11_cell_90 : decode cX11_cell 90 = .ok (.getfield 25, 3) := by decide +kernel
theorem dX11_cell_93 : decode cX11_cell 93 = .ok (.iload 6, 2) := by decide +kernel
theorem dX11_cell_95 : decode cX11_cell 95 = .ok (.iaload, 1) := by decide +kernel
theorem dX11_cell_96 : decode cX11_cell 96 = .ok (.istore 8, 2) := by decide +kernel
theorem dX11_cell_98 : decode cX11_cell 98 = .ok (.iload 5, 2) := by decide +kernel
theorem dX11_cell_100 : decode cX11_cell 100 = .ok (.ifCond .ne 6, 3) := by decide +kernel
theorem dX11_cell_103 : decode cX11_cell 103 = .ok (.iload 7, 2) := by decide +kernel
theorem dX11_cell_105 : decode cX11_cell 105 = .ok (.ireturn, 1) := by decide +kernel
theorem dX11_cell_106 : decode cX11_cell 106 = .ok (.iload 5, 2) := by decide +kernel
theorem dX11_cell_108 : decode cX11_cell 108 = .ok (.iconst 1, 1) := by decide +kernel
theorem dX11_cell_109 : decode cX11_cell 109 = .ok (.if_icmp .ne 6, 3) := by decide +kernel
theorem dX11_cell_112 : decode cX11_cell 112 = .ok (.iload 8, 2) := by decide +kernel
theorem dX11_cell_114 : decode cX11_cell 114 = .ok (.ireturn, 1) := by decide +kernel
theorem dX11_cell_115 : decode cX11_cell 115 = .ok (.iload 5, 2) := by decide +kernel
theorem dX11_cell_117 : decode cX11_cell 117 = .ok (.iconst 2, 1) := by decide +kernel
theorem dX11_cell_118 : decode cX11_cell 118 = .ok (.if_icmp .ne 12, 3) := by decide +kernel
theorem dX11_cell_121 : decode cX11_cell 121 = .ok (.aload_n 0, 1) := by decide +kernel
theorem dX11_cell_122 : decode cX11_cell 122 = .ok (.iload 7, 2) := by decide +kernel
theorem dX11_cell_124 : decode cX11_cell 124 = .ok (.iload 8, 2) := by decide +kernel
theorem dX11_cell_126 : decode cX11_cell 126 = .ok (.invokevirtual 158, 3) := by decide +kernel
theorem dX11_cell_129 : decode cX11_cell 129 = .ok (.ireturn, 1) := by decide +kernel
theorem dX11_cell_130 : decode cX11_cell 130 = .ok (.iload_n 1, 1) := by decide +kernel
theorem dX11_cell_131 : decode cX11_cell 131 = .ok (.iconst (-1), 1) := by decide +kernel
theorem dX11_cell_132 : decode cX11_cell 132 = .ok (.if_icmp .ne 5, 3) := by decide +kernel
theorem dX11_cell_135 : decode cX11_cell 135 = .ok (.iconst 0, 1) := by decide +kernel
theorem dX11_cell_136 : decode cX11_cell 136 = .ok (.ireturn, 1) := by decide +kernel
theorem dX11_cell_137 : decode cX11_cell 137 = .ok (.iload 5, 2) := by decide +kernel
theorem dX11_cell_139 : decode cX11_cell 139 = .ok (.iconst 3, 1) := by decide +kernel
theorem dX11_cell_140 : decode cX11_cell 140 = .ok (.if_icmp .ne 13, 3) := by decide +kernel
theorem dX11_cell_143 : decode cX11_cell 143 = .ok (.aload_n 0, 1) := by decide +kernel
theorem dX11_cell_144 : decode cX11_cell 144 = .ok (.getfield 28, 3) := by decide +kernel
theorem dX11_cell_147 : decode cX11_cell 147 = .ok (.iload 6, 2) := by decide +kernel
theorem dX11_cell_149 : decode cX11_cell 149 = .ok (.iaload, 1) := by decide +kernel
theorem dX11_cell_150 : decode cX11_cell 150 = .ok (.goto 18, 3) := by decide +kernel
theorem dX11_cell_153 : decode cX11_cell 153 = .ok (.aload_n 0, 1) := by decide +kernel
theorem dX11_cell_154 : decode cX11_cell 154 = .ok (.getfield 31, 3) := by decide +kernel
theorem dX11_cell_157 : decode cX11_cell 157 = .ok (.iload 6, 2) := by decide +kernel
theorem dX11_cell_159 : decode cX11_cell 159 = .ok (.baload, 1) := by decide +kernel
theorem dX11_cell_160 : decode cX11_cell 160 = .ok (.ifCond .eq 7, 3) := by decide +kernel
theorem dX11_cell_163 : decode cX11_cell 163 = .ok (.iconst 1, 1) := by decide +kernel
theorem dX11_cell_164 : decode cX11_cell 164 = .ok (.goto 4, 3) := by decide +kernel
theorem dX11_cell_167 : decode cX11_cell 167 = .ok (.iconst 0, 1) := by decide +kernel
theorem dX11_cell_168 : decode cX11_cell 168 = .ok (.ireturn, 1) := by decide +kernel
theorem dX11_heapHeight_0 : decode cX11_heapHeight 0 = .ok (.iconst 0, 1) := by decide +kernel
theorem dX11_heapHeight_1 : decode cX11_heapHeight 1 = .ok (.istore_n 2, 1) := by decide +kernel
theorem dX11_heapHeight_2 : decode cX11_heapHeight 2 = .ok (.iload_n 2, 1) := by decide +kernel
theorem dX11_heapHeight_3 : decode cX11_heapHeight 3 = .ok (.iconst 4, 1) := by decide +kernel
theorem dX11_heapHeight_4 : decode cX11_heapHeight 4 = .ok (.if_icmp .ge 24, 3) := by decide +kernel
theorem dX11_heapHeight_7 : decode cX11_heapHeight 7 = .ok (.aload_n 0, 1) := by decide +kernel
theorem dX11_heapHeight_8 : decode cX11_heapHeight 8 = .ok (.getfield 16, 3) := by decide +kernel
theorem dX11_heapHeight_11 : decode cX11_heapHeight 11 = .ok (.bipush 64, 2) := by decide +kernel
theorem dX11_heapHeight_13 : decode cX11_heapHeight 13 = .ok (.iload_n 2, 1) := by decide +kernel
theorem dX11_heapHeight_14 : decode cX11_heapHeight 14 = .ok (.imul, 1) := by decide +kernel
theorem dX11_heapHeight_15 : decode cX11_heapHeight 15 = .ok (.iload_n 1, 1) := by decide +kernel
theorem dX11_heapHeight_16 : decode cX11_heapHeight 16 = .ok (.iadd, 1) := by decide +kernel
theorem dX11_heapHeight_17 : decode cX11_heapHeight 17 = .ok (.iaload, 1) := by decide +kernel
theorem dX11_heapHeight_18 : decode cX11_heapHeight 18 = .ok (.ifCond .le 10, 3) := by decide +kernel
theorem dX11_heapHeight_21 : decode cX11_heapHeight 21 = .ok (.iload_n 2, 1) := by decide +kernel
theorem dX11_heapHeight_22 : decode cX11_heapHeight 22 = .ok (.iconst 1, 1) := by decide +kernel
theorem dX11_heapHeight_23 : decode cX11_heapHeight 23 = .ok (.iadd, 1) := by decide +kernel
theorem dX11_heapHeight_24 : decode cX11_heapHeight 24 = .ok (.istore_n 2, 1) := by decide +kernel
theorem dX11_heapHeight_25 : decode cX11_heapHeight 25 = .ok (.goto (-23), 3) := by decide +kernel
theorem dX11_heapHeight_28 : decode cX11_heapHeight 28 = .ok (.iload_n 2, 1) := by decide +kernel
theorem dX11_heapHeight_29 : decode cX11_heapHeight 29 = .ok (.ireturn, 1) := by decide +kernel
theorem dX11_height_0 : decode cX11_height 0 = .ok (.iconst 0, 1) := by decide +kernel
theorem dX11_height_1 : decode cX11_height 1 = .ok (.istore_n 2, 1) := by decide +kernel
theorem dX11_height_2 : decode cX11_height 2 = .ok (.iload_n 2, 1) := by decide +kernel
theorem dX11_height_3 : decode cX11_height 3 = .ok (.bipush 6, 2) := by decide +kernel
theorem dX11_height_5 : decode cX11_height 5 = .ok (.if_icmp .ge 21, 3) := by decide +kernel
theorem dX11_height_8 : decode cX11_height 8 = .ok (.aload_n 0, 1) := by decide +kernel
theorem dX11_height_9 : decode cX11_height 9 = .ok (.getfield 22, 3) := by decide +kernel
theorem dX11_height_12 : decode cX11_height 12 = .ok (.iload_n 1, 1) := by decide +kernel
theorem dX11_height_13 : decode cX11_height 13 = .ok (.iload_n 2, 1) := by decide +kernel
theorem dX11_height_14 : decode cX11_height 14 = .ok (.iadd, 1) := by decide +kernel
theorem dX11_height_15 : decode cX11_height 15 = .ok (.iaload, 1) := by decide +kernel
theorem dX11_height_16 : decode cX11_height 16 = .ok (.ifCond .le 10, 3) := by decide +kernel
theorem dX11_height_19 : decode cX11_height 19 = .ok (.iload_n 2, 1) := by decide +kernel
theorem dX11_height_20 : decode cX11_height 20 = .ok (.iconst 1, 1) := by decide +kernel
theorem dX11_height_21 : decode cX11_height 21 = .ok (.iadd, 1) := by decide +kernel
theorem dX11_height_22 : decode cX11_height 22 = .ok (.istore_n 2, 1) := by decide +kernel
theorem dX11_height_23 : decode cX11_height 23 = .ok (.goto (-21), 3) := by decide +kernel
theorem dX11_height_26 : decode cX11_height 26 = .ok (.iload_n 2, 1) := by decide +kernel
theorem dX11_height_27 : decode cX11_height 27 = .ok (.ireturn, 1) := by decide +kernel
theorem dX11_puts_0 : decode cX11_puts 0 = .ok (.bipush 24, 2) := by decide +kernel
theorem dX11_puts_2 : decode cX11_puts 2 = .ok (.istore_n 2, 1) := by decide +kernel
theorem dX11_puts_3 : decode cX11_puts 3 = .ok (.iload_n 2, 1) := by decide +kernel
theorem dX11_puts_4 : decode cX11_puts 4 = .ok (.ifCond .lt 35, 3) := by decide +kernel
theorem dX11_puts_7 : decode cX11_puts 7 = .ok (.aload_n 0, 1) := by decide +kernel
theorem dX11_puts_8 : decode cX11_puts 8 = .ok (.getfield 47, 3) := by decide +kernel
theorem dX11_puts_11 : decode cX11_puts 11 = .ok (.aload_n 0, 1) := by decide +kernel
theorem dX11_puts_12 : decode cX11_puts 12 = .ok (.getfield 162, 3) := by decide +kernel
theorem dX11_puts_15 : decode cX11_puts 15 = .ok (.iload_n 1, 1) := by decide +kernel
theorem dX11_puts_16 : decode cX11_puts 16 = .ok (.iload_n 2, 1) := by decide +kernel
theorem dX11_puts_17 : decode cX11_puts 17 = .ok (.ishr, 1) := by decide +kernel
theorem dX11_puts_18 : decode cX11_puts 18 = .ok (.sipush 255, 3) := by decide +kernel
theorem dX11_puts_21 : decode cX11_puts 21 = .ok (.iand, 1) := by decide +kernel
theorem dX11_puts_22 : decode cX11_puts 22 = .ok (.iastore, 1) := by decide +kernel
theorem dX11_puts_23 : decode cX11_puts 23 = .ok (.aload_n 0, 1) := by decide +kernel
theorem dX11_puts_24 : decode cX11_puts 24 = .ok (.aload_n 0, 1) := by decide +kernel
theorem dX11_puts_25 : decode cX11_puts 25 = .ok (.getfield 162, 3) := by decide +kernel
theorem dX11_puts_28 : decode cX11_puts 28 = .ok (.iconst 1, 1) := by decide +kernel
theorem dX11_puts_29 : decode cX11_puts 29 = .ok (.iadd, 1) := by decide +kernel
theorem dX11_puts_30 : decode cX11_puts 30 = .ok (.putfield 162, 3) := by decide +kernel
theorem dX11_puts_33 : decode cX11_puts 33 = .ok (.iinc 2 (-8), 3) := by decide +kernel
theorem dX11_puts_36 : decode cX11_puts 36 = .ok (.goto (-33), 3) := by decide +kernel
theorem dX11_puts_39 : decode cX11_puts 39 = .ok (.return_, 1) := by decide +kernel
theorem dX11_feed_0 : decode cX11_feed 0 = .ok (.aload_n 0, 1) := by decide +kernel
theorem dX11_feed_1 : decode cX11_feed 1 = .ok (.iconst 0, 1) := by decide +kernel
theorem dX11_feed_2 : decode cX11_feed 2 = .ok (.putfield 141, 3) := by decide +kernel
theorem dX11_feed_5 : decode cX11_feed 5 = .ok (.aload_n 0, 1) := by decide +kernel
theorem dX11_feed_6 : decode cX11_feed 6 = .ok (.getfield 162, 3) := by decide +kernel
theorem dX11_feed_9 : decode cX11_feed 9 = .ok (.sipush 580, 3) := by decide +kernel
theorem dX11_feed_12 : decode cX11_feed 12 = .ok (.if_icmp .le 5, 3) := by decide +kernel
theorem dX11_feed_15 : decode cX11_feed 15 = .ok (.iconst (-1), 1) := by decide +kernel
theorem dX11_feed_16 : decode cX11_feed 16 = .ok (.ireturn, 1) := by decide +kernel
theorem dX11_feed_17 : decode cX11_feed 17 = .ok (.aload_n 0, 1) := by decide +kernel
theorem dX11_feed_18 : decode cX11_feed 18 = .ok (.iload_n 1, 1) := by decide +kernel
theorem dX11_feed_19 : decode cX11_feed 19 = .ok (.invokevirtual 165, 3) := by decide +kernel
theorem dX11_feed_22 : decode cX11_feed 22 = .ok (.aload_n 0, 1) := by decide +kernel
theorem dX11_feed_23 : decode cX11_feed 23 = .ok (.iload_n 2, 1) := by decide +kernel
theorem dX11_feed_24 : decode cX11_feed 24 = .ok (.invokevirtual 165, 3) := by decide +kernel
theorem dX11_feed_27 : decode cX11_feed 27 = .ok (.aload_n 0, 1) := by decide +kernel
theorem dX11_feed_28 : decode cX11_feed 28 = .ok (.iload_n 3, 1) := by decide +kernel
theorem dX11_feed_29 : decode cX11_feed 29 = .ok (.invokevirtual 165, 3) := by decide +kernel
theorem dX11_feed_32 : decode cX11_feed 32 = .ok (.aload_n 0, 1) := by decide +kernel
theorem dX11_feed_33 : decode cX11_feed 33 = .ok (.iload 4, 2) := by decide +kernel
theorem dX11_feed_35 : decode cX11_feed 35 = .ok (.invokevirtual 165, 3) := by decide +kernel
theorem dX11_feed_38 : decode cX11_feed 38 = .ok (.aload_n 0, 1) := by decide +kernel
theorem dX11_feed_39 : decode cX11_feed 39 = .ok (.iload 5, 2) := by decide +kernel
theorem dX11_feed_41 : decode cX11_feed 41 = .ok (.invokevirtual 165, 3) := by decide +kernel
theorem dX11_feed_44 : decode cX11_feed 44 = .ok (.aload_n 0, 1) := by decide +kernel
theorem dX11_feed_45 : decode cX11_feed 45 = .ok (.getfield 162, 3) := by decide +kernel
theorem dX11_feed_48 : decode cX11_feed 48 = .ok (.ireturn, 1) := by decide +kernel
theorem dX11_end_0 : decode cX11_end 0 = .ok (.aload_n 0, 1) := by decide +kernel
theorem dX11_end_1 : decode cX11_end 1 = .ok (.iconst 0, 1) := by decide +kernel
theorem dX11_end_2 : decode cX11_end 2 = .ok (.putfield 141, 3) := by decide +kernel
theorem dX11_end_5 : decode cX11_end 5 = .ok (.aload_n 0, 1) := by decide +kernel
theorem dX11_end_6 : decode cX11_end 6 = .ok (.iload_n 1, 1) := by decide +kernel
theorem dX11_end_7 : decode cX11_end 7 = .ok (.iconst 0, 1) := by decide +kernel
theorem dX11_end_8 : decode cX11_end 8 = .ok (.aload_n 0, 1) := by decide +kernel
theorem dX11_end_9 : decode cX11_end 9 = .ok (.getfield 162, 3) := by decide +kernel
theorem dX11_end_12 : decode cX11_end 12 = .ok (.invokevirtual 144, 3) := by decide +kernel
theorem dX11_end_15 : decode cX11_end 15 = .ok (.ifCond .ne 5, 3) := by decide +kernel
theorem dX11_end_18 : decode cX11_end 18 = .ok (.iconst 0, 1) := by decide +kernel
theorem dX11_end_19 : decode cX11_end 19 = .ok (.ireturn, 1) := by decide +kernel
theorem dX11_end_20 : decode cX11_end 20 = .ok (.aload_n 0, 1) := by decide +kernel
theorem dX11_end_21 : decode cX11_end 21 = .ok (.iload_n 1, 1) := by decide +kernel
theorem dX11_end_22 : decode cX11_end 22 = .ok (.putfield 162, 3) := by decide +kernel
theorem dX11_end_25 : decode cX11_end 25 = .ok (.iconst 1, 1) := by decide +kernel
theorem dX11_end_26 : decode cX11_end 26 = .ok (.ireturn, 1) := by decide +kernel
theorem dX11_raw_0 : decode cX11_raw 0 = .ok (.iload_n 1, 1) := by decide +kernel
theorem dX11_raw_1 : decode cX11_raw 1 = .ok (.aload_n 0, 1) := by decide +kernel
theorem dX11_raw_2 : decode cX11_raw 2 = .ok (.getfield 162, 3) := by decide +kernel
theorem dX11_raw_5 : decode cX11_raw 5 = .ok (.if_icmp .ge 12, 3) := by decide +kernel
theorem dX11_raw_8 : decode cX11_raw 8 = .ok (.aload_n 0, 1) := by decide +kernel
theorem dX11_raw_9 : decode cX11_raw 9 = .ok (.getfield 47, 3) := by decide +kernel
theorem dX11_raw_12 : decode cX11_raw 12 = .ok (.iload_n 1, 1) := by decide +kernel
theorem dX11_raw_13 : decode cX11_raw 13 = .ok (.iaload, 1) := by decide +kernel
theorem dX11_raw_14 : decode cX11_raw 14 = .ok (.goto 4, 3) := by decide +kernel
theorem dX11_raw_17 : decode cX11_raw 17 = .ok (.iconst (-1), 1) := by decide +kernel
theorem dX11_raw_18 : decode cX11_raw 18 = .ok (.ireturn, 1) := by decide +kernel
theorem dX11_isLetter_0 : decode cX11_isLetter 0 = .ok (.aload_n 0, 1) := by decide +kernel
theorem dX11_isLetter_1 : decode cX11_isLetter 1 = .ok (.iload_n 1, 1) := by decide +kernel
theorem dX11_isLetter_2 : decode cX11_isLetter 2 = .ok (.bipush 97, 2) := by decide +kernel
theorem dX11_isLetter_4 : decode cX11_isLetter 4 = .ok (.bipush 122, 2) := by decide +kernel
theorem dX11_isLetter_6 : decode cX11_isLetter 6 = .ok (.invokevirtual 144, 3) := by decide +kernel
theorem dX11_isLetter_9 : decode cX11_isLetter 9 = .ok (.ifCond .ne 15, 3) := by decide +kernel
theorem dX11_isLetter_12 : decode cX11_isLetter 12 = .ok (.aload_n 0, 1) := by decide +kernel
theorem dX11_isLetter_13 : decode cX11_isLetter 13 = .ok (.iload_n 1, 1) := by decide +kernel
theorem dX11_isLetter_14 : decode cX11_isLetter 14 = .ok (.bipush 65, 2) := by decide +kernel
theorem dX11_isLetter_16 : decode cX11_isLetter 16 = .ok (.bipush 90, 2) := by decide +kernel
theorem dX11_isLetter_18 : decode cX11_isLetter 18 = .ok (.invokevirtual 144, 3) := by decide +kernel
theorem dX11_isLetter_21 : decode cX11_isLetter 21 = .ok (.ifCond .eq 7, 3) := by decide +kernel
theorem dX11_isLetter_24 : decode cX11_isLetter 24 = .ok (.iconst 1, 1) := by decide +kernel
theorem dX11_isLetter_25 : decode cX11_isLetter 25 = .ok (.goto 4, 3) := by decide +kernel
theorem dX11_isLetter_28 : decode cX11_isLetter 28 = .ok (.iconst 0, 1) := by decide +kernel
theorem dX11_isLetter_29 : decode cX11_isLetter 29 = .ok (.ireturn, 1) := by decide +kernel
theorem dX11_isDigit_0 : decode cX11_isDigit 0 = .ok (.aload_n 0, 1) := by decide +kernel
theorem dX11_isDigit_1 : decode cX11_isDigit 1 = .ok (.iload_n 1, 1) := by decide +kernel
theorem dX11_isDigit_2 : decode cX11_isDigit 2 = .ok (.bipush 48, 2) := by decide +kernel
theorem dX11_isDigit_4 : decode cX11_isDigit 4 = .ok (.bipush 57, 2) := by decide +kernel
theorem dX11_isDigit_6 : decode cX11_isDigit 6 = .ok (.invokevirtual 144, 3) := by decide +kernel
theorem dX11_isDigit_9 : decode cX11_isDigit 9 = .ok (.ireturn, 1) := by decide +kernel
theorem dX11_isMarkSign_0 : decode cX11_isMarkSign 0 = .ok (.iload_n 1, 1) := by decide +kernel
theorem dX11_isMarkSign_1 : decode cX11_isMarkSign 1 = .ok (.bipush 59, 2) := by decide +kernel
theorem dX11_isMarkSign_3 : decode cX11_isMarkSign 3 = .ok (.if_icmp .eq 57, 3) := by decide +kernel
theorem dX11_isMarkSign_6 : decode cX11_isMarkSign 6 = .ok (.iload_n 1, 1) := by decide +kernel
theorem dX11_isMarkSign_7 : decode cX11_isMarkSign 7 = .ok (.bipush 43, 2) := by decide +kernel
theorem dX11_isMarkSign_9 : decode cX11_isMarkSign 9 = .ok (.if_icmp .eq 51, 3) := by decide +kernel
theorem dX11_isMarkSign_12 : decode cX11_isMarkSign 12 = .ok (.iload_n 1, 1) := by decide +kernel
theorem dX11_isMarkSign_13 : decode cX11_isMarkSign 13 = .ok (.bipush 45, 2) := by decide +kernel
theorem dX11_isMarkSign_15 : decode cX11_isMarkSign 15 = .ok (.if_icmp .eq 45, 3) := by decide +kernel
theorem dX11_isMarkSign_18 : decode cX11_isMarkSign 18 = .ok (.iload_n 1, 1) := by decide +kernel
theorem dX11_isMarkSign_19 : decode cX11_isMarkSign 19 = .ok (.bipush 42, 2) := by decide +kernel
theorem dX11_isMarkSign_21 : decode cX11_isMarkSign 21 = .ok (.if_icmp .eq 39, 3) := by decide +kernel
theorem dX11_isMarkSign_24 : decode cX11_isMarkSign 24 = .ok (.iload_n 1, 1) := by decide +kernel
theorem dX11_isMarkSign_25 : decode cX11_isMarkSign 25 = .ok (.bipush 47, 2) := by decide +kernel
theorem dX11_isMarkSign_27 : decode cX11_isMarkSign 27 = .ok (.if_icmp .eq 33, 3) := by decide +kernel
theorem dX11_isMarkSign_30 : decode cX11_isMarkSign 30 = .ok (.iload_n 1, 1) := by decide +kernel
theorem dX11_isMarkSign_31 : decode cX11_isMarkSign 31 = .ok (.bipush 40, 2) := by decide +kernel
theorem dX11_isMarkSign_33 : decode cX11_isMarkSign 33 = .ok (.if_icmp .eq 27, 3) := by decide +kernel
theorem dX11_isMarkSign_36 : decode cX11_isMarkSign 36 = .ok (.iload_n 1, 1) := by decide +kernel
theorem dX11_isMarkSign_37 : decode cX11_isMarkSign 37 = .ok (.bipush 41, 2) := by decide +kernel
theorem dX11_isMarkSign_39 : decode cX11_isMarkSign 39 = .ok (.if_icmp .eq 21, 3) := by decide +kernel
theorem dX11_isMarkSign_42 : decode cX11_isMarkSign 42 = .ok (.iload_n 1, 1) := by decide +kernel
theorem dX11_isMarkSign_43 : decode cX11_isMarkSign 43 = .ok (.bipush 60, 2) := by decide +kernel
theorem dX11_isMarkSign_45 : decode cX11_isMarkSign 45 = .ok (.if_icmp .eq 15, 3) := by decide +kernel
theorem dX11_isMarkSign_48 : decode cX11_isMarkSign 48 = .ok (.iload_n 1, 1) := by decide +kernel
theorem dX11_isMarkSign_49 : decode cX11_isMarkSign 49 = .ok (.bipush 61, 2) := by decide +kernel
theorem dX11_isMarkSign_51 : decode cX11_isMarkSign 51 = .ok (.if_icmp .eq 9, 3) := by decide +kernel
theorem dX11_isMarkSign_54 : decode cX11_isMarkSign 54 = .ok (.iload_n 1, 1) := by decide +kernel
theorem dX11_isMarkSign_55 : decode cX11_isMarkSign 55 = .ok (.bipush 62, 2) := by decide +kernel
theorem dX11_isMarkSign_57 : decode cX11_isMarkSign 57 = .ok (.if_icmp .ne 7, 3) := by decide +kernel
theorem dX11_isMarkSign_60 : decode cX11_isMarkSign 60 = .ok (.iconst 1, 1) := by decide +kernel
theorem dX11_isMarkSign_61 : decode cX11_isMarkSign 61 = .ok (.goto 4, 3) := by decide +kernel
theorem dX11_isMarkSign_64 : decode cX11_isMarkSign 64 = .ok (.iconst 0, 1) := by decide +kernel
theorem dX11_isMarkSign_65 : decode cX11_isMarkSign 65 = .ok (.ireturn, 1) := by decide +kernel
theorem dX11_wordAt_0 : decode cX11_wordAt 0 = .ok (.iconst (-1), 1) := by decide +kernel
theorem dX11_wordAt_1 : decode cX11_wordAt 1 = .ok (.istore_n 3, 1) := by decide +kernel
theorem dX11_wordAt_2 : decode cX11_wordAt 2 = .ok (.iconst 0, 1) := by decide +kernel
theorem dX11_wordAt_3 : decode cX11_wordAt 3 = .ok (.istore 4, 2) := by decide +kernel
theorem dX11_wordAt_5 : decode cX11_wordAt 5 = .ok (.iload 4, 2) := by decide +kernel
theorem dX11_wordAt_7 : decode cX11_wordAt 7 = .ok (.sipush 133, 3) := by decide +kernel
theorem dX11_wordAt_10 : decode cX11_wordAt 10 = .ok (.if_icmp .ge 108, 3) := by decide +kernel
theorem dX11_wordAt_13 : decode cX11_wordAt 13 = .ok (.iconst 0, 1) := by decide +kernel
theorem dX11_wordAt_14 : decode cX11_wordAt 14 = .ok (.istore 5, 2) := by decide +kernel
theorem dX11_wordAt_16 : decode cX11_wordAt 16 = .ok (.iload_n 3, 1) := by decide +kernel
theorem dX11_wordAt_17 : decode cX11_wordAt 17 = .ok (.iconst 1, 1) := by decide +kernel
theorem dX11_wordAt_18 : decode cX11_wordAt 18 = .ok (.iadd, 1) := by decide +kernel
theorem dX11_wordAt_19 : decode cX11_wordAt 19 = .ok (.istore_n 3, 1) := by decide +kernel
theorem dX11_wordAt_20 : decode cX11_wordAt 20 = .ok (.iload_n 1, 1) := by decide +kernel
theorem dX11_wordAt_21 : decode cX11_wordAt 21 = .ok (.iload 5, 2) := by decide +kernel
theorem dX11_wordAt_23 : decode cX11_wordAt 23 = .ok (.iadd, 1) := by decide +kernel
theorem dX11_wordAt_24 : decode cX11_wordAt 24 = .ok (.iload_n 2, 1) := by decide +kernel
theorem dX11_wordAt_25 : decode cX11_wordAt 25 = .ok (.if_icmp .ge 36, 3) := by decide +kernel
theorem dX11_wordAt_28 : decode cX11_wordAt 28 = .ok (.aload_n 0, 1) := by decide +kernel
theorem dX11_wordAt_29 : decode cX11_wordAt 29 = .ok (.getfield 50, 3) := by decide +kernel
theorem dX11_wordAt_32 : decode cX11_wordAt 32 = .ok (.iload 4, 2) := by decide +kernel
theorem dX11_wordAt_34 : decode cX11_wordAt 34 = .ok (.iconst 1, 1) := by decide +kernel
theorem dX11_wordAt_35 : decode cX11_wordAt 35 = .ok (.iadd, 1) := by decide +kernel
theorem dX11_wordAt_36 : decode cX11_wordAt 36 = .ok (.iload 5, 2) := by decide +kernel
theorem dX11_wordAt_38 : decode cX11_wordAt 38 = .ok (.iadd, 1) := by decide +kernel
theorem dX11_wordAt_39 : decode cX11_wordAt 39 = .ok (.iaload, 1) := by decide +kernel
theorem dX11_wordAt_40 : decode cX11_wordAt 40 = .ok (.aload_n 0, 1) := by decide +kernel
theorem dX11_wordAt_41 : decode cX11_wordAt 41 = .ok (.getfield 47, 3) := by decide +kernel
theorem dX11_wordAt_44 : decode cX11_wordAt 44 = .ok (.iload_n 1, 1) := by decide +kernel
theorem dX11_wordAt_45 : decode cX11_wordAt 45 = .ok (.iload 5, 2) := by decide +kernel
theorem dX11_wordAt_47 : decode cX11_wordAt 47 = .ok (.iadd, 1) := by decide +kernel
theorem dX11_wordAt_48 : decode cX11_wordAt 48 = .ok (.iaload, 1) := by decide +kernel
theorem dX11_wordAt_49 : decode cX11_wordAt 49 = .ok (.if_icmp .ne 12, 3) := by decide +kernel
theorem dX11_wordAt_52 : decode cX11_wordAt 52 = .ok (.iload 5, 2) := by decide +kernel
theorem dX11_wordAt_54 : decode cX11_wordAt 54 = .ok (.iconst 1, 1) := by decide +kernel
theorem dX11_wordAt_55 : decode cX11_wordAt 55 = .ok (.iadd, 1) := by decide +kernel
theorem dX11_wordAt_56 : decode cX11_wordAt 56 = .ok (.istore 5, 2) := by decide +kernel
theorem dX11_wordAt_58 : decode cX11_wordAt 58 = .ok (.goto (-38), 3) := by decide +kernel
theorem dX11_wordAt_61 : decode cX11_wordAt 61 = .ok (.iload_n 1, 1) := by decide +kernel
theorem dX11_wordAt_62 : decode cX11_wordAt 62 = .ok (.iload 5, 2) := by decide +kernel
theorem dX11_wordAt_64 : decode cX11_wordAt 64 = .ok (.iadd, 1) := by decide +kernel
theorem dX11_wordAt_65 : decode cX11_wordAt 65 = .ok (.iload_n 2, 1) := by decide +kernel
theorem dX11_wordAt_66 : decode cX11_wordAt 66 = .ok (.if_icmp .ne 22, 3) := by decide +kernel
theorem dX11_wordAt_69 : decode cX11_wordAt 69 = .ok (.aload_n 0, 1) := by decide +kernel
theorem dX11_wordAt_70 : decode cX11_wordAt 70 = .ok (.getfield 50, 3) := by decide +kernel
theorem dX11_wordAt_73 : decode cX11_wordAt 73 = .ok (.iload 4, 2) := by decide +kernel
theorem dX11_wordAt_75 : decode cX11_wordAt 75 = .ok (.iconst 1, 1) := by decide +kernel
theorem dX11_wordAt_76 : decode cX11_wordAt 76 = .ok (.iadd, 1) := by decide +kernel
theorem dX11_wordAt_77 : decode cX11_wordAt 77 = .ok (.iload 5, 2) := by decide +kernel
theorem dX11_wordAt_79 : decode cX11_wordAt 79 = .ok (.iadd, 1) := by decide +kernel
theorem dX11_wordAt_80 : decode cX11_wordAt 80 = .ok (.iaload, 1) := by decide +kernel
theorem dX11_wordAt_81 : decode cX11_wordAt 81 = .ok (.bipush 32, 2) := by decide +kernel
theorem dX11_wordAt_83 : decode cX11_wordAt 83 = .ok (.if_icmp .ne 5, 3) := by decide +kernel
theorem dX11_wordAt_86 : decode cX11_wordAt 86 = .ok (.iload_n 3, 1) := by decide +kernel
theorem dX11_wordAt_87 : decode cX11_wordAt 87 = .ok (.ireturn, 1) := by decide +kernel
theorem dX11_wordAt_88 : decode cX11_wordAt 88 = .ok (.iload 4, 2) := by decide +kernel
theorem dX11_wordAt_90 : decode cX11_wordAt 90 = .ok (.iconst 1, 1) := by decide +kernel
theorem dX11_wordAt_91 : decode cX11_wordAt 91 = .ok (.iadd, 1) := by decide +kernel
theorem dX11_wordAt_92 : decode cX11_wordAt 92 = .ok (.istore 4, 2) := by decide +kernel
theorem dX11_wordAt_94 : decode cX11_wordAt 94 = .ok (.aload_n 0, 1) := by decide +kernel
theorem dX11_wordAt_95 : decode cX11_wordAt 95 = .ok (.getfield 50, 3) := by decide +kernel
theorem dX11_wordAt_98 : decode cX11_wordAt 98 = .ok (.iload 4, 2) := by decide +kernel
theorem dX11_wordAt_100 : decode cX11_wordAt 100 = .ok (.iaload, 1) := by decide +kernel
theorem dX11_wordAt_101 : decode cX11_wordAt 101 = .ok (.bipush 32, 2) := by decide +kernel
theorem dX11_wordAt_103 : decode cX11_wordAt 103 = .ok (.if_icmp .eq 12, 3) := by decide +kernel
theorem dX11_wordAt_106 : decode cX11_wordAt 106 = .ok (.iload 4, 2) := by decide +kernel
theorem dX11_wordAt_108 : decode cX11_wordAt 108 = .ok (.iconst 1, 1) := by decide +kernel
theorem dX11_wordAt_109 : decode cX11_wordAt 109 = .ok (.iadd, 1) := by decide +kernel
theorem dX11_wordAt_110 : decode cX11_wordAt 110 = .ok (.istore 4, 2) := by decide +kernel
theorem dX11_wordAt_112 : decode cX11_wordAt 112 = .ok (.goto (-18), 3) := by decide +kernel
theorem dX11_wordAt_115 : decode cX11_wordAt 115 = .ok (.goto (-110), 3) := by decide +kernel
theorem dX11_wordAt_118 : decode cX11_wordAt 118 = .ok (.iconst (-1), 1) := by decide +kernel
theorem dX11_wordAt_119 : decode cX11_wordAt 119 = .ok (.ireturn, 1) := by decide +kernel
