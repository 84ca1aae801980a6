theorem dX11_reads_0 : decode cX11_reads 0 = .ok (.aload_n 0, 1) := by decide +kernel
theorem dX11_reads_1 : decode cX11_reads 1 = .ok (.aload_n 0, 1) := by decide +kernel
theorem dX11_reads_2 : decode cX11_reads 2 = .ok (.getfield 169, 3) := by decide +kernel
theorem dX11_reads_5 : decode cX11_reads 5 = .ok (.invokevirtual 172, 3) := by decide +kernel
theorem dX11_reads_8 : decode cX11_reads 8 = .ok (.bipush 32, 2) := by decide +kernel
theorem dX11_reads_10 : decode cX11_reads 10 = .ok (.if_icmp .eq 16, 3) := by decide +kernel
theorem dX11_reads_13 : decode cX11_reads 13 = .ok (.aload_n 0, 1) := by decide +kernel
theorem dX11_reads_14 : decode cX11_reads 14 = .ok (.aload_n 0, 1) := by decide +kernel
theorem dX11_reads_15 : decode cX11_reads 15 = .ok (.getfield 169, 3) := by decide +kernel
theorem dX11_reads_18 : decode cX11_reads 18 = .ok (.invokevirtual 172, 3) := by decide +kernel
theorem dX11_reads_21 : decode cX11_reads 21 = .ok (.bipush 10, 2) := by decide +kernel
theorem dX11_reads_23 : decode cX11_reads 23 = .ok (.if_icmp .ne 16, 3) := by decide +kernel
theorem dX11_reads_26 : decode cX11_reads 26 = .ok (.aload_n 0, 1) := by decide +kernel
theorem dX11_reads_27 : decode cX11_reads 27 = .ok (.aload_n 0, 1) := by decide +kernel
theorem dX11_reads_28 : decode cX11_reads 28 = .ok (.getfield 169, 3) := by decide +kernel
theorem dX11_reads_31 : decode cX11_reads 31 = .ok (.iconst 1, 1) := by decide +kernel
theorem dX11_reads_32 : decode cX11_reads 32 = .ok (.iadd, 1) := by decide +kernel
theorem dX11_reads_33 : decode cX11_reads 33 = .ok (.putfield 169, 3) := by decide +kernel
theorem dX11_reads_36 : decode cX11_reads 36 = .ok (.goto (-36), 3) := by decide +kernel
theorem dX11_reads_39 : decode cX11_reads 39 = .ok (.aload_n 0, 1) := by decide +kernel
theorem dX11_reads_40 : decode cX11_reads 40 = .ok (.aload_n 0, 1) := by decide +kernel
theorem dX11_reads_41 : decode cX11_reads 41 = .ok (.getfield 169, 3) := by decide +kernel
theorem dX11_reads_44 : decode cX11_reads 44 = .ok (.putfield 176, 3) := by decide +kernel
theorem dX11_reads_47 : decode cX11_reads 47 = .ok (.aload_n 0, 1) := by decide +kernel
theorem dX11_reads_48 : decode cX11_reads 48 = .ok (.iconst 1, 1) := by decide +kernel
theorem dX11_reads_49 : decode cX11_reads 49 = .ok (.putfield 179, 3) := by decide +kernel
theorem dX11_reads_52 : decode cX11_reads 52 = .ok (.aload_n 0, 1) := by decide +kernel
theorem dX11_reads_53 : decode cX11_reads 53 = .ok (.aload_n 0, 1) := by decide +kernel
theorem dX11_reads_54 : decode cX11_reads 54 = .ok (.getfield 169, 3) := by decide +kernel
theorem dX11_reads_57 : decode cX11_reads 57 = .ok (.invokevirtual 172, 3) := by decide +kernel
theorem dX11_reads_60 : decode cX11_reads 60 = .ok (.istore_n 1, 1) := by decide +kernel
theorem dX11_reads_61 : decode cX11_reads 61 = .ok (.iload_n 1, 1) := by decide +kernel
theorem dX11_reads_62 : decode cX11_reads 62 = .ok (.iconst (-1), 1) := by decide +kernel
theorem dX11_reads_63 : decode cX11_reads 63 = .ok (.if_icmp .ne 9, 3) := by decide +kernel
theorem dX11_reads_66 : decode cX11_reads 66 = .ok (.aload_n 0, 1) := by decide +kernel
theorem dX11_reads_67 : decode cX11_reads 67 = .ok (.iconst 0, 1) := by decide +kernel
theorem dX11_reads_68 : decode cX11_reads 68 = .ok (.putfield 179, 3) := by decide +kernel
theorem dX11_reads_71 : decode cX11_reads 71 = .ok (.return_, 1) := by decide +kernel
theorem dX11_reads_72 : decode cX11_reads 72 = .ok (.aload_n 0, 1) := by decide +kernel
theorem dX11_reads_73 : decode cX11_reads 73 = .ok (.aload_n 0, 1) := by decide +kernel
theorem dX11_reads_74 : decode cX11_reads 74 = .ok (.getfield 169, 3) := by decide +kernel
theorem dX11_reads_77 : decode cX11_reads 77 = .ok (.iconst 1, 1) := by decide +kernel
theorem dX11_reads_78 : decode cX11_reads 78 = .ok (.iadd, 1) := by decide +kernel
theorem dX11_reads_79 : decode cX11_reads 79 = .ok (.putfield 169, 3) := by decide +kernel
theorem dX11_reads_82 : decode cX11_reads 82 = .ok (.aload_n 0, 1) := by decide +kernel
theorem dX11_reads_83 : decode cX11_reads 83 = .ok (.iload_n 1, 1) := by decide +kernel
theorem dX11_reads_84 : decode cX11_reads 84 = .ok (.putfield 182, 3) := by decide +kernel
theorem dX11_reads_87 : decode cX11_reads 87 = .ok (.aload_n 0, 1) := by decide +kernel
theorem dX11_reads_88 : decode cX11_reads 88 = .ok (.iload_n 1, 1) := by decide +kernel
theorem dX11_reads_89 : decode cX11_reads 89 = .ok (.invokevirtual 185, 3) := by decide +kernel
theorem dX11_reads_92 : decode cX11_reads 92 = .ok (.ifCond .eq 63, 3) := by decide +kernel
theorem dX11_reads_95 : decode cX11_reads 95 = .ok (.aload_n 0, 1) := by decide +kernel
theorem dX11_reads_96 : decode cX11_reads 96 = .ok (.aload_n 0, 1) := by decide +kernel
theorem dX11_reads_97 : decode cX11_reads 97 = .ok (.aload_n 0, 1) := by decide +kernel
theorem dX11_reads_98 : decode cX11_reads 98 = .ok (.getfield 169, 3) := by decide +kernel
theorem dX11_reads_101 : decode cX11_reads 101 = .ok (.invokevirtual 172, 3) := by decide +kernel
theorem dX11_reads_104 : decode cX11_reads 104 = .ok (.invokevirtual 185, 3) := by decide +kernel
theorem dX11_reads_107 : decode cX11_reads 107 = .ok (.ifCond .eq 16, 3) := by decide +kernel
theorem dX11_reads_110 : decode cX11_reads 110 = .ok (.aload_n 0, 1) := by decide +kernel
theorem dX11_reads_111 : decode cX11_reads 111 = .ok (.aload_n 0, 1) := by decide +kernel
theorem dX11_reads_112 : decode cX11_reads 112 = .ok (.getfield 169, 3) := by decide +kernel
theorem dX11_reads_115 : decode cX11_reads 115 = .ok (.iconst 1, 1) := by decide +kernel
theorem dX11_reads_116 : decode cX11_reads 116 = .ok (.iadd, 1) := by decide +kernel
theorem dX11_reads_117 : decode cX11_reads 117 = .ok (.putfield 169, 3) := by decide +kernel
theorem dX11_reads_120 : decode cX11_reads 120 = .ok (.goto (-25), 3) := by decide +kernel
theorem dX11_reads_123 : decode cX11_reads 123 = .ok (.aload_n 0, 1) := by decide +kernel
theorem dX11_reads_124 : decode cX11_reads 124 = .ok (.aload_n 0, 1) := by decide +kernel
theorem dX11_reads_125 : decode cX11_reads 125 = .ok (.aload_n 0, 1) := by decide +kernel
theorem dX11_reads_126 : decode cX11_reads 126 = .ok (.getfield 176, 3) := by decide +kernel
theorem dX11_reads_129 : decode cX11_reads 129 = .ok (.aload_n 0, 1) := by decide +kernel
theorem dX11_reads_130 : decode cX11_reads 130 = .ok (.getfield 169, 3) := by decide +kernel
theorem dX11_reads_133 : decode cX11_reads 133 = .ok (.invokevirtual 189, 3) := by decide +kernel
theorem dX11_reads_136 : decode cX11_reads 136 = .ok (.putfield 182, 3) := by decide +kernel
theorem dX11_reads_139 : decode cX11_reads 139 = .ok (.aload_n 0, 1) := by decide +kernel
theorem dX11_reads_140 : decode cX11_reads 140 = .ok (.getfield 182, 3) := by decide +kernel
theorem dX11_reads_143 : decode cX11_reads 143 = .ok (.iconst (-1), 1) := by decide +kernel
theorem dX11_reads_144 : decode cX11_reads 144 = .ok (.if_icmp .eq 129, 3) := by decide +kernel
theorem dX11_reads_147 : decode cX11_reads 147 = .ok (.aload_n 0, 1) := by decide +kernel
theorem dX11_reads_148 : decode cX11_reads 148 = .ok (.iconst 2, 1) := by decide +kernel
theorem dX11_reads_149 : decode cX11_reads 149 = .ok (.putfield 179, 3) := by decide +kernel
theorem dX11_reads_152 : decode cX11_reads 152 = .ok (.goto 121, 3) := by decide +kernel
theorem dX11_reads_155 : decode cX11_reads 155 = .ok (.aload_n 0, 1) := by decide +kernel
theorem dX11_reads_156 : decode cX11_reads 156 = .ok (.iload_n 1, 1) := by decide +kernel
theorem dX11_reads_157 : decode cX11_reads 157 = .ok (.invokevirtual 192, 3) := by decide +kernel
theorem dX11_reads_160 : decode cX11_reads 160 = .ok (.ifCond .eq 100, 3) := by decide +kernel
theorem dX11_reads_163 : decode cX11_reads 163 = .ok (.aload_n 0, 1) := by decide +kernel
theorem dX11_reads_164 : decode cX11_reads 164 = .ok (.iload_n 1, 1) := by decide +kernel
theorem dX11_reads_165 : decode cX11_reads 165 = .ok (.bipush 48, 2) := by decide +kernel
theorem dX11_reads_167 : decode cX11_reads 167 = .ok (.isub, 1) := by decide +kernel
theorem dX11_reads_168 : decode cX11_reads 168 = .ok (.putfield 182, 3) := by decide +kernel
theorem dX11_reads_171 : decode cX11_reads 171 = .ok (.aload_n 0, 1) := by decide +kernel
theorem dX11_reads_172 : decode cX11_reads 172 = .ok (.aload_n 0, 1) := by decide +kernel
theorem dX11_reads_173 : decode cX11_reads 173 = .ok (.aload_n 0, 1) := by decide +kernel
theorem dX11_reads_174 : decode cX11_reads 174 = .ok (.getfield 169, 3) := by decide +kernel
theorem dX11_reads_177 : decode cX11_reads 177 = .ok (.invokevirtual 172, 3) := by decide +kernel
theorem dX11_reads_180 : decode cX11_reads 180 = .ok (.invokevirtual 192, 3) := by decide +kernel
theorem dX11_reads_183 : decode cX11_reads 183 = .ok (.ifCond .eq 56, 3) := by decide +kernel
theorem dX11_reads_186 : decode cX11_reads 186 = .ok (.aload_n 0, 1) := by decide +kernel
theorem dX11_reads_187 : decode cX11_reads 187 = .ok (.aload_n 0, 1) := by decide +kernel
theorem dX11_reads_188 : decode cX11_reads 188 = .ok (.getfield 182, 3) := by decide +kernel
theorem dX11_reads_191 : decode cX11_reads 191 = .ok (.sipush 10000, 3) := by decide +kernel
theorem dX11_reads_194 : decode cX11_reads 194 = .ok (.if_icmp .ge 25, 3) := by decide +kernel
theorem dX11_reads_197 : decode cX11_reads 197 = .ok (.bipush 10, 2) := by decide +kernel
theorem dX11_reads_199 : decode cX11_reads 199 = .ok (.aload_n 0, 1) := by decide +kernel
theorem dX11_reads_200 : decode cX11_reads 200 = .ok (.getfield 182, 3) := by decide +kernel
theorem dX11_reads_203 : decode cX11_reads 203 = .ok (.imul, 1) := by decide +kernel
theorem dX11_reads_204 : decode cX11_reads 204 = .ok (.aload_n 0, 1) := by decide +kernel
theorem dX11_reads_205 : decode cX11_reads 205 = .ok (.aload_n 0, 1) := by decide +kernel
theorem dX11_reads_206 : decode cX11_reads 206 = .ok (.getfield 169, 3) := by decide +kernel
theorem dX11_reads_209 : decode cX11_reads 209 = .ok (.invokevirtual 172, 3) := by decide +kernel
theorem dX11_reads_212 : decode cX11_reads 212 = .ok (.iadd, 1) := by decide +kernel
theorem dX11_reads_213 : decode cX11_reads 213 = .ok (.bipush 48, 2) := by decide +kernel
theorem dX11_reads_215 : decode cX11_reads 215 = .ok (.isub, 1) := by decide +kernel
theorem dX11_reads_216 : decode cX11_reads 216 = .ok (.goto 7, 3) := by decide +kernel
theorem dX11_reads_219 : decode cX11_reads 219 = .ok (.aload_n 0, 1) := by decide +kernel
theorem dX11_reads_220 : decode cX11_reads 220 = .ok (.getfield 182, 3) := by decide +kernel
theorem dX11_reads_223 : decode cX11_reads 223 = .ok (.putfield 182, 3) := by decide +kernel
theorem dX11_reads_226 : decode cX11_reads 226 = .ok (.aload_n 0, 1) := by decide +kernel
theorem dX11_reads_227 : decode cX11_reads 227 = .ok (.aload_n 0, 1) := by decide +kernel
theorem dX11_reads_228 : decode cX11_reads 228 = .ok (.getfield 169, 3) := by decide +kernel
theorem dX11_reads_231 : decode cX11_reads 231 = .ok (.iconst 1, 1) := by decide +kernel
theorem dX11_reads_232 : decode cX11_reads 232 = .ok (.iadd, 1) := by decide +kernel
theorem dX11_reads_233 : decode cX11_reads 233 = .ok (.putfield 169, 3) := by decide +kernel
theorem dX11_reads_236 : decode cX11_reads 236 = .ok (.goto (-65), 3) := by decide +kernel
theorem dX11_reads_239 : decode cX11_reads 239 = .ok (.aload_n 0, 1) := by decide +kernel
theorem dX11_reads_240 : decode cX11_reads 240 = .ok (.getfield 169, 3) := by decide +kernel
theorem dX11_reads_243 : decode cX11_reads 243 = .ok (.aload_n 0, 1) := by decide +kernel
theorem dX11_reads_244 : decode cX11_reads 244 = .ok (.getfield 176, 3) := by decide +kernel
theorem dX11_reads_247 : decode cX11_reads 247 = .ok (.isub, 1) := by decide +kernel
theorem dX11_reads_248 : decode cX11_reads 248 = .ok (.iconst 5, 1) := by decide +kernel
theorem dX11_reads_249 : decode cX11_reads 249 = .ok (.if_icmp .ge 24, 3) := by decide +kernel
theorem dX11_reads_252 : decode cX11_reads 252 = .ok (.aload_n 0, 1) := by decide +kernel
theorem dX11_reads_253 : decode cX11_reads 253 = .ok (.iconst 3, 1) := by decide +kernel
theorem dX11_reads_254 : decode cX11_reads 254 = .ok (.putfield 179, 3) := by decide +kernel
theorem dX11_reads_257 : decode cX11_reads 257 = .ok (.goto 16, 3) := by decide +kernel
theorem dX11_reads_260 : decode cX11_reads 260 = .ok (.aload_n 0, 1) := by decide +kernel
theorem dX11_reads_261 : decode cX11_reads 261 = .ok (.iload_n 1, 1) := by decide +kernel
theorem dX11_reads_262 : decode cX11_reads 262 = .ok (.invokevirtual 195, 3) := by decide +kernel
theorem dX11_reads_265 : decode cX11_reads 265 = .ok (.ifCond .eq 8, 3) := by decide +kernel
theorem dX11_reads_268 : decode cX11_reads 268 = .ok (.aload_n 0, 1) := by decide +kernel
theorem dX11_reads_269 : decode cX11_reads 269 = .ok (.iconst 4, 1) := by decide +kernel
theorem dX11_reads_270 : decode cX11_reads 270 = .ok (.putfield 179, 3) := by decide +kernel
theorem dX11_reads_273 : decode cX11_reads 273 = .ok (.return_, 1) := by decide +kernel
theorem dX11_fails_0 : decode cX11_fails 0 = .ok (.aload_n 0, 1) := by decide +kernel
theorem dX11_fails_1 : decode cX11_fails 1 = .ok (.iload_n 1, 1) := by decide +kernel
theorem dX11_fails_2 : decode cX11_fails 2 = .ok (.putfield 198, 3) := by decide +kernel
theorem dX11_fails_5 : decode cX11_fails 5 = .ok (.aload_n 0, 1) := by decide +kernel
theorem dX11_fails_6 : decode cX11_fails 6 = .ok (.aload_n 0, 1) := by decide +kernel
theorem dX11_fails_7 : decode cX11_fails 7 = .ok (.getfield 176, 3) := by decide +kernel
theorem dX11_fails_10 : decode cX11_fails 10 = .ok (.putfield 201, 3) := by decide +kernel
theorem dX11_fails_13 : decode cX11_fails 13 = .ok (.iconst (-1), 1) := by decide +kernel
theorem dX11_fails_14 : decode cX11_fails 14 = .ok (.ireturn, 1) := by decide +kernel
theorem dX11_isWord_0 : decode cX11_isWord 0 = .ok (.aload_n 0, 1) := by decide +kernel
theorem dX11_isWord_1 : decode cX11_isWord 1 = .ok (.getfield 179, 3) := by decide +kernel
theorem dX11_isWord_4 : decode cX11_isWord 4 = .ok (.iconst 2, 1) := by decide +kernel
theorem dX11_isWord_5 : decode cX11_isWord 5 = .ok (.if_icmp .ne 15, 3) := by decide +kernel
theorem dX11_isWord_8 : decode cX11_isWord 8 = .ok (.aload_n 0, 1) := by decide +kernel
theorem dX11_isWord_9 : decode cX11_isWord 9 = .ok (.getfield 182, 3) := by decide +kernel
theorem dX11_isWord_12 : decode cX11_isWord 12 = .ok (.iload_n 1, 1) := by decide +kernel
theorem dX11_isWord_13 : decode cX11_isWord 13 = .ok (.if_icmp .ne 7, 3) := by decide +kernel
theorem dX11_isWord_16 : decode cX11_isWord 16 = .ok (.iconst 1, 1) := by decide +kernel
theorem dX11_isWord_17 : decode cX11_isWord 17 = .ok (.goto 4, 3) := by decide +kernel
theorem dX11_isWord_20 : decode cX11_isWord 20 = .ok (.iconst 0, 1) := by decide +kernel
theorem dX11_isWord_21 : decode cX11_isWord 21 = .ok (.ireturn, 1) := by decide +kernel
theorem dX11_isSign_0 : decode cX11_isSign 0 = .ok (.aload_n 0, 1) := by decide +kernel
theorem dX11_isSign_1 : decode cX11_isSign 1 = .ok (.getfield 179, 3) := by decide +kernel
theorem dX11_isSign_4 : decode cX11_isSign 4 = .ok (.iconst 4, 1) := by decide +kernel
theorem dX11_isSign_5 : decode cX11_isSign 5 = .ok (.if_icmp .ne 15, 3) := by decide +kernel
theorem dX11_isSign_8 : decode cX11_isSign 8 = .ok (.aload_n 0, 1) := by decide +kernel
theorem dX11_isSign_9 : decode cX11_isSign 9 = .ok (.getfield 182, 3) := by decide +kernel
theorem dX11_isSign_12 : decode cX11_isSign 12 = .ok (.iload_n 1, 1) := by decide +kernel
theorem dX11_isSign_13 : decode cX11_isSign 13 = .ok (.if_icmp .ne 7, 3) := by decide +kernel
theorem dX11_isSign_16 : decode cX11_isSign 16 = .ok (.iconst 1, 1) := by decide +kernel
theorem dX11_isSign_17 : decode cX11_isSign 17 = .ok (.goto 4, 3) := by decide +kernel
theorem dX11_isSign_20 : decode cX11_isSign 20 = .ok (.iconst 0, 1) := by decide +kernel
theorem dX11_isSign_21 : decode cX11_isSign 21 = .ok (.ireturn, 1) := by decide +kernel
theorem dX11_emits_0 : decode cX11_emits 0 = .ok (.aload_n 0, 1) := by decide +kernel
theorem dX11_emits_1 : decode cX11_emits 1 = .ok (.getfield 71, 3) := by decide +kernel
theorem dX11_emits_4 : decode cX11_emits 4 = .ok (.sipush 1200, 3) := by decide +kernel
theorem dX11_emits_7 : decode cX11_emits 7 = .ok (.aload_n 0, 1) := by decide +kernel
theorem dX11_emits_8 : decode cX11_emits 8 = .ok (.getfield 204, 3) := by decide +kernel
theorem dX11_emits_11 : decode cX11_emits 11 = .ok (.iadd, 1) := by decide +kernel
theorem dX11_emits_12 : decode cX11_emits 12 = .ok (.iload_n 1, 1) := by decide +kernel
theorem dX11_emits_13 : decode cX11_emits 13 = .ok (.iastore, 1) := by decide +kernel
theorem dX11_emits_14 : decode cX11_emits 14 = .ok (.aload_n 0, 1) := by decide +kernel
theorem dX11_emits_15 : decode cX11_emits 15 = .ok (.getfield 74, 3) := by decide +kernel
theorem dX11_emits_18 : decode cX11_emits 18 = .ok (.sipush 1200, 3) := by decide +kernel
theorem dX11_emits_21 : decode cX11_emits 21 = .ok (.aload_n 0, 1) := by decide +kernel
theorem dX11_emits_22 : decode cX11_emits 22 = .ok (.getfield 204, 3) := by decide +kernel
theorem dX11_emits_25 : decode cX11_emits 25 = .ok (.iadd, 1) := by decide +kernel
theorem dX11_emits_26 : decode cX11_emits 26 = .ok (.iload_n 2, 1) := by decide +kernel
theorem dX11_emits_27 : decode cX11_emits 27 = .ok (.iastore, 1) := by decide +kernel
theorem dX11_emits_28 : decode cX11_emits 28 = .ok (.aload_n 0, 1) := by decide +kernel
theorem dX11_emits_29 : decode cX11_emits 29 = .ok (.aload_n 0, 1) := by decide +kernel
theorem dX11_emits_30 : decode cX11_emits 30 = .ok (.getfield 204, 3) := by decide +kernel
theorem dX11_emits_33 : decode cX11_emits 33 = .ok (.iconst 1, 1) := by decide +kernel
theorem dX11_emits_34 : decode cX11_emits 34 = .ok (.iadd, 1) := by decide +kernel
theorem dX11_emits_35 : decode cX11_emits 35 = .ok (.putfield 204, 3) := by decide +kernel
theorem dX11_emits_38 : decode cX11_emits 38 = .ok (.return_, 1) := by decide +kernel
theorem dX11_isAsking_0 : decode cX11_isAsking 0 = .ok (.aload_n 0, 1) := by decide +kernel
theorem dX11_isAsking_1 : decode cX11_isAsking 1 = .ok (.getfield 179, 3) := by decide +kernel
theorem dX11_isAsking_4 : decode cX11_isAsking 4 = .ok (.iconst 2, 1) := by decide +kernel
theorem dX11_isAsking_5 : decode cX11_isAsking 5 = .ok (.if_icmp .ne 56, 3) := by decide +kernel
theorem dX11_isAsking_8 : decode cX11_isAsking 8 = .ok (.aload_n 0, 1) := by decide +kernel
theorem dX11_isAsking_9 : decode cX11_isAsking 9 = .ok (.getfield 207, 3) := by decide +kernel
theorem dX11_isAsking_12 : decode cX11_isAsking 12 = .ok (.ifCond .eq 21, 3) := by decide +kernel
theorem dX11_isAsking_15 : decode cX11_isAsking 15 = .ok (.aload_n 0, 1) := by decide +kernel
theorem dX11_isAsking_16 : decode cX11_isAsking 16 = .ok (.aload_n 0, 1) := by decide +kernel
theorem dX11_isAsking_17 : decode cX11_isAsking 17 = .ok (.getfield 182, 3) := by decide +kernel
theorem dX11_isAsking_20 : decode cX11_isAsking 20 = .ok (.bipush 11, 2) := by decide +kernel
theorem dX11_isAsking_22 : decode cX11_isAsking 22 = .ok (.bipush 19, 2) := by decide +kernel
theorem dX11_isAsking_24 : decode cX11_isAsking 24 = .ok (.invokevirtual 144, 3) := by decide +kernel
theorem dX11_isAsking_27 : decode cX11_isAsking 27 = .ok (.ifCond .eq 34, 3) := by decide +kernel
theorem dX11_isAsking_30 : decode cX11_isAsking 30 = .ok (.goto 27, 3) := by decide +kernel
theorem dX11_isAsking_33 : decode cX11_isAsking 33 = .ok (.aload_n 0, 1) := by decide +kernel
theorem dX11_isAsking_34 : decode cX11_isAsking 34 = .ok (.getfield 182, 3) := by decide +kernel
theorem dX11_isAsking_37 : decode cX11_isAsking 37 = .ok (.bipush 16, 2) := by decide +kernel
theorem dX11_isAsking_39 : decode cX11_isAsking 39 = .ok (.if_icmp .eq 18, 3) := by decide +kernel
theorem dX11_isAsking_42 : decode cX11_isAsking 42 = .ok (.aload_n 0, 1) := by decide +kernel
theorem dX11_isAsking_43 : decode cX11_isAsking 43 = .ok (.aload_n 0, 1) := by decide +kernel
theorem dX11_isAsking_44 : decode cX11_isAsking 44 = .ok (.getfield 182, 3) := by decide +kernel
theorem dX11_isAsking_47 : decode cX11_isAsking 47 = .ok (.bipush 20, 2) := by decide +kernel
theorem dX11_isAsking_49 : decode cX11_isAsking 49 = .ok (.bipush 26, 2) := by decide +kernel
theorem dX11_isAsking_51 : decode cX11_isAsking 51 = .ok (.invokevirtual 144, 3) := by decide +kernel
theorem dX11_isAsking_54 : decode cX11_isAsking 54 = .ok (.ifCond .eq 7, 3) := by decide +kernel
theorem dX11_isAsking_57 : decode cX11_isAsking 57 = .ok (.iconst 1, 1) := by decide +kernel
theorem dX11_isAsking_58 : decode cX11_isAsking 58 = .ok (.goto 4, 3) := by decide +kernel
theorem dX11_isAsking_61 : decode cX11_isAsking 61 = .ok (.iconst 0, 1) := by decide +kernel
theorem dX11_isAsking_62 : decode cX11_isAsking 62 = .ok (.ireturn, 1) := by decide +kernel
theorem dX11_readUnit_0 : decode cX11_readUnit 0 = .ok (.aload_n 0, 1) := by decide +kernel
theorem dX11_readUnit_1 : decode cX11_readUnit 1 = .ok (.invokevirtual 211, 3) := by decide +kernel
theorem dX11_readUnit_4 : decode cX11_readUnit 4 = .ok (.istore_n 1, 1) := by decide +kernel
theorem dX11_readUnit_5 : decode cX11_readUnit 5 = .ok (.iload_n 1, 1) := by decide +kernel
theorem dX11_readUnit_6 : decode cX11_readUnit 6 = .ok (.ifCond .ne 17, 3) := by decide +kernel
theorem dX11_readUnit_9 : decode cX11_readUnit 9 = .ok (.aload_n 0, 1) := by decide +kernel
theorem dX11_readUnit_10 : decode cX11_readUnit 10 = .ok (.getfield 179, 3) := by decide +kernel
theorem dX11_readUnit_13 : decode cX11_readUnit 13 = .ok (.iconst 3, 1) := by decide +kernel
theorem dX11_readUnit_14 : decode cX11_readUnit 14 = .ok (.if_icmp .eq 9, 3) := by decide +kernel
theorem dX11_readUnit_17 : decode cX11_readUnit 17 = .ok (.aload_n 0, 1) := by decide +kernel
theorem dX11_readUnit_18 : decode cX11_readUnit 18 = .ok (.iconst 1, 1) := by decide +kernel
theorem dX11_readUnit_19 : decode cX11_readUnit 19 = .ok (.invokevirtual 215, 3) := by decide +kernel
theorem dX11_readUnit_22 : decode cX11_readUnit 22 = .ok (.ireturn, 1) := by decide +kernel
theorem dX11_readUnit_23 : decode cX11_readUnit 23 = .ok (.aload_n 0, 1) := by decide +kernel
theorem dX11_readUnit_24 : decode cX11_readUnit 24 = .ok (.iload_n 1, 1) := by decide +kernel
theorem dX11_readUnit_25 : decode cX11_readUnit 25 = .ok (.ifCond .eq 7, 3) := by decide +kernel
theorem dX11_readUnit_28 : decode cX11_readUnit 28 = .ok (.iconst 1, 1) := by decide +kernel
theorem dX11_readUnit_29 : decode cX11_readUnit 29 = .ok (.goto 4, 3) := by decide +kernel
theorem dX11_readUnit_32 : decode cX11_readUnit 32 = .ok (.iconst 0, 1) := by decide +kernel
theorem dX11_readUnit_33 : decode cX11_readUnit 33 = .ok (.iload_n 1, 1) := by decide +kernel
theorem dX11_readUnit_34 : decode cX11_readUnit 34 = .ok (.ifCond .eq 13, 3) := by decide +kernel
theorem dX11_readUnit_37 : decode cX11_readUnit 37 = .ok (.aload_n 0, 1) := by decide +kernel
theorem dX11_readUnit_38 : decode cX11_readUnit 38 = .ok (.getfield 182, 3) := by decide +kernel
theorem dX11_readUnit_41 : decode cX11_readUnit 41 = .ok (.bipush 11, 2) := by decide +kernel
theorem dX11_readUnit_43 : decode cX11_readUnit 43 = .ok (.isub, 1) := by decide +kernel
theorem dX11_readUnit_44 : decode cX11_readUnit 44 = .ok (.goto 7, 3) := by decide +kernel
theorem dX11_readUnit_47 : decode cX11_readUnit 47 = .ok (.aload_n 0, 1) := by decide +kernel
theorem dX11_readUnit_48 : decode cX11_readUnit 48 = .ok (.getfield 182, 3) := by decide +kernel
theorem dX11_readUnit_51 : decode cX11_readUnit 51 = .ok (.invokevirtual 218, 3) := by decide +kernel
theorem dX11_readUnit_54 : decode cX11_readUnit 54 = .ok (.aload_n 0, 1) := by decide +kernel
theorem dX11_readUnit_55 : decode cX11_readUnit 55 = .ok (.invokevirtual 222, 3) := by decide +kernel
theorem dX11_readUnit_58 : decode cX11_readUnit 58 = .ok (.iconst 0, 1) := by decide +kernel
theorem dX11_readUnit_59 : decode cX11_readUnit 59 = .ok (.ireturn, 1) := by decide +kernel
theorem dX11_readProduct_0 : decode cX11_readProduct 0 = .ok (.aload_n 0, 1) := by decide +kernel
theorem dX11_readProduct_1 : decode cX11_readProduct 1 = .ok (.invokevirtual 225, 3) := by decide +kernel
theorem dX11_readProduct_4 : decode cX11_readProduct 4 = .ok (.iconst (-1), 1) := by decide +kernel
theorem dX11_readProduct_5 : decode cX11_readProduct 5 = .ok (.if_icmp .ne 5, 3) := by decide +kernel
theorem dX11_readProduct_8 : decode cX11_readProduct 8 = .ok (.iconst (-1), 1) := by decide +kernel
theorem dX11_readProduct_9 : decode cX11_readProduct 9 = .ok (.ireturn, 1) := by decide +kernel
theorem dX11_readProduct_10 : decode cX11_readProduct 10 = .ok (.aload_n 0, 1) := by decide +kernel
theorem dX11_readProduct_11 : decode cX11_readProduct 11 = .ok (.bipush 42, 2) := by decide +kernel
theorem dX11_readProduct_13 : decode cX11_readProduct 13 = .ok (.invokevirtual 229, 3) := by decide +kernel
theorem dX11_readProduct_16 : decode cX11_readProduct 16 = .ok (.ifCond .ne 12, 3) := by decide +kernel
theorem dX11_readProduct_19 : decode cX11_readProduct 19 = .ok (.aload_n 0, 1) := by decide +kernel
theorem dX11_readProduct_20 : decode cX11_readProduct 20 = .ok (.bipush 47, 2) := by decide +kernel
theorem dX11_readProduct_22 : decode cX11_readProduct 22 = .ok (.invokevirtual 229, 3) := by decide +kernel
theorem dX11_readProduct_25 : decode cX11_readProduct 25 = .ok (.ifCond .eq 76, 3) := by decide +kernel
theorem dX11_readProduct_28 : decode cX11_readProduct 28 = .ok (.aload_n 0, 1) := by decide +kernel
theorem dX11_readProduct_29 : decode cX11_readProduct 29 = .ok (.bipush 42, 2) := by decide +kernel
theorem dX11_readProduct_31 : decode cX11_readProduct 31 = .ok (.invokevirtual 229, 3) := by decide +kernel
theorem dX11_readProduct_34 : decode cX11_readProduct 34 = .ok (.istore_n 1, 1) := by decide +kernel
theorem dX11_readProduct_35 : decode cX11_readProduct 35 = .ok (.aload_n 0, 1) := by decide +kernel
theorem dX11_readProduct_36 : decode cX11_readProduct 36 = .ok (.invokevirtual 222, 3) := by decide +kernel
theorem dX11_readProduct_39 : decode cX11_readProduct 39 = .ok (.iload_n 1, 1) := by decide +kernel
theorem dX11_readProduct_40 : decode cX11_readProduct 40 = .ok (.ifCond .ne 17, 3) := by decide +kernel
theorem dX11_readProduct_43 : decode cX11_readProduct 43 = .ok (.aload_n 0, 1) := by decide +kernel
theorem dX11_readProduct_44 : decode cX11_readProduct 44 = .ok (.getfield 179, 3) := by decide +kernel
theorem dX11_readProduct_47 : decode cX11_readProduct 47 = .ok (.iconst 3, 1) := by decide +kernel
theorem dX11_readProduct_48 : decode cX11_readProduct 48 = .ok (.if_icmp .eq 9, 3) := by decide +kernel
theorem dX11_readProduct_51 : decode cX11_readProduct 51 = .ok (.aload_n 0, 1) := by decide +kernel
theorem dX11_readProduct_52 : decode cX11_readProduct 52 = .ok (.iconst 1, 1) := by decide +kernel
theorem dX11_readProduct_53 : decode cX11_readProduct 53 = .ok (.invokevirtual 215, 3) := by decide +kernel
theorem dX11_readProduct_56 : decode cX11_readProduct 56 = .ok (.ireturn, 1) := by decide +kernel
theorem dX11_readProduct_57 : decode cX11_readProduct 57 = .ok (.iload_n 1, 1) := by decide +kernel
theorem dX11_readProduct_58 : decode cX11_readProduct 58 = .ok (.ifCond .ne 16, 3) := by decide +kernel
theorem dX11_readProduct_61 : decode cX11_readProduct 61 = .ok (.aload_n 0, 1) := by decide +kernel
theorem dX11_readProduct_62 : decode cX11_readProduct 62 = .ok (.getfield 182, 3) := by decide +kernel
theorem dX11_readProduct_65 : decode cX11_readProduct 65 = .ok (.ifCond .ne 9, 3) := by decide +kernel
theorem dX11_readProduct_68 : decode cX11_readProduct 68 = .ok (.aload_n 0, 1) := by decide +kernel
theorem dX11_readProduct_69 : decode cX11_readProduct 69 = .ok (.iconst 2, 1) := by decide +kernel
theorem dX11_readProduct_70 : decode cX11_readProduct 70 = .ok (.invokevirtual 215, 3) := by decide +kernel
theorem dX11_readProduct_73 : decode cX11_readProduct 73 = .ok (.ireturn, 1) := by decide +kernel
theorem dX11_readProduct_74 : decode cX11_readProduct 74 = .ok (.aload_n 0, 1) := by decide +kernel
theorem dX11_readProduct_75 : decode cX11_readProduct 75 = .ok (.invokevirtual 225, 3) := by decide +kernel
theorem dX11_readProduct_78 : decode cX11_readProduct 78 = .ok (.iconst (-1), 1) := by decide +kernel
theorem dX11_readProduct_79 : decode cX11_readProduct 79 = .ok (.if_icmp .ne 5, 3) := by decide +kernel
theorem dX11_readProduct_82 : decode cX11_readProduct 82 = .ok (.iconst (-1), 1) := by decide +kernel
theorem dX11_readProduct_83 : decode cX11_readProduct 83 = .ok (.ireturn, 1) := by decide +kernel
theorem dX11_readProduct_84 : decode cX11_readProduct 84 = .ok (.aload_n 0, 1) := by decide +kernel
theorem dX11_readProduct_85 : decode cX11_readProduct 85 = .ok (.iload_n 1, 1) := by decide +kernel
theorem dX11_readProduct_86 : decode cX11_readProduct 86 = .ok (.ifCond .eq 7, 3) := by decide +kernel
theorem dX11_readProduct_89 : decode cX11_readProduct 89 = .ok (.iconst 4, 1) := by decide +kernel
theorem dX11_readProduct_90 : decode cX11_readProduct 90 = .ok (.goto 4, 3) := by decide +kernel
theorem dX11_readProduct_93 : decode cX11_readProduct 93 = .ok (.iconst 5, 1) := by decide +kernel
theorem dX11_readProduct_94 : decode cX11_readProduct 94 = .ok (.iconst 0, 1) := by decide +kernel
theorem dX11_readProduct_95 : decode cX11_readProduct 95 = .ok (.invokevirtual 218, 3) := by decide +kernel
theorem dX11_readProduct_98 : decode cX11_readProduct 98 = .ok (.goto (-88), 3) := by decide +kernel
theorem dX11_readProduct_101 : decode cX11_readProduct 101 = .ok (.iconst 0, 1) := by decide +kernel
theorem dX11_readProduct_102 : decode cX11_readProduct 102 = .ok (.ireturn, 1) := by decide +kernel
theorem dX11_readSum_0 : decode cX11_readSum 0 = .ok (.aload_n 0, 1) := by decide +kernel
theorem dX11_readSum_1 : decode cX11_readSum 1 = .ok (.invokevirtual 232, 3) := by decide +kernel
theorem dX11_readSum_4 : decode cX11_readSum 4 = .ok (.iconst (-1), 1) := by decide +kernel
theorem dX11_readSum_5 : decode cX11_readSum 5 = .ok (.if_icmp .ne 5, 3) := by decide +kernel
theorem dX11_readSum_8 : decode cX11_readSum 8 = .ok (.iconst (-1), 1) := by decide +kernel
theorem dX11_readSum_9 : decode cX11_readSum 9 = .ok (.ireturn, 1) := by decide +kernel
theorem dX11_readSum_10 : decode cX11_readSum 10 = .ok (.aload_n 0, 1) := by decide +kernel
theorem dX11_readSum_11 : decode cX11_readSum 11 = .ok (.bipush 43, 2) := by decide +kernel
theorem dX11_readSum_13 : decode cX11_readSum 13 = .ok (.invokevirtual 229, 3) := by decide +kernel
theorem dX11_readSum_16 : decode cX11_readSum 16 = .ok (.ifCond .ne 12, 3) := by decide +kernel
theorem dX11_readSum_19 : decode cX11_readSum 19 = .ok (.aload_n 0, 1) := by decide +kernel
theorem dX11_readSum_20 : decode cX11_readSum 20 = .ok (.bipush 45, 2) := by decide +kernel
theorem dX11_readSum_22 : decode cX11_readSum 22 = .ok (.invokevirtual 229, 3) := by decide +kernel
theorem dX11_readSum_25 : decode cX11_readSum 25 = .ok (.ifCond .eq 41, 3) := by decide +kernel
theorem dX11_readSum_28 : decode cX11_readSum 28 = .ok (.aload_n 0, 1) := by decide +kernel
theorem dX11_readSum_29 : decode cX11_readSum 29 = .ok (.getfield 182, 3) := by decide +kernel
theorem dX11_readSum_32 : decode cX11_readSum 32 = .ok (.bipush 43, 2) := by decide +kernel
theorem dX11_readSum_34 : decode cX11_readSum 34 = .ok (.if_icmp .ne 7, 3) := by decide +kernel
theorem dX11_readSum_37 : decode cX11_readSum 37 = .ok (.iconst 2, 1) := by decide +kernel
theorem dX11_readSum_38 : decode cX11_readSum 38 = .ok (.goto 4, 3) := by decide +kernel
theorem dX11_readSum_41 : decode cX11_readSum 41 = .ok (.iconst 3, 1) := by decide +kernel
theorem dX11_readSum_42 : decode cX11_readSum 42 = .ok (.istore_n 1, 1) := by decide +kernel
theorem dX11_readSum_43 : decode cX11_readSum 43 = .ok (.aload_n 0, 1) := by decide +kernel
theorem dX11_readSum_44 : decode cX11_readSum 44 = .ok (.invokevirtual 222, 3) := by decide +kernel
theorem dX11_readSum_47 : decode cX11_readSum 47 = .ok (.aload_n 0, 1) := by decide +kernel
theorem dX11_readSum_48 : decode cX11_readSum 48 = .ok (.invokevirtual 232, 3) := by decide +kernel
theorem dX11_readSum_51 : decode cX11_readSum 51 = .ok (.iconst (-1), 1) := by decide +kernel
theorem dX11_readSum_52 : decode cX11_readSum 52 = .ok (.if_icmp .ne 5, 3) := by decide +kernel
theorem dX11_readSum_55 : decode cX11_readSum 55 = .ok (.iconst (-1), 1) := by decide +kernel
theorem dX11_readSum_56 : decode cX11_readSum 56 = .ok (.ireturn, 1) := by decide +kernel
theorem dX11_readSum_57 : decode cX11_readSum 57 = .ok (.aload_n 0, 1) := by decide +kernel
theorem dX11_readSum_58 : decode cX11_readSum 58 = .ok (.iload_n 1, 1) := by decide +kernel
theorem dX11_readSum_59 : decode cX11_readSum 59 = .ok (.iconst 0, 1) := by decide +kernel
theorem dX11_readSum_60 : decode cX11_readSum 60 = .ok (.invokevirtual 218, 3) := by decide +kernel
theorem dX11_readSum_63 : decode cX11_readSum 63 = .ok (.goto (-53), 3) := by decide +kernel
theorem dX11_readSum_66 : decode cX11_readSum 66 = .ok (.iconst 0, 1) := by decide +kernel
theorem dX11_readSum_67 : decode cX11_readSum 67 = .ok (.ireturn, 1) := by decide +kernel
theorem dX11_readCompared_0 : decode cX11_readCompared 0 = .ok (.aload_n 0, 1) := by decide +kernel
theorem dX11_readCompared_1 : decode cX11_readCompared 1 = .ok (.invokevirtual 235, 3) := by decide +kernel
theorem dX11_readCompared_4 : decode cX11_readCompared 4 = .ok (.iconst (-1), 1) := by decide +kernel
theorem dX11_readCompared_5 : decode cX11_readCompared 5 = .ok (.if_icmp .ne 5, 3) := by decide +kernel
theorem dX11_readCompared_8 : decode cX11_readCompared 8 = .ok (.iconst (-1), 1) := by decide +kernel
theorem dX11_readCompared_9 : decode cX11_readCompared 9 = .ok (.ireturn, 1) := by decide +kernel
theorem dX11_readCompared_10 : decode cX11_readCompared 10 = .ok (.aload_n 0, 1) := by decide +kernel
theorem dX11_readCompared_11 : decode cX11_readCompared 11 = .ok (.bipush 60, 2) := by decide +kernel
theorem dX11_readCompared_13 : decode cX11_readCompared 13 = .ok (.invokevirtual 229, 3) := by decide +kernel
theorem dX11_readCompared_16 : decode cX11_readCompared 16 = .ok (.ifCond .ne 27, 3) := by decide +kernel
theorem dX11_readCompared_19 : decode cX11_readCompared 19 = .ok (.aload_n 0, 1) := by decide +kernel
theorem dX11_readCompared_20 : decode cX11_readCompared 20 = .ok (.bipush 61, 2) := by decide +kernel
theorem dX11_readCompared_22 : decode cX11_readCompared 22 = .ok (.invokevirtual 229, 3) := by decide +kernel
theorem dX11_readCompared_25 : decode cX11_readCompared 25 = .ok (.ifCond .ne 18, 3) := by decide +kernel
theorem dX11_readCompared_28 : decode cX11_readCompared 28 = .ok (.aload_n 0, 1) := by decide +kernel
theorem dX11_readCompared_29 : decode cX11_readCompared 29 = .ok (.bipush 62, 2) := by decide +kernel
theorem dX11_readCompared_31 : decode cX11_readCompared 31 = .ok (.invokevirtual 229, 3) := by decide +kernel
theorem dX11_readCompared_34 : decode cX11_readCompared 34 = .ok (.ifCond .ne 9, 3) := by decide +kernel
theorem dX11_readCompared_37 : decode cX11_readCompared 37 = .ok (.aload_n 0, 1) := by decide +kernel
theorem dX11_readCompared_38 : decode cX11_readCompared 38 = .ok (.iconst 1, 1) := by decide +kernel
theorem dX11_readCompared_39 : decode cX11_readCompared 39 = .ok (.invokevirtual 215, 3) := by decide +kernel
theorem dX11_readCompared_42 : decode cX11_readCompared 42 = .ok (.ireturn, 1) := by decide +kernel
theorem dX11_readCompared_43 : decode cX11_readCompared 43 = .ok (.aload_n 0, 1) := by decide +kernel
theorem dX11_readCompared_44 : decode cX11_readCompared 44 = .ok (.getfield 182, 3) := by decide +kernel
theorem dX11_readCompared_47 : decode cX11_readCompared 47 = .ok (.bipush 60, 2) := by decide +kernel
theorem dX11_readCompared_49 : decode cX11_readCompared 49 = .ok (.if_icmp .ne 8, 3) := by decide +kernel
theorem dX11_readCompared_52 : decode cX11_readCompared 52 = .ok (.bipush 6, 2) := by decide +kernel
theorem dX11_readCompared_54 : decode cX11_readCompared 54 = .ok (.goto 19, 3) := by decide +kernel
theorem dX11_readCompared_57 : decode cX11_readCompared 57 = .ok (.aload_n 0, 1) := by decide +kernel
theorem dX11_readCompared_58 : decode cX11_readCompared 58 = .ok (.getfield 182, 3) := by decide +kernel
theorem dX11_readCompared_61 : decode cX11_readCompared 61 = .ok (.bipush 61, 2) := by decide +kernel
theorem dX11_readCompared_63 : decode cX11_readCompared 63 = .ok (.if_icmp .ne 8, 3) := by decide +kernel
theorem dX11_readCompared_66 : decode cX11_readCompared 66 = .ok (.bipush 7, 2) := by decide +kernel
theorem dX11_readCompared_68 : decode cX11_readCompared 68 = .ok (.goto 5, 3) := by decide +kernel
theorem dX11_readCompared_71 : decode cX11_readCompared 71 = .ok (.bipush 8, 2) := by decide +kernel
theorem dX11_readCompared_73 : decode cX11_readCompared 73 = .ok (.istore_n 1, 1) := by decide +kernel
theorem dX11_readCompared_74 : decode cX11_readCompared 74 = .ok (.aload_n 0, 1) := by decide +kernel
theorem dX11_readCompared_75 : decode cX11_readCompared 75 = .ok (.invokevirtual 222, 3) := by decide +kernel
theorem dX11_readCompared_78 : decode cX11_readCompared 78 = .ok (.aload_n 0, 1) := by decide +kernel
theorem dX11_readCompared_79 : decode cX11_readCompared 79 = .ok (.invokevirtual 235, 3) := by decide +kernel
theorem dX11_readCompared_82 : decode cX11_readCompared 82 = .ok (.iconst (-1), 1) := by decide +kernel
theorem dX11_readCompared_83 : decode cX11_readCompared 83 = .ok (.if_icmp .ne 5, 3) := by decide +kernel
theorem dX11_readCompared_86 : decode cX11_readCompared 86 = .ok (.iconst (-1), 1) := by decide +kernel
theorem dX11_readCompared_87 : decode cX11_readCompared 87 = .ok (.ireturn, 1) := by decide +kernel
theorem dX11_readCompared_88 : decode cX11_readCompared 88 = .ok (.aload_n 0, 1) := by decide +kernel
theorem dX11_readCompared_89 : decode cX11_readCompared 89 = .ok (.iload_n 1, 1) := by decide +kernel
theorem dX11_readCompared_90 : decode cX11_readCompared 90 = .ok (.iconst 0, 1) := by decide +kernel
theorem dX11_readCompared_91 : decode cX11_readCompared 91 = .ok (.invokevirtual 218, 3) := by decide +kernel
theorem dX11_readCompared_94 : decode cX11_readCompared 94 = .ok (.iconst 0, 1) := by decide +kernel
theorem dX11_readCompared_95 : decode cX11_readCompared 95 = .ok (.ireturn, 1) := by decide +kernel
theorem dX11_waits_0 : decode cX11_waits 0 = .ok (.aload_n 0, 1) := by decide +kernel
theorem dX11_waits_1 : decode cX11_waits 1 = .ok (.getfield 77, 3) := by decide +kernel
theorem dX11_waits_4 : decode cX11_waits 4 = .ok (.aload_n 0, 1) := by decide +kernel
theorem dX11_waits_5 : decode cX11_waits 5 = .ok (.getfield 238, 3) := by decide +kernel
theorem dX11_waits_8 : decode cX11_waits 8 = .ok (.iload_n 1, 1) := by decide +kernel
theorem dX11_waits_9 : decode cX11_waits 9 = .ok (.iastore, 1) := by decide +kernel
theorem dX11_waits_10 : decode cX11_waits 10 = .ok (.aload_n 0, 1) := by decide +kernel
theorem dX11_waits_11 : decode cX11_waits 11 = .ok (.aload_n 0, 1) := by decide +kernel
theorem dX11_waits_12 : decode cX11_waits 12 = .ok (.getfield 238, 3) := by decide +kernel
theorem dX11_waits_15 : decode cX11_waits 15 = .ok (.iconst 1, 1) := by decide +kernel
theorem dX11_waits_16 : decode cX11_waits 16 = .ok (.iadd, 1) := by decide +kernel
theorem dX11_waits_17 : decode cX11_waits 17 = .ok (.putfield 238, 3) := by decide +kernel
theorem dX11_waits_20 : decode cX11_waits 20 = .ok (.return_, 1) := by decide +kernel
theorem dX11_settles_0 : decode cX11_settles 0 = .ok (.aload_n 0, 1) := by decide +kernel
theorem dX11_settles_1 : decode cX11_settles 1 = .ok (.getfield 238, 3) := by decide +kernel
theorem dX11_settles_4 : decode cX11_settles 4 = .ok (.ifCond .le 53, 3) := by decide +kernel
theorem dX11_settles_7 : decode cX11_settles 7 = .ok (.aload_n 0, 1) := by decide +kernel
theorem dX11_settles_8 : decode cX11_settles 8 = .ok (.getfield 77, 3) := by decide +kernel
theorem dX11_settles_11 : decode cX11_settles 11 = .ok (.aload_n 0, 1) := by decide +kernel
theorem dX11_settles_12 : decode cX11_settles 12 = .ok (.getfield 238, 3) := by decide +kernel
theorem dX11_settles_15 : decode cX11_settles 15 = .ok (.iconst 1, 1) := by decide +kernel
theorem dX11_settles_16 : decode cX11_settles 16 = .ok (.isub, 1) := by decide +kernel
theorem dX11_settles_17 : decode cX11_settles 17 = .ok (.iaload, 1) := by decide +kernel
theorem dX11_settles_18 : decode cX11_settles 18 = .ok (.iload_n 1, 1) := by decide +kernel
theorem dX11_settles_19 : decode cX11_settles 19 = .ok (.if_icmp .ne 38, 3) := by decide +kernel
theorem dX11_settles_22 : decode cX11_settles 22 = .ok (.aload_n 0, 1) := by decide +kernel
theorem dX11_settles_23 : decode cX11_settles 23 = .ok (.aload_n 0, 1) := by decide +kernel
theorem dX11_settles_24 : decode cX11_settles 24 = .ok (.getfield 238, 3) := by decide +kernel
theorem dX11_settles_27 : decode cX11_settles 27 = .ok (.iconst 1, 1) := by decide +kernel
theorem dX11_settles_28 : decode cX11_settles 28 = .ok (.isub, 1) := by decide +kernel
theorem dX11_settles_29 : decode cX11_settles 29 = .ok (.putfield 238, 3) := by decide +kernel
theorem dX11_settles_32 : decode cX11_settles 32 = .ok (.aload_n 0, 1) := by decide +kernel
theorem dX11_settles_33 : decode cX11_settles 33 = .ok (.iload_n 1, 1) := by decide +kernel
theorem dX11_settles_34 : decode cX11_settles 34 = .ok (.iconst 0, 1) := by decide +kernel
theorem dX11_settles_35 : decode cX11_settles 35 = .ok (.invokevirtual 218, 3) := by decide +kernel
theorem dX11_settles_38 : decode cX11_settles 38 = .ok (.iload_n 1, 1) := by decide +kernel
theorem dX11_settles_39 : decode cX11_settles 39 = .ok (.bipush 9, 2) := by decide +kernel
theorem dX11_settles_41 : decode cX11_settles 41 = .ok (.if_icmp .ne (-41), 3) := by decide +kernel
theorem dX11_settles_44 : decode cX11_settles 44 = .ok (.aload_n 0, 1) := by decide +kernel
theorem dX11_settles_45 : decode cX11_settles 45 = .ok (.aload_n 0, 1) := by decide +kernel
theorem dX11_settles_46 : decode cX11_settles 46 = .ok (.getfield 241, 3) := by decide +kernel
theorem dX11_settles_49 : decode cX11_settles 49 = .ok (.iconst 1, 1) := by decide +kernel
theorem dX11_settles_50 : decode cX11_settles 50 = .ok (.isub, 1) := by decide +kernel
theorem dX11_settles_51 : decode cX11_settles 51 = .ok (.putfield 241, 3) := by decide +kernel
theorem dX11_settles_54 : decode cX11_settles 54 = .ok (.goto (-54), 3) := by decide +kernel
theorem dX11_settles_57 : decode cX11_settles 57 = .ok (.return_, 1) := by decide +kernel
theorem dX11_readAny_0 : decode cX11_readAny 0 = .ok (.iconst 0, 1) := by decide +kernel
theorem dX11_readAny_1 : decode cX11_readAny 1 = .ok (.istore_n 1, 1) := by decide +kernel
theorem dX11_readAny_2 : decode cX11_readAny 2 = .ok (.aload_n 0, 1) := by decide +kernel
theorem dX11_readAny_3 : decode cX11_readAny 3 = .ok (.iconst 0, 1) := by decide +kernel
theorem dX11_readAny_4 : decode cX11_readAny 4 = .ok (.putfield 238, 3) := by decide +kernel
theorem dX11_readAny_7 : decode cX11_readAny 7 = .ok (.iconst 1, 1) := by decide +kernel
theorem dX11_readAny_8 : decode cX11_readAny 8 = .ok (.istore_n 2, 1) := by decide +kernel
theorem dX11_readAny_9 : decode cX11_readAny 9 = .ok (.iload_n 2, 1) := by decide +kernel
theorem dX11_readAny_10 : decode cX11_readAny 10 = .ok (.ifCond .eq 99, 3) := by decide +kernel
theorem dX11_readAny_13 : decode cX11_readAny 13 = .ok (.aload_n 0, 1) := by decide +kernel
theorem dX11_readAny_14 : decode cX11_readAny 14 = .ok (.bipush 10, 2) := by decide +kernel
theorem dX11_readAny_16 : decode cX11_readAny 16 = .ok (.invokevirtual 244, 3) := by decide +kernel
theorem dX11_readAny_19 : decode cX11_readAny 19 = .ok (.istore_n 3, 1) := by decide +kernel
theorem dX11_readAny_20 : decode cX11_readAny 20 = .ok (.iload_n 3, 1) := by decide +kernel
theorem dX11_readAny_21 : decode cX11_readAny 21 = .ok (.ifCond .ne 12, 3) := by decide +kernel
theorem dX11_readAny_24 : decode cX11_readAny 24 = .ok (.aload_n 0, 1) := by decide +kernel
theorem dX11_readAny_25 : decode cX11_readAny 25 = .ok (.bipush 40, 2) := by decide +kernel
theorem dX11_readAny_27 : decode cX11_readAny 27 = .ok (.invokevirtual 229, 3) := by decide +kernel
theorem dX11_readAny_30 : decode cX11_readAny 30 = .ok (.ifCond .eq 58, 3) := by decide +kernel
theorem dX11_readAny_33 : decode cX11_readAny 33 = .ok (.aload_n 0, 1) := by decide +kernel
theorem dX11_readAny_34 : decode cX11_readAny 34 = .ok (.getfield 241, 3) := by decide +kernel
theorem dX11_readAny_37 : decode cX11_readAny 37 = .ok (.bipush 8, 2) := by decide +kernel
theorem dX11_readAny_39 : decode cX11_readAny 39 = .ok (.if_icmp .ne 9, 3) := by decide +kernel
theorem dX11_readAny_42 : decode cX11_readAny 42 = .ok (.aload_n 0, 1) := by decide +kernel
theorem dX11_readAny_43 : decode cX11_readAny 43 = .ok (.iconst 3, 1) := by decide +kernel
theorem dX11_readAny_44 : decode cX11_readAny 44 = .ok (.invokevirtual 215, 3) := by decide +kernel
theorem dX11_readAny_47 : decode cX11_readAny 47 = .ok (.ireturn, 1) := by decide +kernel
theorem dX11_readAny_48 : decode cX11_readAny 48 = .ok (.aload_n 0, 1) := by decide +kernel
theorem dX11_readAny_49 : decode cX11_readAny 49 = .ok (.aload_n 0, 1) := by decide +kernel
theorem dX11_readAny_50 : decode cX11_readAny 50 = .ok (.getfield 241, 3) := by decide +kernel
theorem dX11_readAny_53 : decode cX11_readAny 53 = .ok (.iconst 1, 1) := by decide +kernel
theorem dX11_readAny_54 : decode cX11_readAny 54 = .ok (.iadd, 1) := by decide +kernel
theorem dX11_readAny_55 : decode cX11_readAny 55 = .ok (.putfield 241, 3) := by decide +kernel
theorem dX11_readAny_58 : decode cX11_readAny 58 = .ok (.iload_n 3, 1) := by decide +kernel
theorem dX11_readAny_59 : decode cX11_readAny 59 = .ok (.ifCond .ne 7, 3) := by decide +kernel
theorem dX11_readAny_62 : decode cX11_readAny 62 = .ok (.iload_n 1, 1) := by decide +kernel
theorem dX11_readAny_63 : decode cX11_readAny 63 = .ok (.iconst 1, 1) := by decide +kernel
theorem dX11_readAny_64 : decode cX11_readAny 64 = .ok (.iadd, 1) := by decide +kernel
theorem dX11_readAny_65 : decode cX11_readAny 65 = .ok (.istore_n 1, 1) := by decide +kernel
theorem dX11_readAny_66 : decode cX11_readAny 66 = .ok (.aload_n 0, 1) := by decide +kernel
theorem dX11_readAny_67 : decode cX11_readAny 67 = .ok (.iload_n 3, 1) := by decide +kernel
theorem dX11_readAny_68 : decode cX11_readAny 68 = .ok (.ifCond .eq 8, 3) := by decide +kernel
theorem dX11_readAny_71 : decode cX11_readAny 71 = .ok (.bipush 9, 2) := by decide +kernel
theorem dX11_readAny_73 : decode cX11_readAny 73 = .ok (.goto 5, 3) := by decide +kernel
theorem dX11_readAny_76 : decode cX11_readAny 76 = .ok (.bipush 12, 2) := by decide +kernel
theorem dX11_readAny_78 : decode cX11_readAny 78 = .ok (.invokevirtual 247, 3) := by decide +kernel
theorem dX11_readAny_81 : decode cX11_readAny 81 = .ok (.aload_n 0, 1) := by decide +kernel
theorem dX11_readAny_82 : decode cX11_readAny 82 = .ok (.invokevirtual 222, 3) := by decide +kernel
theorem dX11_readAny_85 : decode cX11_readAny 85 = .ok (.goto (-76), 3) := by decide +kernel
theorem dX11_readAny_88 : decode cX11_readAny 88 = .ok (.aload_n 0, 1) := by decide +kernel
theorem dX11_readAny_89 : decode cX11_readAny 89 = .ok (.invokevirtual 250, 3) := by decide +kernel
theorem dX11_readAny_92 : decode cX11_readAny 92 = .ok (.iconst (-1), 1) := by decide +kernel
theorem dX11_readAny_93 : decode cX11_readAny 93 = .ok (.if_icmp .ne 5, 3) := by decide +kernel
theorem dX11_readAny_96 : decode cX11_readAny 96 = .ok (.iconst (-1), 1) := by decide +kernel
theorem dX11_readAny_97 : decode cX11_readAny 97 = .ok (.ireturn, 1) := by decide +kernel
theorem dX11_readAny_98 : decode cX11_readAny 98 = .ok (.aload_n 0, 1) := by decide +kernel
theorem dX11_readAny_99 : decode cX11_readAny 99 = .ok (.bipush 9, 2) := by decide +kernel
theorem dX11_readAny_101 : decode cX11_readAny 101 = .ok (.invokevirtual 253, 3) := by decide +kernel
theorem dX11_readAny_104 : decode cX11_readAny 104 = .ok (.iconst 0, 1) := by decide +kernel
theorem dX11_readAny_105 : decode cX11_readAny 105 = .ok (.istore_n 2, 1) := by decide +kernel
theorem dX11_readAny_106 : decode cX11_readAny 106 = .ok (.goto (-97), 3) := by decide +kernel
theorem dX11_readAny_109 : decode cX11_readAny 109 = .ok (.aload_n 0, 1) := by decide +kernel
theorem dX11_readAny_110 : decode cX11_readAny 110 = .ok (.bipush 9, 2) := by decide +kernel
theorem dX11_readAny_112 : decode cX11_readAny 112 = .ok (.invokevirtual 244, 3) := by decide +kernel
theorem dX11_readAny_115 : decode cX11_readAny 115 = .ok (.ifCond .eq 24, 3) := by decide +kernel
theorem dX11_readAny_118 : decode cX11_readAny 118 = .ok (.aload_n 0, 1) := by decide +kernel
theorem dX11_readAny_119 : decode cX11_readAny 119 = .ok (.bipush 10, 2) := by decide +kernel
theorem dX11_readAny_121 : decode cX11_readAny 121 = .ok (.invokevirtual 253, 3) := by decide +kernel
theorem dX11_readAny_124 : decode cX11_readAny 124 = .ok (.aload_n 0, 1) := by decide +kernel
theorem dX11_readAny_125 : decode cX11_readAny 125 = .ok (.bipush 10, 2) := by decide +kernel
theorem dX11_readAny_127 : decode cX11_readAny 127 = .ok (.invokevirtual 247, 3) := by decide +kernel
theorem dX11_readAny_130 : decode cX11_readAny 130 = .ok (.aload_n 0, 1) := by decide +kernel
theorem dX11_readAny_131 : decode cX11_readAny 131 = .ok (.invokevirtual 222, 3) := by decide +kernel
theorem dX11_readAny_134 : decode cX11_readAny 134 = .ok (.iconst 1, 1) := by decide +kernel
theorem dX11_readAny_135 : decode cX11_readAny 135 = .ok (.istore_n 2, 1) := by decide +kernel
theorem dX11_readAny_136 : decode cX11_readAny 136 = .ok (.goto (-127), 3) := by decide +kernel
theorem dX11_readAny_139 : decode cX11_readAny 139 = .ok (.aload_n 0, 1) := by decide +kernel
theorem dX11_readAny_140 : decode cX11_readAny 140 = .ok (.bipush 8, 2) := by decide +kernel
theorem dX11_readAny_142 : decode cX11_readAny 142 = .ok (.invokevirtual 244, 3) := by decide +kernel
theorem dX11_readAny_145 : decode cX11_readAny 145 = .ok (.ifCond .eq 30, 3) := by decide +kernel
theorem dX11_readAny_148 : decode cX11_readAny 148 = .ok (.aload_n 0, 1) := by decide +kernel
theorem dX11_readAny_149 : decode cX11_readAny 149 = .ok (.bipush 10, 2) := by decide +kernel
theorem dX11_readAny_151 : decode cX11_readAny 151 = .ok (.invokevirtual 253, 3) := by decide +kernel
theorem dX11_readAny_154 : decode cX11_readAny 154 = .ok (.aload_n 0, 1) := by decide +kernel
theorem dX11_readAny_155 : decode cX11_readAny 155 = .ok (.bipush 11, 2) := by decide +kernel
theorem dX11_readAny_157 : decode cX11_readAny 157 = .ok (.invokevirtual 253, 3) := by decide +kernel
theorem dX11_readAny_160 : decode cX11_readAny 160 = .ok (.aload_n 0, 1) := by decide +kernel
theorem dX11_readAny_161 : decode cX11_readAny 161 = .ok (.bipush 11, 2) := by decide +kernel
theorem dX11_readAny_163 : decode cX11_readAny 163 = .ok (.invokevirtual 247, 3) := by decide +kernel
theorem dX11_readAny_166 : decode cX11_readAny 166 = .ok (.aload_n 0, 1) := by decide +kernel
theorem dX11_readAny_167 : decode cX11_readAny 167 = .ok (.invokevirtual 222, 3) := by decide +kernel
theorem dX11_readAny_170 : decode cX11_readAny 170 = .ok (.iconst 1, 1) := by decide +kernel
theorem dX11_readAny_171 : decode cX11_readAny 171 = .ok (.istore_n 2, 1) := by decide +kernel
theorem dX11_readAny_172 : decode cX11_readAny 172 = .ok (.goto (-163), 3) := by decide +kernel
theorem dX11_readAny_175 : decode cX11_readAny 175 = .ok (.aload_n 0, 1) := by decide +kernel
theorem dX11_readAny_176 : decode cX11_readAny 176 = .ok (.bipush 10, 2) := by decide +kernel
theorem dX11_readAny_178 : decode cX11_readAny 178 = .ok (.invokevirtual 253, 3) := by decide +kernel
theorem dX11_readAny_181 : decode cX11_readAny 181 = .ok (.aload_n 0, 1) := by decide +kernel
theorem dX11_readAny_182 : decode cX11_readAny 182 = .ok (.bipush 11, 2) := by decide +kernel
theorem dX11_readAny_184 : decode cX11_readAny 184 = .ok (.invokevirtual 253, 3) := by decide +kernel
theorem dX11_readAny_187 : decode cX11_readAny 187 = .ok (.iload_n 1, 1) := by decide +kernel
theorem dX11_readAny_188 : decode cX11_readAny 188 = .ok (.ifCond .ne 5, 3) := by decide +kernel
theorem dX11_readAny_191 : decode cX11_readAny 191 = .ok (.iconst 0, 1) := by decide +kernel
theorem dX11_readAny_192 : decode cX11_readAny 192 = .ok (.ireturn, 1) := by decide +kernel
theorem dX11_readAny_193 : decode cX11_readAny 193 = .ok (.aload_n 0, 1) := by decide +kernel
theorem dX11_readAny_194 : decode cX11_readAny 194 = .ok (.bipush 41, 2) := by decide +kernel
theorem dX11_readAny_196 : decode cX11_readAny 196 = .ok (.invokevirtual 229, 3) := by decide +kernel
theorem dX11_readAny_199 : decode cX11_readAny 199 = .ok (.ifCond .ne 9, 3) := by decide +kernel
theorem dX11_readAny_202 : decode cX11_readAny 202 = .ok (.aload_n 0, 1) := by decide +kernel
theorem dX11_readAny_203 : decode cX11_readAny 203 = .ok (.iconst 1, 1) := by decide +kernel
theorem dX11_readAny_204 : decode cX11_readAny 204 = .ok (.invokevirtual 215, 3) := by decide +kernel
theorem dX11_readAny_207 : decode cX11_readAny 207 = .ok (.ireturn, 1) := by decide +kernel
theorem dX11_readAny_208 : decode cX11_readAny 208 = .ok (.aload_n 0, 1) := by decide +kernel
theorem dX11_readAny_209 : decode cX11_readAny 209 = .ok (.aload_n 0, 1) := by decide +kernel
theorem dX11_readAny_210 : decode cX11_readAny 210 = .ok (.getfield 238, 3) := by decide +kernel
theorem dX11_readAny_213 : decode cX11_readAny 213 = .ok (.iconst 1, 1) := by decide +kernel
theorem dX11_readAny_214 : decode cX11_readAny 214 = .ok (.isub, 1) := by decide +kernel
theorem dX11_readAny_215 : decode cX11_readAny 215 = .ok (.putfield 238, 3) := by decide +kernel
theorem dX11_readAny_218 : decode cX11_readAny 218 = .ok (.iload_n 1, 1) := by decide +kernel
theorem dX11_readAny_219 : decode cX11_readAny 219 = .ok (.iconst 1, 1) := by decide +kernel
theorem dX11_readAny_220 : decode cX11_readAny 220 = .ok (.isub, 1) := by decide +kernel
theorem dX11_readAny_221 : decode cX11_readAny 221 = .ok (.istore_n 1, 1) := by decide +kernel
theorem dX11_readAny_222 : decode cX11_readAny 222 = .ok (.aload_n 0, 1) := by decide +kernel
theorem dX11_readAny_223 : decode cX11_readAny 223 = .ok (.aload_n 0, 1) := by decide +kernel
theorem dX11_readAny_224 : decode cX11_readAny 224 = .ok (.getfield 241, 3) := by decide +kernel
theorem dX11_readAny_227 : decode cX11_readAny 227 = .ok (.iconst 1, 1) := by decide +kernel
theorem dX11_readAny_228 : decode cX11_readAny 228 = .ok (.isub, 1) := by decide +kernel
theorem dX11_readAny_229 : decode cX11_readAny 229 = .ok (.putfield 241, 3) := by decide +kernel
theorem dX11_readAny_232 : decode cX11_readAny 232 = .ok (.aload_n 0, 1) := by decide +kernel
theorem dX11_readAny_233 : decode cX11_readAny 233 = .ok (.bipush 9, 2) := by decide +kernel
theorem dX11_readAny_235 : decode cX11_readAny 235 = .ok (.invokevirtual 253, 3) := by decide +kernel
theorem dX11_readAny_238 : decode cX11_readAny 238 = .ok (.aload_n 0, 1) := by decide +kernel
theorem dX11_readAny_239 : decode cX11_readAny 239 = .ok (.invokevirtual 222, 3) := by decide +kernel
theorem dX11_readAny_242 : decode cX11_readAny 242 = .ok (.goto (-233), 3) := by decide +kernel
theorem dX11_readWho_0 : decode cX11_readWho 0 = .ok (.aload_n 0, 1) := by decide +kernel
theorem dX11_readWho_1 : decode cX11_readWho 1 = .ok (.getfield 179, 3) := by decide +kernel
theorem dX11_readWho_4 : decode cX11_readWho 4 = .ok (.iconst 3, 1) := by decide +kernel
theorem dX11_readWho_5 : decode cX11_readWho 5 = .ok (.if_icmp .eq 9, 3) := by decide +kernel
theorem dX11_readWho_8 : decode cX11_readWho 8 = .ok (.aload_n 0, 1) := by decide +kernel
theorem dX11_readWho_9 : decode cX11_readWho 9 = .ok (.iconst 1, 1) := by decide +kernel
theorem dX11_readWho_10 : decode cX11_readWho 10 = .ok (.invokevirtual 215, 3) := by decide +kernel
theorem dX11_readWho_13 : decode cX11_readWho 13 = .ok (.ireturn, 1) := by decide +kernel
theorem dX11_readWho_14 : decode cX11_readWho 14 = .ok (.aload_n 0, 1) := by decide +kernel
theorem dX11_readWho_15 : decode cX11_readWho 15 = .ok (.getfield 182, 3) := by decide +kernel
theorem dX11_readWho_18 : decode cX11_readWho 18 = .ok (.iconst 3, 1) := by decide +kernel
theorem dX11_readWho_19 : decode cX11_readWho 19 = .ok (.if_icmp .le 9, 3) := by decide +kernel
theorem dX11_readWho_22 : decode cX11_readWho 22 = .ok (.aload_n 0, 1) := by decide +kernel
theorem dX11_readWho_23 : decode cX11_readWho 23 = .ok (.iconst 2, 1) := by decide +kernel
theorem dX11_readWho_24 : decode cX11_readWho 24 = .ok (.invokevirtual 215, 3) := by decide +kernel
theorem dX11_readWho_27 : decode cX11_readWho 27 = .ok (.ireturn, 1) := by decide +kernel
theorem dX11_readWho_28 : decode cX11_readWho 28 = .ok (.aload_n 0, 1) := by decide +kernel
theorem dX11_readWho_29 : decode cX11_readWho 29 = .ok (.getfield 59, 3) := by decide +kernel
theorem dX11_readWho_32 : decode cX11_readWho 32 = .ok (.iload_n 1, 1) := by decide +kernel
theorem dX11_readWho_33 : decode cX11_readWho 33 = .ok (.aload_n 0, 1) := by decide +kernel
theorem dX11_readWho_34 : decode cX11_readWho 34 = .ok (.getfield 182, 3) := by decide +kernel
theorem dX11_readWho_37 : decode cX11_readWho 37 = .ok (.iastore, 1) := by decide +kernel
theorem dX11_readWho_38 : decode cX11_readWho 38 = .ok (.aload_n 0, 1) := by decide +kernel
theorem dX11_readWho_39 : decode cX11_readWho 39 = .ok (.invokevirtual 222, 3) := by decide +kernel
theorem dX11_readWho_42 : decode cX11_readWho 42 = .ok (.aload_n 0, 1) := by decide +kernel
theorem dX11_readWho_43 : decode cX11_readWho 43 = .ok (.bipush 7, 2) := by decide +kernel
theorem dX11_readWho_45 : decode cX11_readWho 45 = .ok (.invokevirtual 244, 3) := by decide +kernel
theorem dX11_readWho_48 : decode cX11_readWho 48 = .ok (.ifCond .eq 7, 3) := by decide +kernel
theorem dX11_readWho_51 : decode cX11_readWho 51 = .ok (.iconst 0, 1) := by decide +kernel
theorem dX11_readWho_52 : decode cX11_readWho 52 = .ok (.goto 8, 3) := by decide +kernel
theorem dX11_readWho_55 : decode cX11_readWho 55 = .ok (.aload_n 0, 1) := by decide +kernel
theorem dX11_readWho_56 : decode cX11_readWho 56 = .ok (.iconst 1, 1) := by decide +kernel
theorem dX11_readWho_57 : decode cX11_readWho 57 = .ok (.invokevirtual 215, 3) := by decide +kernel
theorem dX11_readWho_60 : decode cX11_readWho 60 = .ok (.ireturn, 1) := by decide +kernel
theorem dX11_readLine_0 : decode cX11_readLine 0 = .ok (.aload_n 0, 1) := by decide +kernel
theorem dX11_readLine_1 : decode cX11_readLine 1 = .ok (.getfield 56, 3) := by decide +kernel
theorem dX11_readLine_4 : decode cX11_readLine 4 = .ok (.iload_n 1, 1) := by decide +kernel
theorem dX11_readLine_5 : decode cX11_readLine 5 = .ok (.aload_n 0, 1) := by decide +kernel
theorem dX11_readLine_6 : decode cX11_readLine 6 = .ok (.getfield 182, 3) := by decide +kernel
theorem dX11_readLine_9 : decode cX11_readLine 9 = .ok (.iastore, 1) := by decide +kernel
theorem dX11_readLine_10 : decode cX11_readLine 10 = .ok (.aload_n 0, 1) := by decide +kernel
theorem dX11_readLine_11 : decode cX11_readLine 11 = .ok (.getfield 62, 3) := by decide +kernel
theorem dX11_readLine_14 : decode cX11_readLine 14 = .ok (.iload_n 1, 1) := by decide +kernel
theorem dX11_readLine_15 : decode cX11_readLine 15 = .ok (.aload_n 0, 1) := by decide +kernel
theorem dX11_readLine_16 : decode cX11_readLine 16 = .ok (.getfield 204, 3) := by decide +kernel
theorem dX11_readLine_19 : decode cX11_readLine 19 = .ok (.iastore, 1) := by decide +kernel
theorem dX11_readLine_20 : decode cX11_readLine 20 = .ok (.aload_n 0, 1) := by decide +kernel
theorem dX11_readLine_21 : decode cX11_readLine 21 = .ok (.invokevirtual 222, 3) := by decide +kernel
theorem dX11_readLine_24 : decode cX11_readLine 24 = .ok (.aload_n 0, 1) := by decide +kernel
theorem dX11_readLine_25 : decode cX11_readLine 25 = .ok (.getfield 207, 3) := by decide +kernel
theorem dX11_readLine_28 : decode cX11_readLine 28 = .ok (.ifCond .eq 10, 3) := by decide +kernel
theorem dX11_readLine_31 : decode cX11_readLine 31 = .ok (.aload_n 0, 1) := by decide +kernel
theorem dX11_readLine_32 : decode cX11_readLine 32 = .ok (.invokevirtual 235, 3) := by decide +kernel
theorem dX11_readLine_35 : decode cX11_readLine 35 = .ok (.goto 8, 3) := by decide +kernel
theorem dX11_readLine_38 : decode cX11_readLine 38 = .ok (.aload_n 0, 1) := by decide +kernel
theorem dX11_readLine_39 : decode cX11_readLine 39 = .ok (.iload_n 1, 1) := by decide +kernel
theorem dX11_readLine_40 : decode cX11_readLine 40 = .ok (.invokevirtual 256, 3) := by decide +kernel
theorem dX11_readLine_43 : decode cX11_readLine 43 = .ok (.iconst (-1), 1) := by decide +kernel
theorem dX11_readLine_44 : decode cX11_readLine 44 = .ok (.if_icmp .ne 5, 3) := by decide +kernel
theorem dX11_readLine_47 : decode cX11_readLine 47 = .ok (.iconst (-1), 1) := by decide +kernel
theorem dX11_readLine_48 : decode cX11_readLine 48 = .ok (.ireturn, 1) := by decide +kernel
theorem dX11_readLine_49 : decode cX11_readLine 49 = .ok (.aload_n 0, 1) := by decide +kernel
theorem dX11_readLine_50 : decode cX11_readLine 50 = .ok (.getfield 65, 3) := by decide +kernel
theorem dX11_readLine_53 : decode cX11_readLine 53 = .ok (.iload_n 1, 1) := by decide +kernel
theorem dX11_readLine_54 : decode cX11_readLine 54 = .ok (.aload_n 0, 1) := by decide +kernel
theorem dX11_readLine_55 : decode cX11_readLine 55 = .ok (.getfield 204, 3) := by decide +kernel
theorem dX11_readLine_58 : decode cX11_readLine 58 = .ok (.iastore, 1) := by decide +kernel
theorem dX11_readLine_59 : decode cX11_readLine 59 = .ok (.aload_n 0, 1) := by decide +kernel
theorem dX11_readLine_60 : decode cX11_readLine 60 = .ok (.bipush 7, 2) := by decide +kernel
theorem dX11_readLine_62 : decode cX11_readLine 62 = .ok (.invokevirtual 244, 3) := by decide +kernel
theorem dX11_readLine_65 : decode cX11_readLine 65 = .ok (.ifCond .eq 17, 3) := by decide +kernel
theorem dX11_readLine_68 : decode cX11_readLine 68 = .ok (.aload_n 0, 1) := by decide +kernel
theorem dX11_readLine_69 : decode cX11_readLine 69 = .ok (.invokevirtual 222, 3) := by decide +kernel
theorem dX11_readLine_72 : decode cX11_readLine 72 = .ok (.aload_n 0, 1) := by decide +kernel
theorem dX11_readLine_73 : decode cX11_readLine 73 = .ok (.invokevirtual 259, 3) := by decide +kernel
theorem dX11_readLine_76 : decode cX11_readLine 76 = .ok (.iconst (-1), 1) := by decide +kernel
theorem dX11_readLine_77 : decode cX11_readLine 77 = .ok (.if_icmp .ne 5, 3) := by decide +kernel
theorem dX11_readLine_80 : decode cX11_readLine 80 = .ok (.iconst (-1), 1) := by decide +kernel
theorem dX11_readLine_81 : decode cX11_readLine 81 = .ok (.ireturn, 1) := by decide +kernel
theorem dX11_readLine_82 : decode cX11_readLine 82 = .ok (.aload_n 0, 1) := by decide +kernel
theorem dX11_readLine_83 : decode cX11_readLine 83 = .ok (.getfield 68, 3) := by decide +kernel
theorem dX11_readLine_86 : decode cX11_readLine 86 = .ok (.iload_n 1, 1) := by decide +kernel
theorem dX11_readLine_87 : decode cX11_readLine 87 = .ok (.aload_n 0, 1) := by decide +kernel
theorem dX11_readLine_88 : decode cX11_readLine 88 = .ok (.getfield 204, 3) := by decide +kernel
theorem dX11_readLine_91 : decode cX11_readLine 91 = .ok (.iastore, 1) := by decide +kernel
theorem dX11_readLine_92 : decode cX11_readLine 92 = .ok (.aload_n 0, 1) := by decide +kernel
theorem dX11_readLine_93 : decode cX11_readLine 93 = .ok (.bipush 59, 2) := by decide +kernel
theorem dX11_readLine_95 : decode cX11_readLine 95 = .ok (.invokevirtual 229, 3) := by decide +kernel
theorem dX11_readLine_98 : decode cX11_readLine 98 = .ok (.ifCond .ne 9, 3) := by decide +kernel
theorem dX11_readLine_101 : decode cX11_readLine 101 = .ok (.aload_n 0, 1) := by decide +kernel
theorem dX11_readLine_102 : decode cX11_readLine 102 = .ok (.iconst 1, 1) := by decide +kernel
theorem dX11_readLine_103 : decode cX11_readLine 103 = .ok (.invokevirtual 215, 3) := by decide +kernel
theorem dX11_readLine_106 : decode cX11_readLine 106 = .ok (.ireturn, 1) := by decide +kernel
theorem dX11_readLine_107 : decode cX11_readLine 107 = .ok (.aload_n 0, 1) := by decide +kernel
theorem dX11_readLine_108 : decode cX11_readLine 108 = .ok (.invokevirtual 222, 3) := by decide +kernel
theorem dX11_readLine_111 : decode cX11_readLine 111 = .ok (.iconst 0, 1) := by decide +kernel
theorem dX11_readLine_112 : decode cX11_readLine 112 = .ok (.ireturn, 1) := by decide +kernel
theorem dX11_isBegin_0 : decode cX11_isBegin 0 = .ok (.aload_n 0, 1) := by decide +kernel
theorem dX11_isBegin_1 : decode cX11_isBegin 1 = .ok (.getfield 179, 3) := by decide +kernel
theorem dX11_isBegin_4 : decode cX11_isBegin 4 = .ok (.iconst 2, 1) := by decide +kernel
theorem dX11_isBegin_5 : decode cX11_isBegin 5 = .ok (.if_icmp .ne 39, 3) := by decide +kernel
theorem dX11_isBegin_8 : decode cX11_isBegin 8 = .ok (.aload_n 0, 1) := by decide +kernel
theorem dX11_isBegin_9 : decode cX11_isBegin 9 = .ok (.getfield 207, 3) := by decide +kernel
theorem dX11_isBegin_12 : decode cX11_isBegin 12 = .ok (.ifCond .eq 14, 3) := by decide +kernel
theorem dX11_isBegin_15 : decode cX11_isBegin 15 = .ok (.aload_n 0, 1) := by decide +kernel
theorem dX11_isBegin_16 : decode cX11_isBegin 16 = .ok (.getfield 182, 3) := by decide +kernel
theorem dX11_isBegin_19 : decode cX11_isBegin 19 = .ok (.iconst 3, 1) := by decide +kernel
theorem dX11_isBegin_20 : decode cX11_isBegin 20 = .ok (.if_icmp .gt 24, 3) := by decide +kernel
theorem dX11_isBegin_23 : decode cX11_isBegin 23 = .ok (.goto 17, 3) := by decide +kernel
theorem dX11_isBegin_26 : decode cX11_isBegin 26 = .ok (.aload_n 0, 1) := by decide +kernel
theorem dX11_isBegin_27 : decode cX11_isBegin 27 = .ok (.aload_n 0, 1) := by decide +kernel
theorem dX11_isBegin_28 : decode cX11_isBegin 28 = .ok (.getfield 182, 3) := by decide +kernel
theorem dX11_isBegin_31 : decode cX11_isBegin 31 = .ok (.iconst 4, 1) := by decide +kernel
theorem dX11_isBegin_32 : decode cX11_isBegin 32 = .ok (.bipush 6, 2) := by decide +kernel
theorem dX11_isBegin_34 : decode cX11_isBegin 34 = .ok (.invokevirtual 144, 3) := by decide +kernel
theorem dX11_isBegin_37 : decode cX11_isBegin 37 = .ok (.ifCond .eq 7, 3) := by decide +kernel
theorem dX11_isBegin_40 : decode cX11_isBegin 40 = .ok (.iconst 1, 1) := by decide +kernel
theorem dX11_isBegin_41 : decode cX11_isBegin 41 = .ok (.goto 4, 3) := by decide +kernel
theorem dX11_isBegin_44 : decode cX11_isBegin 44 = .ok (.iconst 0, 1) := by decide +kernel
theorem dX11_isBegin_45 : decode cX11_isBegin 45 = .ok (.ireturn, 1) := by decide +kernel
theorem dX11_readText_0 : decode cX11_readText 0 = .ok (.iconst 0, 1) := by decide +kernel
theorem dX11_readText_1 : decode cX11_readText 1 = .ok (.istore_n 1, 1) := by decide +kernel
theorem dX11_readText_2 : decode cX11_readText 2 = .ok (.aload_n 0, 1) := by decide +kernel
theorem dX11_readText_3 : decode cX11_readText 3 = .ok (.iconst 0, 1) := by decide +kernel
theorem dX11_readText_4 : decode cX11_readText 4 = .ok (.putfield 169, 3) := by decide +kernel
theorem dX11_readText_7 : decode cX11_readText 7 = .ok (.aload_n 0, 1) := by decide +kernel
theorem dX11_readText_8 : decode cX11_readText 8 = .ok (.iconst 0, 1) := by decide +kernel
theorem dX11_readText_9 : decode cX11_readText 9 = .ok (.putfield 204, 3) := by decide +kernel
theorem dX11_readText_12 : decode cX11_readText 12 = .ok (.aload_n 0, 1) := by decide +kernel
theorem dX11_readText_13 : decode cX11_readText 13 = .ok (.iconst 0, 1) := by decide +kernel
theorem dX11_readText_14 : decode cX11_readText 14 = .ok (.putfield 241, 3) := by decide +kernel
theorem dX11_readText_17 : decode cX11_readText 17 = .ok (.aload_n 0, 1) := by decide +kernel
theorem dX11_readText_18 : decode cX11_readText 18 = .ok (.invokevirtual 222, 3) := by decide +kernel
theorem dX11_readText_21 : decode cX11_readText 21 = .ok (.aload_n 0, 1) := by decide +kernel
theorem dX11_readText_22 : decode cX11_readText 22 = .ok (.invokevirtual 262, 3) := by decide +kernel
theorem dX11_readText_25 : decode cX11_readText 25 = .ok (.ifCond .eq 36, 3) := by decide +kernel
theorem dX11_readText_28 : decode cX11_readText 28 = .ok (.iload_n 1, 1) := by decide +kernel
theorem dX11_readText_29 : decode cX11_readText 29 = .ok (.bipush 16, 2) := by decide +kernel
theorem dX11_readText_31 : decode cX11_readText 31 = .ok (.if_icmp .ne 9, 3) := by decide +kernel
theorem dX11_readText_34 : decode cX11_readText 34 = .ok (.aload_n 0, 1) := by decide +kernel
theorem dX11_readText_35 : decode cX11_readText 35 = .ok (.iconst 3, 1) := by decide +kernel
theorem dX11_readText_36 : decode cX11_readText 36 = .ok (.invokevirtual 215, 3) := by decide +kernel
theorem dX11_readText_39 : decode cX11_readText 39 = .ok (.ireturn, 1) := by decide +kernel
theorem dX11_readText_40 : decode cX11_readText 40 = .ok (.aload_n 0, 1) := by decide +kernel
theorem dX11_readText_41 : decode cX11_readText 41 = .ok (.bipush 32, 2) := by decide +kernel
theorem dX11_readText_43 : decode cX11_readText 43 = .ok (.iload_n 1, 1) := by decide +kernel
theorem dX11_readText_44 : decode cX11_readText 44 = .ok (.iadd, 1) := by decide +kernel
theorem dX11_readText_45 : decode cX11_readText 45 = .ok (.invokevirtual 265, 3) := by decide +kernel
theorem dX11_readText_48 : decode cX11_readText 48 = .ok (.iconst (-1), 1) := by decide +kernel
theorem dX11_readText_49 : decode cX11_readText 49 = .ok (.if_icmp .ne 5, 3) := by decide +kernel
theorem dX11_readText_52 : decode cX11_readText 52 = .ok (.iconst (-1), 1) := by decide +kernel
theorem dX11_readText_53 : decode cX11_readText 53 = .ok (.ireturn, 1) := by decide +kernel
theorem dX11_readText_54 : decode cX11_readText 54 = .ok (.iload_n 1, 1) := by decide +kernel
theorem dX11_readText_55 : decode cX11_readText 55 = .ok (.iconst 1, 1) := by decide +kernel
theorem dX11_readText_56 : decode cX11_readText 56 = .ok (.iadd, 1) := by decide +kernel
theorem dX11_readText_57 : decode cX11_readText 57 = .ok (.istore_n 1, 1) := by decide +kernel
theorem dX11_readText_58 : decode cX11_readText 58 = .ok (.goto (-37), 3) := by decide +kernel
theorem dX11_readText_61 : decode cX11_readText 61 = .ok (.aload_n 0, 1) := by decide +kernel
theorem dX11_readText_62 : decode cX11_readText 62 = .ok (.getfield 179, 3) := by decide +kernel
theorem dX11_readText_65 : decode cX11_readText 65 = .ok (.ifCond .ne 7, 3) := by decide +kernel
theorem dX11_readText_68 : decode cX11_readText 68 = .ok (.iload_n 1, 1) := by decide +kernel
theorem dX11_readText_69 : decode cX11_readText 69 = .ok (.goto 8, 3) := by decide +kernel
theorem dX11_readText_72 : decode cX11_readText 72 = .ok (.aload_n 0, 1) := by decide +kernel
theorem dX11_readText_73 : decode cX11_readText 73 = .ok (.iconst 1, 1) := by decide +kernel
theorem dX11_readText_74 : decode cX11_readText 74 = .ok (.invokevirtual 215, 3) := by decide +kernel
theorem dX11_readText_77 : decode cX11_readText 77 = .ok (.ireturn, 1) := by decide +kernel
theorem dX11_takesText_0 : decode cX11_takesText 0 = .ok (.aload_n 0, 1) := by decide +kernel
theorem dX11_takesText_1 : decode cX11_takesText 1 = .ok (.iconst 0, 1) := by decide +kernel
theorem dX11_takesText_2 : decode cX11_takesText 2 = .ok (.putfield 268, 3) := by decide +kernel
theorem dX11_takesText_5 : decode cX11_takesText 5 = .ok (.aload_n 0, 1) := by decide +kernel
theorem dX11_takesText_6 : decode cX11_takesText 6 = .ok (.iconst (-1), 1) := by decide +kernel
theorem dX11_takesText_7 : decode cX11_takesText 7 = .ok (.putfield 80, 3) := by decide +kernel
theorem dX11_takesText_10 : decode cX11_takesText 10 = .ok (.aload_n 0, 1) := by decide +kernel
theorem dX11_takesText_11 : decode cX11_takesText 11 = .ok (.iload_n 1, 1) := by decide +kernel
theorem dX11_takesText_12 : decode cX11_takesText 12 = .ok (.ifCond .ne 7, 3) := by decide +kernel
theorem dX11_takesText_15 : decode cX11_takesText 15 = .ok (.iconst 1, 1) := by decide +kernel
theorem dX11_takesText_16 : decode cX11_takesText 16 = .ok (.goto 4, 3) := by decide +kernel
theorem dX11_takesText_19 : decode cX11_takesText 19 = .ok (.iconst 0, 1) := by decide +kernel
theorem dX11_takesText_20 : decode cX11_takesText 20 = .ok (.putfield 207, 3) := by decide +kernel
theorem dX11_takesText_23 : decode cX11_takesText 23 = .ok (.aload_n 0, 1) := by decide +kernel
theorem dX11_takesText_24 : decode cX11_takesText 24 = .ok (.invokevirtual 271, 3) := by decide +kernel
theorem dX11_takesText_27 : decode cX11_takesText 27 = .ok (.istore_n 2, 1) := by decide +kernel
theorem dX11_takesText_28 : decode cX11_takesText 28 = .ok (.aload_n 0, 1) := by decide +kernel
theorem dX11_takesText_29 : decode cX11_takesText 29 = .ok (.iconst 0, 1) := by decide +kernel
theorem dX11_takesText_30 : decode cX11_takesText 30 = .ok (.putfield 162, 3) := by decide +kernel
theorem dX11_takesText_33 : decode cX11_takesText 33 = .ok (.iload_n 2, 1) := by decide +kernel
theorem dX11_takesText_34 : decode cX11_takesText 34 = .ok (.iconst (-1), 1) := by decide +kernel
theorem dX11_takesText_35 : decode cX11_takesText 35 = .ok (.if_icmp .ne 21, 3) := by decide +kernel
theorem dX11_takesText_38 : decode cX11_takesText 38 = .ok (.aload_n 0, 1) := by decide +kernel
theorem dX11_takesText_39 : decode cX11_takesText 39 = .ok (.aload_n 0, 1) := by decide +kernel
theorem dX11_takesText_40 : decode cX11_takesText 40 = .ok (.getfield 198, 3) := by decide +kernel
theorem dX11_takesText_43 : decode cX11_takesText 43 = .ok (.putfield 268, 3) := by decide +kernel
theorem dX11_takesText_46 : decode cX11_takesText 46 = .ok (.aload_n 0, 1) := by decide +kernel
theorem dX11_takesText_47 : decode cX11_takesText 47 = .ok (.aload_n 0, 1) := by decide +kernel
theorem dX11_takesText_48 : decode cX11_takesText 48 = .ok (.getfield 201, 3) := by decide +kernel
theorem dX11_takesText_51 : decode cX11_takesText 51 = .ok (.putfield 80, 3) := by decide +kernel
theorem dX11_takesText_54 : decode cX11_takesText 54 = .ok (.iconst (-1), 1) := by decide +kernel
theorem dX11_takesText_55 : decode cX11_takesText 55 = .ok (.ireturn, 1) := by decide +kernel
theorem dX11_takesText_56 : decode cX11_takesText 56 = .ok (.iconst 0, 1) := by decide +kernel
theorem dX11_takesText_57 : decode cX11_takesText 57 = .ok (.istore_n 3, 1) := by decide +kernel
theorem dX11_takesText_58 : decode cX11_takesText 58 = .ok (.iload_n 3, 1) := by decide +kernel
theorem dX11_takesText_59 : decode cX11_takesText 59 = .ok (.iload_n 2, 1) := by decide +kernel
theorem dX11_takesText_60 : decode cX11_takesText 60 = .ok (.if_icmp .ge 109, 3) := by decide +kernel
theorem dX11_takesText_63 : decode cX11_takesText 63 = .ok (.aload_n 0, 1) := by decide +kernel
theorem dX11_takesText_64 : decode cX11_takesText 64 = .ok (.getfield 56, 3) := by decide +kernel
theorem dX11_takesText_67 : decode cX11_takesText 67 = .ok (.bipush 16, 2) := by decide +kernel
theorem dX11_takesText_69 : decode cX11_takesText 69 = .ok (.iload_n 1, 1) := by decide +kernel
theorem dX11_takesText_70 : decode cX11_takesText 70 = .ok (.imul, 1) := by decide +kernel
theorem dX11_takesText_71 : decode cX11_takesText 71 = .ok (.iload_n 3, 1) := by decide +kernel
theorem dX11_takesText_72 : decode cX11_takesText 72 = .ok (.iadd, 1) := by decide +kernel
theorem dX11_takesText_73 : decode cX11_takesText 73 = .ok (.aload_n 0, 1) := by decide +kernel
theorem dX11_takesText_74 : decode cX11_takesText 74 = .ok (.getfield 56, 3) := by decide +kernel
theorem dX11_takesText_77 : decode cX11_takesText 77 = .ok (.bipush 32, 2) := by decide +kernel
theorem dX11_takesText_79 : decode cX11_takesText 79 = .ok (.iload_n 3, 1) := by decide +kernel
theorem dX11_takesText_80 : decode cX11_takesText 80 = .ok (.iadd, 1) := by decide +kernel
theorem dX11_takesText_81 : decode cX11_takesText 81 = .ok (.iaload, 1) := by decide +kernel
theorem dX11_takesText_82 : decode cX11_takesText 82 = .ok (.iastore, 1) := by decide +kernel
theorem dX11_takesText_83 : decode cX11_takesText 83 = .ok (.aload_n 0, 1) := by decide +kernel
theorem dX11_takesText_84 : decode cX11_takesText 84 = .ok (.getfield 59, 3) := by decide +kernel
theorem dX11_takesText_87 : decode cX11_takesText 87 = .ok (.bipush 16, 2) := by decide +kernel
theorem dX11_takesText_89 : decode cX11_takesText 89 = .ok (.iload_n 1, 1) := by decide +kernel
theorem dX11_takesText_90 : decode cX11_takesText 90 = .ok (.imul, 1) := by decide +kernel
theorem dX11_takesText_91 : decode cX11_takesText 91 = .ok (.iload_n 3, 1) := by decide +kernel
theorem dX11_takesText_92 : decode cX11_takesText 92 = .ok (.iadd, 1) := by decide +kernel
theorem dX11_takesText_93 : decode cX11_takesText 93 = .ok (.aload_n 0, 1) := by decide +kernel
theorem dX11_takesText_94 : decode cX11_takesText 94 = .ok (.getfield 59, 3) := by decide +kernel
theorem dX11_takesText_97 : decode cX11_takesText 97 = .ok (.bipush 32, 2) := by decide +kernel
theorem dX11_takesText_99 : decode cX11_takesText 99 = .ok (.iload_n 3, 1) := by decide +kernel
theorem dX11_takesText_100 : decode cX11_takesText 100 = .ok (.iadd, 1) := by decide +kernel
theorem dX11_takesText_101 : decode cX11_takesText 101 = .ok (.iaload, 1) := by decide +kernel
theorem dX11_takesText_102 : decode cX11_takesText 102 = .ok (.iastore, 1) := by decide +kernel
theorem dX11_takesText_103 : decode cX11_takesText 103 = .ok (.aload_n 0, 1) := by decide +kernel
theorem dX11_takesText_104 : decode cX11_takesText 104 = .ok (.getfield 62, 3) := by decide +kernel
theorem dX11_takesText_107 : decode cX11_takesText 107 = .ok (.bipush 16, 2) := by decide +kernel
theorem dX11_takesText_109 : decode cX11_takesText 109 = .ok (.iload_n 1, 1) := by decide +kernel
theorem dX11_takesText_110 : decode cX11_takesText 110 = .ok (.imul, 1) := by decide +kernel
theorem dX11_takesText_111 : decode cX11_takesText 111 = .ok (.iload_n 3, 1) := by decide +kernel
theorem dX11_takesText_112 : decode cX11_takesText 112 = .ok (.iadd, 1) := by decide +kernel
theorem dX11_takesText_113 : decode cX11_takesText 113 = .ok (.aload_n 0, 1) := by decide +kernel
theorem dX11_takesText_114 : decode cX11_takesText 114 = .ok (.getfield 62, 3) := by decide +kernel
theorem dX11_takesText_117 : decode cX11_takesText 117 = .ok (.bipush 32, 2) := by decide +kernel
theorem dX11_takesText_119 : decode cX11_takesText 119 = .ok (.iload_n 3, 1) := by decide +kernel
theorem dX11_takesText_120 : decode cX11_takesText 120 = .ok (.iadd, 1) := by decide +kernel
theorem dX11_takesText_121 : decode cX11_takesText 121 = .ok (.iaload, 1) := by decide +kernel
theorem dX11_takesText_122 : decode cX11_takesText 122 = .ok (.iastore, 1) := by decide +kernel
theorem dX11_takesText_123 : decode cX11_takesText 123 = .ok (.aload_n 0, 1) := by decide +kernel
theorem dX11_takesText_124 : decode cX11_takesText 124 = .ok (.getfield 65, 3) := by decide +kernel
theorem dX11_takesText_127 : decode cX11_takesText 127 = .ok (.bipush 16, 2) := by decide +kernel
theorem dX11_takesText_129 : decode cX11_takesText 129 = .ok (.iload_n 1, 1) := by decide +kernel
theorem dX11_takesText_130 : decode cX11_takesText 130 = .ok (.imul, 1) := by decide +kernel
theorem dX11_takesText_131 : decode cX11_takesText 131 = .ok (.iload_n 3, 1) := by decide +kernel
theorem dX11_takesText_132 : decode cX11_takesText 132 = .ok (.iadd, 1) := by decide +kernel
theorem dX11_takesText_133 : decode cX11_takesText 133 = .ok (.aload_n 0, 1) := by decide +kernel
theorem dX11_takesText_134 : decode cX11_takesText 134 = .ok (.getfield 65, 3) := by decide +kernel
theorem dX11_takesText_137 : decode cX11_takesText 137 = .ok (.bipush 32, 2) := by decide +kernel
theorem dX11_takesText_139 : decode cX11_takesText 139 = .ok (.iload_n 3, 1) := by decide +kernel
theorem dX11_takesText_140 : decode cX11_takesText 140 = .ok (.iadd, 1) := by decide +kernel
theorem dX11_takesText_141 : decode cX11_takesText 141 = .ok (.iaload, 1) := by decide +kernel
theorem dX11_takesText_142 : decode cX11_takesText 142 = .ok (.iastore, 1) := by decide +kernel
theorem dX11_takesText_143 : decode cX11_takesText 143 = .ok (.aload_n 0, 1) := by decide +kernel
theorem dX11_takesText_144 : decode cX11_takesText 144 = .ok (.getfield 68, 3) := by decide +kernel
theorem dX11_takesText_147 : decode cX11_takesText 147 = .ok (.bipush 16, 2) := by decide +kernel
theorem dX11_takesText_149 : decode cX11_takesText 149 = .ok (.iload_n 1, 1) := by decide +kernel
theorem dX11_takesText_150 : decode cX11_takesText 150 = .ok (.imul, 1) := by decide +kernel
theorem dX11_takesText_151 : decode cX11_takesText 151 = .ok (.iload_n 3, 1) := by decide +kernel
theorem dX11_takesText_152 : decode cX11_takesText 152 = .ok (.iadd, 1) := by decide +kernel
theorem dX11_takesText_153 : decode cX11_takesText 153 = .ok (.aload_n 0, 1) := by decide +kernel
theorem dX11_takesText_154 : decode cX11_takesText 154 = .ok (.getfield 68, 3) := by decide +kernel
theorem dX11_takesText_157 : decode cX11_takesText 157 = .ok (.bipush 32, 2) := by decide +kernel
theorem dX11_takesText_159 : decode cX11_takesText 159 = .ok (.iload_n 3, 1) := by decide +kernel
theorem dX11_takesText_160 : decode cX11_takesText 160 = .ok (.iadd, 1) := by decide +kernel
theorem dX11_takesText_161 : decode cX11_takesText 161 = .ok (.iaload, 1) := by decide +kernel
theorem dX11_takesText_162 : decode cX11_takesText 162 = .ok (.iastore, 1) := by decide +kernel
theorem dX11_takesText_163 : decode cX11_takesText 163 = .ok (.iinc 3 1, 3) := by decide +kernel
theorem dX11_takesText_166 : decode cX11_takesText 166 = .ok (.goto (-108), 3) := by decide +kernel
theorem dX11_takesText_169 : decode cX11_takesText 169 = .ok (.iconst 0, 1) := by decide +kernel
theorem dX11_takesText_170 : decode cX11_takesText 170 = .ok (.istore_n 3, 1) := by decide +kernel
theorem dX11_takesText_171 : decode cX11_takesText 171 = .ok (.iload_n 3, 1) := by decide +kernel
theorem dX11_takesText_172 : decode cX11_takesText 172 = .ok (.aload_n 0, 1) := by decide +kernel
theorem dX11_takesText_173 : decode cX11_takesText 173 = .ok (.getfield 204, 3) := by decide +kernel
theorem dX11_takesText_176 : decode cX11_takesText 176 = .ok (.if_icmp .ge 53, 3) := by decide +kernel
theorem dX11_takesText_179 : decode cX11_takesText 179 = .ok (.aload_n 0, 1) := by decide +kernel
theorem dX11_takesText_180 : decode cX11_takesText 180 = .ok (.getfield 71, 3) := by decide +kernel
theorem dX11_takesText_183 : decode cX11_takesText 183 = .ok (.sipush 600, 3) := by decide +kernel
theorem dX11_takesText_186 : decode cX11_takesText 186 = .ok (.iload_n 1, 1) := by decide +kernel
theorem dX11_takesText_187 : decode cX11_takesText 187 = .ok (.imul, 1) := by decide +kernel
theorem dX11_takesText_188 : decode cX11_takesText 188 = .ok (.iload_n 3, 1) := by decide +kernel
theorem dX11_takesText_189 : decode cX11_takesText 189 = .ok (.iadd, 1) := by decide +kernel
theorem dX11_takesText_190 : decode cX11_takesText 190 = .ok (.aload_n 0, 1) := by decide +kernel
theorem dX11_takesText_191 : decode cX11_takesText 191 = .ok (.getfield 71, 3) := by decide +kernel
theorem dX11_takesText_194 : decode cX11_takesText 194 = .ok (.sipush 1200, 3) := by decide +kernel
theorem dX11_takesText_197 : decode cX11_takesText 197 = .ok (.iload_n 3, 1) := by decide +kernel
theorem dX11_takesText_198 : decode cX11_takesText 198 = .ok (.iadd, 1) := by decide +kernel
theorem dX11_takesText_199 : decode cX11_takesText 199 = .ok (.iaload, 1) := by decide +kernel
theorem dX11_takesText_200 : decode cX11_takesText 200 = .ok (.iastore, 1) := by decide +kernel
theorem dX11_takesText_201 : decode cX11_takesText 201 = .ok (.aload_n 0, 1) := by decide +kernel
theorem dX11_takesText_202 : decode cX11_takesText 202 = .ok (.getfield 74, 3) := by decide +kernel
theorem dX11_takesText_205 : decode cX11_takesText 205 = .ok (.sipush 600, 3) := by decide +kernel
theorem dX11_takesText_208 : decode cX11_takesText 208 = .ok (.iload_n 1, 1) := by decide +kernel
theorem dX11_takesText_209 : decode cX11_takesText 209 = .ok (.imul, 1) := by decide +kernel
theorem dX11_takesText_210 : decode cX11_takesText 210 = .ok (.iload_n 3, 1) := by decide +kernel
theorem dX11_takesText_211 : decode cX11_takesText 211 = .ok (.iadd, 1) := by decide +kernel
theorem dX11_takesText_212 : decode cX11_takesText 212 = .ok (.aload_n 0, 1) := by decide +kernel
theorem dX11_takesText_213 : decode cX11_takesText 213 = .ok (.getfield 74, 3) := by decide +kernel
theorem dX11_takesText_216 : decode cX11_takesText 216 = .ok (.sipush 1200, 3) := by decide +kernel
theorem dX11_takesText_219 : decode cX11_takesText 219 = .ok (.iload_n 3, 1) := by decide +kernel
theorem dX11_takesText_220 : decode cX11_takesText 220 = .ok (.iadd, 1) := by decide +kernel
theorem dX11_takesText_221 : decode cX11_takesText 221 = .ok (.iaload, 1) := by decide +kernel
theorem dX11_takesText_222 : decode cX11_takesText 222 = .ok (.iastore, 1) := by decide +kernel
theorem dX11_takesText_223 : decode cX11_takesText 223 = .ok (.iinc 3 1, 3) := by decide +kernel
theorem dX11_takesText_226 : decode cX11_takesText 226 = .ok (.goto (-55), 3) := by decide +kernel
theorem dX11_takesText_229 : decode cX11_takesText 229 = .ok (.aload_n 0, 1) := by decide +kernel
theorem dX11_takesText_230 : decode cX11_takesText 230 = .ok (.getfield 53, 3) := by decide +kernel
theorem dX11_takesText_233 : decode cX11_takesText 233 = .ok (.iload_n 1, 1) := by decide +kernel
theorem dX11_takesText_234 : decode cX11_takesText 234 = .ok (.iload_n 2, 1) := by decide +kernel
theorem dX11_takesText_235 : decode cX11_takesText 235 = .ok (.iastore, 1) := by decide +kernel
theorem dX11_takesText_236 : decode cX11_takesText 236 = .ok (.iload_n 2, 1) := by decide +kernel
theorem dX11_takesText_237 : decode cX11_takesText 237 = .ok (.ireturn, 1) := by decide +kernel
theorem dX11_laws_0 : decode cX11_laws 0 = .ok (.aload_n 0, 1) := by decide +kernel
theorem dX11_laws_1 : decode cX11_laws 1 = .ok (.iconst 0, 1) := by decide +kernel
theorem dX11_laws_2 : decode cX11_laws 2 = .ok (.putfield 141, 3) := by decide +kernel
theorem dX11_laws_5 : decode cX11_laws 5 = .ok (.aload_n 0, 1) := by decide +kernel
theorem dX11_laws_6 : decode cX11_laws 6 = .ok (.iconst 0, 1) := by decide +kernel
theorem dX11_laws_7 : decode cX11_laws 7 = .ok (.invokevirtual 274, 3) := by decide +kernel
theorem dX11_laws_10 : decode cX11_laws 10 = .ok (.ireturn, 1) := by decide +kernel
theorem dX11_code_0 : decode cX11_code 0 = .ok (.aload_n 0, 1) := by decide +kernel
theorem dX11_code_1 : decode cX11_code 1 = .ok (.iconst 0, 1) := by decide +kernel
theorem dX11_code_2 : decode cX11_code 2 = .ok (.putfield 141, 3) := by decide +kernel
theorem dX11_code_5 : decode cX11_code 5 = .ok (.aload_n 0, 1) := by decide +kernel
theorem dX11_code_6 : decode cX11_code 6 = .ok (.iconst 1, 1) := by decide +kernel
theorem dX11_code_7 : decode cX11_code 7 = .ok (.invokevirtual 274, 3) := by decide +kernel
theorem dX11_code_10 : decode cX11_code 10 = .ok (.ireturn, 1) := by decide +kernel
theorem dX11_fault_0 : decode cX11_fault 0 = .ok (.aload_n 0, 1) := by decide +kernel
theorem dX11_fault_1 : decode cX11_fault 1 = .ok (.iconst 0, 1) := by decide +kernel
theorem dX11_fault_2 : decode cX11_fault 2 = .ok (.putfield 141, 3) := by decide +kernel
theorem dX11_fault_5 : decode cX11_fault 5 = .ok (.iload_n 1, 1) := by decide +kernel
theorem dX11_fault_6 : decode cX11_fault 6 = .ok (.ifCond .ne 10, 3) := by decide +kernel
theorem dX11_fault_9 : decode cX11_fault 9 = .ok (.aload_n 0, 1) := by decide +kernel
theorem dX11_fault_10 : decode cX11_fault 10 = .ok (.getfield 268, 3) := by decide +kernel
theorem dX11_fault_13 : decode cX11_fault 13 = .ok (.goto 16, 3) := by decide +kernel
theorem dX11_fault_16 : decode cX11_fault 16 = .ok (.iload_n 1, 1) := by decide +kernel
theorem dX11_fault_17 : decode cX11_fault 17 = .ok (.iconst 1, 1) := by decide +kernel
theorem dX11_fault_18 : decode cX11_fault 18 = .ok (.if_icmp .ne 10, 3) := by decide +kernel
theorem dX11_fault_21 : decode cX11_fault 21 = .ok (.aload_n 0, 1) := by decide +kernel
theorem dX11_fault_22 : decode cX11_fault 22 = .ok (.getfield 80, 3) := by decide +kernel
theorem dX11_fault_25 : decode cX11_fault 25 = .ok (.goto 4, 3) := by decide +kernel
theorem dX11_fault_28 : decode cX11_fault 28 = .ok (.iconst (-1), 1) := by decide +kernel
theorem dX11_fault_29 : decode cX11_fault 29 = .ok (.ireturn, 1) := by decide +kernel
theorem dX11_twoOf_0 : decode cX11_twoOf 0 = .ok (.iload_n 1, 1) := by decide +kernel
theorem dX11_twoOf_1 : decode cX11_twoOf 1 = .ok (.iconst 2, 1) := by decide +kernel
theorem dX11_twoOf_2 : decode cX11_twoOf 2 = .ok (.if_icmp .ne 7, 3) := by decide +kernel
theorem dX11_twoOf_5 : decode cX11_twoOf 5 = .ok (.iload_n 2, 1) := by decide +kernel
theorem dX11_twoOf_6 : decode cX11_twoOf 6 = .ok (.iload_n 3, 1) := by decide +kernel
theorem dX11_twoOf_7 : decode cX11_twoOf 7 = .ok (.iadd, 1) := by decide +kernel
theorem dX11_twoOf_8 : decode cX11_twoOf 8 = .ok (.ireturn, 1) := by decide +kernel
theorem dX11_twoOf_9 : decode cX11_twoOf 9 = .ok (.iload_n 1, 1) := by decide +kernel
theorem dX11_twoOf_10 : decode cX11_twoOf 10 = .ok (.iconst 3, 1) := by decide +kernel
theorem dX11_twoOf_11 : decode cX11_twoOf 11 = .ok (.if_icmp .ne 7, 3) := by decide +kernel
theorem dX11_twoOf_14 : decode cX11_twoOf 14 = .ok (.iload_n 2, 1) := by decide +kernel
theorem dX11_twoOf_15 : decode cX11_twoOf 15 = .ok (.iload_n 3, 1) := by decide +kernel
theorem dX11_twoOf_16 : decode cX11_twoOf 16 = .ok (.isub, 1) := by decide +kernel
theorem dX11_twoOf_17 : decode cX11_twoOf 17 = .ok (.ireturn, 1) := by decide +kernel
theorem dX11_twoOf_18 : decode cX11_twoOf 18 = .ok (.iload_n 1, 1) := by decide +kernel
theorem dX11_twoOf_19 : decode cX11_twoOf 19 = .ok (.iconst 4, 1) := by decide +kernel
theorem dX11_twoOf_20 : decode cX11_twoOf 20 = .ok (.if_icmp .ne 7, 3) := by decide +kernel
theorem dX11_twoOf_23 : decode cX11_twoOf 23 = .ok (.iload_n 2, 1) := by decide +kernel
theorem dX11_twoOf_24 : decode cX11_twoOf 24 = .ok (.iload_n 3, 1) := by decide +kernel
theorem dX11_twoOf_25 : decode cX11_twoOf 25 = .ok (.imul, 1) := by decide +kernel
theorem dX11_twoOf_26 : decode cX11_twoOf 26 = .ok (.ireturn, 1) := by decide +kernel
theorem dX11_twoOf_27 : decode cX11_twoOf 27 = .ok (.iload_n 1, 1) := by decide +kernel
theorem dX11_twoOf_28 : decode cX11_twoOf 28 = .ok (.iconst 5, 1) := by decide +kernel
theorem dX11_twoOf_29 : decode cX11_twoOf 29 = .ok (.if_icmp .ne 7, 3) := by decide +kernel
theorem dX11_twoOf_32 : decode cX11_twoOf 32 = .ok (.iload_n 2, 1) := by decide +kernel
theorem dX11_twoOf_33 : decode cX11_twoOf 33 = .ok (.iload_n 3, 1) := by decide +kernel
theorem dX11_twoOf_34 : decode cX11_twoOf 34 = .ok (.idiv, 1) := by decide +kernel
theorem dX11_twoOf_35 : decode cX11_twoOf 35 = .ok (.ireturn, 1) := by decide +kernel
theorem dX11_twoOf_36 : decode cX11_twoOf 36 = .ok (.iload_n 1, 1) := by decide +kernel
theorem dX11_twoOf_37 : decode cX11_twoOf 37 = .ok (.bipush 6, 2) := by decide +kernel
theorem dX11_twoOf_39 : decode cX11_twoOf 39 = .ok (.if_icmp .ne 14, 3) := by decide +kernel
theorem dX11_twoOf_42 : decode cX11_twoOf 42 = .ok (.iload_n 2, 1) := by decide +kernel
theorem dX11_twoOf_43 : decode cX11_twoOf 43 = .ok (.iload_n 3, 1) := by decide +kernel
theorem dX11_twoOf_44 : decode cX11_twoOf 44 = .ok (.if_icmp .ge 7, 3) := by decide +kernel
theorem dX11_twoOf_47 : decode cX11_twoOf 47 = .ok (.iconst 1, 1) := by decide +kernel
theorem dX11_twoOf_48 : decode cX11_twoOf 48 = .ok (.goto 4, 3) := by decide +kernel
theorem dX11_twoOf_51 : decode cX11_twoOf 51 = .ok (.iconst 0, 1) := by decide +kernel
theorem dX11_twoOf_52 : decode cX11_twoOf 52 = .ok (.ireturn, 1) := by decide +kernel
theorem dX11_twoOf_53 : decode cX11_twoOf 53 = .ok (.iload_n 1, 1) := by decide +kernel
theorem dX11_twoOf_54 : decode cX11_twoOf 54 = .ok (.bipush 7, 2) := by decide +kernel
theorem dX11_twoOf_56 : decode cX11_twoOf 56 = .ok (.if_icmp .ne 14, 3) := by decide +kernel
theorem dX11_twoOf_59 : decode cX11_twoOf 59 = .ok (.iload_n 2, 1) := by decide +kernel
theorem dX11_twoOf_60 : decode cX11_twoOf 60 = .ok (.iload_n 3, 1) := by decide +kernel
theorem dX11_twoOf_61 : decode cX11_twoOf 61 = .ok (.if_icmp .ne 7, 3) := by decide +kernel
theorem dX11_twoOf_64 : decode cX11_twoOf 64 = .ok (.iconst 1, 1) := by decide +kernel
theorem dX11_twoOf_65 : decode cX11_twoOf 65 = .ok (.goto 4, 3) := by decide +kernel
theorem dX11_twoOf_68 : decode cX11_twoOf 68 = .ok (.iconst 0, 1) := by decide +kernel
theorem dX11_twoOf_69 : decode cX11_twoOf 69 = .ok (.ireturn, 1) := by decide +kernel
theorem dX11_twoOf_70 : decode cX11_twoOf 70 = .ok (.iload_n 1, 1) := by decide +kernel
theorem dX11_twoOf_71 : decode cX11_twoOf 71 = .ok (.bipush 8, 2) := by decide +kernel
theorem dX11_twoOf_73 : decode cX11_twoOf 73 = .ok (.if_icmp .ne 14, 3) := by decide +kernel
theorem dX11_twoOf_76 : decode cX11_twoOf 76 = .ok (.iload_n 2, 1) := by decide +kernel
theorem dX11_twoOf_77 : decode cX11_twoOf 77 = .ok (.iload_n 3, 1) := by decide +kernel
theorem dX11_twoOf_78 : decode cX11_twoOf 78 = .ok (.if_icmp .le 7, 3) := by decide +kernel
theorem dX11_twoOf_81 : decode cX11_twoOf 81 = .ok (.iconst 1, 1) := by decide +kernel
theorem dX11_twoOf_82 : decode cX11_twoOf 82 = .ok (.goto 4, 3) := by decide +kernel
theorem dX11_twoOf_85 : decode cX11_twoOf 85 = .ok (.iconst 0, 1) := by decide +kernel
theorem dX11_twoOf_86 : decode cX11_twoOf 86 = .ok (.ireturn, 1) := by decide +kernel
theorem dX11_twoOf_87 : decode cX11_twoOf 87 = .ok (.iload_n 1, 1) := by decide +kernel
theorem dX11_twoOf_88 : decode cX11_twoOf 88 = .ok (.bipush 10, 2) := by decide +kernel
theorem dX11_twoOf_90 : decode cX11_twoOf 90 = .ok (.if_icmp .ne 9, 3) := by decide +kernel
theorem dX11_twoOf_93 : decode cX11_twoOf 93 = .ok (.iload_n 2, 1) := by decide +kernel
theorem dX11_twoOf_94 : decode cX11_twoOf 94 = .ok (.iload_n 3, 1) := by decide +kernel
theorem dX11_twoOf_95 : decode cX11_twoOf 95 = .ok (.imul, 1) := by decide +kernel
theorem dX11_twoOf_96 : decode cX11_twoOf 96 = .ok (.goto 14, 3) := by decide +kernel
theorem dX11_twoOf_99 : decode cX11_twoOf 99 = .ok (.iload_n 2, 1) := by decide +kernel
theorem dX11_twoOf_100 : decode cX11_twoOf 100 = .ok (.iload_n 3, 1) := by decide +kernel
theorem dX11_twoOf_101 : decode cX11_twoOf 101 = .ok (.iadd, 1) := by decide +kernel
theorem dX11_twoOf_102 : decode cX11_twoOf 102 = .ok (.ifCond .le 7, 3) := by decide +kernel
theorem dX11_twoOf_105 : decode cX11_twoOf 105 = .ok (.iconst 1, 1) := by decide +kernel
theorem dX11_twoOf_106 : decode cX11_twoOf 106 = .ok (.goto 4, 3) := by decide +kernel
theorem dX11_twoOf_109 : decode cX11_twoOf 109 = .ok (.iconst 0, 1) := by decide +kernel
theorem dX11_twoOf_110 : decode cX11_twoOf 110 = .ok (.ireturn, 1) := by decide +kernel
theorem dX11_worth_0 : decode cX11_worth 0 = .ok (.iconst 0, 1) := by decide +kernel
theorem dX11_worth_1 : decode cX11_worth 1 = .ok (.istore 4, 2) := by decide +kernel
theorem dX11_worth_3 : decode cX11_worth 3 = .ok (.sipush 600, 3) := by decide +kernel
theorem dX11_worth_6 : decode cX11_worth 6 = .ok (.iload_n 1, 1) := by decide +kernel
theorem dX11_worth_7 : decode cX11_worth 7 = .ok (.imul, 1) := by decide +kernel
theorem dX11_worth_8 : decode cX11_worth 8 = .ok (.iload_n 2, 1) := by decide +kernel
theorem dX11_worth_9 : decode cX11_worth 9 = .ok (.iadd, 1) := by decide +kernel
theorem dX11_worth_10 : decode cX11_worth 10 = .ok (.istore 5, 2) := by decide +kernel
theorem dX11_worth_12 : decode cX11_worth 12 = .ok (.iload 5, 2) := by decide +kernel
theorem dX11_worth_14 : decode cX11_worth 14 = .ok (.sipush 600, 3) := by decide +kernel
theorem dX11_worth_17 : decode cX11_worth 17 = .ok (.iload_n 1, 1) := by decide +kernel
theorem dX11_worth_18 : decode cX11_worth 18 = .ok (.imul, 1) := by decide +kernel
theorem dX11_worth_19 : decode cX11_worth 19 = .ok (.iload_n 3, 1) := by decide +kernel
theorem dX11_worth_20 : decode cX11_worth 20 = .ok (.iadd, 1) := by decide +kernel
theorem dX11_worth_21 : decode cX11_worth 21 = .ok (.if_icmp .ge 155, 3) := by decide +kernel
theorem dX11_worth_24 : decode cX11_worth 24 = .ok (.aload_n 0, 1) := by decide +kernel
theorem dX11_worth_25 : decode cX11_worth 25 = .ok (.getfield 71, 3) := by decide +kernel
theorem dX11_worth_28 : decode cX11_worth 28 = .ok (.iload 5, 2) := by decide +kernel
theorem dX11_worth_30 : decode cX11_worth 30 = .ok (.iaload, 1) := by decide +kernel
theorem dX11_worth_31 : decode cX11_worth 31 = .ok (.ifCond .eq 14, 3) := by decide +kernel
theorem dX11_worth_34 : decode cX11_worth 34 = .ok (.aload_n 0, 1) := by decide +kernel
theorem dX11_worth_35 : decode cX11_worth 35 = .ok (.getfield 71, 3) := by decide +kernel
theorem dX11_worth_38 : decode cX11_worth 38 = .ok (.iload 5, 2) := by decide +kernel
theorem dX11_worth_40 : decode cX11_worth 40 = .ok (.iaload, 1) := by decide +kernel
theorem dX11_worth_41 : decode cX11_worth 41 = .ok (.iconst 1, 1) := by decide +kernel
theorem dX11_worth_42 : decode cX11_worth 42 = .ok (.if_icmp .ne 51, 3) := by decide +kernel
theorem dX11_worth_45 : decode cX11_worth 45 = .ok (.aload_n 0, 1) := by decide +kernel
theorem dX11_worth_46 : decode cX11_worth 46 = .ok (.getfield 87, 3) := by decide +kernel
theorem dX11_worth_49 : decode cX11_worth 49 = .ok (.iload 4, 2) := by decide +kernel
theorem dX11_worth_51 : decode cX11_worth 51 = .ok (.aload_n 0, 1) := by decide +kernel
theorem dX11_worth_52 : decode cX11_worth 52 = .ok (.getfield 71, 3) := by decide +kernel
theorem dX11_worth_55 : decode cX11_worth 55 = .ok (.iload 5, 2) := by decide +kernel
theorem dX11_worth_57 : decode cX11_worth 57 = .ok (.iaload, 1) := by decide +kernel
theorem dX11_worth_58 : decode cX11_worth 58 = .ok (.ifCond .ne 13, 3) := by decide +kernel
theorem dX11_worth_61 : decode cX11_worth 61 = .ok (.aload_n 0, 1) := by decide +kernel
theorem dX11_worth_62 : decode cX11_worth 62 = .ok (.getfield 74, 3) := by decide +kernel
theorem dX11_worth_65 : decode cX11_worth 65 = .ok (.iload 5, 2) := by decide +kernel
theorem dX11_worth_67 : decode cX11_worth 67 = .ok (.iaload, 1) := by decide +kernel
theorem dX11_worth_68 : decode cX11_worth 68 = .ok (.goto 15, 3) := by decide +kernel
theorem dX11_worth_71 : decode cX11_worth 71 = .ok (.aload_n 0, 1) := by decide +kernel
theorem dX11_worth_72 : decode cX11_worth 72 = .ok (.getfield 84, 3) := by decide +kernel
theorem dX11_worth_75 : decode cX11_worth 75 = .ok (.aload_n 0, 1) := by decide +kernel
theorem dX11_worth_76 : decode cX11_worth 76 = .ok (.getfield 74, 3) := by decide +kernel
theorem dX11_worth_79 : decode cX11_worth 79 = .ok (.iload 5, 2) := by decide +kernel
theorem dX11_worth_81 : decode cX11_worth 81 = .ok (.iaload, 1) := by decide +kernel
theorem dX11_worth_82 : decode cX11_worth 82 = .ok (.iaload, 1) := by decide +kernel
theorem dX11_worth_83 : decode cX11_worth 83 = .ok (.iastore, 1) := by decide +kernel
theorem dX11_worth_84 : decode cX11_worth 84 = .ok (.iload 4, 2) := by decide +kernel
theorem dX11_worth_86 : decode cX11_worth 86 = .ok (.iconst 1, 1) := by decide +kernel
theorem dX11_worth_87 : decode cX11_worth 87 = .ok (.iadd, 1) := by decide +kernel
theorem dX11_worth_88 : decode cX11_worth 88 = .ok (.istore 4, 2) := by decide +kernel
theorem dX11_worth_90 : decode cX11_worth 90 = .ok (.goto 80, 3) := by decide +kernel
theorem dX11_worth_93 : decode cX11_worth 93 = .ok (.aload_n 0, 1) := by decide +kernel
theorem dX11_worth_94 : decode cX11_worth 94 = .ok (.getfield 71, 3) := by decide +kernel
theorem dX11_worth_97 : decode cX11_worth 97 = .ok (.iload 5, 2) := by decide +kernel
theorem dX11_worth_99 : decode cX11_worth 99 = .ok (.iaload, 1) := by decide +kernel
theorem dX11_worth_100 : decode cX11_worth 100 = .ok (.bipush 9, 2) := by decide +kernel
theorem dX11_worth_102 : decode cX11_worth 102 = .ok (.if_icmp .ne 26, 3) := by decide +kernel
theorem dX11_worth_105 : decode cX11_worth 105 = .ok (.aload_n 0, 1) := by decide +kernel
theorem dX11_worth_106 : decode cX11_worth 106 = .ok (.getfield 87, 3) := by decide +kernel
theorem dX11_worth_109 : decode cX11_worth 109 = .ok (.iload 4, 2) := by decide +kernel
theorem dX11_worth_111 : decode cX11_worth 111 = .ok (.iconst 1, 1) := by decide +kernel
theorem dX11_worth_112 : decode cX11_worth 112 = .ok (.isub, 1) := by decide +kernel
theorem dX11_worth_113 : decode cX11_worth 113 = .ok (.iconst 1, 1) := by decide +kernel
theorem dX11_worth_114 : decode cX11_worth 114 = .ok (.aload_n 0, 1) := by decide +kernel
theorem dX11_worth_115 : decode cX11_worth 115 = .ok (.getfield 87, 3) := by decide +kernel
theorem dX11_worth_118 : decode cX11_worth 118 = .ok (.iload 4, 2) := by decide +kernel
theorem dX11_worth_120 : decode cX11_worth 120 = .ok (.iconst 1, 1) := by decide +kernel
theorem dX11_worth_121 : decode cX11_worth 121 = .ok (.isub, 1) := by decide +kernel
theorem dX11_worth_122 : decode cX11_worth 122 = .ok (.iaload, 1) := by decide +kernel
theorem dX11_worth_123 : decode cX11_worth 123 = .ok (.isub, 1) := by decide +kernel
theorem dX11_worth_124 : decode cX11_worth 124 = .ok (.iastore, 1) := by decide +kernel
theorem dX11_worth_125 : decode cX11_worth 125 = .ok (.goto 45, 3) := by decide +kernel
theorem dX11_worth_128 : decode cX11_worth 128 = .ok (.iload 4, 2) := by decide +kernel
theorem dX11_worth_130 : decode cX11_worth 130 = .ok (.iconst 1, 1) := by decide +kernel
theorem dX11_worth_131 : decode cX11_worth 131 = .ok (.isub, 1) := by decide +kernel
theorem dX11_worth_132 : decode cX11_worth 132 = .ok (.istore 4, 2) := by decide +kernel
theorem dX11_worth_134 : decode cX11_worth 134 = .ok (.aload_n 0, 1) := by decide +kernel
theorem dX11_worth_135 : decode cX11_worth 135 = .ok (.getfield 87, 3) := by decide +kernel
theorem dX11_worth_138 : decode cX11_worth 138 = .ok (.iload 4, 2) := by decide +kernel
theorem dX11_worth_140 : decode cX11_worth 140 = .ok (.iconst 1, 1) := by decide +kernel
theorem dX11_worth_141 : decode cX11_worth 141 = .ok (.isub, 1) := by decide +kernel
theorem dX11_worth_142 : decode cX11_worth 142 = .ok (.aload_n 0, 1) := by decide +kernel
theorem dX11_worth_143 : decode cX11_worth 143 = .ok (.aload_n 0, 1) := by decide +kernel
theorem dX11_worth_144 : decode cX11_worth 144 = .ok (.getfield 71, 3) := by decide +kernel
theorem dX11_worth_147 : decode cX11_worth 147 = .ok (.iload 5, 2) := by decide +kernel
theorem dX11_worth_149 : decode cX11_worth 149 = .ok (.iaload, 1) := by decide +kernel
theorem dX11_worth_150 : decode cX11_worth 150 = .ok (.aload_n 0, 1) := by decide +kernel
theorem dX11_worth_151 : decode cX11_worth 151 = .ok (.getfield 87, 3) := by decide +kernel
theorem dX11_worth_154 : decode cX11_worth 154 = .ok (.iload 4, 2) := by decide +kernel
theorem dX11_worth_156 : decode cX11_worth 156 = .ok (.iconst 1, 1) := by decide +kernel
theorem dX11_worth_157 : decode cX11_worth 157 = .ok (.isub, 1) := by decide +kernel
theorem dX11_worth_158 : decode cX11_worth 158 = .ok (.iaload, 1) := by decide +kernel
theorem dX11_worth_159 : decode cX11_worth 159 = .ok (.aload_n 0, 1) := by decide +kernel
theorem dX11_worth_160 : decode cX11_worth 160 = .ok (.getfield 87, 3) := by decide +kernel
theorem dX11_worth_163 : decode cX11_worth 163 = .ok (.iload 4, 2) := by decide +kernel
theorem dX11_worth_165 : decode cX11_worth 165 = .ok (.iaload, 1) := by decide +kernel
theorem dX11_worth_166 : decode cX11_worth 166 = .ok (.invokevirtual 277, 3) := by decide +kernel
theorem dX11_worth_169 : decode cX11_worth 169 = .ok (.iastore, 1) := by decide +kernel
theorem dX11_worth_170 : decode cX11_worth 170 = .ok (.iinc 5 1, 3) := by decide +kernel
theorem dX11_worth_173 : decode cX11_worth 173 = .ok (.goto (-161), 3) := by decide +kernel
theorem dX11_worth_176 : decode cX11_worth 176 = .ok (.aload_n 0, 1) := by decide +kernel
theorem dX11_worth_177 : decode cX11_worth 177 = .ok (.getfield 87, 3) := by decide +kernel
theorem dX11_worth_180 : decode cX11_worth 180 = .ok (.iconst 0, 1) := by decide +kernel
theorem dX11_worth_181 : decode cX11_worth 181 = .ok (.iaload, 1) := by decide +kernel
theorem dX11_worth_182 : decode cX11_worth 182 = .ok (.ireturn, 1) := by decide +kernel
theorem dX11_lawOf_0 : decode cX11_lawOf 0 = .ok (.iconst 0, 1) := by decide +kernel
theorem dX11_lawOf_1 : decode cX11_lawOf 1 = .ok (.istore_n 2, 1) := by decide +kernel
theorem dX11_lawOf_2 : decode cX11_lawOf 2 = .ok (.iload_n 2, 1) := by decide +kernel
theorem dX11_lawOf_3 : decode cX11_lawOf 3 = .ok (.aload_n 0, 1) := by decide +kernel
theorem dX11_lawOf_4 : decode cX11_lawOf 4 = .ok (.getfield 53, 3) := by decide +kernel
theorem dX11_lawOf_7 : decode cX11_lawOf 7 = .ok (.iconst 0, 1) := by decide +kernel
theorem dX11_lawOf_8 : decode cX11_lawOf 8 = .ok (.iaload, 1) := by decide +kernel
theorem dX11_lawOf_9 : decode cX11_lawOf 9 = .ok (.if_icmp .ge 75, 3) := by decide +kernel
theorem dX11_lawOf_12 : decode cX11_lawOf 12 = .ok (.aload_n 0, 1) := by decide +kernel
theorem dX11_lawOf_13 : decode cX11_lawOf 13 = .ok (.getfield 56, 3) := by decide +kernel
theorem dX11_lawOf_16 : decode cX11_lawOf 16 = .ok (.iload_n 2, 1) := by decide +kernel
theorem dX11_lawOf_17 : decode cX11_lawOf 17 = .ok (.iaload, 1) := by decide +kernel
theorem dX11_lawOf_18 : decode cX11_lawOf 18 = .ok (.iload_n 1, 1) := by decide +kernel
theorem dX11_lawOf_19 : decode cX11_lawOf 19 = .ok (.if_icmp .eq 6, 3) := by decide +kernel
theorem dX11_lawOf_22 : decode cX11_lawOf 22 = .ok (.goto 56, 3) := by decide +kernel
theorem dX11_lawOf_25 : decode cX11_lawOf 25 = .ok (.aload_n 0, 1) := by decide +kernel
theorem dX11_lawOf_26 : decode cX11_lawOf 26 = .ok (.getfield 68, 3) := by decide +kernel
theorem dX11_lawOf_29 : decode cX11_lawOf 29 = .ok (.iload_n 2, 1) := by decide +kernel
theorem dX11_lawOf_30 : decode cX11_lawOf 30 = .ok (.iaload, 1) := by decide +kernel
theorem dX11_lawOf_31 : decode cX11_lawOf 31 = .ok (.aload_n 0, 1) := by decide +kernel
theorem dX11_lawOf_32 : decode cX11_lawOf 32 = .ok (.getfield 65, 3) := by decide +kernel
theorem dX11_lawOf_35 : decode cX11_lawOf 35 = .ok (.iload_n 2, 1) := by decide +kernel
theorem dX11_lawOf_36 : decode cX11_lawOf 36 = .ok (.iaload, 1) := by decide +kernel
theorem dX11_lawOf_37 : decode cX11_lawOf 37 = .ok (.if_icmp .eq 23, 3) := by decide +kernel
theorem dX11_lawOf_40 : decode cX11_lawOf 40 = .ok (.aload_n 0, 1) := by decide +kernel
theorem dX11_lawOf_41 : decode cX11_lawOf 41 = .ok (.iconst 0, 1) := by decide +kernel
theorem dX11_lawOf_42 : decode cX11_lawOf 42 = .ok (.aload_n 0, 1) := by decide +kernel
theorem dX11_lawOf_43 : decode cX11_lawOf 43 = .ok (.getfield 65, 3) := by decide +kernel
theorem dX11_lawOf_46 : decode cX11_lawOf 46 = .ok (.iload_n 2, 1) := by decide +kernel
theorem dX11_lawOf_47 : decode cX11_lawOf 47 = .ok (.iaload, 1) := by decide +kernel
theorem dX11_lawOf_48 : decode cX11_lawOf 48 = .ok (.aload_n 0, 1) := by decide +kernel
theorem dX11_lawOf_49 : decode cX11_lawOf 49 = .ok (.getfield 68, 3) := by decide +kernel
theorem dX11_lawOf_52 : decode cX11_lawOf 52 = .ok (.iload_n 2, 1) := by decide +kernel
theorem dX11_lawOf_53 : decode cX11_lawOf 53 = .ok (.iaload, 1) := by decide +kernel
theorem dX11_lawOf_54 : decode cX11_lawOf 54 = .ok (.invokevirtual 280, 3) := by decide +kernel
theorem dX11_lawOf_57 : decode cX11_lawOf 57 = .ok (.ifCond .eq 21, 3) := by decide +kernel
theorem dX11_lawOf_60 : decode cX11_lawOf 60 = .ok (.aload_n 0, 1) := by decide +kernel
theorem dX11_lawOf_61 : decode cX11_lawOf 61 = .ok (.iconst 0, 1) := by decide +kernel
theorem dX11_lawOf_62 : decode cX11_lawOf 62 = .ok (.aload_n 0, 1) := by decide +kernel
theorem dX11_lawOf_63 : decode cX11_lawOf 63 = .ok (.getfield 62, 3) := by decide +kernel
theorem dX11_lawOf_66 : decode cX11_lawOf 66 = .ok (.iload_n 2, 1) := by decide +kernel
theorem dX11_lawOf_67 : decode cX11_lawOf 67 = .ok (.iaload, 1) := by decide +kernel
theorem dX11_lawOf_68 : decode cX11_lawOf 68 = .ok (.aload_n 0, 1) := by decide +kernel
theorem dX11_lawOf_69 : decode cX11_lawOf 69 = .ok (.getfield 65, 3) := by decide +kernel
theorem dX11_lawOf_72 : decode cX11_lawOf 72 = .ok (.iload_n 2, 1) := by decide +kernel
theorem dX11_lawOf_73 : decode cX11_lawOf 73 = .ok (.iaload, 1) := by decide +kernel
theorem dX11_lawOf_74 : decode cX11_lawOf 74 = .ok (.invokevirtual 280, 3) := by decide +kernel
theorem dX11_lawOf_77 : decode cX11_lawOf 77 = .ok (.ireturn, 1) := by decide +kernel
theorem dX11_lawOf_78 : decode cX11_lawOf 78 = .ok (.iinc 2 1, 3) := by decide +kernel
theorem dX11_lawOf_81 : decode cX11_lawOf 81 = .ok (.goto (-79), 3) := by decide +kernel
theorem dX11_lawOf_84 : decode cX11_lawOf 84 = .ok (.iconst 0, 1) := by decide +kernel
theorem dX11_lawOf_85 : decode cX11_lawOf 85 = .ok (.ireturn, 1) := by decide +kernel
theorem dX11_cut_0 : decode cX11_cut 0 = .ok (.iload_n 1, 1) := by decide +kernel
theorem dX11_cut_1 : decode cX11_cut 1 = .ok (.ifCond .ge 7, 3) := by decide +kernel
theorem dX11_cut_4 : decode cX11_cut 4 = .ok (.iconst 0, 1) := by decide +kernel
theorem dX11_cut_5 : decode cX11_cut 5 = .ok (.goto 13, 3) := by decide +kernel
theorem dX11_cut_8 : decode cX11_cut 8 = .ok (.iload_n 1, 1) := by decide +kernel
theorem dX11_cut_9 : decode cX11_cut 9 = .ok (.iload_n 2, 1) := by decide +kernel
theorem dX11_cut_10 : decode cX11_cut 10 = .ok (.if_icmp .le 7, 3) := by decide +kernel
theorem dX11_cut_13 : decode cX11_cut 13 = .ok (.iload_n 2, 1) := by decide +kernel
theorem dX11_cut_14 : decode cX11_cut 14 = .ok (.goto 4, 3) := by decide +kernel
theorem dX11_cut_17 : decode cX11_cut 17 = .ok (.iload_n 1, 1) := by decide +kernel
theorem dX11_cut_18 : decode cX11_cut 18 = .ok (.ireturn, 1) := by decide +kernel
theorem dX11_takesHour_0 : decode cX11_takesHour 0 = .ok (.aload_n 0, 1) := by decide +kernel
theorem dX11_takesHour_1 : decode cX11_takesHour 1 = .ok (.getfield 84, 3) := by decide +kernel
theorem dX11_takesHour_4 : decode cX11_takesHour 4 = .ok (.iconst 0, 1) := by decide +kernel
theorem dX11_takesHour_5 : decode cX11_takesHour 5 = .ok (.aload_n 0, 1) := by decide +kernel
theorem dX11_takesHour_6 : decode cX11_takesHour 6 = .ok (.iload_n 1, 1) := by decide +kernel
theorem dX11_takesHour_7 : decode cX11_takesHour 7 = .ok (.iload_n 2, 1) := by decide +kernel
theorem dX11_takesHour_8 : decode cX11_takesHour 8 = .ok (.invokevirtual 158, 3) := by decide +kernel
theorem dX11_takesHour_11 : decode cX11_takesHour 11 = .ok (.iastore, 1) := by decide +kernel
theorem dX11_takesHour_12 : decode cX11_takesHour 12 = .ok (.aload_n 0, 1) := by decide +kernel
theorem dX11_takesHour_13 : decode cX11_takesHour 13 = .ok (.getfield 84, 3) := by decide +kernel
theorem dX11_takesHour_16 : decode cX11_takesHour 16 = .ok (.iconst 1, 1) := by decide +kernel
theorem dX11_takesHour_17 : decode cX11_takesHour 17 = .ok (.iload_n 2, 1) := by decide +kernel
theorem dX11_takesHour_18 : decode cX11_takesHour 18 = .ok (.iastore, 1) := by decide +kernel
theorem dX11_takesHour_19 : decode cX11_takesHour 19 = .ok (.aload_n 0, 1) := by decide +kernel
theorem dX11_takesHour_20 : decode cX11_takesHour 20 = .ok (.getfield 84, 3) := by decide +kernel
theorem dX11_takesHour_23 : decode cX11_takesHour 23 = .ok (.iconst 2, 1) := by decide +kernel
theorem dX11_takesHour_24 : decode cX11_takesHour 24 = .ok (.iload_n 1, 1) := by decide +kernel
theorem dX11_takesHour_25 : decode cX11_takesHour 25 = .ok (.iastore, 1) := by decide +kernel
theorem dX11_takesHour_26 : decode cX11_takesHour 26 = .ok (.aload_n 0, 1) := by decide +kernel
theorem dX11_takesHour_27 : decode cX11_takesHour 27 = .ok (.getfield 84, 3) := by decide +kernel
theorem dX11_takesHour_30 : decode cX11_takesHour 30 = .ok (.iconst 3, 1) := by decide +kernel
theorem dX11_takesHour_31 : decode cX11_takesHour 31 = .ok (.iload_n 3, 1) := by decide +kernel
theorem dX11_takesHour_32 : decode cX11_takesHour 32 = .ok (.iastore, 1) := by decide +kernel
theorem dX11_takesHour_33 : decode cX11_takesHour 33 = .ok (.aload_n 0, 1) := by decide +kernel
theorem dX11_takesHour_34 : decode cX11_takesHour 34 = .ok (.getfield 84, 3) := by decide +kernel
theorem dX11_takesHour_37 : decode cX11_takesHour 37 = .ok (.iconst 4, 1) := by decide +kernel
theorem dX11_takesHour_38 : decode cX11_takesHour 38 = .ok (.aload_n 0, 1) := by decide +kernel
theorem dX11_takesHour_39 : decode cX11_takesHour 39 = .ok (.getfield 148, 3) := by decide +kernel
theorem dX11_takesHour_42 : decode cX11_takesHour 42 = .ok (.iastore, 1) := by decide +kernel
theorem dX11_takesHour_43 : decode cX11_takesHour 43 = .ok (.aload_n 0, 1) := by decide +kernel
theorem dX11_takesHour_44 : decode cX11_takesHour 44 = .ok (.getfield 84, 3) := by decide +kernel
theorem dX11_takesHour_47 : decode cX11_takesHour 47 = .ok (.iconst 5, 1) := by decide +kernel
theorem dX11_takesHour_48 : decode cX11_takesHour 48 = .ok (.aload_n 0, 1) := by decide +kernel
theorem dX11_takesHour_49 : decode cX11_takesHour 49 = .ok (.getfield 7, 3) := by decide +kernel
theorem dX11_takesHour_52 : decode cX11_takesHour 52 = .ok (.iload 4, 2) := by decide +kernel
theorem dX11_takesHour_54 : decode cX11_takesHour 54 = .ok (.bipush 24, 2) := by decide +kernel
theorem dX11_takesHour_56 : decode cX11_takesHour 56 = .ok (.idiv, 1) := by decide +kernel
theorem dX11_takesHour_57 : decode cX11_takesHour 57 = .ok (.iaload, 1) := by decide +kernel
theorem dX11_takesHour_58 : decode cX11_takesHour 58 = .ok (.iastore, 1) := by decide +kernel
theorem dX11_takesHour_59 : decode cX11_takesHour 59 = .ok (.aload_n 0, 1) := by decide +kernel
theorem dX11_takesHour_60 : decode cX11_takesHour 60 = .ok (.getfield 84, 3) := by decide +kernel
theorem dX11_takesHour_63 : decode cX11_takesHour 63 = .ok (.bipush 6, 2) := by decide +kernel
theorem dX11_takesHour_65 : decode cX11_takesHour 65 = .ok (.iload 4, 2) := by decide +kernel
theorem dX11_takesHour_67 : decode cX11_takesHour 67 = .ok (.bipush 24, 2) := by decide +kernel
theorem dX11_takesHour_69 : decode cX11_takesHour 69 = .ok (.irem, 1) := by decide +kernel
theorem dX11_takesHour_70 : decode cX11_takesHour 70 = .ok (.iastore, 1) := by decide +kernel
theorem dX11_takesHour_71 : decode cX11_takesHour 71 = .ok (.return_, 1) := by decide +kernel
theorem dX11_takesHeap_0 : decode cX11_takesHeap 0 = .ok (.aload_n 0, 1) := by decide +kernel
theorem dX11_takesHeap_1 : decode cX11_takesHeap 1 = .ok (.aload_n 0, 1) := by decide +kernel
theorem dX11_takesHeap_2 : decode cX11_takesHeap 2 = .ok (.getfield 16, 3) := by decide +kernel
theorem dX11_takesHeap_5 : decode cX11_takesHeap 5 = .ok (.iload_n 1, 1) := by decide +kernel
theorem dX11_takesHeap_6 : decode cX11_takesHeap 6 = .ok (.iaload, 1) := by decide +kernel
theorem dX11_takesHeap_7 : decode cX11_takesHeap 7 = .ok (.aload_n 0, 1) := by decide +kernel
theorem dX11_takesHeap_8 : decode cX11_takesHeap 8 = .ok (.getfield 19, 3) := by decide +kernel
theorem dX11_takesHeap_11 : decode cX11_takesHeap 11 = .ok (.iload_n 1, 1) := by decide +kernel
theorem dX11_takesHeap_12 : decode cX11_takesHeap 12 = .ok (.iaload, 1) := by decide +kernel
theorem dX11_takesHeap_13 : decode cX11_takesHeap 13 = .ok (.iload_n 1, 1) := by decide +kernel
theorem dX11_takesHeap_14 : decode cX11_takesHeap 14 = .ok (.bipush 64, 2) := by decide +kernel
theorem dX11_takesHeap_16 : decode cX11_takesHeap 16 = .ok (.idiv, 1) := by decide +kernel
theorem dX11_takesHeap_17 : decode cX11_takesHeap 17 = .ok (.aload_n 0, 1) := by decide +kernel
theorem dX11_takesHeap_18 : decode cX11_takesHeap 18 = .ok (.getfield 283, 3) := by decide +kernel
theorem dX11_takesHeap_21 : decode cX11_takesHeap 21 = .ok (.invokevirtual 286, 3) := by decide +kernel
theorem dX11_takesHeap_24 : decode cX11_takesHeap 24 = .ok (.aload_n 0, 1) := by decide +kernel
theorem dX11_takesHeap_25 : decode cX11_takesHeap 25 = .ok (.getfield 84, 3) := by decide +kernel
theorem dX11_takesHeap_28 : decode cX11_takesHeap 28 = .ok (.bipush 7, 2) := by decide +kernel
theorem dX11_takesHeap_30 : decode cX11_takesHeap 30 = .ok (.iconst 0, 1) := by decide +kernel
theorem dX11_takesHeap_31 : decode cX11_takesHeap 31 = .ok (.iastore, 1) := by decide +kernel
theorem dX11_takesHeap_32 : decode cX11_takesHeap 32 = .ok (.aload_n 0, 1) := by decide +kernel
theorem dX11_takesHeap_33 : decode cX11_takesHeap 33 = .ok (.iload_n 1, 1) := by decide +kernel
theorem dX11_takesHeap_34 : decode cX11_takesHeap 34 = .ok (.bipush 64, 2) := by decide +kernel
theorem dX11_takesHeap_36 : decode cX11_takesHeap 36 = .ok (.irem, 1) := by decide +kernel
theorem dX11_takesHeap_37 : decode cX11_takesHeap 37 = .ok (.invokevirtual 290, 3) := by decide +kernel
theorem dX11_takesHeap_40 : decode cX11_takesHeap 40 = .ok (.iload_n 1, 1) := by decide +kernel
theorem dX11_takesHeap_41 : decode cX11_takesHeap 41 = .ok (.bipush 64, 2) := by decide +kernel
theorem dX11_takesHeap_43 : decode cX11_takesHeap 43 = .ok (.idiv, 1) := by decide +kernel
theorem dX11_takesHeap_44 : decode cX11_takesHeap 44 = .ok (.iconst 1, 1) := by decide +kernel
theorem dX11_takesHeap_45 : decode cX11_takesHeap 45 = .ok (.iadd, 1) := by decide +kernel
theorem dX11_takesHeap_46 : decode cX11_takesHeap 46 = .ok (.if_icmp .ne 7, 3) := by decide +kernel
theorem dX11_takesHeap_49 : decode cX11_takesHeap 49 = .ok (.iconst 1, 1) := by decide +kernel
theorem dX11_takesHeap_50 : decode cX11_takesHeap 50 = .ok (.goto 4, 3) := by decide +kernel
theorem dX11_takesHeap_53 : decode cX11_takesHeap 53 = .ok (.iconst 0, 1) := by decide +kernel
theorem dX11_takesHeap_54 : decode cX11_takesHeap 54 = .ok (.istore_n 2, 1) := by decide +kernel
theorem dX11_takesHeap_55 : decode cX11_takesHeap 55 = .ok (.aload_n 0, 1) := by decide +kernel
theorem dX11_takesHeap_56 : decode cX11_takesHeap 56 = .ok (.getfield 283, 3) := by decide +kernel
theorem dX11_takesHeap_59 : decode cX11_takesHeap 59 = .ok (.bipush 24, 2) := by decide +kernel
theorem dX11_takesHeap_61 : decode cX11_takesHeap 61 = .ok (.irem, 1) := by decide +kernel
theorem dX11_takesHeap_62 : decode cX11_takesHeap 62 = .ok (.istore_n 3, 1) := by decide +kernel
theorem dX11_takesHeap_63 : decode cX11_takesHeap 63 = .ok (.aload_n 0, 1) := by decide +kernel
theorem dX11_takesHeap_64 : decode cX11_takesHeap 64 = .ok (.getfield 84, 3) := by decide +kernel
theorem dX11_takesHeap_67 : decode cX11_takesHeap 67 = .ok (.bipush 8, 2) := by decide +kernel
theorem dX11_takesHeap_69 : decode cX11_takesHeap 69 = .ok (.iload_n 2, 1) := by decide +kernel
theorem dX11_takesHeap_70 : decode cX11_takesHeap 70 = .ok (.ifCond .eq 42, 3) := by decide +kernel
theorem dX11_takesHeap_73 : decode cX11_takesHeap 73 = .ok (.iload_n 1, 1) := by decide +kernel
theorem dX11_takesHeap_74 : decode cX11_takesHeap 74 = .ok (.bipush 8, 2) := by decide +kernel
theorem dX11_takesHeap_76 : decode cX11_takesHeap 76 = .ok (.irem, 1) := by decide +kernel
theorem dX11_takesHeap_77 : decode cX11_takesHeap 77 = .ok (.iconst 4, 1) := by decide +kernel
theorem dX11_takesHeap_78 : decode cX11_takesHeap 78 = .ok (.if_icmp .ge 18, 3) := by decide +kernel
theorem dX11_takesHeap_81 : decode cX11_takesHeap 81 = .ok (.aload_n 0, 1) := by decide +kernel
theorem dX11_takesHeap_82 : decode cX11_takesHeap 82 = .ok (.iload_n 3, 1) := by decide +kernel
theorem dX11_takesHeap_83 : decode cX11_takesHeap 83 = .ok (.bipush 6, 2) := by decide +kernel
theorem dX11_takesHeap_85 : decode cX11_takesHeap 85 = .ok (.bipush 11, 2) := by decide +kernel
theorem dX11_takesHeap_87 : decode cX11_takesHeap 87 = .ok (.invokevirtual 144, 3) := by decide +kernel
theorem dX11_takesHeap_90 : decode cX11_takesHeap 90 = .ok (.ifCond .eq 22, 3) := by decide +kernel
theorem dX11_takesHeap_93 : decode cX11_takesHeap 93 = .ok (.goto 15, 3) := by decide +kernel
theorem dX11_takesHeap_96 : decode cX11_takesHeap 96 = .ok (.aload_n 0, 1) := by decide +kernel
theorem dX11_takesHeap_97 : decode cX11_takesHeap 97 = .ok (.iload_n 3, 1) := by decide +kernel
theorem dX11_takesHeap_98 : decode cX11_takesHeap 98 = .ok (.bipush 12, 2) := by decide +kernel
theorem dX11_takesHeap_100 : decode cX11_takesHeap 100 = .ok (.bipush 17, 2) := by decide +kernel
theorem dX11_takesHeap_102 : decode cX11_takesHeap 102 = .ok (.invokevirtual 144, 3) := by decide +kernel
theorem dX11_takesHeap_105 : decode cX11_takesHeap 105 = .ok (.ifCond .eq 7, 3) := by decide +kernel
theorem dX11_takesHeap_108 : decode cX11_takesHeap 108 = .ok (.iconst 1, 1) := by decide +kernel
theorem dX11_takesHeap_109 : decode cX11_takesHeap 109 = .ok (.goto 4, 3) := by decide +kernel
theorem dX11_takesHeap_112 : decode cX11_takesHeap 112 = .ok (.iconst 0, 1) := by decide +kernel
theorem dX11_takesHeap_113 : decode cX11_takesHeap 113 = .ok (.iastore, 1) := by decide +kernel
theorem dX11_takesHeap_114 : decode cX11_takesHeap 114 = .ok (.return_, 1) := by decide +kernel
theorem dX11_takesShip_0 : decode cX11_takesShip 0 = .ok (.aload_n 0, 1) := by decide +kernel
theorem dX11_takesShip_1 : decode cX11_takesShip 1 = .ok (.aload_n 0, 1) := by decide +kernel
theorem dX11_takesShip_2 : decode cX11_takesShip 2 = .ok (.getfield 22, 3) := by decide +kernel
theorem dX11_takesShip_5 : decode cX11_takesShip 5 = .ok (.iload_n 1, 1) := by decide +kernel
theorem dX11_takesShip_6 : decode cX11_takesShip 6 = .ok (.iaload, 1) := by decide +kernel
theorem dX11_takesShip_7 : decode cX11_takesShip 7 = .ok (.aload_n 0, 1) := by decide +kernel
theorem dX11_takesShip_8 : decode cX11_takesShip 8 = .ok (.getfield 25, 3) := by decide +kernel
theorem dX11_takesShip_11 : decode cX11_takesShip 11 = .ok (.iload_n 1, 1) := by decide +kernel
theorem dX11_takesShip_12 : decode cX11_takesShip 12 = .ok (.iaload, 1) := by decide +kernel
theorem dX11_takesShip_13 : decode cX11_takesShip 13 = .ok (.iload_n 1, 1) := by decide +kernel
theorem dX11_takesShip_14 : decode cX11_takesShip 14 = .ok (.bipush 6, 2) := by decide +kernel
theorem dX11_takesShip_16 : decode cX11_takesShip 16 = .ok (.irem, 1) := by decide +kernel
theorem dX11_takesShip_17 : decode cX11_takesShip 17 = .ok (.iload_n 2, 1) := by decide +kernel
theorem dX11_takesShip_18 : decode cX11_takesShip 18 = .ok (.invokevirtual 286, 3) := by decide +kernel
theorem dX11_takesShip_21 : decode cX11_takesShip 21 = .ok (.aload_n 0, 1) := by decide +kernel
theorem dX11_takesShip_22 : decode cX11_takesShip 22 = .ok (.getfield 84, 3) := by decide +kernel
theorem dX11_takesShip_25 : decode cX11_takesShip 25 = .ok (.bipush 7, 2) := by decide +kernel
theorem dX11_takesShip_27 : decode cX11_takesShip 27 = .ok (.aload_n 0, 1) := by decide +kernel
theorem dX11_takesShip_28 : decode cX11_takesShip 28 = .ok (.getfield 28, 3) := by decide +kernel
theorem dX11_takesShip_31 : decode cX11_takesShip 31 = .ok (.iload_n 1, 1) := by decide +kernel
theorem dX11_takesShip_32 : decode cX11_takesShip 32 = .ok (.iaload, 1) := by decide +kernel
theorem dX11_takesShip_33 : decode cX11_takesShip 33 = .ok (.iastore, 1) := by decide +kernel
theorem dX11_takesShip_34 : decode cX11_takesShip 34 = .ok (.aload_n 0, 1) := by decide +kernel
theorem dX11_takesShip_35 : decode cX11_takesShip 35 = .ok (.getfield 84, 3) := by decide +kernel
theorem dX11_takesShip_38 : decode cX11_takesShip 38 = .ok (.bipush 8, 2) := by decide +kernel
theorem dX11_takesShip_40 : decode cX11_takesShip 40 = .ok (.iconst 0, 1) := by decide +kernel
theorem dX11_takesShip_41 : decode cX11_takesShip 41 = .ok (.iastore, 1) := by decide +kernel
theorem dX11_takesShip_42 : decode cX11_takesShip 42 = .ok (.return_, 1) := by decide +kernel
theorem dX11_told_0 : decode cX11_told 0 = .ok (.aload_n 0, 1) := by decide +kernel
theorem dX11_told_1 : decode cX11_told 1 = .ok (.iconst 0, 1) := by decide +kernel
theorem dX11_told_2 : decode cX11_told 2 = .ok (.putfield 141, 3) := by decide +kernel
theorem dX11_told_5 : decode cX11_told 5 = .ok (.iload_n 2, 1) := by decide +kernel
theorem dX11_told_6 : decode cX11_told 6 = .ok (.iconst (-1), 1) := by decide +kernel
theorem dX11_told_7 : decode cX11_told 7 = .ok (.if_icmp .ne 15, 3) := by decide +kernel
theorem dX11_told_10 : decode cX11_told 10 = .ok (.aload_n 0, 1) := by decide +kernel
theorem dX11_told_11 : decode cX11_told 11 = .ok (.iload_n 3, 1) := by decide +kernel
theorem dX11_told_12 : decode cX11_told 12 = .ok (.iload 4, 2) := by decide +kernel
theorem dX11_told_14 : decode cX11_told 14 = .ok (.iload 5, 2) := by decide +kernel
theorem dX11_told_16 : decode cX11_told 16 = .ok (.invokevirtual 151, 3) := by decide +kernel
theorem dX11_told_19 : decode cX11_told 19 = .ok (.goto 11, 3) := by decide +kernel
theorem dX11_told_22 : decode cX11_told 22 = .ok (.aload_n 0, 1) := by decide +kernel
theorem dX11_told_23 : decode cX11_told 23 = .ok (.iload_n 2, 1) := by decide +kernel
theorem dX11_told_24 : decode cX11_told 24 = .ok (.iload_n 3, 1) := by decide +kernel
theorem dX11_told_25 : decode cX11_told 25 = .ok (.iload 5, 2) := by decide +kernel
theorem dX11_told_27 : decode cX11_told 27 = .ok (.invokevirtual 155, 3) := by decide +kernel
theorem dX11_told_30 : decode cX11_told 30 = .ok (.istore 6, 2) := by decide +kernel
theorem dX11_told_32 : decode cX11_told 32 = .ok (.iload 6, 2) := by decide +kernel
theorem dX11_told_34 : decode cX11_told 34 = .ok (.iconst (-1), 1) := by decide +kernel
theorem dX11_told_35 : decode cX11_told 35 = .ok (.if_icmp .eq 13, 3) := by decide +kernel
theorem dX11_told_38 : decode cX11_told 38 = .ok (.aload_n 0, 1) := by decide +kernel
theorem dX11_told_39 : decode cX11_told 39 = .ok (.iload_n 1, 1) := by decide +kernel
theorem dX11_told_40 : decode cX11_told 40 = .ok (.iconst 0, 1) := by decide +kernel
theorem dX11_told_41 : decode cX11_told 41 = .ok (.iconst 3, 1) := by decide +kernel
theorem dX11_told_42 : decode cX11_told 42 = .ok (.invokevirtual 144, 3) := by decide +kernel
theorem dX11_told_45 : decode cX11_told 45 = .ok (.ifCond .ne 7, 3) := by decide +kernel
theorem dX11_told_48 : decode cX11_told 48 = .ok (.ldc_w 293, 3) := by decide +kernel
theorem dX11_told_51 : decode cX11_told 51 = .ok (.ireturn, 1) := by decide +kernel
theorem dX11_told_52 : decode cX11_told 52 = .ok (.iload_n 2, 1) := by decide +kernel
theorem dX11_told_53 : decode cX11_told 53 = .ok (.iconst (-1), 1) := by decide +kernel
theorem dX11_told_54 : decode cX11_told 54 = .ok (.if_icmp .ne 13, 3) := by decide +kernel
theorem dX11_told_57 : decode cX11_told 57 = .ok (.aload_n 0, 1) := by decide +kernel
theorem dX11_told_58 : decode cX11_told 58 = .ok (.getfield 16, 3) := by decide +kernel
theorem dX11_told_61 : decode cX11_told 61 = .ok (.iload 6, 2) := by decide +kernel
theorem dX11_told_63 : decode cX11_told 63 = .ok (.iaload, 1) := by decide +kernel
theorem dX11_told_64 : decode cX11_told 64 = .ok (.goto 10, 3) := by decide +kernel
theorem dX11_told_67 : decode cX11_told 67 = .ok (.aload_n 0, 1) := by decide +kernel
theorem dX11_told_68 : decode cX11_told 68 = .ok (.getfield 22, 3) := by decide +kernel
theorem dX11_told_71 : decode cX11_told 71 = .ok (.iload 6, 2) := by decide +kernel
theorem dX11_told_73 : decode cX11_told 73 = .ok (.iaload, 1) := by decide +kernel
theorem dX11_told_74 : decode cX11_told 74 = .ok (.ifCond .ne 5, 3) := by decide +kernel
theorem dX11_told_77 : decode cX11_told 77 = .ok (.iconst 0, 1) := by decide +kernel
theorem dX11_told_78 : decode cX11_told 78 = .ok (.ireturn, 1) := by decide +kernel
theorem dX11_told_79 : decode cX11_told 79 = .ok (.iload_n 2, 1) := by decide +kernel
theorem dX11_told_80 : decode cX11_told 80 = .ok (.iconst (-1), 1) := by decide +kernel
theorem dX11_told_81 : decode cX11_told 81 = .ok (.if_icmp .ne 12, 3) := by decide +kernel
theorem dX11_told_84 : decode cX11_told 84 = .ok (.aload_n 0, 1) := by decide +kernel
theorem dX11_told_85 : decode cX11_told 85 = .ok (.iload 6, 2) := by decide +kernel
theorem dX11_told_87 : decode cX11_told 87 = .ok (.invokevirtual 294, 3) := by decide +kernel
theorem dX11_told_90 : decode cX11_told 90 = .ok (.goto 13, 3) := by decide +kernel
theorem dX11_told_93 : decode cX11_told 93 = .ok (.aload_n 0, 1) := by decide +kernel
theorem dX11_told_94 : decode cX11_told 94 = .ok (.iload 6, 2) := by decide +kernel
theorem dX11_told_96 : decode cX11_told 96 = .ok (.aload_n 0, 1) := by decide +kernel
theorem dX11_told_97 : decode cX11_told 97 = .ok (.getfield 283, 3) := by decide +kernel
theorem dX11_told_100 : decode cX11_told 100 = .ok (.invokevirtual 297, 3) := by decide +kernel
theorem dX11_told_103 : decode cX11_told 103 = .ok (.aload_n 0, 1) := by decide +kernel
theorem dX11_told_104 : decode cX11_told 104 = .ok (.iload_n 1, 1) := by decide +kernel
theorem dX11_told_105 : decode cX11_told 105 = .ok (.invokevirtual 300, 3) := by decide +kernel
theorem dX11_told_108 : decode cX11_told 108 = .ok (.ireturn, 1) := by decide +kernel
theorem dX11_more_0 : decode cX11_more 0 = .ok (.iload_n 1, 1) := by decide +kernel
theorem dX11_more_1 : decode cX11_more 1 = .ok (.iload_n 2, 1) := by decide +kernel
theorem dX11_more_2 : decode cX11_more 2 = .ok (.iadd, 1) := by decide +kernel
theorem dX11_more_3 : decode cX11_more 3 = .ok (.sipush 9999, 3) := by decide +kernel
theorem dX11_more_6 : decode cX11_more 6 = .ok (.if_icmp .le 9, 3) := by decide +kernel
theorem dX11_more_9 : decode cX11_more 9 = .ok (.sipush 9999, 3) := by decide +kernel
theorem dX11_more_12 : decode cX11_more 12 = .ok (.goto 6, 3) := by decide +kernel
theorem dX11_more_15 : decode cX11_more 15 = .ok (.iload_n 1, 1) := by decide +kernel
theorem dX11_more_16 : decode cX11_more 16 = .ok (.iload_n 2, 1) := by decide +kernel
theorem dX11_more_17 : decode cX11_more 17 = .ok (.iadd, 1) := by decide +kernel
theorem dX11_more_18 : decode cX11_more 18 = .ok (.ireturn, 1) := by decide +kernel
