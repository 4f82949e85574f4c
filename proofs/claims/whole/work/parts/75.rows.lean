theorem d_Z_findProduct_0 : decode c_Z_findProductb 0 = .ok (.aload_n 0, 1) := by decide +kernel
theorem d_Z_findProduct_1 : decode c_Z_findProductb 1 = .ok (.getfield 66, 3) := by decide +kernel
theorem d_Z_findProduct_4 : decode c_Z_findProductb 4 = .ok (.iload_n 2, 1) := by decide +kernel
theorem d_Z_findProduct_5 : decode c_Z_findProductb 5 = .ok (.iaload, 1) := by decide +kernel
theorem d_Z_findProduct_6 : decode c_Z_findProductb 6 = .ok (.iconst 1, 1) := by decide +kernel
theorem d_Z_findProduct_7 : decode c_Z_findProductb 7 = .ok (.bipush 24, 2) := by decide +kernel
theorem d_Z_findProduct_9 : decode c_Z_findProductb 9 = .ok (.bipush 8, 2) := by decide +kernel
theorem d_Z_findProduct_11 : decode c_Z_findProductb 11 = .ok (.iload_n 1, 1) := by decide +kernel
theorem d_Z_findProduct_12 : decode c_Z_findProductb 12 = .ok (.imul, 1) := by decide +kernel
theorem d_Z_findProduct_13 : decode c_Z_findProductb 13 = .ok (.isub, 1) := by decide +kernel
theorem d_Z_findProduct_14 : decode c_Z_findProductb 14 = .ok (.ishl, 1) := by decide +kernel
theorem d_Z_findProduct_15 : decode c_Z_findProductb 15 = .ok (.iadd, 1) := by decide +kernel
theorem d_Z_findProduct_16 : decode c_Z_findProductb 16 = .ok (.istore_n 3, 1) := by decide +kernel
theorem d_Z_findProduct_17 : decode c_Z_findProductb 17 = .ok (.sipush 1600, 3) := by decide +kernel
theorem d_Z_findProduct_20 : decode c_Z_findProductb 20 = .ok (.iload_n 1, 1) := by decide +kernel
theorem d_Z_findProduct_21 : decode c_Z_findProductb 21 = .ok (.imul, 1) := by decide +kernel
theorem d_Z_findProduct_22 : decode c_Z_findProductb 22 = .ok (.bipush 40, 2) := by decide +kernel
theorem d_Z_findProduct_24 : decode c_Z_findProductb 24 = .ok (.iload_n 2, 1) := by decide +kernel
theorem d_Z_findProduct_25 : decode c_Z_findProductb 25 = .ok (.imul, 1) := by decide +kernel
theorem d_Z_findProduct_26 : decode c_Z_findProductb 26 = .ok (.iadd, 1) := by decide +kernel
theorem d_Z_findProduct_27 : decode c_Z_findProductb 27 = .ok (.istore 4, 2) := by decide +kernel
theorem d_Z_findProduct_29 : decode c_Z_findProductb 29 = .ok (.iconst 0, 1) := by decide +kernel
theorem d_Z_findProduct_30 : decode c_Z_findProductb 30 = .ok (.istore 5, 2) := by decide +kernel
theorem d_Z_findProduct_32 : decode c_Z_findProductb 32 = .ok (.iload 5, 2) := by decide +kernel
theorem d_Z_findProduct_34 : decode c_Z_findProductb 34 = .ok (.bipush 40, 2) := by decide +kernel
theorem d_Z_findProduct_36 : decode c_Z_findProductb 36 = .ok (.if_icmp .ge 20, 3) := by decide +kernel
theorem d_Z_findProduct_39 : decode c_Z_findProductb 39 = .ok (.aload_n 0, 1) := by decide +kernel
theorem d_Z_findProduct_40 : decode c_Z_findProductb 40 = .ok (.getfield 69, 3) := by decide +kernel
theorem d_Z_findProduct_43 : decode c_Z_findProductb 43 = .ok (.iload 4, 2) := by decide +kernel
theorem d_Z_findProduct_45 : decode c_Z_findProductb 45 = .ok (.iload 5, 2) := by decide +kernel
theorem d_Z_findProduct_47 : decode c_Z_findProductb 47 = .ok (.iadd, 1) := by decide +kernel
theorem d_Z_findProduct_48 : decode c_Z_findProductb 48 = .ok (.iconst 0, 1) := by decide +kernel
theorem d_Z_findProduct_49 : decode c_Z_findProductb 49 = .ok (.iastore, 1) := by decide +kernel
theorem d_Z_findProduct_50 : decode c_Z_findProductb 50 = .ok (.iinc 5 1, 3) := by decide +kernel
theorem d_Z_findProduct_53 : decode c_Z_findProductb 53 = .ok (.goto (-21), 3) := by decide +kernel
theorem d_Z_findProduct_56 : decode c_Z_findProductb 56 = .ok (.aload_n 0, 1) := by decide +kernel
theorem d_Z_findProduct_57 : decode c_Z_findProductb 57 = .ok (.getfield 72, 3) := by decide +kernel
theorem d_Z_findProduct_60 : decode c_Z_findProductb 60 = .ok (.bipush 40, 2) := by decide +kernel
theorem d_Z_findProduct_62 : decode c_Z_findProductb 62 = .ok (.iload_n 1, 1) := by decide +kernel
theorem d_Z_findProduct_63 : decode c_Z_findProductb 63 = .ok (.imul, 1) := by decide +kernel
theorem d_Z_findProduct_64 : decode c_Z_findProductb 64 = .ok (.iload_n 2, 1) := by decide +kernel
theorem d_Z_findProduct_65 : decode c_Z_findProductb 65 = .ok (.iadd, 1) := by decide +kernel
theorem d_Z_findProduct_66 : decode c_Z_findProductb 66 = .ok (.iconst 1, 1) := by decide +kernel
theorem d_Z_findProduct_67 : decode c_Z_findProductb 67 = .ok (.bastore, 1) := by decide +kernel
theorem d_Z_findProduct_68 : decode c_Z_findProductb 68 = .ok (.aload_n 0, 1) := by decide +kernel
theorem d_Z_findProduct_69 : decode c_Z_findProductb 69 = .ok (.iload_n 3, 1) := by decide +kernel
theorem d_Z_findProduct_70 : decode c_Z_findProductb 70 = .ok (.invokevirtual 162, 3) := by decide +kernel
theorem d_Z_findProduct_73 : decode c_Z_findProductb 73 = .ok (.ifCond .lt 18, 3) := by decide +kernel
theorem d_Z_findProduct_76 : decode c_Z_findProductb 76 = .ok (.aload_n 0, 1) := by decide +kernel
theorem d_Z_findProduct_77 : decode c_Z_findProductb 77 = .ok (.getfield 69, 3) := by decide +kernel
theorem d_Z_findProduct_80 : decode c_Z_findProductb 80 = .ok (.iload 4, 2) := by decide +kernel
theorem d_Z_findProduct_82 : decode c_Z_findProductb 82 = .ok (.aload_n 0, 1) := by decide +kernel
theorem d_Z_findProduct_83 : decode c_Z_findProductb 83 = .ok (.iload_n 3, 1) := by decide +kernel
theorem d_Z_findProduct_84 : decode c_Z_findProductb 84 = .ok (.invokevirtual 162, 3) := by decide +kernel
theorem d_Z_findProduct_87 : decode c_Z_findProductb 87 = .ok (.iadd, 1) := by decide +kernel
theorem d_Z_findProduct_88 : decode c_Z_findProductb 88 = .ok (.iconst 1, 1) := by decide +kernel
theorem d_Z_findProduct_89 : decode c_Z_findProductb 89 = .ok (.iastore, 1) := by decide +kernel
theorem d_Z_findProduct_90 : decode c_Z_findProductb 90 = .ok (.return_, 1) := by decide +kernel
theorem d_Z_findProduct_91 : decode c_Z_findProductb 91 = .ok (.iconst 0, 1) := by decide +kernel
theorem d_Z_findProduct_92 : decode c_Z_findProductb 92 = .ok (.istore 5, 2) := by decide +kernel
theorem d_Z_findProduct_94 : decode c_Z_findProductb 94 = .ok (.iload 5, 2) := by decide +kernel
theorem d_Z_findProduct_96 : decode c_Z_findProductb 96 = .ok (.aload_n 0, 1) := by decide +kernel
theorem d_Z_findProduct_97 : decode c_Z_findProductb 97 = .ok (.getfield 57, 3) := by decide +kernel
theorem d_Z_findProduct_100 : decode c_Z_findProductb 100 = .ok (.if_icmp .ge 98, 3) := by decide +kernel
theorem d_Z_findProduct_103 : decode c_Z_findProductb 103 = .ok (.aload_n 0, 1) := by decide +kernel
theorem d_Z_findProduct_104 : decode c_Z_findProductb 104 = .ok (.getfield 25, 3) := by decide +kernel
theorem d_Z_findProduct_107 : decode c_Z_findProductb 107 = .ok (.aload_n 0, 1) := by decide +kernel
theorem d_Z_findProduct_108 : decode c_Z_findProductb 108 = .ok (.getfield 54, 3) := by decide +kernel
theorem d_Z_findProduct_111 : decode c_Z_findProductb 111 = .ok (.iload 5, 2) := by decide +kernel
theorem d_Z_findProduct_113 : decode c_Z_findProductb 113 = .ok (.iaload, 1) := by decide +kernel
theorem d_Z_findProduct_114 : decode c_Z_findProductb 114 = .ok (.iaload, 1) := by decide +kernel
theorem d_Z_findProduct_115 : decode c_Z_findProductb 115 = .ok (.iload_n 3, 1) := by decide +kernel
theorem d_Z_findProduct_116 : decode c_Z_findProductb 116 = .ok (.if_icmp .ne 76, 3) := by decide +kernel
theorem d_Z_findProduct_119 : decode c_Z_findProductb 119 = .ok (.iconst 0, 1) := by decide +kernel
theorem d_Z_findProduct_120 : decode c_Z_findProductb 120 = .ok (.istore 6, 2) := by decide +kernel
theorem d_Z_findProduct_122 : decode c_Z_findProductb 122 = .ok (.iload 6, 2) := by decide +kernel
theorem d_Z_findProduct_124 : decode c_Z_findProductb 124 = .ok (.aload_n 0, 1) := by decide +kernel
theorem d_Z_findProduct_125 : decode c_Z_findProductb 125 = .ok (.getfield 54, 3) := by decide +kernel
theorem d_Z_findProduct_128 : decode c_Z_findProductb 128 = .ok (.iload 5, 2) := by decide +kernel
theorem d_Z_findProduct_130 : decode c_Z_findProductb 130 = .ok (.iaload, 1) := by decide +kernel
theorem d_Z_findProduct_131 : decode c_Z_findProductb 131 = .ok (.if_icmp .ge 60, 3) := by decide +kernel
theorem d_Z_findProduct_134 : decode c_Z_findProductb 134 = .ok (.aload_n 0, 1) := by decide +kernel
theorem d_Z_findProduct_135 : decode c_Z_findProductb 135 = .ok (.getfield 48, 3) := by decide +kernel
theorem d_Z_findProduct_138 : decode c_Z_findProductb 138 = .ok (.bipush 126, 2) := by decide +kernel
theorem d_Z_findProduct_140 : decode c_Z_findProductb 140 = .ok (.aload_n 0, 1) := by decide +kernel
theorem d_Z_findProduct_141 : decode c_Z_findProductb 141 = .ok (.getfield 54, 3) := by decide +kernel
theorem d_Z_findProduct_144 : decode c_Z_findProductb 144 = .ok (.iload 5, 2) := by decide +kernel
theorem d_Z_findProduct_146 : decode c_Z_findProductb 146 = .ok (.iaload, 1) := by decide +kernel
theorem d_Z_findProduct_147 : decode c_Z_findProductb 147 = .ok (.imul, 1) := by decide +kernel
theorem d_Z_findProduct_148 : decode c_Z_findProductb 148 = .ok (.iload 6, 2) := by decide +kernel
theorem d_Z_findProduct_150 : decode c_Z_findProductb 150 = .ok (.iadd, 1) := by decide +kernel
theorem d_Z_findProduct_151 : decode c_Z_findProductb 151 = .ok (.iaload, 1) := by decide +kernel
theorem d_Z_findProduct_152 : decode c_Z_findProductb 152 = .ok (.istore 7, 2) := by decide +kernel
theorem d_Z_findProduct_154 : decode c_Z_findProductb 154 = .ok (.iload 7, 2) := by decide +kernel
theorem d_Z_findProduct_156 : decode c_Z_findProductb 156 = .ok (.ifCond .eq 29, 3) := by decide +kernel
theorem d_Z_findProduct_159 : decode c_Z_findProductb 159 = .ok (.aload_n 0, 1) := by decide +kernel
theorem d_Z_findProduct_160 : decode c_Z_findProductb 160 = .ok (.getfield 69, 3) := by decide +kernel
theorem d_Z_findProduct_163 : decode c_Z_findProductb 163 = .ok (.iload 4, 2) := by decide +kernel
theorem d_Z_findProduct_165 : decode c_Z_findProductb 165 = .ok (.aload_n 0, 1) := by decide +kernel
theorem d_Z_findProduct_166 : decode c_Z_findProductb 166 = .ok (.aload_n 0, 1) := by decide +kernel
theorem d_Z_findProduct_167 : decode c_Z_findProductb 167 = .ok (.getfield 25, 3) := by decide +kernel
theorem d_Z_findProduct_170 : decode c_Z_findProductb 170 = .ok (.iload 6, 2) := by decide +kernel
theorem d_Z_findProduct_172 : decode c_Z_findProductb 172 = .ok (.iaload, 1) := by decide +kernel
theorem d_Z_findProduct_173 : decode c_Z_findProductb 173 = .ok (.invokevirtual 162, 3) := by decide +kernel
theorem d_Z_findProduct_176 : decode c_Z_findProductb 176 = .ok (.iadd, 1) := by decide +kernel
theorem d_Z_findProduct_177 : decode c_Z_findProductb 177 = .ok (.aload_n 0, 1) := by decide +kernel
theorem d_Z_findProduct_178 : decode c_Z_findProductb 178 = .ok (.getfield 13, 3) := by decide +kernel
theorem d_Z_findProduct_181 : decode c_Z_findProductb 181 = .ok (.iload 7, 2) := by decide +kernel
theorem d_Z_findProduct_183 : decode c_Z_findProductb 183 = .ok (.isub, 1) := by decide +kernel
theorem d_Z_findProduct_184 : decode c_Z_findProductb 184 = .ok (.iastore, 1) := by decide +kernel
theorem d_Z_findProduct_185 : decode c_Z_findProductb 185 = .ok (.iinc 6 1, 3) := by decide +kernel
theorem d_Z_findProduct_188 : decode c_Z_findProductb 188 = .ok (.goto (-66), 3) := by decide +kernel
theorem d_Z_findProduct_191 : decode c_Z_findProductb 191 = .ok (.return_, 1) := by decide +kernel
theorem d_Z_findProduct_192 : decode c_Z_findProductb 192 = .ok (.iinc 5 1, 3) := by decide +kernel
theorem d_Z_findProduct_195 : decode c_Z_findProductb 195 = .ok (.goto (-101), 3) := by decide +kernel
theorem d_Z_findProduct_198 : decode c_Z_findProductb 198 = .ok (.iconst 0, 1) := by decide +kernel
theorem d_Z_findProduct_199 : decode c_Z_findProductb 199 = .ok (.istore 5, 2) := by decide +kernel
theorem d_Z_findProduct_201 : decode c_Z_findProductb 201 = .ok (.aload_n 0, 1) := by decide +kernel
theorem d_Z_findProduct_202 : decode c_Z_findProductb 202 = .ok (.getfield 66, 3) := by decide +kernel
theorem d_Z_findProduct_205 : decode c_Z_findProductb 205 = .ok (.iload_n 2, 1) := by decide +kernel
theorem d_Z_findProduct_206 : decode c_Z_findProductb 206 = .ok (.iaload, 1) := by decide +kernel
theorem d_Z_findProduct_207 : decode c_Z_findProductb 207 = .ok (.iload 5, 2) := by decide +kernel
theorem d_Z_findProduct_209 : decode c_Z_findProductb 209 = .ok (.invokestatic 106, 3) := by decide +kernel
theorem d_Z_findProduct_212 : decode c_Z_findProductb 212 = .ok (.ifCond .eq 22, 3) := by decide +kernel
theorem d_Z_findProduct_215 : decode c_Z_findProductb 215 = .ok (.aload_n 0, 1) := by decide +kernel
theorem d_Z_findProduct_216 : decode c_Z_findProductb 216 = .ok (.iload_n 3, 1) := by decide +kernel
theorem d_Z_findProduct_217 : decode c_Z_findProductb 217 = .ok (.iconst 1, 1) := by decide +kernel
theorem d_Z_findProduct_218 : decode c_Z_findProductb 218 = .ok (.bipush 24, 2) := by decide +kernel
theorem d_Z_findProduct_220 : decode c_Z_findProductb 220 = .ok (.bipush 8, 2) := by decide +kernel
theorem d_Z_findProduct_222 : decode c_Z_findProductb 222 = .ok (.iload 5, 2) := by decide +kernel
theorem d_Z_findProduct_224 : decode c_Z_findProductb 224 = .ok (.imul, 1) := by decide +kernel
theorem d_Z_findProduct_225 : decode c_Z_findProductb 225 = .ok (.isub, 1) := by decide +kernel
theorem d_Z_findProduct_226 : decode c_Z_findProductb 226 = .ok (.ishl, 1) := by decide +kernel
theorem d_Z_findProduct_227 : decode c_Z_findProductb 227 = .ok (.isub, 1) := by decide +kernel
theorem d_Z_findProduct_228 : decode c_Z_findProductb 228 = .ok (.invokevirtual 159, 3) := by decide +kernel
theorem d_Z_findProduct_231 : decode c_Z_findProductb 231 = .ok (.ifCond .ne 9, 3) := by decide +kernel
theorem d_Z_findProduct_234 : decode c_Z_findProductb 234 = .ok (.iinc 5 1, 3) := by decide +kernel
theorem d_Z_findProduct_237 : decode c_Z_findProductb 237 = .ok (.goto (-36), 3) := by decide +kernel
theorem d_Z_findProduct_240 : decode c_Z_findProductb 240 = .ok (.aload_n 0, 1) := by decide +kernel
theorem d_Z_findProduct_241 : decode c_Z_findProductb 241 = .ok (.aload_n 0, 1) := by decide +kernel
theorem d_Z_findProduct_242 : decode c_Z_findProductb 242 = .ok (.getfield 66, 3) := by decide +kernel
theorem d_Z_findProduct_245 : decode c_Z_findProductb 245 = .ok (.iload_n 2, 1) := by decide +kernel
theorem d_Z_findProduct_246 : decode c_Z_findProductb 246 = .ok (.iaload, 1) := by decide +kernel
theorem d_Z_findProduct_247 : decode c_Z_findProductb 247 = .ok (.iconst 1, 1) := by decide +kernel
theorem d_Z_findProduct_248 : decode c_Z_findProductb 248 = .ok (.bipush 24, 2) := by decide +kernel
theorem d_Z_findProduct_250 : decode c_Z_findProductb 250 = .ok (.bipush 8, 2) := by decide +kernel
theorem d_Z_findProduct_252 : decode c_Z_findProductb 252 = .ok (.iload 5, 2) := by decide +kernel
theorem d_Z_findProduct_254 : decode c_Z_findProductb 254 = .ok (.imul, 1) := by decide +kernel
theorem d_Z_findProduct_255 : decode c_Z_findProductb 255 = .ok (.isub, 1) := by decide +kernel
theorem d_Z_findProduct_256 : decode c_Z_findProductb 256 = .ok (.ishl, 1) := by decide +kernel
theorem d_Z_findProduct_257 : decode c_Z_findProductb 257 = .ok (.isub, 1) := by decide +kernel
theorem d_Z_findProduct_258 : decode c_Z_findProductb 258 = .ok (.invokevirtual 162, 3) := by decide +kernel
theorem d_Z_findProduct_261 : decode c_Z_findProductb 261 = .ok (.istore 6, 2) := by decide +kernel
theorem d_Z_findProduct_263 : decode c_Z_findProductb 263 = .ok (.iconst 0, 1) := by decide +kernel
theorem d_Z_findProduct_264 : decode c_Z_findProductb 264 = .ok (.istore 7, 2) := by decide +kernel
theorem d_Z_findProduct_266 : decode c_Z_findProductb 266 = .ok (.iload 7, 2) := by decide +kernel
theorem d_Z_findProduct_268 : decode c_Z_findProductb 268 = .ok (.aload_n 0, 1) := by decide +kernel
theorem d_Z_findProduct_269 : decode c_Z_findProductb 269 = .ok (.getfield 60, 3) := by decide +kernel
theorem d_Z_findProduct_272 : decode c_Z_findProductb 272 = .ok (.if_icmp .ge 109, 3) := by decide +kernel
theorem d_Z_findProduct_275 : decode c_Z_findProductb 275 = .ok (.aload_n 0, 1) := by decide +kernel
theorem d_Z_findProduct_276 : decode c_Z_findProductb 276 = .ok (.getfield 69, 3) := by decide +kernel
theorem d_Z_findProduct_279 : decode c_Z_findProductb 279 = .ok (.sipush 1600, 3) := by decide +kernel
theorem d_Z_findProduct_282 : decode c_Z_findProductb 282 = .ok (.iload_n 1, 1) := by decide +kernel
theorem d_Z_findProduct_283 : decode c_Z_findProductb 283 = .ok (.imul, 1) := by decide +kernel
theorem d_Z_findProduct_284 : decode c_Z_findProductb 284 = .ok (.bipush 40, 2) := by decide +kernel
theorem d_Z_findProduct_286 : decode c_Z_findProductb 286 = .ok (.iload 6, 2) := by decide +kernel
theorem d_Z_findProduct_288 : decode c_Z_findProductb 288 = .ok (.imul, 1) := by decide +kernel
theorem d_Z_findProduct_289 : decode c_Z_findProductb 289 = .ok (.iadd, 1) := by decide +kernel
theorem d_Z_findProduct_290 : decode c_Z_findProductb 290 = .ok (.iload 7, 2) := by decide +kernel
theorem d_Z_findProduct_292 : decode c_Z_findProductb 292 = .ok (.iadd, 1) := by decide +kernel
theorem d_Z_findProduct_293 : decode c_Z_findProductb 293 = .ok (.iaload, 1) := by decide +kernel
theorem d_Z_findProduct_294 : decode c_Z_findProductb 294 = .ok (.i2l, 1) := by decide +kernel
theorem d_Z_findProduct_295 : decode c_Z_findProductb 295 = .ok (.lstore 8, 2) := by decide +kernel
theorem d_Z_findProduct_297 : decode c_Z_findProductb 297 = .ok (.iconst 0, 1) := by decide +kernel
theorem d_Z_findProduct_298 : decode c_Z_findProductb 298 = .ok (.istore 10, 2) := by decide +kernel
theorem d_Z_findProduct_300 : decode c_Z_findProductb 300 = .ok (.iload 10, 2) := by decide +kernel
theorem d_Z_findProduct_302 : decode c_Z_findProductb 302 = .ok (.aload_n 0, 1) := by decide +kernel
theorem d_Z_findProduct_303 : decode c_Z_findProductb 303 = .ok (.getfield 60, 3) := by decide +kernel
theorem d_Z_findProduct_306 : decode c_Z_findProductb 306 = .ok (.if_icmp .ge 69, 3) := by decide +kernel
theorem d_Z_findProduct_309 : decode c_Z_findProductb 309 = .ok (.lload 8, 2) := by decide +kernel
theorem d_Z_findProduct_311 : decode c_Z_findProductb 311 = .ok (.lconst 0, 1) := by decide +kernel
theorem d_Z_findProduct_312 : decode c_Z_findProductb 312 = .ok (.lcmp, 1) := by decide +kernel
theorem d_Z_findProduct_313 : decode c_Z_findProductb 313 = .ok (.ifCond .le 62, 3) := by decide +kernel
theorem d_Z_findProduct_316 : decode c_Z_findProductb 316 = .ok (.aload_n 0, 1) := by decide +kernel
theorem d_Z_findProduct_317 : decode c_Z_findProductb 317 = .ok (.getfield 69, 3) := by decide +kernel
theorem d_Z_findProduct_320 : decode c_Z_findProductb 320 = .ok (.iload 4, 2) := by decide +kernel
theorem d_Z_findProduct_322 : decode c_Z_findProductb 322 = .ok (.iload 10, 2) := by decide +kernel
theorem d_Z_findProduct_324 : decode c_Z_findProductb 324 = .ok (.iadd, 1) := by decide +kernel
theorem d_Z_findProduct_325 : decode c_Z_findProductb 325 = .ok (.aload_n 0, 1) := by decide +kernel
theorem d_Z_findProduct_326 : decode c_Z_findProductb 326 = .ok (.getfield 69, 3) := by decide +kernel
theorem d_Z_findProduct_329 : decode c_Z_findProductb 329 = .ok (.iload 4, 2) := by decide +kernel
theorem d_Z_findProduct_331 : decode c_Z_findProductb 331 = .ok (.iload 10, 2) := by decide +kernel
theorem d_Z_findProduct_333 : decode c_Z_findProductb 333 = .ok (.iadd, 1) := by decide +kernel
theorem d_Z_findProduct_334 : decode c_Z_findProductb 334 = .ok (.iaload, 1) := by decide +kernel
theorem d_Z_findProduct_335 : decode c_Z_findProductb 335 = .ok (.i2l, 1) := by decide +kernel
theorem d_Z_findProduct_336 : decode c_Z_findProductb 336 = .ok (.lload 8, 2) := by decide +kernel
theorem d_Z_findProduct_338 : decode c_Z_findProductb 338 = .ok (.aload_n 0, 1) := by decide +kernel
theorem d_Z_findProduct_339 : decode c_Z_findProductb 339 = .ok (.getfield 69, 3) := by decide +kernel
theorem d_Z_findProduct_342 : decode c_Z_findProductb 342 = .ok (.sipush 1600, 3) := by decide +kernel
theorem d_Z_findProduct_345 : decode c_Z_findProductb 345 = .ok (.iload 5, 2) := by decide +kernel
theorem d_Z_findProduct_347 : decode c_Z_findProductb 347 = .ok (.imul, 1) := by decide +kernel
theorem d_Z_findProduct_348 : decode c_Z_findProductb 348 = .ok (.bipush 40, 2) := by decide +kernel
theorem d_Z_findProduct_350 : decode c_Z_findProductb 350 = .ok (.iload 7, 2) := by decide +kernel
theorem d_Z_findProduct_352 : decode c_Z_findProductb 352 = .ok (.imul, 1) := by decide +kernel
theorem d_Z_findProduct_353 : decode c_Z_findProductb 353 = .ok (.iadd, 1) := by decide +kernel
theorem d_Z_findProduct_354 : decode c_Z_findProductb 354 = .ok (.iload 10, 2) := by decide +kernel
theorem d_Z_findProduct_356 : decode c_Z_findProductb 356 = .ok (.iadd, 1) := by decide +kernel
theorem d_Z_findProduct_357 : decode c_Z_findProductb 357 = .ok (.iaload, 1) := by decide +kernel
theorem d_Z_findProduct_358 : decode c_Z_findProductb 358 = .ok (.i2l, 1) := by decide +kernel
theorem d_Z_findProduct_359 : decode c_Z_findProductb 359 = .ok (.lmul, 1) := by decide +kernel
theorem d_Z_findProduct_360 : decode c_Z_findProductb 360 = .ok (.ladd, 1) := by decide +kernel
theorem d_Z_findProduct_361 : decode c_Z_findProductb 361 = .ok (.aload_n 0, 1) := by decide +kernel
theorem d_Z_findProduct_362 : decode c_Z_findProductb 362 = .ok (.getfield 13, 3) := by decide +kernel
theorem d_Z_findProduct_365 : decode c_Z_findProductb 365 = .ok (.i2l, 1) := by decide +kernel
theorem d_Z_findProduct_366 : decode c_Z_findProductb 366 = .ok (.lrem, 1) := by decide +kernel
theorem d_Z_findProduct_367 : decode c_Z_findProductb 367 = .ok (.l2i, 1) := by decide +kernel
theorem d_Z_findProduct_368 : decode c_Z_findProductb 368 = .ok (.iastore, 1) := by decide +kernel
theorem d_Z_findProduct_369 : decode c_Z_findProductb 369 = .ok (.iinc 10 1, 3) := by decide +kernel
theorem d_Z_findProduct_372 : decode c_Z_findProductb 372 = .ok (.goto (-72), 3) := by decide +kernel
theorem d_Z_findProduct_375 : decode c_Z_findProductb 375 = .ok (.iinc 7 1, 3) := by decide +kernel
theorem d_Z_findProduct_378 : decode c_Z_findProductb 378 = .ok (.goto (-112), 3) := by decide +kernel
theorem d_Z_findProduct_381 : decode c_Z_findProductb 381 = .ok (.return_, 1) := by decide +kernel
abbrev ws_zfindProduct (a_Z a_Z_mono a_Z_row a_Z_basis a_Z_rest a_Z_product a_Z_known a_Z_degree a_Z_generator a_Z_hand a_Z_has a_Z_work a_Z_lead a_Z_tail a_Z_word a_Z_vector a_Z_system a_Z_now a_Z_next : Nat) (cI cL cZ : ClassId) (Z_thrownCode Z_p Z_n Z_order Z_monomials Z_generators Z_upTo Z_members Z_lefts Z_vars Z_leadsFound Z_words : Int32) (Z_mono Z_row Z_basis Z_rest Z_product Z_known : Nat → Int32) : va_W := [(a_Z, .inr (5, [.int Z_thrownCode, .int Z_p, .int Z_n, .int Z_order, .int Z_monomials, .ref a_Z_mono, .ref a_Z_degree, .int Z_generators, .ref a_Z_generator, .ref a_Z_hand, .int Z_upTo, .ref a_Z_has, .ref a_Z_row, .ref a_Z_work, .ref a_Z_basis, .int Z_members, .int Z_lefts, .int Z_vars, .ref a_Z_rest, .ref a_Z_product, .ref a_Z_known, .int Z_leadsFound, .ref a_Z_lead, .ref a_Z_tail, .int Z_words, .ref a_Z_word, .ref a_Z_vector, .ref a_Z_system, .ref a_Z_now, .ref a_Z_next])), (a_Z_mono, .inl (cI, 126, .inl Z_mono)), (a_Z_row, .inl (cI, 15876, .inl Z_row)), (a_Z_basis, .inl (cI, 126, .inl Z_basis)), (a_Z_rest, .inl (cI, 41, .inl Z_rest)), (a_Z_product, .inl (cI, 6400, .inl Z_product)), (a_Z_known, .inl (cZ, 160, .inl Z_known))]
abbrev rm_zfindProduct : Room := { frames := 3, cells := 0, slots := 0, locals := 65 }
abbrev g_zfindProduct (X : gX) (D : va_G) (cI cL cZ : ClassId) (a_Z a_Z_mono a_Z_row a_Z_basis a_Z_rest a_Z_product a_Z_known a_Z_degree a_Z_generator a_Z_hand a_Z_has a_Z_work a_Z_lead a_Z_tail a_Z_word a_Z_vector a_Z_system a_Z_now a_Z_next : Nat) (A : Nat → Prop) (Z_thrownCode Z_p Z_n Z_order Z_monomials Z_generators Z_upTo Z_members Z_lefts Z_vars Z_leadsFound Z_words : Int32) (Z_mono Z_row Z_basis Z_rest Z_product_r Z_known_r : Nat → Int32) (pc : Nat) (lv : List (Nat × Value)) (st : List Value) (Z_product Z_known : Nat → Int32) : Prop := ∀ (H : Heap) (locs : List Loc) (ls : Array Slot), va_P D classes (ws_zfindProduct a_Z a_Z_mono a_Z_row a_Z_basis a_Z_rest a_Z_product a_Z_known a_Z_degree a_Z_generator a_Z_hand a_Z_has a_Z_work a_Z_lead a_Z_tail a_Z_word a_Z_vector a_Z_system a_Z_now a_Z_next cI cL cZ Z_thrownCode Z_p Z_n Z_order Z_monomials Z_generators Z_upTo Z_members Z_lefts Z_vars Z_leadsFound Z_words Z_mono Z_row Z_basis Z_rest Z_product Z_known) H → va_D A (ws_zfindProduct a_Z a_Z_mono a_Z_row a_Z_basis a_Z_rest a_Z_product a_Z_known a_Z_degree a_Z_generator a_Z_hand a_Z_has a_Z_work a_Z_lead a_Z_tail a_Z_word a_Z_vector a_Z_system a_Z_now a_Z_next cI cL cZ Z_thrownCode Z_p Z_n Z_order Z_monomials Z_generators Z_upTo Z_members Z_lefts Z_vars Z_leadsFound Z_words Z_mono Z_row Z_basis Z_rest Z_product Z_known) → va_S A (gs X).heap H locs → lv_has ls 11 lv → gWW X rm_zfindProduct H locs 0 0 (MQ (gbl X) (va_Qv (fun _ : Unit => True) (gB D (gT cI cL cZ) A (ws_zfindProduct a_Z a_Z_mono a_Z_row a_Z_basis a_Z_rest a_Z_product a_Z_known a_Z_degree a_Z_generator a_Z_hand a_Z_has a_Z_work a_Z_lead a_Z_tail a_Z_word a_Z_vector a_Z_system a_Z_now a_Z_next cI cL cZ Z_thrownCode Z_p Z_n Z_order Z_monomials Z_generators Z_upTo Z_members Z_lefts Z_vars Z_leadsFound Z_words Z_mono Z_row Z_basis Z_rest Z_product_r Z_known_r)) A) (ga X) (gs X) 0 0 A) (F0 (gm X) pc ls st)
set_option maxHeartbeats 4000000 in
set_option maxRecDepth 100000 in
theorem w_zfindProduct_300 (X : gX) (D : va_G) (cI cL cZ : ClassId) (a_Z a_Z_mono a_Z_row a_Z_basis a_Z_rest a_Z_product a_Z_known a_Z_degree a_Z_generator a_Z_hand a_Z_has a_Z_work a_Z_lead a_Z_tail a_Z_word a_Z_vector a_Z_system a_Z_now a_Z_next : Nat) (A : Nat → Prop) (Z_thrownCode Z_p Z_n Z_order Z_monomials Z_generators Z_upTo Z_members Z_lefts Z_vars Z_leadsFound Z_words : Int32) (Z_mono Z_row Z_basis Z_rest Z_product_r Z_known_r : Nat → Int32) (F : Nat) (C0 : gC X c_Z_findProductb none 11 "RemnantDictionaryModel" gAll) (hK : va_K D classes (gT cI cL cZ) (gs X)) (hA : ∀ q : Nat, (gs X).heap.size ≤ q → A q) (hN : gN (gs X)) (k266 : Int32 → Int32 → Int32 → Int32 → Int32 → (Nat → Int32) → (Nat → Int32) → Option ((Nat → Int32) × (Nat → Int32))) (hk266 : ∀ (i1 i4 i5 i6 i7 : Int32) (Z_product Z_known : Nat → Int32), k266 i1 i4 i5 i6 i7 Z_product Z_known = some (Z_product_r, Z_known_r) → g_zfindProduct X D cI cL cZ a_Z a_Z_mono a_Z_row a_Z_basis a_Z_rest a_Z_product a_Z_known a_Z_degree a_Z_generator a_Z_hand a_Z_has a_Z_work a_Z_lead a_Z_tail a_Z_word a_Z_vector a_Z_system a_Z_now a_Z_next A Z_thrownCode Z_p Z_n Z_order Z_monomials Z_generators Z_upTo Z_members Z_lefts Z_vars Z_leadsFound Z_words Z_mono Z_row Z_basis Z_rest Z_product_r Z_known_r 266 [(0, .ref a_Z), (1, .int i1), (4, .int i4), (5, .int i5), (6, .int i6), (7, .int i7)] [] Z_product Z_known) (k300 : Int32 → Int32 → Int32 → Int32 → Int32 → Int64 → Int32 → (Nat → Int32) → (Nat → Int32) → Option ((Nat → Int32) × (Nat → Int32))) (hk300 : ∀ (i1 i4 i5 i6 i7 : Int32) (l8 : Int64) (i10 : Int32) (Z_product Z_known : Nat → Int32), k300 i1 i4 i5 i6 i7 l8 i10 Z_product Z_known = some (Z_product_r, Z_known_r) → g_zfindProduct X D cI cL cZ a_Z a_Z_mono a_Z_row a_Z_basis a_Z_rest a_Z_product a_Z_known a_Z_degree a_Z_generator a_Z_hand a_Z_has a_Z_work a_Z_lead a_Z_tail a_Z_word a_Z_vector a_Z_system a_Z_now a_Z_next A Z_thrownCode Z_p Z_n Z_order Z_monomials Z_generators Z_upTo Z_members Z_lefts Z_vars Z_leadsFound Z_words Z_mono Z_row Z_basis Z_rest Z_product_r Z_known_r 300 [(0, .ref a_Z), (1, .int i1), (4, .int i4), (5, .int i5), (6, .int i6), (7, .int i7), (8, .long l8), (10, .int i10)] [] Z_product Z_known) (i1 i4 i5 i6 i7 : Int32) (l8 : Int64) (i10 : Int32) (Z_product Z_known : Nat → Int32) (hrun : s_zfindProduct_300 F Z_lefts Z_members Z_p Z_mono Z_row Z_basis Z_rest k266 k300 i1 i4 i5 i6 i7 l8 i10 Z_product Z_known = some (Z_product_r, Z_known_r)) : g_zfindProduct X D cI cL cZ a_Z a_Z_mono a_Z_row a_Z_basis a_Z_rest a_Z_product a_Z_known a_Z_degree a_Z_generator a_Z_hand a_Z_has a_Z_work a_Z_lead a_Z_tail a_Z_word a_Z_vector a_Z_system a_Z_now a_Z_next A Z_thrownCode Z_p Z_n Z_order Z_monomials Z_generators Z_upTo Z_members Z_lefts Z_vars Z_leadsFound Z_words Z_mono Z_row Z_basis Z_rest Z_product_r Z_known_r 300 [(0, .ref a_Z), (1, .int i1), (4, .int i4), (5, .int i5), (6, .int i6), (7, .int i7), (8, .long l8), (10, .int i10)] [] Z_product Z_known := by
  have C1 := C0
  obtain ⟨hx, hb, hr, hml, hown, hts, hlocks⟩ := C1
  unfold s_zfindProduct_300 at hrun
  intro H locs ls hP hD hS hl
  refine lv_iload hx hb d_Z_findProduct_300 (lv_at hl 7 rfl) ?_
  refine lv_aload_n hx hb d_Z_findProduct_302 rfl (lv_at hl 0 rfl) ?_
  refine va_get (D := D) (ci := 5) (v := .int Z_lefts) (C := "RemnantDictionaryModel") (T := T_Z) (N := 30) hx hb hts iw_Z hown hK hP 0 rfl rfl 16 (by decide) (hts _ k_445) (fun _ h9 => h9) rfl d_Z_findProduct_303 ?_
  refine g_icmp_ge (tgt := 375) hx hb d_Z_findProduct_306 (by decide) hrun (fun _ hrun => ?_) (fun _ hrun => ?_)
  · refine lv_iinc (v := (i7 + 1)) (lv' := [(7, .int (i7 + 1)), (0, .ref a_Z), (1, .int i1), (4, .int i4), (5, .int i5), (6, .int i6), (8, .long l8), (10, .int i10)]) hx hb d_Z_findProduct_375 hl (k := 5) rfl rfl (by decide) rfl (fun ls hl => ?_)
    refine lv_goto (tgt := 266) hx hb d_Z_findProduct_378 (by decide) ?_
    exact hk266 i1 i4 i5 i6 (i7 + 1) Z_product Z_known hrun H locs ls hP hD hS (lv_sub hl [1, 2, 3, 4, 5, 0] rfl)
  · refine lv_lload hx hb d_Z_findProduct_309 (lv_at hl 6 rfl) ?_
    refine lv_lconst (v := 0) hx hb d_Z_findProduct_311 (by decide) ?_
    refine W.lcmp hx hb d_Z_findProduct_312 ?_
    refine g_if_le (tgt := 375) hx hb d_Z_findProduct_313 (by decide) hrun (fun _ hrun => ?_) (fun _ hrun => ?_)
    · refine lv_iinc (v := (i7 + 1)) (lv' := [(7, .int (i7 + 1)), (0, .ref a_Z), (1, .int i1), (4, .int i4), (5, .int i5), (6, .int i6), (8, .long l8), (10, .int i10)]) hx hb d_Z_findProduct_375 hl (k := 5) rfl rfl (by decide) rfl (fun ls hl => ?_)
      refine lv_goto (tgt := 266) hx hb d_Z_findProduct_378 (by decide) ?_
      exact hk266 i1 i4 i5 i6 (i7 + 1) Z_product Z_known hrun H locs ls hP hD hS (lv_sub hl [1, 2, 3, 4, 5, 0] rfl)
    · refine lv_aload_n hx hb d_Z_findProduct_316 rfl (lv_at hl 0 rfl) ?_
      refine va_get (D := D) (ci := 5) (v := .ref a_Z_product) (C := "RemnantDictionaryModel") (T := T_Z) (N := 30) hx hb hts iw_Z hown hK hP 0 rfl rfl 19 (by decide) (hts _ k_452) (fun _ h9 => h9) rfl d_Z_findProduct_317 ?_
      refine lv_iload hx hb d_Z_findProduct_320 (lv_at hl 2 rfl) ?_
      refine lv_iload hx hb d_Z_findProduct_322 (lv_at hl 7 rfl) ?_
      refine lv_iadd hx hb d_Z_findProduct_324 ?_
      refine lv_aload_n hx hb d_Z_findProduct_325 rfl (lv_at hl 0 rfl) ?_
      refine va_get (D := D) (ci := 5) (v := .ref a_Z_product) (C := "RemnantDictionaryModel") (T := T_Z) (N := 30) hx hb hts iw_Z hown hK hP 0 rfl rfl 19 (by decide) (hts _ k_452) (fun _ h9 => h9) rfl d_Z_findProduct_326 ?_
      refine lv_iload hx hb d_Z_findProduct_329 (lv_at hl 2 rfl) ?_
      refine lv_iload hx hb d_Z_findProduct_331 (lv_at hl 7 rfl) ?_
      refine lv_iadd hx hb d_Z_findProduct_333 ?_
      refine g_iald hx hb hK hP 5 0 rfl rfl hrun d_Z_findProduct_334 (fun x_1 hrun => ?_)
      refine lv_i2l hx hb d_Z_findProduct_335 rfl ?_
      refine lv_lload hx hb d_Z_findProduct_336 (lv_at hl 6 rfl) ?_
      refine lv_aload_n hx hb d_Z_findProduct_338 rfl (lv_at hl 0 rfl) ?_
      refine va_get (D := D) (ci := 5) (v := .ref a_Z_product) (C := "RemnantDictionaryModel") (T := T_Z) (N := 30) hx hb hts iw_Z hown hK hP 0 rfl rfl 19 (by decide) (hts _ k_452) (fun _ h9 => h9) rfl d_Z_findProduct_339 ?_
      refine lv_sipush (v := 1600) hx hb d_Z_findProduct_342 (by decide) ?_
      refine lv_iload hx hb d_Z_findProduct_345 (lv_at hl 3 rfl) ?_
      refine lv_imul hx hb d_Z_findProduct_347 ?_
      refine lv_bipush (v := 40) hx hb d_Z_findProduct_348 (by decide) ?_
      refine lv_iload hx hb d_Z_findProduct_350 (lv_at hl 5 rfl) ?_
      refine lv_imul hx hb d_Z_findProduct_352 ?_
      refine lv_iadd hx hb d_Z_findProduct_353 ?_
      refine lv_iload hx hb d_Z_findProduct_354 (lv_at hl 7 rfl) ?_
      refine lv_iadd hx hb d_Z_findProduct_356 ?_
      refine g_iald hx hb hK hP 5 0 rfl rfl hrun d_Z_findProduct_357 (fun x_2 hrun => ?_)
      refine lv_i2l hx hb d_Z_findProduct_358 rfl ?_
      refine lv_lmul hx hb d_Z_findProduct_359 ?_
      refine lv_ladd hx hb d_Z_findProduct_360 ?_
      refine lv_aload_n hx hb d_Z_findProduct_361 rfl (lv_at hl 0 rfl) ?_
      refine va_get (D := D) (ci := 5) (v := .int Z_p) (C := "RemnantDictionaryModel") (T := T_Z) (N := 30) hx hb hts iw_Z hown hK hP 0 rfl rfl 1 (by decide) (hts _ k_385) (fun _ h9 => h9) rfl d_Z_findProduct_362 ?_
      refine lv_i2l hx hb d_Z_findProduct_365 rfl ?_
      refine g_lrem hx hb d_Z_findProduct_366 hrun (fun hrun => ?_)
      refine lv_l2i hx hb d_Z_findProduct_367 rfl ?_
      refine g_iast hx hb hK hP hD hS 5 0 rfl rfl hrun d_Z_findProduct_368 (fun Z_product_3 hrun H locs (hP : va_P D classes (ws_zfindProduct a_Z a_Z_mono a_Z_row a_Z_basis a_Z_rest a_Z_product a_Z_known a_Z_degree a_Z_generator a_Z_hand a_Z_has a_Z_work a_Z_lead a_Z_tail a_Z_word a_Z_vector a_Z_system a_Z_now a_Z_next cI cL cZ Z_thrownCode Z_p Z_n Z_order Z_monomials Z_generators Z_upTo Z_members Z_lefts Z_vars Z_leadsFound Z_words Z_mono Z_row Z_basis Z_rest Z_product_3 Z_known) H) (hD : va_D A (ws_zfindProduct a_Z a_Z_mono a_Z_row a_Z_basis a_Z_rest a_Z_product a_Z_known a_Z_degree a_Z_generator a_Z_hand a_Z_has a_Z_work a_Z_lead a_Z_tail a_Z_word a_Z_vector a_Z_system a_Z_now a_Z_next cI cL cZ Z_thrownCode Z_p Z_n Z_order Z_monomials Z_generators Z_upTo Z_members Z_lefts Z_vars Z_leadsFound Z_words Z_mono Z_row Z_basis Z_rest Z_product_3 Z_known)) hS => ?_)
      refine lv_iinc (v := (i10 + 1)) (lv' := [(10, .int (i10 + 1)), (0, .ref a_Z), (1, .int i1), (4, .int i4), (5, .int i5), (6, .int i6), (7, .int i7), (8, .long l8)]) hx hb d_Z_findProduct_369 hl (k := 7) rfl rfl (by decide) rfl (fun ls hl => ?_)
      refine lv_goto (tgt := 300) hx hb d_Z_findProduct_372 (by decide) ?_
      exact hk300 i1 i4 i5 i6 i7 l8 (i10 + 1) Z_product_3 Z_known hrun H locs ls hP hD hS (lv_sub hl [1, 2, 3, 4, 5, 6, 7, 0] rfl)
theorem v_zfindProduct_300 (X : gX) (D : va_G) (cI cL cZ : ClassId) (a_Z a_Z_mono a_Z_row a_Z_basis a_Z_rest a_Z_product a_Z_known a_Z_degree a_Z_generator a_Z_hand a_Z_has a_Z_work a_Z_lead a_Z_tail a_Z_word a_Z_vector a_Z_system a_Z_now a_Z_next : Nat) (A : Nat → Prop) (Z_thrownCode Z_p Z_n Z_order Z_monomials Z_generators Z_upTo Z_members Z_lefts Z_vars Z_leadsFound Z_words : Int32) (Z_mono Z_row Z_basis Z_rest Z_product_r Z_known_r : Nat → Int32) (F : Nat) (C0 : gC X c_Z_findProductb none 11 "RemnantDictionaryModel" gAll) (hK : va_K D classes (gT cI cL cZ) (gs X)) (hA : ∀ q : Nat, (gs X).heap.size ≤ q → A q) (hN : gN (gs X)) (k266 : Int32 → Int32 → Int32 → Int32 → Int32 → (Nat → Int32) → (Nat → Int32) → Option ((Nat → Int32) × (Nat → Int32))) (hk266 : ∀ (i1 i4 i5 i6 i7 : Int32) (Z_product Z_known : Nat → Int32), k266 i1 i4 i5 i6 i7 Z_product Z_known = some (Z_product_r, Z_known_r) → g_zfindProduct X D cI cL cZ a_Z a_Z_mono a_Z_row a_Z_basis a_Z_rest a_Z_product a_Z_known a_Z_degree a_Z_generator a_Z_hand a_Z_has a_Z_work a_Z_lead a_Z_tail a_Z_word a_Z_vector a_Z_system a_Z_now a_Z_next A Z_thrownCode Z_p Z_n Z_order Z_monomials Z_generators Z_upTo Z_members Z_lefts Z_vars Z_leadsFound Z_words Z_mono Z_row Z_basis Z_rest Z_product_r Z_known_r 266 [(0, .ref a_Z), (1, .int i1), (4, .int i4), (5, .int i5), (6, .int i6), (7, .int i7)] [] Z_product Z_known) : ∀ (n : Nat) (i1 i4 i5 i6 i7 : Int32) (l8 : Int64) (i10 : Int32) (Z_product Z_known : Nat → Int32), b_zfindProduct_300 F Z_lefts Z_members Z_p Z_mono Z_row Z_basis Z_rest k266 n i1 i4 i5 i6 i7 l8 i10 Z_product Z_known = some (Z_product_r, Z_known_r) → g_zfindProduct X D cI cL cZ a_Z a_Z_mono a_Z_row a_Z_basis a_Z_rest a_Z_product a_Z_known a_Z_degree a_Z_generator a_Z_hand a_Z_has a_Z_work a_Z_lead a_Z_tail a_Z_word a_Z_vector a_Z_system a_Z_now a_Z_next A Z_thrownCode Z_p Z_n Z_order Z_monomials Z_generators Z_upTo Z_members Z_lefts Z_vars Z_leadsFound Z_words Z_mono Z_row Z_basis Z_rest Z_product_r Z_known_r 300 [(0, .ref a_Z), (1, .int i1), (4, .int i4), (5, .int i5), (6, .int i6), (7, .int i7), (8, .long l8), (10, .int i10)] [] Z_product Z_known := by
  intro n
  induction n with
  | zero => intro i1 i4 i5 i6 i7 l8 i10 Z_product Z_known hrun; cases hrun
  | succ n ih =>
    intro i1 i4 i5 i6 i7 l8 i10 Z_product Z_known hrun
    exact w_zfindProduct_300 X D cI cL cZ a_Z a_Z_mono a_Z_row a_Z_basis a_Z_rest a_Z_product a_Z_known a_Z_degree a_Z_generator a_Z_hand a_Z_has a_Z_work a_Z_lead a_Z_tail a_Z_word a_Z_vector a_Z_system a_Z_now a_Z_next A Z_thrownCode Z_p Z_n Z_order Z_monomials Z_generators Z_upTo Z_members Z_lefts Z_vars Z_leadsFound Z_words Z_mono Z_row Z_basis Z_rest Z_product_r Z_known_r F C0 hK hA hN k266 hk266 (b_zfindProduct_300 F Z_lefts Z_members Z_p Z_mono Z_row Z_basis Z_rest k266 n) ih i1 i4 i5 i6 i7 l8 i10 Z_product Z_known hrun
set_option maxHeartbeats 4000000 in
set_option maxRecDepth 100000 in
theorem w_zfindProduct_266 (X : gX) (D : va_G) (cI cL cZ : ClassId) (a_Z a_Z_mono a_Z_row a_Z_basis a_Z_rest a_Z_product a_Z_known a_Z_degree a_Z_generator a_Z_hand a_Z_has a_Z_work a_Z_lead a_Z_tail a_Z_word a_Z_vector a_Z_system a_Z_now a_Z_next : Nat) (A : Nat → Prop) (Z_thrownCode Z_p Z_n Z_order Z_monomials Z_generators Z_upTo Z_members Z_lefts Z_vars Z_leadsFound Z_words : Int32) (Z_mono Z_row Z_basis Z_rest Z_product_r Z_known_r : Nat → Int32) (F : Nat) (C0 : gC X c_Z_findProductb none 11 "RemnantDictionaryModel" gAll) (hK : va_K D classes (gT cI cL cZ) (gs X)) (hA : ∀ q : Nat, (gs X).heap.size ≤ q → A q) (hN : gN (gs X)) (k266 : Int32 → Int32 → Int32 → Int32 → Int32 → (Nat → Int32) → (Nat → Int32) → Option ((Nat → Int32) × (Nat → Int32))) (hk266 : ∀ (i1 i4 i5 i6 i7 : Int32) (Z_product Z_known : Nat → Int32), k266 i1 i4 i5 i6 i7 Z_product Z_known = some (Z_product_r, Z_known_r) → g_zfindProduct X D cI cL cZ a_Z a_Z_mono a_Z_row a_Z_basis a_Z_rest a_Z_product a_Z_known a_Z_degree a_Z_generator a_Z_hand a_Z_has a_Z_work a_Z_lead a_Z_tail a_Z_word a_Z_vector a_Z_system a_Z_now a_Z_next A Z_thrownCode Z_p Z_n Z_order Z_monomials Z_generators Z_upTo Z_members Z_lefts Z_vars Z_leadsFound Z_words Z_mono Z_row Z_basis Z_rest Z_product_r Z_known_r 266 [(0, .ref a_Z), (1, .int i1), (4, .int i4), (5, .int i5), (6, .int i6), (7, .int i7)] [] Z_product Z_known) (i1 i4 i5 i6 i7 : Int32) (Z_product Z_known : Nat → Int32) (hrun : s_zfindProduct_266 F Z_lefts Z_members Z_p Z_mono Z_row Z_basis Z_rest k266 i1 i4 i5 i6 i7 Z_product Z_known = some (Z_product_r, Z_known_r)) : g_zfindProduct X D cI cL cZ a_Z a_Z_mono a_Z_row a_Z_basis a_Z_rest a_Z_product a_Z_known a_Z_degree a_Z_generator a_Z_hand a_Z_has a_Z_work a_Z_lead a_Z_tail a_Z_word a_Z_vector a_Z_system a_Z_now a_Z_next A Z_thrownCode Z_p Z_n Z_order Z_monomials Z_generators Z_upTo Z_members Z_lefts Z_vars Z_leadsFound Z_words Z_mono Z_row Z_basis Z_rest Z_product_r Z_known_r 266 [(0, .ref a_Z), (1, .int i1), (4, .int i4), (5, .int i5), (6, .int i6), (7, .int i7)] [] Z_product Z_known := by
  have C1 := C0
  obtain ⟨hx, hb, hr, hml, hown, hts, hlocks⟩ := C1
  unfold s_zfindProduct_266 at hrun
  intro H locs ls hP hD hS hl
  refine lv_iload hx hb d_Z_findProduct_266 (lv_at hl 5 rfl) ?_
  refine lv_aload_n hx hb d_Z_findProduct_268 rfl (lv_at hl 0 rfl) ?_
  refine va_get (D := D) (ci := 5) (v := .int Z_lefts) (C := "RemnantDictionaryModel") (T := T_Z) (N := 30) hx hb hts iw_Z hown hK hP 0 rfl rfl 16 (by decide) (hts _ k_445) (fun _ h9 => h9) rfl d_Z_findProduct_269 ?_
  refine g_icmp_ge (tgt := 381) hx hb d_Z_findProduct_272 (by decide) hrun (fun _ hrun => ?_) (fun _ hrun => ?_)
  · cases hrun
    exact W.vret hx hb hr (fun t ht hW => ⟨⟨(), rfl, trivial, gB_of ht hW.alike hP hK hD⟩, hS.F ht⟩) hS.2.2 d_Z_findProduct_381
  · refine lv_aload_n hx hb d_Z_findProduct_275 rfl (lv_at hl 0 rfl) ?_
    refine va_get (D := D) (ci := 5) (v := .ref a_Z_product) (C := "RemnantDictionaryModel") (T := T_Z) (N := 30) hx hb hts iw_Z hown hK hP 0 rfl rfl 19 (by decide) (hts _ k_452) (fun _ h9 => h9) rfl d_Z_findProduct_276 ?_
    refine lv_sipush (v := 1600) hx hb d_Z_findProduct_279 (by decide) ?_
    refine lv_iload_n hx hb d_Z_findProduct_282 rfl (lv_at hl 1 rfl) ?_
    refine lv_imul hx hb d_Z_findProduct_283 ?_
    refine lv_bipush (v := 40) hx hb d_Z_findProduct_284 (by decide) ?_
    refine lv_iload hx hb d_Z_findProduct_286 (lv_at hl 4 rfl) ?_
    refine lv_imul hx hb d_Z_findProduct_288 ?_
    refine lv_iadd hx hb d_Z_findProduct_289 ?_
    refine lv_iload hx hb d_Z_findProduct_290 (lv_at hl 5 rfl) ?_
    refine lv_iadd hx hb d_Z_findProduct_292 ?_
    refine g_iald hx hb hK hP 5 0 rfl rfl hrun d_Z_findProduct_293 (fun x_1 hrun => ?_)
    refine lv_i2l hx hb d_Z_findProduct_294 rfl ?_
    refine lv_lstore (lv' := [(8, .long x_1.toInt64), (0, .ref a_Z), (1, .int i1), (4, .int i4), (5, .int i5), (6, .int i6), (7, .int i7)]) hx hb d_Z_findProduct_295 hl (by decide) rfl (fun ls hl => ?_)
    refine lv_iconst (v := 0) hx hb d_Z_findProduct_297 (by decide) ?_
    refine lv_istore (lv' := [(10, .int 0), (8, .long x_1.toInt64), (0, .ref a_Z), (1, .int i1), (4, .int i4), (5, .int i5), (6, .int i6), (7, .int i7)]) hx hb d_Z_findProduct_298 hl (by decide) rfl (fun ls hl => ?_)
    exact v_zfindProduct_300 X D cI cL cZ a_Z a_Z_mono a_Z_row a_Z_basis a_Z_rest a_Z_product a_Z_known a_Z_degree a_Z_generator a_Z_hand a_Z_has a_Z_work a_Z_lead a_Z_tail a_Z_word a_Z_vector a_Z_system a_Z_now a_Z_next A Z_thrownCode Z_p Z_n Z_order Z_monomials Z_generators Z_upTo Z_members Z_lefts Z_vars Z_leadsFound Z_words Z_mono Z_row Z_basis Z_rest Z_product_r Z_known_r F C0 hK hA hN k266 hk266 F i1 i4 i5 i6 i7 x_1.toInt64 0 Z_product Z_known hrun H locs ls hP hD hS (lv_sub hl [2, 3, 4, 5, 6, 7, 1, 0] rfl)
theorem v_zfindProduct_266 (X : gX) (D : va_G) (cI cL cZ : ClassId) (a_Z a_Z_mono a_Z_row a_Z_basis a_Z_rest a_Z_product a_Z_known a_Z_degree a_Z_generator a_Z_hand a_Z_has a_Z_work a_Z_lead a_Z_tail a_Z_word a_Z_vector a_Z_system a_Z_now a_Z_next : Nat) (A : Nat → Prop) (Z_thrownCode Z_p Z_n Z_order Z_monomials Z_generators Z_upTo Z_members Z_lefts Z_vars Z_leadsFound Z_words : Int32) (Z_mono Z_row Z_basis Z_rest Z_product_r Z_known_r : Nat → Int32) (F : Nat) (C0 : gC X c_Z_findProductb none 11 "RemnantDictionaryModel" gAll) (hK : va_K D classes (gT cI cL cZ) (gs X)) (hA : ∀ q : Nat, (gs X).heap.size ≤ q → A q) (hN : gN (gs X))  : ∀ (n : Nat) (i1 i4 i5 i6 i7 : Int32) (Z_product Z_known : Nat → Int32), b_zfindProduct_266 F Z_lefts Z_members Z_p Z_mono Z_row Z_basis Z_rest n i1 i4 i5 i6 i7 Z_product Z_known = some (Z_product_r, Z_known_r) → g_zfindProduct X D cI cL cZ a_Z a_Z_mono a_Z_row a_Z_basis a_Z_rest a_Z_product a_Z_known a_Z_degree a_Z_generator a_Z_hand a_Z_has a_Z_work a_Z_lead a_Z_tail a_Z_word a_Z_vector a_Z_system a_Z_now a_Z_next A Z_thrownCode Z_p Z_n Z_order Z_monomials Z_generators Z_upTo Z_members Z_lefts Z_vars Z_leadsFound Z_words Z_mono Z_row Z_basis Z_rest Z_product_r Z_known_r 266 [(0, .ref a_Z), (1, .int i1), (4, .int i4), (5, .int i5), (6, .int i6), (7, .int i7)] [] Z_product Z_known := by
  intro n
  induction n with
  | zero => intro i1 i4 i5 i6 i7 Z_product Z_known hrun; cases hrun
  | succ n ih =>
    intro i1 i4 i5 i6 i7 Z_product Z_known hrun
    exact w_zfindProduct_266 X D cI cL cZ a_Z a_Z_mono a_Z_row a_Z_basis a_Z_rest a_Z_product a_Z_known a_Z_degree a_Z_generator a_Z_hand a_Z_has a_Z_work a_Z_lead a_Z_tail a_Z_word a_Z_vector a_Z_system a_Z_now a_Z_next A Z_thrownCode Z_p Z_n Z_order Z_monomials Z_generators Z_upTo Z_members Z_lefts Z_vars Z_leadsFound Z_words Z_mono Z_row Z_basis Z_rest Z_product_r Z_known_r F C0 hK hA hN (b_zfindProduct_266 F Z_lefts Z_members Z_p Z_mono Z_row Z_basis Z_rest n) ih i1 i4 i5 i6 i7 Z_product Z_known hrun
set_option maxHeartbeats 4000000 in
set_option maxRecDepth 100000 in
theorem w_zfindProduct_201 (X : gX) (D : va_G) (cI cL cZ : ClassId) (a_Z a_Z_mono a_Z_row a_Z_basis a_Z_rest a_Z_product a_Z_known a_Z_degree a_Z_generator a_Z_hand a_Z_has a_Z_work a_Z_lead a_Z_tail a_Z_word a_Z_vector a_Z_system a_Z_now a_Z_next : Nat) (A : Nat → Prop) (Z_thrownCode Z_p Z_n Z_order Z_monomials Z_generators Z_upTo Z_members Z_lefts Z_vars Z_leadsFound Z_words : Int32) (Z_mono Z_row Z_basis Z_rest Z_product_r Z_known_r : Nat → Int32) (F : Nat) (C0 : gC X c_Z_findProductb none 11 "RemnantDictionaryModel" gAll) (hK : va_K D classes (gT cI cL cZ) (gs X)) (hA : ∀ q : Nat, (gs X).heap.size ≤ q → A q) (hN : gN (gs X)) (k201 : Int32 → Int32 → Int32 → Int32 → Int32 → (Nat → Int32) → (Nat → Int32) → Option ((Nat → Int32) × (Nat → Int32))) (hk201 : ∀ (i1 i2 i3 i4 i5 : Int32) (Z_product Z_known : Nat → Int32), k201 i1 i2 i3 i4 i5 Z_product Z_known = some (Z_product_r, Z_known_r) → g_zfindProduct X D cI cL cZ a_Z a_Z_mono a_Z_row a_Z_basis a_Z_rest a_Z_product a_Z_known a_Z_degree a_Z_generator a_Z_hand a_Z_has a_Z_work a_Z_lead a_Z_tail a_Z_word a_Z_vector a_Z_system a_Z_now a_Z_next A Z_thrownCode Z_p Z_n Z_order Z_monomials Z_generators Z_upTo Z_members Z_lefts Z_vars Z_leadsFound Z_words Z_mono Z_row Z_basis Z_rest Z_product_r Z_known_r 201 [(0, .ref a_Z), (1, .int i1), (2, .int i2), (3, .int i3), (4, .int i4), (5, .int i5)] [] Z_product Z_known) (i1 i2 i3 i4 i5 : Int32) (Z_product Z_known : Nat → Int32) (hrun : s_zfindProduct_201 F Z_lefts Z_members Z_p Z_mono Z_row Z_basis Z_rest k201 i1 i2 i3 i4 i5 Z_product Z_known = some (Z_product_r, Z_known_r)) : g_zfindProduct X D cI cL cZ a_Z a_Z_mono a_Z_row a_Z_basis a_Z_rest a_Z_product a_Z_known a_Z_degree a_Z_generator a_Z_hand a_Z_has a_Z_work a_Z_lead a_Z_tail a_Z_word a_Z_vector a_Z_system a_Z_now a_Z_next A Z_thrownCode Z_p Z_n Z_order Z_monomials Z_generators Z_upTo Z_members Z_lefts Z_vars Z_leadsFound Z_words Z_mono Z_row Z_basis Z_rest Z_product_r Z_known_r 201 [(0, .ref a_Z), (1, .int i1), (2, .int i2), (3, .int i3), (4, .int i4), (5, .int i5)] [] Z_product Z_known := by
  have C1 := C0
  obtain ⟨hx, hb, hr, hml, hown, hts, hlocks⟩ := C1
  unfold s_zfindProduct_201 at hrun
  intro H locs ls hP hD hS hl
  refine lv_aload_n hx hb d_Z_findProduct_201 rfl (lv_at hl 0 rfl) ?_
  refine va_get (D := D) (ci := 5) (v := .ref a_Z_rest) (C := "RemnantDictionaryModel") (T := T_Z) (N := 30) hx hb hts iw_Z hown hK hP 0 rfl rfl 18 (by decide) (hts _ k_446) (fun _ h9 => h9) rfl d_Z_findProduct_202 ?_
  refine lv_iload_n hx hb d_Z_findProduct_205 rfl (lv_at hl 2 rfl) ?_
  refine g_iald hx hb hK hP 4 0 rfl rfl hrun d_Z_findProduct_206 (fun x_1 hrun => ?_)
  refine lv_iload hx hb d_Z_findProduct_207 (lv_at hl 5 rfl) ?_
  obtain ⟨r_2, hc, hrun⟩ := bd1_s hrun
  refine vp_callSi (W.runS (As := [.int x_1, .int i5]) (rest := []) ⟨hx, hb, hml, hown, hts⟩ (c_zexponent (gl X) F x_1 i5 r_2 hc) (va_cwS 2 hts (gwS k_334 k_332 k_333 k_331) rfl rfl rfl (by decide +kernel) ⟨Nat.le_of_ble_eq_true rfl, Nat.le_of_ble_eq_true rfl⟩) (gpreS0 hN) rfl rfl hl.1 rfl (lv_room (Nat.le_of_ble_eq_true rfl)) d_Z_findProduct_209 ⟨Nat.le_of_ble_eq_true rfl, Nat.le_of_ble_eq_true rfl⟩) (nm_e ?_)
  refine g_if_eq (tgt := 234) hx hb d_Z_findProduct_212 (by decide) hrun (fun _ hrun => ?_) (fun _ hrun => ?_)
  · refine lv_iinc (v := (i5 + 1)) (lv' := [(5, .int (i5 + 1)), (0, .ref a_Z), (1, .int i1), (2, .int i2), (3, .int i3), (4, .int i4)]) hx hb d_Z_findProduct_234 hl (k := 5) rfl rfl (by decide) rfl (fun ls hl => ?_)
    refine lv_goto (tgt := 201) hx hb d_Z_findProduct_237 (by decide) ?_
    exact hk201 i1 i2 i3 i4 (i5 + 1) Z_product Z_known hrun H locs ls hP hD hS (lv_sub hl [1, 2, 3, 4, 5, 0] rfl)
  · refine lv_aload_n hx hb d_Z_findProduct_215 rfl (lv_at hl 0 rfl) ?_
    refine lv_iload_n hx hb d_Z_findProduct_216 rfl (lv_at hl 3 rfl) ?_
    refine lv_iconst (v := 1) hx hb d_Z_findProduct_217 (by decide) ?_
    refine lv_bipush (v := 24) hx hb d_Z_findProduct_218 (by decide) ?_
    refine lv_bipush (v := 8) hx hb d_Z_findProduct_220 (by decide) ?_
    refine lv_iload hx hb d_Z_findProduct_222 (lv_at hl 5 rfl) ?_
    refine lv_imul hx hb d_Z_findProduct_224 ?_
    refine lv_isub hx hb d_Z_findProduct_225 ?_
    refine g_ishl hx hb d_Z_findProduct_226 ?_
    refine lv_isub hx hb d_Z_findProduct_227 ?_
    obtain ⟨r_3, hc, hrun⟩ := bd1_s hrun
    refine vp_callSi (W.runV (As := [.int (i3 - (shlI 1 (24 - (8 * i5))))]) (rest := []) ⟨hx, hb, hml, hown, hts⟩ (c_zleading (gl X) D cI cL cZ a_Z a_Z_mono a_Z_basis a_Z_degree a_Z_generator a_Z_hand a_Z_has a_Z_row a_Z_work a_Z_rest a_Z_product a_Z_known a_Z_lead a_Z_tail a_Z_word a_Z_vector a_Z_system a_Z_now a_Z_next F Z_thrownCode Z_p Z_n Z_order Z_monomials Z_generators Z_upTo Z_members Z_lefts Z_vars Z_leadsFound Z_words Z_mono Z_basis (i3 - (shlI 1 (24 - (8 * i5)))) r_3 hc) (cwV 1 hts (gwV k_450 k_448 k_449 k_333 k_444) rfl rfl rfl (by decide +kernel) ⟨Nat.le_of_ble_eq_true rfl, Nat.le_of_ble_eq_true rfl⟩) (gpreV (hP.sub (ws' := (ws_zleading a_Z a_Z_mono a_Z_basis a_Z_degree a_Z_generator a_Z_hand a_Z_has a_Z_row a_Z_work a_Z_rest a_Z_product a_Z_known a_Z_lead a_Z_tail a_Z_word a_Z_vector a_Z_system a_Z_now a_Z_next cI cL cZ Z_thrownCode Z_p Z_n Z_order Z_monomials Z_generators Z_upTo Z_members Z_lefts Z_vars Z_leadsFound Z_words Z_mono Z_basis)) [0, 1, 3] rfl) hK hN 5 0 rfl rfl) rfl rfl hl.1 rfl (lv_room (Nat.le_of_ble_eq_true rfl)) d_Z_findProduct_228 ⟨Nat.le_of_ble_eq_true rfl, Nat.le_of_ble_eq_true rfl⟩) (nm_e ?_)
    refine g_if_ne (tgt := 240) hx hb d_Z_findProduct_231 (by decide) hrun (fun _ hrun => ?_) (fun _ hrun => ?_)
    · refine lv_aload_n hx hb d_Z_findProduct_240 rfl (lv_at hl 0 rfl) ?_
      refine lv_aload_n hx hb d_Z_findProduct_241 rfl (lv_at hl 0 rfl) ?_
      refine va_get (D := D) (ci := 5) (v := .ref a_Z_rest) (C := "RemnantDictionaryModel") (T := T_Z) (N := 30) hx hb hts iw_Z hown hK hP 0 rfl rfl 18 (by decide) (hts _ k_446) (fun _ h9 => h9) rfl d_Z_findProduct_242 ?_
      refine lv_iload_n hx hb d_Z_findProduct_245 rfl (lv_at hl 2 rfl) ?_
      refine g_iald hx hb hK hP 4 0 rfl rfl hrun d_Z_findProduct_246 (fun x_4 hrun => ?_)
      refine lv_iconst (v := 1) hx hb d_Z_findProduct_247 (by decide) ?_
      refine lv_bipush (v := 24) hx hb d_Z_findProduct_248 (by decide) ?_
      refine lv_bipush (v := 8) hx hb d_Z_findProduct_250 (by decide) ?_
      refine lv_iload hx hb d_Z_findProduct_252 (lv_at hl 5 rfl) ?_
      refine lv_imul hx hb d_Z_findProduct_254 ?_
      refine lv_isub hx hb d_Z_findProduct_255 ?_
      refine g_ishl hx hb d_Z_findProduct_256 ?_
      refine lv_isub hx hb d_Z_findProduct_257 ?_
      obtain ⟨r_5, hc, hrun⟩ := bd1_s hrun
      refine vp_callSi (W.runV (As := [.int (x_4 - (shlI 1 (24 - (8 * i5))))]) (rest := []) ⟨hx, hb, hml, hown, hts⟩ (c_zrestOf (gl X) D cI cL cZ a_Z a_Z_rest a_Z_mono a_Z_degree a_Z_generator a_Z_hand a_Z_has a_Z_row a_Z_work a_Z_basis a_Z_product a_Z_known a_Z_lead a_Z_tail a_Z_word a_Z_vector a_Z_system a_Z_now a_Z_next F Z_thrownCode Z_p Z_n Z_order Z_monomials Z_generators Z_upTo Z_members Z_lefts Z_vars Z_leadsFound Z_words Z_rest (x_4 - (shlI 1 (24 - (8 * i5)))) r_5 hc) (cwV 1 hts (gwV k_456 k_454 k_455 k_333 k_447) rfl rfl rfl (by decide +kernel) ⟨Nat.le_of_ble_eq_true rfl, Nat.le_of_ble_eq_true rfl⟩) (gpreV (hP.sub (ws' := (ws_zrestOf a_Z a_Z_rest a_Z_mono a_Z_degree a_Z_generator a_Z_hand a_Z_has a_Z_row a_Z_work a_Z_basis a_Z_product a_Z_known a_Z_lead a_Z_tail a_Z_word a_Z_vector a_Z_system a_Z_now a_Z_next cI cL cZ Z_thrownCode Z_p Z_n Z_order Z_monomials Z_generators Z_upTo Z_members Z_lefts Z_vars Z_leadsFound Z_words Z_rest)) [0, 4] rfl) hK hN 5 0 rfl rfl) rfl rfl hl.1 rfl (lv_room (Nat.le_of_ble_eq_true rfl)) d_Z_findProduct_258 ⟨Nat.le_of_ble_eq_true rfl, Nat.le_of_ble_eq_true rfl⟩) (nm_e ?_)
      refine lv_istore (lv' := [(6, .int r_5), (0, .ref a_Z), (1, .int i1), (2, .int i2), (3, .int i3), (4, .int i4), (5, .int i5)]) hx hb d_Z_findProduct_261 hl (by decide) rfl (fun ls hl => ?_)
      refine lv_iconst (v := 0) hx hb d_Z_findProduct_263 (by decide) ?_
      refine lv_istore (lv' := [(7, .int 0), (6, .int r_5), (0, .ref a_Z), (1, .int i1), (2, .int i2), (3, .int i3), (4, .int i4), (5, .int i5)]) hx hb d_Z_findProduct_264 hl (by decide) rfl (fun ls hl => ?_)
      exact v_zfindProduct_266 X D cI cL cZ a_Z a_Z_mono a_Z_row a_Z_basis a_Z_rest a_Z_product a_Z_known a_Z_degree a_Z_generator a_Z_hand a_Z_has a_Z_work a_Z_lead a_Z_tail a_Z_word a_Z_vector a_Z_system a_Z_now a_Z_next A Z_thrownCode Z_p Z_n Z_order Z_monomials Z_generators Z_upTo Z_members Z_lefts Z_vars Z_leadsFound Z_words Z_mono Z_row Z_basis Z_rest Z_product_r Z_known_r F C0 hK hA hN  F i1 i4 i5 r_5 0 Z_product Z_known hrun H locs ls hP hD hS (lv_sub hl [2, 3, 6, 7, 1, 0] rfl)
    · refine lv_iinc (v := (i5 + 1)) (lv' := [(5, .int (i5 + 1)), (0, .ref a_Z), (1, .int i1), (2, .int i2), (3, .int i3), (4, .int i4)]) hx hb d_Z_findProduct_234 hl (k := 5) rfl rfl (by decide) rfl (fun ls hl => ?_)
      refine lv_goto (tgt := 201) hx hb d_Z_findProduct_237 (by decide) ?_
      exact hk201 i1 i2 i3 i4 (i5 + 1) Z_product Z_known hrun H locs ls hP hD hS (lv_sub hl [1, 2, 3, 4, 5, 0] rfl)
theorem v_zfindProduct_201 (X : gX) (D : va_G) (cI cL cZ : ClassId) (a_Z a_Z_mono a_Z_row a_Z_basis a_Z_rest a_Z_product a_Z_known a_Z_degree a_Z_generator a_Z_hand a_Z_has a_Z_work a_Z_lead a_Z_tail a_Z_word a_Z_vector a_Z_system a_Z_now a_Z_next : Nat) (A : Nat → Prop) (Z_thrownCode Z_p Z_n Z_order Z_monomials Z_generators Z_upTo Z_members Z_lefts Z_vars Z_leadsFound Z_words : Int32) (Z_mono Z_row Z_basis Z_rest Z_product_r Z_known_r : Nat → Int32) (F : Nat) (C0 : gC X c_Z_findProductb none 11 "RemnantDictionaryModel" gAll) (hK : va_K D classes (gT cI cL cZ) (gs X)) (hA : ∀ q : Nat, (gs X).heap.size ≤ q → A q) (hN : gN (gs X))  : ∀ (n : Nat) (i1 i2 i3 i4 i5 : Int32) (Z_product Z_known : Nat → Int32), b_zfindProduct_201 F Z_lefts Z_members Z_p Z_mono Z_row Z_basis Z_rest n i1 i2 i3 i4 i5 Z_product Z_known = some (Z_product_r, Z_known_r) → g_zfindProduct X D cI cL cZ a_Z a_Z_mono a_Z_row a_Z_basis a_Z_rest a_Z_product a_Z_known a_Z_degree a_Z_generator a_Z_hand a_Z_has a_Z_work a_Z_lead a_Z_tail a_Z_word a_Z_vector a_Z_system a_Z_now a_Z_next A Z_thrownCode Z_p Z_n Z_order Z_monomials Z_generators Z_upTo Z_members Z_lefts Z_vars Z_leadsFound Z_words Z_mono Z_row Z_basis Z_rest Z_product_r Z_known_r 201 [(0, .ref a_Z), (1, .int i1), (2, .int i2), (3, .int i3), (4, .int i4), (5, .int i5)] [] Z_product Z_known := by
  intro n
  induction n with
  | zero => intro i1 i2 i3 i4 i5 Z_product Z_known hrun; cases hrun
  | succ n ih =>
    intro i1 i2 i3 i4 i5 Z_product Z_known hrun
    exact w_zfindProduct_201 X D cI cL cZ a_Z a_Z_mono a_Z_row a_Z_basis a_Z_rest a_Z_product a_Z_known a_Z_degree a_Z_generator a_Z_hand a_Z_has a_Z_work a_Z_lead a_Z_tail a_Z_word a_Z_vector a_Z_system a_Z_now a_Z_next A Z_thrownCode Z_p Z_n Z_order Z_monomials Z_generators Z_upTo Z_members Z_lefts Z_vars Z_leadsFound Z_words Z_mono Z_row Z_basis Z_rest Z_product_r Z_known_r F C0 hK hA hN (b_zfindProduct_201 F Z_lefts Z_members Z_p Z_mono Z_row Z_basis Z_rest n) ih i1 i2 i3 i4 i5 Z_product Z_known hrun
set_option maxHeartbeats 4000000 in
set_option maxRecDepth 100000 in
theorem w_zfindProduct_122 (X : gX) (D : va_G) (cI cL cZ : ClassId) (a_Z a_Z_mono a_Z_row a_Z_basis a_Z_rest a_Z_product a_Z_known a_Z_degree a_Z_generator a_Z_hand a_Z_has a_Z_work a_Z_lead a_Z_tail a_Z_word a_Z_vector a_Z_system a_Z_now a_Z_next : Nat) (A : Nat → Prop) (Z_thrownCode Z_p Z_n Z_order Z_monomials Z_generators Z_upTo Z_members Z_lefts Z_vars Z_leadsFound Z_words : Int32) (Z_mono Z_row Z_basis Z_rest Z_product_r Z_known_r : Nat → Int32) (F : Nat) (C0 : gC X c_Z_findProductb none 11 "RemnantDictionaryModel" gAll) (hK : va_K D classes (gT cI cL cZ) (gs X)) (hA : ∀ q : Nat, (gs X).heap.size ≤ q → A q) (hN : gN (gs X)) (k122 : Int32 → Int32 → Int32 → (Nat → Int32) → (Nat → Int32) → Option ((Nat → Int32) × (Nat → Int32))) (hk122 : ∀ (i4 i5 i6 : Int32) (Z_product Z_known : Nat → Int32), k122 i4 i5 i6 Z_product Z_known = some (Z_product_r, Z_known_r) → g_zfindProduct X D cI cL cZ a_Z a_Z_mono a_Z_row a_Z_basis a_Z_rest a_Z_product a_Z_known a_Z_degree a_Z_generator a_Z_hand a_Z_has a_Z_work a_Z_lead a_Z_tail a_Z_word a_Z_vector a_Z_system a_Z_now a_Z_next A Z_thrownCode Z_p Z_n Z_order Z_monomials Z_generators Z_upTo Z_members Z_lefts Z_vars Z_leadsFound Z_words Z_mono Z_row Z_basis Z_rest Z_product_r Z_known_r 122 [(0, .ref a_Z), (4, .int i4), (5, .int i5), (6, .int i6)] [] Z_product Z_known) (i4 i5 i6 : Int32) (Z_product Z_known : Nat → Int32) (hrun : s_zfindProduct_122 F Z_lefts Z_members Z_p Z_mono Z_row Z_basis Z_rest k122 i4 i5 i6 Z_product Z_known = some (Z_product_r, Z_known_r)) : g_zfindProduct X D cI cL cZ a_Z a_Z_mono a_Z_row a_Z_basis a_Z_rest a_Z_product a_Z_known a_Z_degree a_Z_generator a_Z_hand a_Z_has a_Z_work a_Z_lead a_Z_tail a_Z_word a_Z_vector a_Z_system a_Z_now a_Z_next A Z_thrownCode Z_p Z_n Z_order Z_monomials Z_generators Z_upTo Z_members Z_lefts Z_vars Z_leadsFound Z_words Z_mono Z_row Z_basis Z_rest Z_product_r Z_known_r 122 [(0, .ref a_Z), (4, .int i4), (5, .int i5), (6, .int i6)] [] Z_product Z_known := by
  have C1 := C0
  obtain ⟨hx, hb, hr, hml, hown, hts, hlocks⟩ := C1
  unfold s_zfindProduct_122 at hrun
  intro H locs ls hP hD hS hl
  refine lv_iload hx hb d_Z_findProduct_122 (lv_at hl 3 rfl) ?_
  refine lv_aload_n hx hb d_Z_findProduct_124 rfl (lv_at hl 0 rfl) ?_
  refine va_get (D := D) (ci := 5) (v := .ref a_Z_basis) (C := "RemnantDictionaryModel") (T := T_Z) (N := 30) hx hb hts iw_Z hown hK hP 0 rfl rfl 14 (by decide) (hts _ k_428) (fun _ h9 => h9) rfl d_Z_findProduct_125 ?_
  refine lv_iload hx hb d_Z_findProduct_128 (lv_at hl 2 rfl) ?_
  refine g_iald hx hb hK hP 3 0 rfl rfl hrun d_Z_findProduct_130 (fun x_1 hrun => ?_)
  refine g_icmp_ge (tgt := 191) hx hb d_Z_findProduct_131 (by decide) hrun (fun _ hrun => ?_) (fun _ hrun => ?_)
  · cases hrun
    exact W.vret hx hb hr (fun t ht hW => ⟨⟨(), rfl, trivial, gB_of ht hW.alike hP hK hD⟩, hS.F ht⟩) hS.2.2 d_Z_findProduct_191
  · refine lv_aload_n hx hb d_Z_findProduct_134 rfl (lv_at hl 0 rfl) ?_
    refine va_get (D := D) (ci := 5) (v := .ref a_Z_row) (C := "RemnantDictionaryModel") (T := T_Z) (N := 30) hx hb hts iw_Z hown hK hP 0 rfl rfl 12 (by decide) (hts _ k_392) (fun _ h9 => h9) rfl d_Z_findProduct_135 ?_
    refine lv_bipush (v := 126) hx hb d_Z_findProduct_138 (by decide) ?_
    refine lv_aload_n hx hb d_Z_findProduct_140 rfl (lv_at hl 0 rfl) ?_
    refine va_get (D := D) (ci := 5) (v := .ref a_Z_basis) (C := "RemnantDictionaryModel") (T := T_Z) (N := 30) hx hb hts iw_Z hown hK hP 0 rfl rfl 14 (by decide) (hts _ k_428) (fun _ h9 => h9) rfl d_Z_findProduct_141 ?_
    refine lv_iload hx hb d_Z_findProduct_144 (lv_at hl 2 rfl) ?_
    refine g_iald hx hb hK hP 3 0 rfl rfl hrun d_Z_findProduct_146 (fun x_2 hrun => ?_)
    refine lv_imul hx hb d_Z_findProduct_147 ?_
    refine lv_iload hx hb d_Z_findProduct_148 (lv_at hl 3 rfl) ?_
    refine lv_iadd hx hb d_Z_findProduct_150 ?_
    refine g_iald hx hb hK hP 2 0 rfl rfl hrun d_Z_findProduct_151 (fun x_3 hrun => ?_)
    refine lv_istore (lv' := [(7, .int x_3), (0, .ref a_Z), (4, .int i4), (5, .int i5), (6, .int i6)]) hx hb d_Z_findProduct_152 hl (by decide) rfl (fun ls hl => ?_)
    refine lv_iload hx hb d_Z_findProduct_154 (lv_at hl 0 rfl) ?_
    refine g_if_eq (tgt := 185) hx hb d_Z_findProduct_156 (by decide) hrun (fun _ hrun => ?_) (fun _ hrun => ?_)
    · refine lv_iinc (v := (i6 + 1)) (lv' := [(6, .int (i6 + 1)), (7, .int x_3), (0, .ref a_Z), (4, .int i4), (5, .int i5)]) hx hb d_Z_findProduct_185 hl (k := 4) rfl rfl (by decide) rfl (fun ls hl => ?_)
      refine lv_goto (tgt := 122) hx hb d_Z_findProduct_188 (by decide) ?_
      exact hk122 i4 i5 (i6 + 1) Z_product Z_known hrun H locs ls hP hD hS (lv_sub hl [2, 3, 4, 0] rfl)
    · refine lv_aload_n hx hb d_Z_findProduct_159 rfl (lv_at hl 1 rfl) ?_
      refine va_get (D := D) (ci := 5) (v := .ref a_Z_product) (C := "RemnantDictionaryModel") (T := T_Z) (N := 30) hx hb hts iw_Z hown hK hP 0 rfl rfl 19 (by decide) (hts _ k_452) (fun _ h9 => h9) rfl d_Z_findProduct_160 ?_
      refine lv_iload hx hb d_Z_findProduct_163 (lv_at hl 2 rfl) ?_
      refine lv_aload_n hx hb d_Z_findProduct_165 rfl (lv_at hl 1 rfl) ?_
      refine lv_aload_n hx hb d_Z_findProduct_166 rfl (lv_at hl 1 rfl) ?_
      refine va_get (D := D) (ci := 5) (v := .ref a_Z_mono) (C := "RemnantDictionaryModel") (T := T_Z) (N := 30) hx hb hts iw_Z hown hK hP 0 rfl rfl 5 (by decide) (hts _ k_372) (fun _ h9 => h9) rfl d_Z_findProduct_167 ?_
      refine lv_iload hx hb d_Z_findProduct_170 (lv_at hl 4 rfl) ?_
      refine g_iald hx hb hK hP 1 0 rfl rfl hrun d_Z_findProduct_172 (fun x_4 hrun => ?_)
      obtain ⟨r_5, hc, hrun⟩ := bd1_s hrun
      refine vp_callSi (W.runV (As := [.int x_4]) (rest := [.int i4, .ref a_Z_product]) ⟨hx, hb, hml, hown, hts⟩ (c_zrestOf (gl X) D cI cL cZ a_Z a_Z_rest a_Z_mono a_Z_degree a_Z_generator a_Z_hand a_Z_has a_Z_row a_Z_work a_Z_basis a_Z_product a_Z_known a_Z_lead a_Z_tail a_Z_word a_Z_vector a_Z_system a_Z_now a_Z_next F Z_thrownCode Z_p Z_n Z_order Z_monomials Z_generators Z_upTo Z_members Z_lefts Z_vars Z_leadsFound Z_words Z_rest x_4 r_5 hc) (cwV 1 hts (gwV k_456 k_454 k_455 k_333 k_447) rfl rfl rfl (by decide +kernel) ⟨Nat.le_of_ble_eq_true rfl, Nat.le_of_ble_eq_true rfl⟩) (gpreV (hP.sub (ws' := (ws_zrestOf a_Z a_Z_rest a_Z_mono a_Z_degree a_Z_generator a_Z_hand a_Z_has a_Z_row a_Z_work a_Z_basis a_Z_product a_Z_known a_Z_lead a_Z_tail a_Z_word a_Z_vector a_Z_system a_Z_now a_Z_next cI cL cZ Z_thrownCode Z_p Z_n Z_order Z_monomials Z_generators Z_upTo Z_members Z_lefts Z_vars Z_leadsFound Z_words Z_rest)) [0, 4] rfl) hK hN 5 0 rfl rfl) rfl rfl hl.1 rfl (lv_room (Nat.le_of_ble_eq_true rfl)) d_Z_findProduct_173 ⟨Nat.le_of_ble_eq_true rfl, Nat.le_of_ble_eq_true rfl⟩) (nm_e ?_)
      refine lv_iadd hx hb d_Z_findProduct_176 ?_
      refine lv_aload_n hx hb d_Z_findProduct_177 rfl (lv_at hl 1 rfl) ?_
      refine va_get (D := D) (ci := 5) (v := .int Z_p) (C := "RemnantDictionaryModel") (T := T_Z) (N := 30) hx hb hts iw_Z hown hK hP 0 rfl rfl 1 (by decide) (hts _ k_385) (fun _ h9 => h9) rfl d_Z_findProduct_178 ?_
      refine lv_iload hx hb d_Z_findProduct_181 (lv_at hl 0 rfl) ?_
      refine lv_isub hx hb d_Z_findProduct_183 ?_
      refine g_iast hx hb hK hP hD hS 5 0 rfl rfl hrun d_Z_findProduct_184 (fun Z_product_6 hrun H locs (hP : va_P D classes (ws_zfindProduct a_Z a_Z_mono a_Z_row a_Z_basis a_Z_rest a_Z_product a_Z_known a_Z_degree a_Z_generator a_Z_hand a_Z_has a_Z_work a_Z_lead a_Z_tail a_Z_word a_Z_vector a_Z_system a_Z_now a_Z_next cI cL cZ Z_thrownCode Z_p Z_n Z_order Z_monomials Z_generators Z_upTo Z_members Z_lefts Z_vars Z_leadsFound Z_words Z_mono Z_row Z_basis Z_rest Z_product_6 Z_known) H) (hD : va_D A (ws_zfindProduct a_Z a_Z_mono a_Z_row a_Z_basis a_Z_rest a_Z_product a_Z_known a_Z_degree a_Z_generator a_Z_hand a_Z_has a_Z_work a_Z_lead a_Z_tail a_Z_word a_Z_vector a_Z_system a_Z_now a_Z_next cI cL cZ Z_thrownCode Z_p Z_n Z_order Z_monomials Z_generators Z_upTo Z_members Z_lefts Z_vars Z_leadsFound Z_words Z_mono Z_row Z_basis Z_rest Z_product_6 Z_known)) hS => ?_)
      refine lv_iinc (v := (i6 + 1)) (lv' := [(6, .int (i6 + 1)), (7, .int x_3), (0, .ref a_Z), (4, .int i4), (5, .int i5)]) hx hb d_Z_findProduct_185 hl (k := 4) rfl rfl (by decide) rfl (fun ls hl => ?_)
      refine lv_goto (tgt := 122) hx hb d_Z_findProduct_188 (by decide) ?_
      exact hk122 i4 i5 (i6 + 1) Z_product_6 Z_known hrun H locs ls hP hD hS (lv_sub hl [2, 3, 4, 0] rfl)
theorem v_zfindProduct_122 (X : gX) (D : va_G) (cI cL cZ : ClassId) (a_Z a_Z_mono a_Z_row a_Z_basis a_Z_rest a_Z_product a_Z_known a_Z_degree a_Z_generator a_Z_hand a_Z_has a_Z_work a_Z_lead a_Z_tail a_Z_word a_Z_vector a_Z_system a_Z_now a_Z_next : Nat) (A : Nat → Prop) (Z_thrownCode Z_p Z_n Z_order Z_monomials Z_generators Z_upTo Z_members Z_lefts Z_vars Z_leadsFound Z_words : Int32) (Z_mono Z_row Z_basis Z_rest Z_product_r Z_known_r : Nat → Int32) (F : Nat) (C0 : gC X c_Z_findProductb none 11 "RemnantDictionaryModel" gAll) (hK : va_K D classes (gT cI cL cZ) (gs X)) (hA : ∀ q : Nat, (gs X).heap.size ≤ q → A q) (hN : gN (gs X))  : ∀ (n : Nat) (i4 i5 i6 : Int32) (Z_product Z_known : Nat → Int32), b_zfindProduct_122 F Z_lefts Z_members Z_p Z_mono Z_row Z_basis Z_rest n i4 i5 i6 Z_product Z_known = some (Z_product_r, Z_known_r) → g_zfindProduct X D cI cL cZ a_Z a_Z_mono a_Z_row a_Z_basis a_Z_rest a_Z_product a_Z_known a_Z_degree a_Z_generator a_Z_hand a_Z_has a_Z_work a_Z_lead a_Z_tail a_Z_word a_Z_vector a_Z_system a_Z_now a_Z_next A Z_thrownCode Z_p Z_n Z_order Z_monomials Z_generators Z_upTo Z_members Z_lefts Z_vars Z_leadsFound Z_words Z_mono Z_row Z_basis Z_rest Z_product_r Z_known_r 122 [(0, .ref a_Z), (4, .int i4), (5, .int i5), (6, .int i6)] [] Z_product Z_known := by
  intro n
  induction n with
  | zero => intro i4 i5 i6 Z_product Z_known hrun; cases hrun
  | succ n ih =>
    intro i4 i5 i6 Z_product Z_known hrun
    exact w_zfindProduct_122 X D cI cL cZ a_Z a_Z_mono a_Z_row a_Z_basis a_Z_rest a_Z_product a_Z_known a_Z_degree a_Z_generator a_Z_hand a_Z_has a_Z_work a_Z_lead a_Z_tail a_Z_word a_Z_vector a_Z_system a_Z_now a_Z_next A Z_thrownCode Z_p Z_n Z_order Z_monomials Z_generators Z_upTo Z_members Z_lefts Z_vars Z_leadsFound Z_words Z_mono Z_row Z_basis Z_rest Z_product_r Z_known_r F C0 hK hA hN (b_zfindProduct_122 F Z_lefts Z_members Z_p Z_mono Z_row Z_basis Z_rest n) ih i4 i5 i6 Z_product Z_known hrun
set_option maxHeartbeats 4000000 in
set_option maxRecDepth 100000 in
theorem w_zfindProduct_94 (X : gX) (D : va_G) (cI cL cZ : ClassId) (a_Z a_Z_mono a_Z_row a_Z_basis a_Z_rest a_Z_product a_Z_known a_Z_degree a_Z_generator a_Z_hand a_Z_has a_Z_work a_Z_lead a_Z_tail a_Z_word a_Z_vector a_Z_system a_Z_now a_Z_next : Nat) (A : Nat → Prop) (Z_thrownCode Z_p Z_n Z_order Z_monomials Z_generators Z_upTo Z_members Z_lefts Z_vars Z_leadsFound Z_words : Int32) (Z_mono Z_row Z_basis Z_rest Z_product_r Z_known_r : Nat → Int32) (F : Nat) (C0 : gC X c_Z_findProductb none 11 "RemnantDictionaryModel" gAll) (hK : va_K D classes (gT cI cL cZ) (gs X)) (hA : ∀ q : Nat, (gs X).heap.size ≤ q → A q) (hN : gN (gs X)) (k94 : Int32 → Int32 → Int32 → Int32 → Int32 → (Nat → Int32) → (Nat → Int32) → Option ((Nat → Int32) × (Nat → Int32))) (hk94 : ∀ (i1 i2 i3 i4 i5 : Int32) (Z_product Z_known : Nat → Int32), k94 i1 i2 i3 i4 i5 Z_product Z_known = some (Z_product_r, Z_known_r) → g_zfindProduct X D cI cL cZ a_Z a_Z_mono a_Z_row a_Z_basis a_Z_rest a_Z_product a_Z_known a_Z_degree a_Z_generator a_Z_hand a_Z_has a_Z_work a_Z_lead a_Z_tail a_Z_word a_Z_vector a_Z_system a_Z_now a_Z_next A Z_thrownCode Z_p Z_n Z_order Z_monomials Z_generators Z_upTo Z_members Z_lefts Z_vars Z_leadsFound Z_words Z_mono Z_row Z_basis Z_rest Z_product_r Z_known_r 94 [(0, .ref a_Z), (1, .int i1), (2, .int i2), (3, .int i3), (4, .int i4), (5, .int i5)] [] Z_product Z_known) (i1 i2 i3 i4 i5 : Int32) (Z_product Z_known : Nat → Int32) (hrun : s_zfindProduct_94 F Z_lefts Z_members Z_p Z_mono Z_row Z_basis Z_rest k94 i1 i2 i3 i4 i5 Z_product Z_known = some (Z_product_r, Z_known_r)) : g_zfindProduct X D cI cL cZ a_Z a_Z_mono a_Z_row a_Z_basis a_Z_rest a_Z_product a_Z_known a_Z_degree a_Z_generator a_Z_hand a_Z_has a_Z_work a_Z_lead a_Z_tail a_Z_word a_Z_vector a_Z_system a_Z_now a_Z_next A Z_thrownCode Z_p Z_n Z_order Z_monomials Z_generators Z_upTo Z_members Z_lefts Z_vars Z_leadsFound Z_words Z_mono Z_row Z_basis Z_rest Z_product_r Z_known_r 94 [(0, .ref a_Z), (1, .int i1), (2, .int i2), (3, .int i3), (4, .int i4), (5, .int i5)] [] Z_product Z_known := by
  have C1 := C0
  obtain ⟨hx, hb, hr, hml, hown, hts, hlocks⟩ := C1
  unfold s_zfindProduct_94 at hrun
  intro H locs ls hP hD hS hl
  refine lv_iload hx hb d_Z_findProduct_94 (lv_at hl 5 rfl) ?_
  refine lv_aload_n hx hb d_Z_findProduct_96 rfl (lv_at hl 0 rfl) ?_
  refine va_get (D := D) (ci := 5) (v := .int Z_members) (C := "RemnantDictionaryModel") (T := T_Z) (N := 30) hx hb hts iw_Z hown hK hP 0 rfl rfl 15 (by decide) (hts _ k_429) (fun _ h9 => h9) rfl d_Z_findProduct_97 ?_
  refine g_icmp_ge (tgt := 198) hx hb d_Z_findProduct_100 (by decide) hrun (fun _ hrun => ?_) (fun _ hrun => ?_)
  · refine lv_iconst (v := 0) hx hb d_Z_findProduct_198 (by decide) ?_
    refine lv_istore (lv' := [(5, .int 0), (0, .ref a_Z), (1, .int i1), (2, .int i2), (3, .int i3), (4, .int i4)]) hx hb d_Z_findProduct_199 hl (by decide) rfl (fun ls hl => ?_)
    exact v_zfindProduct_201 X D cI cL cZ a_Z a_Z_mono a_Z_row a_Z_basis a_Z_rest a_Z_product a_Z_known a_Z_degree a_Z_generator a_Z_hand a_Z_has a_Z_work a_Z_lead a_Z_tail a_Z_word a_Z_vector a_Z_system a_Z_now a_Z_next A Z_thrownCode Z_p Z_n Z_order Z_monomials Z_generators Z_upTo Z_members Z_lefts Z_vars Z_leadsFound Z_words Z_mono Z_row Z_basis Z_rest Z_product_r Z_known_r F C0 hK hA hN  F i1 i2 i3 i4 0 Z_product Z_known hrun H locs ls hP hD hS (lv_sub hl [1, 2, 3, 4, 5, 0] rfl)
  · refine lv_aload_n hx hb d_Z_findProduct_103 rfl (lv_at hl 0 rfl) ?_
    refine va_get (D := D) (ci := 5) (v := .ref a_Z_mono) (C := "RemnantDictionaryModel") (T := T_Z) (N := 30) hx hb hts iw_Z hown hK hP 0 rfl rfl 5 (by decide) (hts _ k_372) (fun _ h9 => h9) rfl d_Z_findProduct_104 ?_
    refine lv_aload_n hx hb d_Z_findProduct_107 rfl (lv_at hl 0 rfl) ?_
    refine va_get (D := D) (ci := 5) (v := .ref a_Z_basis) (C := "RemnantDictionaryModel") (T := T_Z) (N := 30) hx hb hts iw_Z hown hK hP 0 rfl rfl 14 (by decide) (hts _ k_428) (fun _ h9 => h9) rfl d_Z_findProduct_108 ?_
    refine lv_iload hx hb d_Z_findProduct_111 (lv_at hl 5 rfl) ?_
    refine g_iald hx hb hK hP 3 0 rfl rfl hrun d_Z_findProduct_113 (fun x_1 hrun => ?_)
    refine g_iald hx hb hK hP 1 0 rfl rfl hrun d_Z_findProduct_114 (fun x_2 hrun => ?_)
    refine lv_iload_n hx hb d_Z_findProduct_115 rfl (lv_at hl 3 rfl) ?_
    refine g_icmp_ne (tgt := 192) hx hb d_Z_findProduct_116 (by decide) hrun (fun _ hrun => ?_) (fun _ hrun => ?_)
    · refine lv_iinc (v := (i5 + 1)) (lv' := [(5, .int (i5 + 1)), (0, .ref a_Z), (1, .int i1), (2, .int i2), (3, .int i3), (4, .int i4)]) hx hb d_Z_findProduct_192 hl (k := 5) rfl rfl (by decide) rfl (fun ls hl => ?_)
      refine lv_goto (tgt := 94) hx hb d_Z_findProduct_195 (by decide) ?_
      exact hk94 i1 i2 i3 i4 (i5 + 1) Z_product Z_known hrun H locs ls hP hD hS (lv_sub hl [1, 2, 3, 4, 5, 0] rfl)
    · refine lv_iconst (v := 0) hx hb d_Z_findProduct_119 (by decide) ?_
      refine lv_istore (lv' := [(6, .int 0), (0, .ref a_Z), (1, .int i1), (2, .int i2), (3, .int i3), (4, .int i4), (5, .int i5)]) hx hb d_Z_findProduct_120 hl (by decide) rfl (fun ls hl => ?_)
      exact v_zfindProduct_122 X D cI cL cZ a_Z a_Z_mono a_Z_row a_Z_basis a_Z_rest a_Z_product a_Z_known a_Z_degree a_Z_generator a_Z_hand a_Z_has a_Z_work a_Z_lead a_Z_tail a_Z_word a_Z_vector a_Z_system a_Z_now a_Z_next A Z_thrownCode Z_p Z_n Z_order Z_monomials Z_generators Z_upTo Z_members Z_lefts Z_vars Z_leadsFound Z_words Z_mono Z_row Z_basis Z_rest Z_product_r Z_known_r F C0 hK hA hN  F i4 i5 0 Z_product Z_known hrun H locs ls hP hD hS (lv_sub hl [1, 5, 6, 0] rfl)
theorem v_zfindProduct_94 (X : gX) (D : va_G) (cI cL cZ : ClassId) (a_Z a_Z_mono a_Z_row a_Z_basis a_Z_rest a_Z_product a_Z_known a_Z_degree a_Z_generator a_Z_hand a_Z_has a_Z_work a_Z_lead a_Z_tail a_Z_word a_Z_vector a_Z_system a_Z_now a_Z_next : Nat) (A : Nat → Prop) (Z_thrownCode Z_p Z_n Z_order Z_monomials Z_generators Z_upTo Z_members Z_lefts Z_vars Z_leadsFound Z_words : Int32) (Z_mono Z_row Z_basis Z_rest Z_product_r Z_known_r : Nat → Int32) (F : Nat) (C0 : gC X c_Z_findProductb none 11 "RemnantDictionaryModel" gAll) (hK : va_K D classes (gT cI cL cZ) (gs X)) (hA : ∀ q : Nat, (gs X).heap.size ≤ q → A q) (hN : gN (gs X))  : ∀ (n : Nat) (i1 i2 i3 i4 i5 : Int32) (Z_product Z_known : Nat → Int32), b_zfindProduct_94 F Z_lefts Z_members Z_p Z_mono Z_row Z_basis Z_rest n i1 i2 i3 i4 i5 Z_product Z_known = some (Z_product_r, Z_known_r) → g_zfindProduct X D cI cL cZ a_Z a_Z_mono a_Z_row a_Z_basis a_Z_rest a_Z_product a_Z_known a_Z_degree a_Z_generator a_Z_hand a_Z_has a_Z_work a_Z_lead a_Z_tail a_Z_word a_Z_vector a_Z_system a_Z_now a_Z_next A Z_thrownCode Z_p Z_n Z_order Z_monomials Z_generators Z_upTo Z_members Z_lefts Z_vars Z_leadsFound Z_words Z_mono Z_row Z_basis Z_rest Z_product_r Z_known_r 94 [(0, .ref a_Z), (1, .int i1), (2, .int i2), (3, .int i3), (4, .int i4), (5, .int i5)] [] Z_product Z_known := by
  intro n
  induction n with
  | zero => intro i1 i2 i3 i4 i5 Z_product Z_known hrun; cases hrun
  | succ n ih =>
    intro i1 i2 i3 i4 i5 Z_product Z_known hrun
    exact w_zfindProduct_94 X D cI cL cZ a_Z a_Z_mono a_Z_row a_Z_basis a_Z_rest a_Z_product a_Z_known a_Z_degree a_Z_generator a_Z_hand a_Z_has a_Z_work a_Z_lead a_Z_tail a_Z_word a_Z_vector a_Z_system a_Z_now a_Z_next A Z_thrownCode Z_p Z_n Z_order Z_monomials Z_generators Z_upTo Z_members Z_lefts Z_vars Z_leadsFound Z_words Z_mono Z_row Z_basis Z_rest Z_product_r Z_known_r F C0 hK hA hN (b_zfindProduct_94 F Z_lefts Z_members Z_p Z_mono Z_row Z_basis Z_rest n) ih i1 i2 i3 i4 i5 Z_product Z_known hrun
set_option maxHeartbeats 4000000 in
set_option maxRecDepth 100000 in
theorem w_zfindProduct_32 (X : gX) (D : va_G) (cI cL cZ : ClassId) (a_Z a_Z_mono a_Z_row a_Z_basis a_Z_rest a_Z_product a_Z_known a_Z_degree a_Z_generator a_Z_hand a_Z_has a_Z_work a_Z_lead a_Z_tail a_Z_word a_Z_vector a_Z_system a_Z_now a_Z_next : Nat) (A : Nat → Prop) (Z_thrownCode Z_p Z_n Z_order Z_monomials Z_generators Z_upTo Z_members Z_lefts Z_vars Z_leadsFound Z_words : Int32) (Z_mono Z_row Z_basis Z_rest Z_product_r Z_known_r : Nat → Int32) (F : Nat) (C0 : gC X c_Z_findProductb none 11 "RemnantDictionaryModel" gAll) (hK : va_K D classes (gT cI cL cZ) (gs X)) (hA : ∀ q : Nat, (gs X).heap.size ≤ q → A q) (hN : gN (gs X)) (k32 : Int32 → Int32 → Int32 → Int32 → Int32 → (Nat → Int32) → (Nat → Int32) → Option ((Nat → Int32) × (Nat → Int32))) (hk32 : ∀ (i1 i2 i3 i4 i5 : Int32) (Z_product Z_known : Nat → Int32), k32 i1 i2 i3 i4 i5 Z_product Z_known = some (Z_product_r, Z_known_r) → g_zfindProduct X D cI cL cZ a_Z a_Z_mono a_Z_row a_Z_basis a_Z_rest a_Z_product a_Z_known a_Z_degree a_Z_generator a_Z_hand a_Z_has a_Z_work a_Z_lead a_Z_tail a_Z_word a_Z_vector a_Z_system a_Z_now a_Z_next A Z_thrownCode Z_p Z_n Z_order Z_monomials Z_generators Z_upTo Z_members Z_lefts Z_vars Z_leadsFound Z_words Z_mono Z_row Z_basis Z_rest Z_product_r Z_known_r 32 [(0, .ref a_Z), (1, .int i1), (2, .int i2), (3, .int i3), (4, .int i4), (5, .int i5)] [] Z_product Z_known) (i1 i2 i3 i4 i5 : Int32) (Z_product Z_known : Nat → Int32) (hrun : s_zfindProduct_32 F Z_lefts Z_members Z_p Z_mono Z_row Z_basis Z_rest k32 i1 i2 i3 i4 i5 Z_product Z_known = some (Z_product_r, Z_known_r)) : g_zfindProduct X D cI cL cZ a_Z a_Z_mono a_Z_row a_Z_basis a_Z_rest a_Z_product a_Z_known a_Z_degree a_Z_generator a_Z_hand a_Z_has a_Z_work a_Z_lead a_Z_tail a_Z_word a_Z_vector a_Z_system a_Z_now a_Z_next A Z_thrownCode Z_p Z_n Z_order Z_monomials Z_generators Z_upTo Z_members Z_lefts Z_vars Z_leadsFound Z_words Z_mono Z_row Z_basis Z_rest Z_product_r Z_known_r 32 [(0, .ref a_Z), (1, .int i1), (2, .int i2), (3, .int i3), (4, .int i4), (5, .int i5)] [] Z_product Z_known := by
  have C1 := C0
  obtain ⟨hx, hb, hr, hml, hown, hts, hlocks⟩ := C1
  unfold s_zfindProduct_32 at hrun
  intro H locs ls hP hD hS hl
  refine lv_iload hx hb d_Z_findProduct_32 (lv_at hl 5 rfl) ?_
  refine lv_bipush (v := 40) hx hb d_Z_findProduct_34 (by decide) ?_
  refine g_icmp_ge (tgt := 56) hx hb d_Z_findProduct_36 (by decide) hrun (fun _ hrun => ?_) (fun _ hrun => ?_)
  · refine lv_aload_n hx hb d_Z_findProduct_56 rfl (lv_at hl 0 rfl) ?_
    refine va_get (D := D) (ci := 5) (v := .ref a_Z_known) (C := "RemnantDictionaryModel") (T := T_Z) (N := 30) hx hb hts iw_Z hown hK hP 0 rfl rfl 20 (by decide) (hts _ k_457) (fun _ h9 => h9) rfl d_Z_findProduct_57 ?_
    refine lv_bipush (v := 40) hx hb d_Z_findProduct_60 (by decide) ?_
    refine lv_iload_n hx hb d_Z_findProduct_62 rfl (lv_at hl 1 rfl) ?_
    refine lv_imul hx hb d_Z_findProduct_63 ?_
    refine lv_iload_n hx hb d_Z_findProduct_64 rfl (lv_at hl 2 rfl) ?_
    refine lv_iadd hx hb d_Z_findProduct_65 ?_
    refine lv_iconst (v := 1) hx hb d_Z_findProduct_66 (by decide) ?_
    refine g_zast hx hb hK hP hD hS 6 2 rfl rfl hrun d_Z_findProduct_67 (fun Z_known_1 hrun H locs (hP : va_P D classes (ws_zfindProduct a_Z a_Z_mono a_Z_row a_Z_basis a_Z_rest a_Z_product a_Z_known a_Z_degree a_Z_generator a_Z_hand a_Z_has a_Z_work a_Z_lead a_Z_tail a_Z_word a_Z_vector a_Z_system a_Z_now a_Z_next cI cL cZ Z_thrownCode Z_p Z_n Z_order Z_monomials Z_generators Z_upTo Z_members Z_lefts Z_vars Z_leadsFound Z_words Z_mono Z_row Z_basis Z_rest Z_product Z_known_1) H) (hD : va_D A (ws_zfindProduct a_Z a_Z_mono a_Z_row a_Z_basis a_Z_rest a_Z_product a_Z_known a_Z_degree a_Z_generator a_Z_hand a_Z_has a_Z_work a_Z_lead a_Z_tail a_Z_word a_Z_vector a_Z_system a_Z_now a_Z_next cI cL cZ Z_thrownCode Z_p Z_n Z_order Z_monomials Z_generators Z_upTo Z_members Z_lefts Z_vars Z_leadsFound Z_words Z_mono Z_row Z_basis Z_rest Z_product Z_known_1)) hS => ?_)
    refine lv_aload_n hx hb d_Z_findProduct_68 rfl (lv_at hl 0 rfl) ?_
    refine lv_iload_n hx hb d_Z_findProduct_69 rfl (lv_at hl 3 rfl) ?_
    obtain ⟨r_2, hc, hrun⟩ := bd1_s hrun
    refine vp_callSi (W.runV (As := [.int i3]) (rest := []) ⟨hx, hb, hml, hown, hts⟩ (c_zrestOf (gl X) D cI cL cZ a_Z a_Z_rest a_Z_mono a_Z_degree a_Z_generator a_Z_hand a_Z_has a_Z_row a_Z_work a_Z_basis a_Z_product a_Z_known a_Z_lead a_Z_tail a_Z_word a_Z_vector a_Z_system a_Z_now a_Z_next F Z_thrownCode Z_p Z_n Z_order Z_monomials Z_generators Z_upTo Z_members Z_lefts Z_vars Z_leadsFound Z_words Z_rest i3 r_2 hc) (cwV 1 hts (gwV k_456 k_454 k_455 k_333 k_447) rfl rfl rfl (by decide +kernel) ⟨Nat.le_of_ble_eq_true rfl, Nat.le_of_ble_eq_true rfl⟩) (gpreV (hP.sub (ws' := (ws_zrestOf a_Z a_Z_rest a_Z_mono a_Z_degree a_Z_generator a_Z_hand a_Z_has a_Z_row a_Z_work a_Z_basis a_Z_product a_Z_known a_Z_lead a_Z_tail a_Z_word a_Z_vector a_Z_system a_Z_now a_Z_next cI cL cZ Z_thrownCode Z_p Z_n Z_order Z_monomials Z_generators Z_upTo Z_members Z_lefts Z_vars Z_leadsFound Z_words Z_rest)) [0, 4] rfl) hK hN 5 0 rfl rfl) rfl rfl hl.1 rfl (lv_room (Nat.le_of_ble_eq_true rfl)) d_Z_findProduct_70 ⟨Nat.le_of_ble_eq_true rfl, Nat.le_of_ble_eq_true rfl⟩) (nm_e ?_)
    refine g_if_lt (tgt := 91) hx hb d_Z_findProduct_73 (by decide) hrun (fun _ hrun => ?_) (fun _ hrun => ?_)
    · refine lv_iconst (v := 0) hx hb d_Z_findProduct_91 (by decide) ?_
      refine lv_istore (lv' := [(5, .int 0), (0, .ref a_Z), (1, .int i1), (2, .int i2), (3, .int i3), (4, .int i4)]) hx hb d_Z_findProduct_92 hl (by decide) rfl (fun ls hl => ?_)
      exact v_zfindProduct_94 X D cI cL cZ a_Z a_Z_mono a_Z_row a_Z_basis a_Z_rest a_Z_product a_Z_known a_Z_degree a_Z_generator a_Z_hand a_Z_has a_Z_work a_Z_lead a_Z_tail a_Z_word a_Z_vector a_Z_system a_Z_now a_Z_next A Z_thrownCode Z_p Z_n Z_order Z_monomials Z_generators Z_upTo Z_members Z_lefts Z_vars Z_leadsFound Z_words Z_mono Z_row Z_basis Z_rest Z_product_r Z_known_r F C0 hK hA hN  F i1 i2 i3 i4 0 Z_product Z_known_1 hrun H locs ls hP hD hS (lv_sub hl [1, 2, 3, 4, 5, 0] rfl)
    · refine lv_aload_n hx hb d_Z_findProduct_76 rfl (lv_at hl 0 rfl) ?_
      refine va_get (D := D) (ci := 5) (v := .ref a_Z_product) (C := "RemnantDictionaryModel") (T := T_Z) (N := 30) hx hb hts iw_Z hown hK hP 0 rfl rfl 19 (by decide) (hts _ k_452) (fun _ h9 => h9) rfl d_Z_findProduct_77 ?_
      refine lv_iload hx hb d_Z_findProduct_80 (lv_at hl 4 rfl) ?_
      refine lv_aload_n hx hb d_Z_findProduct_82 rfl (lv_at hl 0 rfl) ?_
      refine lv_iload_n hx hb d_Z_findProduct_83 rfl (lv_at hl 3 rfl) ?_
      obtain ⟨r_3, hc, hrun⟩ := bd1_s hrun
      refine vp_callSi (W.runV (As := [.int i3]) (rest := [.int i4, .ref a_Z_product]) ⟨hx, hb, hml, hown, hts⟩ (c_zrestOf (gl X) D cI cL cZ a_Z a_Z_rest a_Z_mono a_Z_degree a_Z_generator a_Z_hand a_Z_has a_Z_row a_Z_work a_Z_basis a_Z_product a_Z_known a_Z_lead a_Z_tail a_Z_word a_Z_vector a_Z_system a_Z_now a_Z_next F Z_thrownCode Z_p Z_n Z_order Z_monomials Z_generators Z_upTo Z_members Z_lefts Z_vars Z_leadsFound Z_words Z_rest i3 r_3 hc) (cwV 1 hts (gwV k_456 k_454 k_455 k_333 k_447) rfl rfl rfl (by decide +kernel) ⟨Nat.le_of_ble_eq_true rfl, Nat.le_of_ble_eq_true rfl⟩) (gpreV (hP.sub (ws' := (ws_zrestOf a_Z a_Z_rest a_Z_mono a_Z_degree a_Z_generator a_Z_hand a_Z_has a_Z_row a_Z_work a_Z_basis a_Z_product a_Z_known a_Z_lead a_Z_tail a_Z_word a_Z_vector a_Z_system a_Z_now a_Z_next cI cL cZ Z_thrownCode Z_p Z_n Z_order Z_monomials Z_generators Z_upTo Z_members Z_lefts Z_vars Z_leadsFound Z_words Z_rest)) [0, 4] rfl) hK hN 5 0 rfl rfl) rfl rfl hl.1 rfl (lv_room (Nat.le_of_ble_eq_true rfl)) d_Z_findProduct_84 ⟨Nat.le_of_ble_eq_true rfl, Nat.le_of_ble_eq_true rfl⟩) (nm_e ?_)
      refine lv_iadd hx hb d_Z_findProduct_87 ?_
      refine lv_iconst (v := 1) hx hb d_Z_findProduct_88 (by decide) ?_
      refine g_iast hx hb hK hP hD hS 5 0 rfl rfl hrun d_Z_findProduct_89 (fun Z_product_4 hrun H locs (hP : va_P D classes (ws_zfindProduct a_Z a_Z_mono a_Z_row a_Z_basis a_Z_rest a_Z_product a_Z_known a_Z_degree a_Z_generator a_Z_hand a_Z_has a_Z_work a_Z_lead a_Z_tail a_Z_word a_Z_vector a_Z_system a_Z_now a_Z_next cI cL cZ Z_thrownCode Z_p Z_n Z_order Z_monomials Z_generators Z_upTo Z_members Z_lefts Z_vars Z_leadsFound Z_words Z_mono Z_row Z_basis Z_rest Z_product_4 Z_known_1) H) (hD : va_D A (ws_zfindProduct a_Z a_Z_mono a_Z_row a_Z_basis a_Z_rest a_Z_product a_Z_known a_Z_degree a_Z_generator a_Z_hand a_Z_has a_Z_work a_Z_lead a_Z_tail a_Z_word a_Z_vector a_Z_system a_Z_now a_Z_next cI cL cZ Z_thrownCode Z_p Z_n Z_order Z_monomials Z_generators Z_upTo Z_members Z_lefts Z_vars Z_leadsFound Z_words Z_mono Z_row Z_basis Z_rest Z_product_4 Z_known_1)) hS => ?_)
      cases hrun
      exact W.vret hx hb hr (fun t ht hW => ⟨⟨(), rfl, trivial, gB_of ht hW.alike hP hK hD⟩, hS.F ht⟩) hS.2.2 d_Z_findProduct_90
  · refine lv_aload_n hx hb d_Z_findProduct_39 rfl (lv_at hl 0 rfl) ?_
    refine va_get (D := D) (ci := 5) (v := .ref a_Z_product) (C := "RemnantDictionaryModel") (T := T_Z) (N := 30) hx hb hts iw_Z hown hK hP 0 rfl rfl 19 (by decide) (hts _ k_452) (fun _ h9 => h9) rfl d_Z_findProduct_40 ?_
    refine lv_iload hx hb d_Z_findProduct_43 (lv_at hl 4 rfl) ?_
    refine lv_iload hx hb d_Z_findProduct_45 (lv_at hl 5 rfl) ?_
    refine lv_iadd hx hb d_Z_findProduct_47 ?_
    refine lv_iconst (v := 0) hx hb d_Z_findProduct_48 (by decide) ?_
    refine g_iast hx hb hK hP hD hS 5 0 rfl rfl hrun d_Z_findProduct_49 (fun Z_product_5 hrun H locs (hP : va_P D classes (ws_zfindProduct a_Z a_Z_mono a_Z_row a_Z_basis a_Z_rest a_Z_product a_Z_known a_Z_degree a_Z_generator a_Z_hand a_Z_has a_Z_work a_Z_lead a_Z_tail a_Z_word a_Z_vector a_Z_system a_Z_now a_Z_next cI cL cZ Z_thrownCode Z_p Z_n Z_order Z_monomials Z_generators Z_upTo Z_members Z_lefts Z_vars Z_leadsFound Z_words Z_mono Z_row Z_basis Z_rest Z_product_5 Z_known) H) (hD : va_D A (ws_zfindProduct a_Z a_Z_mono a_Z_row a_Z_basis a_Z_rest a_Z_product a_Z_known a_Z_degree a_Z_generator a_Z_hand a_Z_has a_Z_work a_Z_lead a_Z_tail a_Z_word a_Z_vector a_Z_system a_Z_now a_Z_next cI cL cZ Z_thrownCode Z_p Z_n Z_order Z_monomials Z_generators Z_upTo Z_members Z_lefts Z_vars Z_leadsFound Z_words Z_mono Z_row Z_basis Z_rest Z_product_5 Z_known)) hS => ?_)
    refine lv_iinc (v := (i5 + 1)) (lv' := [(5, .int (i5 + 1)), (0, .ref a_Z), (1, .int i1), (2, .int i2), (3, .int i3), (4, .int i4)]) hx hb d_Z_findProduct_50 hl (k := 5) rfl rfl (by decide) rfl (fun ls hl => ?_)
    refine lv_goto (tgt := 32) hx hb d_Z_findProduct_53 (by decide) ?_
    exact hk32 i1 i2 i3 i4 (i5 + 1) Z_product_5 Z_known hrun H locs ls hP hD hS (lv_sub hl [1, 2, 3, 4, 5, 0] rfl)
theorem v_zfindProduct_32 (X : gX) (D : va_G) (cI cL cZ : ClassId) (a_Z a_Z_mono a_Z_row a_Z_basis a_Z_rest a_Z_product a_Z_known a_Z_degree a_Z_generator a_Z_hand a_Z_has a_Z_work a_Z_lead a_Z_tail a_Z_word a_Z_vector a_Z_system a_Z_now a_Z_next : Nat) (A : Nat → Prop) (Z_thrownCode Z_p Z_n Z_order Z_monomials Z_generators Z_upTo Z_members Z_lefts Z_vars Z_leadsFound Z_words : Int32) (Z_mono Z_row Z_basis Z_rest Z_product_r Z_known_r : Nat → Int32) (F : Nat) (C0 : gC X c_Z_findProductb none 11 "RemnantDictionaryModel" gAll) (hK : va_K D classes (gT cI cL cZ) (gs X)) (hA : ∀ q : Nat, (gs X).heap.size ≤ q → A q) (hN : gN (gs X))  : ∀ (n : Nat) (i1 i2 i3 i4 i5 : Int32) (Z_product Z_known : Nat → Int32), b_zfindProduct_32 F Z_lefts Z_members Z_p Z_mono Z_row Z_basis Z_rest n i1 i2 i3 i4 i5 Z_product Z_known = some (Z_product_r, Z_known_r) → g_zfindProduct X D cI cL cZ a_Z a_Z_mono a_Z_row a_Z_basis a_Z_rest a_Z_product a_Z_known a_Z_degree a_Z_generator a_Z_hand a_Z_has a_Z_work a_Z_lead a_Z_tail a_Z_word a_Z_vector a_Z_system a_Z_now a_Z_next A Z_thrownCode Z_p Z_n Z_order Z_monomials Z_generators Z_upTo Z_members Z_lefts Z_vars Z_leadsFound Z_words Z_mono Z_row Z_basis Z_rest Z_product_r Z_known_r 32 [(0, .ref a_Z), (1, .int i1), (2, .int i2), (3, .int i3), (4, .int i4), (5, .int i5)] [] Z_product Z_known := by
  intro n
  induction n with
  | zero => intro i1 i2 i3 i4 i5 Z_product Z_known hrun; cases hrun
  | succ n ih =>
    intro i1 i2 i3 i4 i5 Z_product Z_known hrun
    exact w_zfindProduct_32 X D cI cL cZ a_Z a_Z_mono a_Z_row a_Z_basis a_Z_rest a_Z_product a_Z_known a_Z_degree a_Z_generator a_Z_hand a_Z_has a_Z_work a_Z_lead a_Z_tail a_Z_word a_Z_vector a_Z_system a_Z_now a_Z_next A Z_thrownCode Z_p Z_n Z_order Z_monomials Z_generators Z_upTo Z_members Z_lefts Z_vars Z_leadsFound Z_words Z_mono Z_row Z_basis Z_rest Z_product_r Z_known_r F C0 hK hA hN (b_zfindProduct_32 F Z_lefts Z_members Z_p Z_mono Z_row Z_basis Z_rest n) ih i1 i2 i3 i4 i5 Z_product Z_known hrun
set_option maxHeartbeats 4000000 in
set_option maxRecDepth 100000 in
theorem e_zfindProduct (X : gX) (D : va_G) (cI cL cZ : ClassId) (a_Z a_Z_mono a_Z_row a_Z_basis a_Z_rest a_Z_product a_Z_known a_Z_degree a_Z_generator a_Z_hand a_Z_has a_Z_work a_Z_lead a_Z_tail a_Z_word a_Z_vector a_Z_system a_Z_now a_Z_next : Nat) (A : Nat → Prop) (Z_thrownCode Z_p Z_n Z_order Z_monomials Z_generators Z_upTo Z_members Z_lefts Z_vars Z_leadsFound Z_words : Int32) (Z_mono Z_row Z_basis Z_rest Z_product_r Z_known_r : Nat → Int32) (F : Nat) (C0 : gC X c_Z_findProductb none 11 "RemnantDictionaryModel" gAll) (hK : va_K D classes (gT cI cL cZ) (gs X)) (hA : ∀ q : Nat, (gs X).heap.size ≤ q → A q) (hN : gN (gs X)) (i1 i2 : Int32) (Z_product Z_known : Nat → Int32) (hrun : m_zfindProduct F Z_lefts Z_members Z_p Z_mono Z_row Z_basis Z_rest i1 i2 Z_product Z_known = some (Z_product_r, Z_known_r)) : g_zfindProduct X D cI cL cZ a_Z a_Z_mono a_Z_row a_Z_basis a_Z_rest a_Z_product a_Z_known a_Z_degree a_Z_generator a_Z_hand a_Z_has a_Z_work a_Z_lead a_Z_tail a_Z_word a_Z_vector a_Z_system a_Z_now a_Z_next A Z_thrownCode Z_p Z_n Z_order Z_monomials Z_generators Z_upTo Z_members Z_lefts Z_vars Z_leadsFound Z_words Z_mono Z_row Z_basis Z_rest Z_product_r Z_known_r 0 [(0, .ref a_Z), (1, .int i1), (2, .int i2)] [] Z_product Z_known := by
  have C1 := C0
  obtain ⟨hx, hb, hr, hml, hown, hts, hlocks⟩ := C1
  unfold m_zfindProduct at hrun
  intro H locs ls hP hD hS hl
  refine lv_aload_n hx hb d_Z_findProduct_0 rfl (lv_at hl 0 rfl) ?_
  refine va_get (D := D) (ci := 5) (v := .ref a_Z_rest) (C := "RemnantDictionaryModel") (T := T_Z) (N := 30) hx hb hts iw_Z hown hK hP 0 rfl rfl 18 (by decide) (hts _ k_446) (fun _ h9 => h9) rfl d_Z_findProduct_1 ?_
  refine lv_iload_n hx hb d_Z_findProduct_4 rfl (lv_at hl 2 rfl) ?_
  refine g_iald hx hb hK hP 4 0 rfl rfl hrun d_Z_findProduct_5 (fun x_1 hrun => ?_)
  refine lv_iconst (v := 1) hx hb d_Z_findProduct_6 (by decide) ?_
  refine lv_bipush (v := 24) hx hb d_Z_findProduct_7 (by decide) ?_
  refine lv_bipush (v := 8) hx hb d_Z_findProduct_9 (by decide) ?_
  refine lv_iload_n hx hb d_Z_findProduct_11 rfl (lv_at hl 1 rfl) ?_
  refine lv_imul hx hb d_Z_findProduct_12 ?_
  refine lv_isub hx hb d_Z_findProduct_13 ?_
  refine g_ishl hx hb d_Z_findProduct_14 ?_
  refine lv_iadd hx hb d_Z_findProduct_15 ?_
  refine lv_istore_n (lv' := [(3, .int (x_1 + (shlI 1 (24 - (8 * i1))))), (0, .ref a_Z), (1, .int i1), (2, .int i2)]) hx hb d_Z_findProduct_16 rfl hl (by decide) rfl (fun ls hl => ?_)
  refine lv_sipush (v := 1600) hx hb d_Z_findProduct_17 (by decide) ?_
  refine lv_iload_n hx hb d_Z_findProduct_20 rfl (lv_at hl 2 rfl) ?_
  refine lv_imul hx hb d_Z_findProduct_21 ?_
  refine lv_bipush (v := 40) hx hb d_Z_findProduct_22 (by decide) ?_
  refine lv_iload_n hx hb d_Z_findProduct_24 rfl (lv_at hl 3 rfl) ?_
  refine lv_imul hx hb d_Z_findProduct_25 ?_
  refine lv_iadd hx hb d_Z_findProduct_26 ?_
  refine lv_istore (lv' := [(4, .int ((1600 * i1) + (40 * i2))), (3, .int (x_1 + (shlI 1 (24 - (8 * i1))))), (0, .ref a_Z), (1, .int i1), (2, .int i2)]) hx hb d_Z_findProduct_27 hl (by decide) rfl (fun ls hl => ?_)
  refine lv_iconst (v := 0) hx hb d_Z_findProduct_29 (by decide) ?_
  refine lv_istore (lv' := [(5, .int 0), (4, .int ((1600 * i1) + (40 * i2))), (3, .int (x_1 + (shlI 1 (24 - (8 * i1))))), (0, .ref a_Z), (1, .int i1), (2, .int i2)]) hx hb d_Z_findProduct_30 hl (by decide) rfl (fun ls hl => ?_)
  exact v_zfindProduct_32 X D cI cL cZ a_Z a_Z_mono a_Z_row a_Z_basis a_Z_rest a_Z_product a_Z_known a_Z_degree a_Z_generator a_Z_hand a_Z_has a_Z_work a_Z_lead a_Z_tail a_Z_word a_Z_vector a_Z_system a_Z_now a_Z_next A Z_thrownCode Z_p Z_n Z_order Z_monomials Z_generators Z_upTo Z_members Z_lefts Z_vars Z_leadsFound Z_words Z_mono Z_row Z_basis Z_rest Z_product_r Z_known_r F C0 hK hA hN  F i1 i2 (x_1 + (shlI 1 (24 - (8 * i1)))) ((1600 * i1) + (40 * i2)) 0 Z_product Z_known hrun H locs ls hP hD hS (lv_sub hl [3, 4, 5, 2, 1, 0] rfl)
set_option maxHeartbeats 4000000 in
set_option maxRecDepth 100000 in
theorem c_zfindProduct (l : Launch) (D : va_G) (cI cL cZ : ClassId) (a_Z a_Z_mono a_Z_row a_Z_basis a_Z_rest a_Z_product a_Z_known a_Z_degree a_Z_generator a_Z_hand a_Z_has a_Z_work a_Z_lead a_Z_tail a_Z_word a_Z_vector a_Z_system a_Z_now a_Z_next : Nat) (F : Nat) (Z_thrownCode Z_p Z_n Z_order Z_monomials Z_generators Z_upTo Z_members Z_lefts Z_vars Z_leadsFound Z_words : Int32) (Z_mono Z_row Z_basis Z_rest Z_product Z_known : Nat → Int32) (i1 i2 : Int32) (sz : Nat) (Z_product_r Z_known_r : Nat → Int32) (hrun : m_zfindProduct F Z_lefts Z_members Z_p Z_mono Z_row Z_basis Z_rest i1 i2 Z_product Z_known = some (Z_product_r, Z_known_r)) : Met l y_Z_findProduct (.code y_Z_findProduct c_Z_findProductb 11 none :: gAll) rm_zfindProduct (va_Pc [.ref a_Z, .int i1, .int i2] (gPW D (gT cI cL cZ) (ws_zfindProduct a_Z a_Z_mono a_Z_row a_Z_basis a_Z_rest a_Z_product a_Z_known a_Z_degree a_Z_generator a_Z_hand a_Z_has a_Z_work a_Z_lead a_Z_tail a_Z_word a_Z_vector a_Z_system a_Z_now a_Z_next cI cL cZ Z_thrownCode Z_p Z_n Z_order Z_monomials Z_generators Z_upTo Z_members Z_lefts Z_vars Z_leadsFound Z_words Z_mono Z_row Z_basis Z_rest Z_product Z_known) sz)) (va_Qv (fun _ : Unit => True) (gB D (gT cI cL cZ) (va_A (ws_zfindProduct a_Z a_Z_mono a_Z_row a_Z_basis a_Z_rest a_Z_product a_Z_known a_Z_degree a_Z_generator a_Z_hand a_Z_has a_Z_work a_Z_lead a_Z_tail a_Z_word a_Z_vector a_Z_system a_Z_now a_Z_next cI cL cZ Z_thrownCode Z_p Z_n Z_order Z_monomials Z_generators Z_upTo Z_members Z_lefts Z_vars Z_leadsFound Z_words Z_mono Z_row Z_basis Z_rest Z_product Z_known) sz) (ws_zfindProduct a_Z a_Z_mono a_Z_row a_Z_basis a_Z_rest a_Z_product a_Z_known a_Z_degree a_Z_generator a_Z_hand a_Z_has a_Z_work a_Z_lead a_Z_tail a_Z_word a_Z_vector a_Z_system a_Z_now a_Z_next cI cL cZ Z_thrownCode Z_p Z_n Z_order Z_monomials Z_generators Z_upTo Z_members Z_lefts Z_vars Z_leadsFound Z_words Z_mono Z_row Z_basis Z_rest Z_product_r Z_known_r)) (va_A (ws_zfindProduct a_Z a_Z_mono a_Z_row a_Z_basis a_Z_rest a_Z_product a_Z_known a_Z_degree a_Z_generator a_Z_hand a_Z_has a_Z_work a_Z_lead a_Z_tail a_Z_word a_Z_vector a_Z_system a_Z_now a_Z_next cI cL cZ Z_thrownCode Z_p Z_n Z_order Z_monomials Z_generators Z_upTo Z_members Z_lefts Z_vars Z_leadsFound Z_words Z_mono Z_row Z_basis Z_rest Z_product Z_known) sz)) 0 0 (va_A (ws_zfindProduct a_Z a_Z_mono a_Z_row a_Z_basis a_Z_rest a_Z_product a_Z_known a_Z_degree a_Z_generator a_Z_hand a_Z_has a_Z_work a_Z_lead a_Z_tail a_Z_word a_Z_vector a_Z_system a_Z_now a_Z_next cI cL cZ Z_thrownCode Z_p Z_n Z_order Z_monomials Z_generators Z_upTo Z_members Z_lefts Z_vars Z_leadsFound Z_words Z_mono Z_row Z_basis Z_rest Z_product Z_known) sz) := by
  refine Met.ofW (cc := c_Z_findProductb) (maxL := 11) (ret := none) (by decide +kernel) rfl ?_
  intro p e s m args below meth c s₁ B hml hv
  obtain ⟨rfl, hsz, hP, hK, hN, hD0⟩ := hv
  subst hsz
  have hD := hD0.self (sz := s.heap.size)
  have hl := lv_entry ([.ref a_Z, .int i1, .int i2]) (n := 11) (Nat.le_of_ble_eq_true rfl)
  rw [lg_entry_eq]
  generalize (lg_sl ([.ref a_Z, .int i1, .int i2]) ++ List.replicate (11 - (lg_sl ([.ref a_Z, .int i1, .int i2])).length) Slot.unset).toArray = ls at hl ⊢
  exact e_zfindProduct (p, l, e, s, m, ([.ref a_Z, .int i1, .int i2] : List Value).toArray, below, meth, c) D cI cL cZ a_Z a_Z_mono a_Z_row a_Z_basis a_Z_rest a_Z_product a_Z_known a_Z_degree a_Z_generator a_Z_hand a_Z_has a_Z_work a_Z_lead a_Z_tail a_Z_word a_Z_vector a_Z_system a_Z_now a_Z_next (va_A (ws_zfindProduct a_Z a_Z_mono a_Z_row a_Z_basis a_Z_rest a_Z_product a_Z_known a_Z_degree a_Z_generator a_Z_hand a_Z_has a_Z_work a_Z_lead a_Z_tail a_Z_word a_Z_vector a_Z_system a_Z_now a_Z_next cI cL cZ Z_thrownCode Z_p Z_n Z_order Z_monomials Z_generators Z_upTo Z_members Z_lefts Z_vars Z_leadsFound Z_words Z_mono Z_row Z_basis Z_rest Z_product Z_known) s.heap.size) Z_thrownCode Z_p Z_n Z_order Z_monomials Z_generators Z_upTo Z_members Z_lefts Z_vars Z_leadsFound Z_words Z_mono Z_row Z_basis Z_rest Z_product_r Z_known_r F ⟨B.exec, B.bytes, B.returns, hml, findClass_of_methodNamed B.named, fun w h => atoms_spec (ws := (.code y_Z_findProduct c_Z_findProductb 11 none :: gAll)) B.pre w (List.mem_cons_of_mem _ h), B.notSynchronized⟩ hK (fun q h => Or.inr h) hN i1 i2 Z_product Z_known hrun s.heap [] ls hP hD va_S.rf hl
theorem d_Z_findProducts_0 : decode c_Z_findProductsb 0 = .ok (.iconst 0, 1) := by decide +kernel
theorem d_Z_findProducts_1 : decode c_Z_findProductsb 1 = .ok (.istore_n 1, 1) := by decide +kernel
theorem d_Z_findProducts_2 : decode c_Z_findProductsb 2 = .ok (.iload_n 1, 1) := by decide +kernel
theorem d_Z_findProducts_3 : decode c_Z_findProductsb 3 = .ok (.sipush 160, 3) := by decide +kernel
theorem d_Z_findProducts_6 : decode c_Z_findProductsb 6 = .ok (.if_icmp .ge 16, 3) := by decide +kernel
theorem d_Z_findProducts_9 : decode c_Z_findProductsb 9 = .ok (.aload_n 0, 1) := by decide +kernel
theorem d_Z_findProducts_10 : decode c_Z_findProductsb 10 = .ok (.getfield 72, 3) := by decide +kernel
theorem d_Z_findProducts_13 : decode c_Z_findProductsb 13 = .ok (.iload_n 1, 1) := by decide +kernel
theorem d_Z_findProducts_14 : decode c_Z_findProductsb 14 = .ok (.iconst 0, 1) := by decide +kernel
theorem d_Z_findProducts_15 : decode c_Z_findProductsb 15 = .ok (.bastore, 1) := by decide +kernel
theorem d_Z_findProducts_16 : decode c_Z_findProductsb 16 = .ok (.iinc 1 1, 3) := by decide +kernel
theorem d_Z_findProducts_19 : decode c_Z_findProductsb 19 = .ok (.goto (-17), 3) := by decide +kernel
theorem d_Z_findProducts_22 : decode c_Z_findProductsb 22 = .ok (.iconst 0, 1) := by decide +kernel
theorem d_Z_findProducts_23 : decode c_Z_findProductsb 23 = .ok (.istore_n 1, 1) := by decide +kernel
theorem d_Z_findProducts_24 : decode c_Z_findProductsb 24 = .ok (.iload_n 1, 1) := by decide +kernel
theorem d_Z_findProducts_25 : decode c_Z_findProductsb 25 = .ok (.aload_n 0, 1) := by decide +kernel
theorem d_Z_findProducts_26 : decode c_Z_findProductsb 26 = .ok (.getfield 16, 3) := by decide +kernel
theorem d_Z_findProducts_29 : decode c_Z_findProductsb 29 = .ok (.aload_n 0, 1) := by decide +kernel
theorem d_Z_findProducts_30 : decode c_Z_findProductsb 30 = .ok (.getfield 60, 3) := by decide +kernel
theorem d_Z_findProducts_33 : decode c_Z_findProductsb 33 = .ok (.imul, 1) := by decide +kernel
theorem d_Z_findProducts_34 : decode c_Z_findProductsb 34 = .ok (.if_icmp .ge 137, 3) := by decide +kernel
theorem d_Z_findProducts_37 : decode c_Z_findProductsb 37 = .ok (.iconst (-1), 1) := by decide +kernel
theorem d_Z_findProducts_38 : decode c_Z_findProductsb 38 = .ok (.istore_n 2, 1) := by decide +kernel
theorem d_Z_findProducts_39 : decode c_Z_findProductsb 39 = .ok (.iconst 0, 1) := by decide +kernel
theorem d_Z_findProducts_40 : decode c_Z_findProductsb 40 = .ok (.istore_n 3, 1) := by decide +kernel
theorem d_Z_findProducts_41 : decode c_Z_findProductsb 41 = .ok (.iload_n 3, 1) := by decide +kernel
theorem d_Z_findProducts_42 : decode c_Z_findProductsb 42 = .ok (.aload_n 0, 1) := by decide +kernel
theorem d_Z_findProducts_43 : decode c_Z_findProductsb 43 = .ok (.getfield 16, 3) := by decide +kernel
theorem d_Z_findProducts_46 : decode c_Z_findProductsb 46 = .ok (.aload_n 0, 1) := by decide +kernel
theorem d_Z_findProducts_47 : decode c_Z_findProductsb 47 = .ok (.getfield 60, 3) := by decide +kernel
theorem d_Z_findProducts_50 : decode c_Z_findProductsb 50 = .ok (.imul, 1) := by decide +kernel
theorem d_Z_findProducts_51 : decode c_Z_findProductsb 51 = .ok (.if_icmp .ge 98, 3) := by decide +kernel
theorem d_Z_findProducts_54 : decode c_Z_findProductsb 54 = .ok (.iload_n 3, 1) := by decide +kernel
theorem d_Z_findProducts_55 : decode c_Z_findProductsb 55 = .ok (.aload_n 0, 1) := by decide +kernel
theorem d_Z_findProducts_56 : decode c_Z_findProductsb 56 = .ok (.getfield 60, 3) := by decide +kernel
theorem d_Z_findProducts_59 : decode c_Z_findProductsb 59 = .ok (.idiv, 1) := by decide +kernel
theorem d_Z_findProducts_60 : decode c_Z_findProductsb 60 = .ok (.istore 4, 2) := by decide +kernel
theorem d_Z_findProducts_62 : decode c_Z_findProductsb 62 = .ok (.iload_n 3, 1) := by decide +kernel
theorem d_Z_findProducts_63 : decode c_Z_findProductsb 63 = .ok (.aload_n 0, 1) := by decide +kernel
theorem d_Z_findProducts_64 : decode c_Z_findProductsb 64 = .ok (.getfield 60, 3) := by decide +kernel
theorem d_Z_findProducts_67 : decode c_Z_findProductsb 67 = .ok (.irem, 1) := by decide +kernel
theorem d_Z_findProducts_68 : decode c_Z_findProductsb 68 = .ok (.istore 5, 2) := by decide +kernel
theorem d_Z_findProducts_70 : decode c_Z_findProductsb 70 = .ok (.aload_n 0, 1) := by decide +kernel
theorem d_Z_findProducts_71 : decode c_Z_findProductsb 71 = .ok (.getfield 72, 3) := by decide +kernel
theorem d_Z_findProducts_74 : decode c_Z_findProductsb 74 = .ok (.bipush 40, 2) := by decide +kernel
theorem d_Z_findProducts_76 : decode c_Z_findProductsb 76 = .ok (.iload 4, 2) := by decide +kernel
theorem d_Z_findProducts_78 : decode c_Z_findProductsb 78 = .ok (.imul, 1) := by decide +kernel
theorem d_Z_findProducts_79 : decode c_Z_findProductsb 79 = .ok (.iload 5, 2) := by decide +kernel
theorem d_Z_findProducts_81 : decode c_Z_findProductsb 81 = .ok (.iadd, 1) := by decide +kernel
theorem d_Z_findProducts_82 : decode c_Z_findProductsb 82 = .ok (.baload, 1) := by decide +kernel
theorem d_Z_findProducts_83 : decode c_Z_findProductsb 83 = .ok (.ifCond .ne 60, 3) := by decide +kernel
theorem d_Z_findProducts_86 : decode c_Z_findProductsb 86 = .ok (.iload_n 2, 1) := by decide +kernel
theorem d_Z_findProducts_87 : decode c_Z_findProductsb 87 = .ok (.ifCond .lt 54, 3) := by decide +kernel
theorem d_Z_findProducts_90 : decode c_Z_findProductsb 90 = .ok (.aload_n 0, 1) := by decide +kernel
theorem d_Z_findProducts_91 : decode c_Z_findProductsb 91 = .ok (.aload_n 0, 1) := by decide +kernel
theorem d_Z_findProducts_92 : decode c_Z_findProductsb 92 = .ok (.getfield 66, 3) := by decide +kernel
theorem d_Z_findProducts_95 : decode c_Z_findProductsb 95 = .ok (.iload_n 2, 1) := by decide +kernel
theorem d_Z_findProducts_96 : decode c_Z_findProductsb 96 = .ok (.aload_n 0, 1) := by decide +kernel
theorem d_Z_findProducts_97 : decode c_Z_findProductsb 97 = .ok (.getfield 60, 3) := by decide +kernel
theorem d_Z_findProducts_100 : decode c_Z_findProductsb 100 = .ok (.irem, 1) := by decide +kernel
theorem d_Z_findProducts_101 : decode c_Z_findProductsb 101 = .ok (.iaload, 1) := by decide +kernel
theorem d_Z_findProducts_102 : decode c_Z_findProductsb 102 = .ok (.iconst 1, 1) := by decide +kernel
theorem d_Z_findProducts_103 : decode c_Z_findProductsb 103 = .ok (.bipush 24, 2) := by decide +kernel
theorem d_Z_findProducts_105 : decode c_Z_findProductsb 105 = .ok (.bipush 8, 2) := by decide +kernel
theorem d_Z_findProducts_107 : decode c_Z_findProductsb 107 = .ok (.iload_n 2, 1) := by decide +kernel
theorem d_Z_findProducts_108 : decode c_Z_findProductsb 108 = .ok (.aload_n 0, 1) := by decide +kernel
theorem d_Z_findProducts_109 : decode c_Z_findProductsb 109 = .ok (.getfield 60, 3) := by decide +kernel
theorem d_Z_findProducts_112 : decode c_Z_findProductsb 112 = .ok (.idiv, 1) := by decide +kernel
theorem d_Z_findProducts_113 : decode c_Z_findProductsb 113 = .ok (.imul, 1) := by decide +kernel
theorem d_Z_findProducts_114 : decode c_Z_findProductsb 114 = .ok (.isub, 1) := by decide +kernel
theorem d_Z_findProducts_115 : decode c_Z_findProductsb 115 = .ok (.ishl, 1) := by decide +kernel
theorem d_Z_findProducts_116 : decode c_Z_findProductsb 116 = .ok (.iadd, 1) := by decide +kernel
theorem d_Z_findProducts_117 : decode c_Z_findProductsb 117 = .ok (.aload_n 0, 1) := by decide +kernel
theorem d_Z_findProducts_118 : decode c_Z_findProductsb 118 = .ok (.getfield 66, 3) := by decide +kernel
theorem d_Z_findProducts_121 : decode c_Z_findProductsb 121 = .ok (.iload 5, 2) := by decide +kernel
theorem d_Z_findProducts_123 : decode c_Z_findProductsb 123 = .ok (.iaload, 1) := by decide +kernel
theorem d_Z_findProducts_124 : decode c_Z_findProductsb 124 = .ok (.iconst 1, 1) := by decide +kernel
theorem d_Z_findProducts_125 : decode c_Z_findProductsb 125 = .ok (.bipush 24, 2) := by decide +kernel
theorem d_Z_findProducts_127 : decode c_Z_findProductsb 127 = .ok (.bipush 8, 2) := by decide +kernel
theorem d_Z_findProducts_129 : decode c_Z_findProductsb 129 = .ok (.iload 4, 2) := by decide +kernel
theorem d_Z_findProducts_131 : decode c_Z_findProductsb 131 = .ok (.imul, 1) := by decide +kernel
theorem d_Z_findProducts_132 : decode c_Z_findProductsb 132 = .ok (.isub, 1) := by decide +kernel
theorem d_Z_findProducts_133 : decode c_Z_findProductsb 133 = .ok (.ishl, 1) := by decide +kernel
theorem d_Z_findProducts_134 : decode c_Z_findProductsb 134 = .ok (.iadd, 1) := by decide +kernel
theorem d_Z_findProducts_135 : decode c_Z_findProductsb 135 = .ok (.invokevirtual 121, 3) := by decide +kernel
theorem d_Z_findProducts_138 : decode c_Z_findProductsb 138 = .ok (.ifCond .eq 5, 3) := by decide +kernel
theorem d_Z_findProducts_141 : decode c_Z_findProductsb 141 = .ok (.iload_n 3, 1) := by decide +kernel
theorem d_Z_findProducts_142 : decode c_Z_findProductsb 142 = .ok (.istore_n 2, 1) := by decide +kernel
theorem d_Z_findProducts_143 : decode c_Z_findProductsb 143 = .ok (.iinc 3 1, 3) := by decide +kernel
theorem d_Z_findProducts_146 : decode c_Z_findProductsb 146 = .ok (.goto (-105), 3) := by decide +kernel
theorem d_Z_findProducts_149 : decode c_Z_findProductsb 149 = .ok (.aload_n 0, 1) := by decide +kernel
theorem d_Z_findProducts_150 : decode c_Z_findProductsb 150 = .ok (.iload_n 2, 1) := by decide +kernel
theorem d_Z_findProducts_151 : decode c_Z_findProductsb 151 = .ok (.aload_n 0, 1) := by decide +kernel
theorem d_Z_findProducts_152 : decode c_Z_findProductsb 152 = .ok (.getfield 60, 3) := by decide +kernel
theorem d_Z_findProducts_155 : decode c_Z_findProductsb 155 = .ok (.idiv, 1) := by decide +kernel
theorem d_Z_findProducts_156 : decode c_Z_findProductsb 156 = .ok (.iload_n 2, 1) := by decide +kernel
theorem d_Z_findProducts_157 : decode c_Z_findProductsb 157 = .ok (.aload_n 0, 1) := by decide +kernel
theorem d_Z_findProducts_158 : decode c_Z_findProductsb 158 = .ok (.getfield 60, 3) := by decide +kernel
theorem d_Z_findProducts_161 : decode c_Z_findProductsb 161 = .ok (.irem, 1) := by decide +kernel
theorem d_Z_findProducts_162 : decode c_Z_findProductsb 162 = .ok (.invokevirtual 165, 3) := by decide +kernel
theorem d_Z_findProducts_165 : decode c_Z_findProductsb 165 = .ok (.iinc 1 1, 3) := by decide +kernel
theorem d_Z_findProducts_168 : decode c_Z_findProductsb 168 = .ok (.goto (-144), 3) := by decide +kernel
theorem d_Z_findProducts_171 : decode c_Z_findProductsb 171 = .ok (.return_, 1) := by decide +kernel
abbrev ws_zfindProducts (a_Z a_Z_mono a_Z_row a_Z_basis a_Z_rest a_Z_product a_Z_known a_Z_degree a_Z_generator a_Z_hand a_Z_has a_Z_work a_Z_lead a_Z_tail a_Z_word a_Z_vector a_Z_system a_Z_now a_Z_next : Nat) (cI cL cZ : ClassId) (Z_thrownCode Z_p Z_n Z_order Z_monomials Z_generators Z_upTo Z_members Z_lefts Z_vars Z_leadsFound Z_words : Int32) (Z_mono Z_row Z_basis Z_rest Z_product Z_known : Nat → Int32) : va_W := [(a_Z, .inr (5, [.int Z_thrownCode, .int Z_p, .int Z_n, .int Z_order, .int Z_monomials, .ref a_Z_mono, .ref a_Z_degree, .int Z_generators, .ref a_Z_generator, .ref a_Z_hand, .int Z_upTo, .ref a_Z_has, .ref a_Z_row, .ref a_Z_work, .ref a_Z_basis, .int Z_members, .int Z_lefts, .int Z_vars, .ref a_Z_rest, .ref a_Z_product, .ref a_Z_known, .int Z_leadsFound, .ref a_Z_lead, .ref a_Z_tail, .int Z_words, .ref a_Z_word, .ref a_Z_vector, .ref a_Z_system, .ref a_Z_now, .ref a_Z_next])), (a_Z_mono, .inl (cI, 126, .inl Z_mono)), (a_Z_row, .inl (cI, 15876, .inl Z_row)), (a_Z_basis, .inl (cI, 126, .inl Z_basis)), (a_Z_rest, .inl (cI, 41, .inl Z_rest)), (a_Z_product, .inl (cI, 6400, .inl Z_product)), (a_Z_known, .inl (cZ, 160, .inl Z_known))]
abbrev rm_zfindProducts : Room := { frames := 4, cells := 0, slots := 0, locals := 95 }
abbrev g_zfindProducts (X : gX) (D : va_G) (cI cL cZ : ClassId) (a_Z a_Z_mono a_Z_row a_Z_basis a_Z_rest a_Z_product a_Z_known a_Z_degree a_Z_generator a_Z_hand a_Z_has a_Z_work a_Z_lead a_Z_tail a_Z_word a_Z_vector a_Z_system a_Z_now a_Z_next : Nat) (A : Nat → Prop) (Z_thrownCode Z_p Z_n Z_order Z_monomials Z_generators Z_upTo Z_members Z_lefts Z_vars Z_leadsFound Z_words : Int32) (Z_mono Z_row Z_basis Z_rest Z_product_r Z_known_r : Nat → Int32) (pc : Nat) (lv : List (Nat × Value)) (st : List Value) (Z_product Z_known : Nat → Int32) : Prop := ∀ (H : Heap) (locs : List Loc) (ls : Array Slot), va_P D classes (ws_zfindProducts a_Z a_Z_mono a_Z_row a_Z_basis a_Z_rest a_Z_product a_Z_known a_Z_degree a_Z_generator a_Z_hand a_Z_has a_Z_work a_Z_lead a_Z_tail a_Z_word a_Z_vector a_Z_system a_Z_now a_Z_next cI cL cZ Z_thrownCode Z_p Z_n Z_order Z_monomials Z_generators Z_upTo Z_members Z_lefts Z_vars Z_leadsFound Z_words Z_mono Z_row Z_basis Z_rest Z_product Z_known) H → va_D A (ws_zfindProducts a_Z a_Z_mono a_Z_row a_Z_basis a_Z_rest a_Z_product a_Z_known a_Z_degree a_Z_generator a_Z_hand a_Z_has a_Z_work a_Z_lead a_Z_tail a_Z_word a_Z_vector a_Z_system a_Z_now a_Z_next cI cL cZ Z_thrownCode Z_p Z_n Z_order Z_monomials Z_generators Z_upTo Z_members Z_lefts Z_vars Z_leadsFound Z_words Z_mono Z_row Z_basis Z_rest Z_product Z_known) → va_S A (gs X).heap H locs → lv_has ls 6 lv → gWW X rm_zfindProducts H locs 0 0 (MQ (gbl X) (va_Qv (fun _ : Unit => True) (gB D (gT cI cL cZ) A (ws_zfindProducts a_Z a_Z_mono a_Z_row a_Z_basis a_Z_rest a_Z_product a_Z_known a_Z_degree a_Z_generator a_Z_hand a_Z_has a_Z_work a_Z_lead a_Z_tail a_Z_word a_Z_vector a_Z_system a_Z_now a_Z_next cI cL cZ Z_thrownCode Z_p Z_n Z_order Z_monomials Z_generators Z_upTo Z_members Z_lefts Z_vars Z_leadsFound Z_words Z_mono Z_row Z_basis Z_rest Z_product_r Z_known_r)) A) (ga X) (gs X) 0 0 A) (F0 (gm X) pc ls st)
set_option maxHeartbeats 4000000 in
set_option maxRecDepth 100000 in
theorem w_zfindProducts_41 (X : gX) (D : va_G) (cI cL cZ : ClassId) (a_Z a_Z_mono a_Z_row a_Z_basis a_Z_rest a_Z_product a_Z_known a_Z_degree a_Z_generator a_Z_hand a_Z_has a_Z_work a_Z_lead a_Z_tail a_Z_word a_Z_vector a_Z_system a_Z_now a_Z_next : Nat) (A : Nat → Prop) (Z_thrownCode Z_p Z_n Z_order Z_monomials Z_generators Z_upTo Z_members Z_lefts Z_vars Z_leadsFound Z_words : Int32) (Z_mono Z_row Z_basis Z_rest Z_product_r Z_known_r : Nat → Int32) (F : Nat) (C0 : gC X c_Z_findProductsb none 6 "RemnantDictionaryModel" gAll) (hK : va_K D classes (gT cI cL cZ) (gs X)) (hA : ∀ q : Nat, (gs X).heap.size ≤ q → A q) (hN : gN (gs X)) (k24 : Int32 → (Nat → Int32) → (Nat → Int32) → Option ((Nat → Int32) × (Nat → Int32))) (hk24 : ∀ (i1 : Int32) (Z_product Z_known : Nat → Int32), k24 i1 Z_product Z_known = some (Z_product_r, Z_known_r) → g_zfindProducts X D cI cL cZ a_Z a_Z_mono a_Z_row a_Z_basis a_Z_rest a_Z_product a_Z_known a_Z_degree a_Z_generator a_Z_hand a_Z_has a_Z_work a_Z_lead a_Z_tail a_Z_word a_Z_vector a_Z_system a_Z_now a_Z_next A Z_thrownCode Z_p Z_n Z_order Z_monomials Z_generators Z_upTo Z_members Z_lefts Z_vars Z_leadsFound Z_words Z_mono Z_row Z_basis Z_rest Z_product_r Z_known_r 24 [(0, .ref a_Z), (1, .int i1)] [] Z_product Z_known) (k41 : Int32 → Int32 → Int32 → (Nat → Int32) → (Nat → Int32) → Option ((Nat → Int32) × (Nat → Int32))) (hk41 : ∀ (i1 i2 i3 : Int32) (Z_product Z_known : Nat → Int32), k41 i1 i2 i3 Z_product Z_known = some (Z_product_r, Z_known_r) → g_zfindProducts X D cI cL cZ a_Z a_Z_mono a_Z_row a_Z_basis a_Z_rest a_Z_product a_Z_known a_Z_degree a_Z_generator a_Z_hand a_Z_has a_Z_work a_Z_lead a_Z_tail a_Z_word a_Z_vector a_Z_system a_Z_now a_Z_next A Z_thrownCode Z_p Z_n Z_order Z_monomials Z_generators Z_upTo Z_members Z_lefts Z_vars Z_leadsFound Z_words Z_mono Z_row Z_basis Z_rest Z_product_r Z_known_r 41 [(0, .ref a_Z), (1, .int i1), (2, .int i2), (3, .int i3)] [] Z_product Z_known) (i1 i2 i3 : Int32) (Z_product Z_known : Nat → Int32) (hrun : s_zfindProducts_41 F Z_lefts Z_members Z_n Z_order Z_p Z_mono Z_row Z_basis Z_rest k24 k41 i1 i2 i3 Z_product Z_known = some (Z_product_r, Z_known_r)) : g_zfindProducts X D cI cL cZ a_Z a_Z_mono a_Z_row a_Z_basis a_Z_rest a_Z_product a_Z_known a_Z_degree a_Z_generator a_Z_hand a_Z_has a_Z_work a_Z_lead a_Z_tail a_Z_word a_Z_vector a_Z_system a_Z_now a_Z_next A Z_thrownCode Z_p Z_n Z_order Z_monomials Z_generators Z_upTo Z_members Z_lefts Z_vars Z_leadsFound Z_words Z_mono Z_row Z_basis Z_rest Z_product_r Z_known_r 41 [(0, .ref a_Z), (1, .int i1), (2, .int i2), (3, .int i3)] [] Z_product Z_known := by
  have C1 := C0
  obtain ⟨hx, hb, hr, hml, hown, hts, hlocks⟩ := C1
  unfold s_zfindProducts_41 at hrun
  intro H locs ls hP hD hS hl
  refine lv_iload_n hx hb d_Z_findProducts_41 rfl (lv_at hl 3 rfl) ?_
  refine lv_aload_n hx hb d_Z_findProducts_42 rfl (lv_at hl 0 rfl) ?_
  refine va_get (D := D) (ci := 5) (v := .int Z_n) (C := "RemnantDictionaryModel") (T := T_Z) (N := 30) hx hb hts iw_Z hown hK hP 0 rfl rfl 2 (by decide) (hts _ k_384) (fun _ h9 => h9) rfl d_Z_findProducts_43 ?_
  refine lv_aload_n hx hb d_Z_findProducts_46 rfl (lv_at hl 0 rfl) ?_
  refine va_get (D := D) (ci := 5) (v := .int Z_lefts) (C := "RemnantDictionaryModel") (T := T_Z) (N := 30) hx hb hts iw_Z hown hK hP 0 rfl rfl 16 (by decide) (hts _ k_445) (fun _ h9 => h9) rfl d_Z_findProducts_47 ?_
  refine lv_imul hx hb d_Z_findProducts_50 ?_
  refine g_icmp_ge (tgt := 149) hx hb d_Z_findProducts_51 (by decide) hrun (fun _ hrun => ?_) (fun _ hrun => ?_)
  · refine lv_aload_n hx hb d_Z_findProducts_149 rfl (lv_at hl 0 rfl) ?_
    refine lv_iload_n hx hb d_Z_findProducts_150 rfl (lv_at hl 2 rfl) ?_
    refine lv_aload_n hx hb d_Z_findProducts_151 rfl (lv_at hl 0 rfl) ?_
    refine va_get (D := D) (ci := 5) (v := .int Z_lefts) (C := "RemnantDictionaryModel") (T := T_Z) (N := 30) hx hb hts iw_Z hown hK hP 0 rfl rfl 16 (by decide) (hts _ k_445) (fun _ h9 => h9) rfl d_Z_findProducts_152 ?_
    refine g_idiv hx hb d_Z_findProducts_155 hrun (fun hrun => ?_)
    refine lv_iload_n hx hb d_Z_findProducts_156 rfl (lv_at hl 2 rfl) ?_
    refine lv_aload_n hx hb d_Z_findProducts_157 rfl (lv_at hl 0 rfl) ?_
    refine va_get (D := D) (ci := 5) (v := .int Z_lefts) (C := "RemnantDictionaryModel") (T := T_Z) (N := 30) hx hb hts iw_Z hown hK hP 0 rfl rfl 16 (by decide) (hts _ k_445) (fun _ h9 => h9) rfl d_Z_findProducts_158 ?_
    refine g_irem hx hb d_Z_findProducts_161 hrun (fun hrun => ?_)
    obtain ⟨Z_product_1, Z_known_2, hc, hrun⟩ := bd2_s hrun
    have hFc := va_free (wc := (ws_zfindProduct a_Z a_Z_mono a_Z_row a_Z_basis a_Z_rest a_Z_product a_Z_known a_Z_degree a_Z_generator a_Z_hand a_Z_has a_Z_work a_Z_lead a_Z_tail a_Z_word a_Z_vector a_Z_system a_Z_now a_Z_next cI cL cZ Z_thrownCode Z_p Z_n Z_order Z_monomials Z_generators Z_upTo Z_members Z_lefts Z_vars Z_leadsFound Z_words Z_mono Z_row Z_basis Z_rest Z_product Z_known)) hD hS hA [0, 1, 2, 3, 4, 5, 6] rfl
    refine va_callv (va_runV (As := [.int (i2 / Z_lefts), .int (remI i2 Z_lefts)]) (rest := []) ⟨hx, hb, hml, hown, hts⟩ (c_zfindProduct (gl X) D cI cL cZ a_Z a_Z_mono a_Z_row a_Z_basis a_Z_rest a_Z_product a_Z_known a_Z_degree a_Z_generator a_Z_hand a_Z_has a_Z_work a_Z_lead a_Z_tail a_Z_word a_Z_vector a_Z_system a_Z_now a_Z_next F Z_thrownCode Z_p Z_n Z_order Z_monomials Z_generators Z_upTo Z_members Z_lefts Z_vars Z_leadsFound Z_words Z_mono Z_row Z_basis Z_rest Z_product Z_known (i2 / Z_lefts) (remI i2 Z_lefts) H.size Z_product_1 Z_known_2 hc) (cwV 2 hts (gwV k_460 k_458 k_459 k_333 k_453) rfl rfl rfl (by decide +kernel) ⟨Nat.le_of_ble_eq_true rfl, Nat.le_of_ble_eq_true rfl⟩) (gpreVW (hP.sub (ws' := (ws_zfindProduct a_Z a_Z_mono a_Z_row a_Z_basis a_Z_rest a_Z_product a_Z_known a_Z_degree a_Z_generator a_Z_hand a_Z_has a_Z_work a_Z_lead a_Z_tail a_Z_word a_Z_vector a_Z_system a_Z_now a_Z_next cI cL cZ Z_thrownCode Z_p Z_n Z_order Z_monomials Z_generators Z_upTo Z_members Z_lefts Z_vars Z_leadsFound Z_words Z_mono Z_row Z_basis Z_rest Z_product Z_known)) [0, 1, 2, 3, 4, 5, 6] rfl) hK hN (hD.sub (ws' := (ws_zfindProduct a_Z a_Z_mono a_Z_row a_Z_basis a_Z_rest a_Z_product a_Z_known a_Z_degree a_Z_generator a_Z_hand a_Z_has a_Z_work a_Z_lead a_Z_tail a_Z_word a_Z_vector a_Z_system a_Z_now a_Z_next cI cL cZ Z_thrownCode Z_p Z_n Z_order Z_monomials Z_generators Z_upTo Z_members Z_lefts Z_vars Z_leadsFound Z_words Z_mono Z_row Z_basis Z_rest Z_product Z_known)) [0, 1, 2, 3, 4, 5, 6] (by decide) rfl) 5 0 rfl rfl) rfl rfl hl.1 rfl (lv_room (Nat.le_of_ble_eq_true rfl)) d_Z_findProducts_162 ⟨Nat.le_of_ble_eq_true rfl, Nat.le_of_ble_eq_true rfl⟩) hS (fun q _ h => hFc q h) hFc (fun _ t H_3 locs ht hvm hw hB hz1 hk1 hS => ?_)
    obtain ⟨hP, hD⟩ := va_join (wr := []) (w1 := (ws_zfindProduct a_Z a_Z_mono a_Z_row a_Z_basis a_Z_rest a_Z_product a_Z_known a_Z_degree a_Z_generator a_Z_hand a_Z_has a_Z_work a_Z_lead a_Z_tail a_Z_word a_Z_vector a_Z_system a_Z_now a_Z_next cI cL cZ Z_thrownCode Z_p Z_n Z_order Z_monomials Z_generators Z_upTo Z_members Z_lefts Z_vars Z_leadsFound Z_words Z_mono Z_row Z_basis Z_rest Z_product_1 Z_known_2)) hP hD [0, 1, 2, 3, 4, 5, 6] [] rfl rfl (by decide) (by decide) hk1 hFc (by have h9 := hB.1; rw [ht] at h9; exact h9) hB.2.2
    have hP : va_P D classes (ws_zfindProducts a_Z a_Z_mono a_Z_row a_Z_basis a_Z_rest a_Z_product a_Z_known a_Z_degree a_Z_generator a_Z_hand a_Z_has a_Z_work a_Z_lead a_Z_tail a_Z_word a_Z_vector a_Z_system a_Z_now a_Z_next cI cL cZ Z_thrownCode Z_p Z_n Z_order Z_monomials Z_generators Z_upTo Z_members Z_lefts Z_vars Z_leadsFound Z_words Z_mono Z_row Z_basis Z_rest Z_product_1 Z_known_2) H_3 := hP.sub [0, 1, 2, 3, 4, 5, 6] rfl
    have hD : va_D A (ws_zfindProducts a_Z a_Z_mono a_Z_row a_Z_basis a_Z_rest a_Z_product a_Z_known a_Z_degree a_Z_generator a_Z_hand a_Z_has a_Z_work a_Z_lead a_Z_tail a_Z_word a_Z_vector a_Z_system a_Z_now a_Z_next cI cL cZ Z_thrownCode Z_p Z_n Z_order Z_monomials Z_generators Z_upTo Z_members Z_lefts Z_vars Z_leadsFound Z_words Z_mono Z_row Z_basis Z_rest Z_product_1 Z_known_2) := hD.sub [0, 1, 2, 3, 4, 5, 6] (by decide) rfl
    refine lv_iinc (v := (i1 + 1)) (lv' := [(1, .int (i1 + 1)), (0, .ref a_Z), (2, .int i2), (3, .int i3)]) hx hb d_Z_findProducts_165 hl (k := 1) rfl rfl (by decide) rfl (fun ls hl => ?_)
    refine lv_goto (tgt := 24) hx hb d_Z_findProducts_168 (by decide) ?_
    exact hk24 (i1 + 1) Z_product_1 Z_known_2 hrun H_3 locs ls hP hD hS (lv_sub hl [1, 0] rfl)
  · refine lv_iload_n hx hb d_Z_findProducts_54 rfl (lv_at hl 3 rfl) ?_
    refine lv_aload_n hx hb d_Z_findProducts_55 rfl (lv_at hl 0 rfl) ?_
    refine va_get (D := D) (ci := 5) (v := .int Z_lefts) (C := "RemnantDictionaryModel") (T := T_Z) (N := 30) hx hb hts iw_Z hown hK hP 0 rfl rfl 16 (by decide) (hts _ k_445) (fun _ h9 => h9) rfl d_Z_findProducts_56 ?_
    refine g_idiv hx hb d_Z_findProducts_59 hrun (fun hrun => ?_)
    refine lv_istore (lv' := [(4, .int (i3 / Z_lefts)), (0, .ref a_Z), (1, .int i1), (2, .int i2), (3, .int i3)]) hx hb d_Z_findProducts_60 hl (by decide) rfl (fun ls hl => ?_)
    refine lv_iload_n hx hb d_Z_findProducts_62 rfl (lv_at hl 4 rfl) ?_
    refine lv_aload_n hx hb d_Z_findProducts_63 rfl (lv_at hl 1 rfl) ?_
    refine va_get (D := D) (ci := 5) (v := .int Z_lefts) (C := "RemnantDictionaryModel") (T := T_Z) (N := 30) hx hb hts iw_Z hown hK hP 0 rfl rfl 16 (by decide) (hts _ k_445) (fun _ h9 => h9) rfl d_Z_findProducts_64 ?_
    refine g_irem hx hb d_Z_findProducts_67 hrun (fun hrun => ?_)
    refine lv_istore (lv' := [(5, .int (remI i3 Z_lefts)), (4, .int (i3 / Z_lefts)), (0, .ref a_Z), (1, .int i1), (2, .int i2), (3, .int i3)]) hx hb d_Z_findProducts_68 hl (by decide) rfl (fun ls hl => ?_)
    refine lv_aload_n hx hb d_Z_findProducts_70 rfl (lv_at hl 2 rfl) ?_
    refine va_get (D := D) (ci := 5) (v := .ref a_Z_known) (C := "RemnantDictionaryModel") (T := T_Z) (N := 30) hx hb hts iw_Z hown hK hP 0 rfl rfl 20 (by decide) (hts _ k_457) (fun _ h9 => h9) rfl d_Z_findProducts_71 ?_
    refine lv_bipush (v := 40) hx hb d_Z_findProducts_74 (by decide) ?_
    refine lv_iload hx hb d_Z_findProducts_76 (lv_at hl 1 rfl) ?_
    refine lv_imul hx hb d_Z_findProducts_78 ?_
    refine lv_iload hx hb d_Z_findProducts_79 (lv_at hl 0 rfl) ?_
    refine lv_iadd hx hb d_Z_findProducts_81 ?_
    refine g_zald hx hb hK hP 6 2 rfl rfl hrun d_Z_findProducts_82 (fun x_4 hrun => ?_)
    refine g_if_ne (tgt := 143) hx hb d_Z_findProducts_83 (by decide) hrun (fun _ hrun => ?_) (fun _ hrun => ?_)
    · refine lv_iinc (v := (i3 + 1)) (lv' := [(3, .int (i3 + 1)), (5, .int (remI i3 Z_lefts)), (4, .int (i3 / Z_lefts)), (0, .ref a_Z), (1, .int i1), (2, .int i2)]) hx hb d_Z_findProducts_143 hl (k := 5) rfl rfl (by decide) rfl (fun ls hl => ?_)
      refine lv_goto (tgt := 41) hx hb d_Z_findProducts_146 (by decide) ?_
      exact hk41 i1 i2 (i3 + 1) Z_product Z_known hrun H locs ls hP hD hS (lv_sub hl [3, 4, 5, 0] rfl)
    · refine lv_iload_n hx hb d_Z_findProducts_86 rfl (lv_at hl 4 rfl) ?_
      refine g_if_lt (tgt := 141) hx hb d_Z_findProducts_87 (by decide) hrun (fun _ hrun => ?_) (fun _ hrun => ?_)
      · refine lv_iload_n hx hb d_Z_findProducts_141 rfl (lv_at hl 5 rfl) ?_
        refine lv_istore_n (lv' := [(2, .int i3), (5, .int (remI i3 Z_lefts)), (4, .int (i3 / Z_lefts)), (0, .ref a_Z), (1, .int i1), (3, .int i3)]) hx hb d_Z_findProducts_142 rfl hl (by decide) rfl (fun ls hl => ?_)
        refine lv_iinc (v := (i3 + 1)) (lv' := [(3, .int (i3 + 1)), (2, .int i3), (5, .int (remI i3 Z_lefts)), (4, .int (i3 / Z_lefts)), (0, .ref a_Z), (1, .int i1)]) hx hb d_Z_findProducts_143 hl (k := 5) rfl rfl (by decide) rfl (fun ls hl => ?_)
        refine lv_goto (tgt := 41) hx hb d_Z_findProducts_146 (by decide) ?_
        exact hk41 i1 i3 (i3 + 1) Z_product Z_known hrun H locs ls hP hD hS (lv_sub hl [4, 5, 1, 0] rfl)
      · refine lv_aload_n hx hb d_Z_findProducts_90 rfl (lv_at hl 2 rfl) ?_
        refine lv_aload_n hx hb d_Z_findProducts_91 rfl (lv_at hl 2 rfl) ?_
        refine va_get (D := D) (ci := 5) (v := .ref a_Z_rest) (C := "RemnantDictionaryModel") (T := T_Z) (N := 30) hx hb hts iw_Z hown hK hP 0 rfl rfl 18 (by decide) (hts _ k_446) (fun _ h9 => h9) rfl d_Z_findProducts_92 ?_
        refine lv_iload_n hx hb d_Z_findProducts_95 rfl (lv_at hl 4 rfl) ?_
        refine lv_aload_n hx hb d_Z_findProducts_96 rfl (lv_at hl 2 rfl) ?_
        refine va_get (D := D) (ci := 5) (v := .int Z_lefts) (C := "RemnantDictionaryModel") (T := T_Z) (N := 30) hx hb hts iw_Z hown hK hP 0 rfl rfl 16 (by decide) (hts _ k_445) (fun _ h9 => h9) rfl d_Z_findProducts_97 ?_
        refine g_irem hx hb d_Z_findProducts_100 hrun (fun hrun => ?_)
        refine g_iald hx hb hK hP 4 0 rfl rfl hrun d_Z_findProducts_101 (fun x_5 hrun => ?_)
        refine lv_iconst (v := 1) hx hb d_Z_findProducts_102 (by decide) ?_
        refine lv_bipush (v := 24) hx hb d_Z_findProducts_103 (by decide) ?_
        refine lv_bipush (v := 8) hx hb d_Z_findProducts_105 (by decide) ?_
        refine lv_iload_n hx hb d_Z_findProducts_107 rfl (lv_at hl 4 rfl) ?_
        refine lv_aload_n hx hb d_Z_findProducts_108 rfl (lv_at hl 2 rfl) ?_
        refine va_get (D := D) (ci := 5) (v := .int Z_lefts) (C := "RemnantDictionaryModel") (T := T_Z) (N := 30) hx hb hts iw_Z hown hK hP 0 rfl rfl 16 (by decide) (hts _ k_445) (fun _ h9 => h9) rfl d_Z_findProducts_109 ?_
        refine g_idiv hx hb d_Z_findProducts_112 hrun (fun hrun => ?_)
        refine lv_imul hx hb d_Z_findProducts_113 ?_
        refine lv_isub hx hb d_Z_findProducts_114 ?_
        refine g_ishl hx hb d_Z_findProducts_115 ?_
        refine lv_iadd hx hb d_Z_findProducts_116 ?_
        refine lv_aload_n hx hb d_Z_findProducts_117 rfl (lv_at hl 2 rfl) ?_
        refine va_get (D := D) (ci := 5) (v := .ref a_Z_rest) (C := "RemnantDictionaryModel") (T := T_Z) (N := 30) hx hb hts iw_Z hown hK hP 0 rfl rfl 18 (by decide) (hts _ k_446) (fun _ h9 => h9) rfl d_Z_findProducts_118 ?_
        refine lv_iload hx hb d_Z_findProducts_121 (lv_at hl 0 rfl) ?_
        refine g_iald hx hb hK hP 4 0 rfl rfl hrun d_Z_findProducts_123 (fun x_6 hrun => ?_)
        refine lv_iconst (v := 1) hx hb d_Z_findProducts_124 (by decide) ?_
        refine lv_bipush (v := 24) hx hb d_Z_findProducts_125 (by decide) ?_
        refine lv_bipush (v := 8) hx hb d_Z_findProducts_127 (by decide) ?_
        refine lv_iload hx hb d_Z_findProducts_129 (lv_at hl 1 rfl) ?_
        refine lv_imul hx hb d_Z_findProducts_131 ?_
        refine lv_isub hx hb d_Z_findProducts_132 ?_
        refine g_ishl hx hb d_Z_findProducts_133 ?_
        refine lv_iadd hx hb d_Z_findProducts_134 ?_
        obtain ⟨r_7, hc, hrun⟩ := bd1_s hrun
        refine vp_callSi (W.runV (As := [.int (x_5 + (shlI 1 (24 - (8 * (i2 / Z_lefts))))), .int (x_6 + (shlI 1 (24 - (8 * (i3 / Z_lefts)))))]) (rest := []) ⟨hx, hb, hml, hown, hts⟩ (c_zgreater (gl X) D cI cL cZ a_Z a_Z_mono a_Z_degree a_Z_generator a_Z_hand a_Z_has a_Z_row a_Z_work a_Z_basis a_Z_rest a_Z_product a_Z_known a_Z_lead a_Z_tail a_Z_word a_Z_vector a_Z_system a_Z_now a_Z_next F Z_thrownCode Z_p Z_n Z_order Z_monomials Z_generators Z_upTo Z_members Z_lefts Z_vars Z_leadsFound Z_words (x_5 + (shlI 1 (24 - (8 * (i2 / Z_lefts))))) (x_6 + (shlI 1 (24 - (8 * (i3 / Z_lefts))))) r_7 hc) (cwV 2 hts (gwV k_377 k_375 k_376 k_333 k_369) rfl rfl rfl (by decide +kernel) ⟨Nat.le_of_ble_eq_true rfl, Nat.le_of_ble_eq_true rfl⟩) (gpreV (hP.sub (ws' := (ws_zgreater a_Z a_Z_mono a_Z_degree a_Z_generator a_Z_hand a_Z_has a_Z_row a_Z_work a_Z_basis a_Z_rest a_Z_product a_Z_known a_Z_lead a_Z_tail a_Z_word a_Z_vector a_Z_system a_Z_now a_Z_next cI cL cZ Z_thrownCode Z_p Z_n Z_order Z_monomials Z_generators Z_upTo Z_members Z_lefts Z_vars Z_leadsFound Z_words)) [0] rfl) hK hN 5 0 rfl rfl) rfl rfl hl.1 rfl (lv_room (Nat.le_of_ble_eq_true rfl)) d_Z_findProducts_135 ⟨Nat.le_of_ble_eq_true rfl, Nat.le_of_ble_eq_true rfl⟩) (nm_e ?_)
        refine g_if_eq (tgt := 143) hx hb d_Z_findProducts_138 (by decide) hrun (fun _ hrun => ?_) (fun _ hrun => ?_)
        · refine lv_iinc (v := (i3 + 1)) (lv' := [(3, .int (i3 + 1)), (5, .int (remI i3 Z_lefts)), (4, .int (i3 / Z_lefts)), (0, .ref a_Z), (1, .int i1), (2, .int i2)]) hx hb d_Z_findProducts_143 hl (k := 5) rfl rfl (by decide) rfl (fun ls hl => ?_)
          refine lv_goto (tgt := 41) hx hb d_Z_findProducts_146 (by decide) ?_
          exact hk41 i1 i2 (i3 + 1) Z_product Z_known hrun H locs ls hP hD hS (lv_sub hl [3, 4, 5, 0] rfl)
        · refine lv_iload_n hx hb d_Z_findProducts_141 rfl (lv_at hl 5 rfl) ?_
          refine lv_istore_n (lv' := [(2, .int i3), (5, .int (remI i3 Z_lefts)), (4, .int (i3 / Z_lefts)), (0, .ref a_Z), (1, .int i1), (3, .int i3)]) hx hb d_Z_findProducts_142 rfl hl (by decide) rfl (fun ls hl => ?_)
          refine lv_iinc (v := (i3 + 1)) (lv' := [(3, .int (i3 + 1)), (2, .int i3), (5, .int (remI i3 Z_lefts)), (4, .int (i3 / Z_lefts)), (0, .ref a_Z), (1, .int i1)]) hx hb d_Z_findProducts_143 hl (k := 5) rfl rfl (by decide) rfl (fun ls hl => ?_)
          refine lv_goto (tgt := 41) hx hb d_Z_findProducts_146 (by decide) ?_
          exact hk41 i1 i3 (i3 + 1) Z_product Z_known hrun H locs ls hP hD hS (lv_sub hl [4, 5, 1, 0] rfl)
theorem v_zfindProducts_41 (X : gX) (D : va_G) (cI cL cZ : ClassId) (a_Z a_Z_mono a_Z_row a_Z_basis a_Z_rest a_Z_product a_Z_known a_Z_degree a_Z_generator a_Z_hand a_Z_has a_Z_work a_Z_lead a_Z_tail a_Z_word a_Z_vector a_Z_system a_Z_now a_Z_next : Nat) (A : Nat → Prop) (Z_thrownCode Z_p Z_n Z_order Z_monomials Z_generators Z_upTo Z_members Z_lefts Z_vars Z_leadsFound Z_words : Int32) (Z_mono Z_row Z_basis Z_rest Z_product_r Z_known_r : Nat → Int32) (F : Nat) (C0 : gC X c_Z_findProductsb none 6 "RemnantDictionaryModel" gAll) (hK : va_K D classes (gT cI cL cZ) (gs X)) (hA : ∀ q : Nat, (gs X).heap.size ≤ q → A q) (hN : gN (gs X)) (k24 : Int32 → (Nat → Int32) → (Nat → Int32) → Option ((Nat → Int32) × (Nat → Int32))) (hk24 : ∀ (i1 : Int32) (Z_product Z_known : Nat → Int32), k24 i1 Z_product Z_known = some (Z_product_r, Z_known_r) → g_zfindProducts X D cI cL cZ a_Z a_Z_mono a_Z_row a_Z_basis a_Z_rest a_Z_product a_Z_known a_Z_degree a_Z_generator a_Z_hand a_Z_has a_Z_work a_Z_lead a_Z_tail a_Z_word a_Z_vector a_Z_system a_Z_now a_Z_next A Z_thrownCode Z_p Z_n Z_order Z_monomials Z_generators Z_upTo Z_members Z_lefts Z_vars Z_leadsFound Z_words Z_mono Z_row Z_basis Z_rest Z_product_r Z_known_r 24 [(0, .ref a_Z), (1, .int i1)] [] Z_product Z_known) : ∀ (n : Nat) (i1 i2 i3 : Int32) (Z_product Z_known : Nat → Int32), b_zfindProducts_41 F Z_lefts Z_members Z_n Z_order Z_p Z_mono Z_row Z_basis Z_rest k24 n i1 i2 i3 Z_product Z_known = some (Z_product_r, Z_known_r) → g_zfindProducts X D cI cL cZ a_Z a_Z_mono a_Z_row a_Z_basis a_Z_rest a_Z_product a_Z_known a_Z_degree a_Z_generator a_Z_hand a_Z_has a_Z_work a_Z_lead a_Z_tail a_Z_word a_Z_vector a_Z_system a_Z_now a_Z_next A Z_thrownCode Z_p Z_n Z_order Z_monomials Z_generators Z_upTo Z_members Z_lefts Z_vars Z_leadsFound Z_words Z_mono Z_row Z_basis Z_rest Z_product_r Z_known_r 41 [(0, .ref a_Z), (1, .int i1), (2, .int i2), (3, .int i3)] [] Z_product Z_known := by
  intro n
  induction n with
  | zero => intro i1 i2 i3 Z_product Z_known hrun; cases hrun
  | succ n ih =>
    intro i1 i2 i3 Z_product Z_known hrun
    exact w_zfindProducts_41 X D cI cL cZ a_Z a_Z_mono a_Z_row a_Z_basis a_Z_rest a_Z_product a_Z_known a_Z_degree a_Z_generator a_Z_hand a_Z_has a_Z_work a_Z_lead a_Z_tail a_Z_word a_Z_vector a_Z_system a_Z_now a_Z_next A Z_thrownCode Z_p Z_n Z_order Z_monomials Z_generators Z_upTo Z_members Z_lefts Z_vars Z_leadsFound Z_words Z_mono Z_row Z_basis Z_rest Z_product_r Z_known_r F C0 hK hA hN k24 hk24 (b_zfindProducts_41 F Z_lefts Z_members Z_n Z_order Z_p Z_mono Z_row Z_basis Z_rest k24 n) ih i1 i2 i3 Z_product Z_known hrun
set_option maxHeartbeats 4000000 in
set_option maxRecDepth 100000 in
theorem w_zfindProducts_24 (X : gX) (D : va_G) (cI cL cZ : ClassId) (a_Z a_Z_mono a_Z_row a_Z_basis a_Z_rest a_Z_product a_Z_known a_Z_degree a_Z_generator a_Z_hand a_Z_has a_Z_work a_Z_lead a_Z_tail a_Z_word a_Z_vector a_Z_system a_Z_now a_Z_next : Nat) (A : Nat → Prop) (Z_thrownCode Z_p Z_n Z_order Z_monomials Z_generators Z_upTo Z_members Z_lefts Z_vars Z_leadsFound Z_words : Int32) (Z_mono Z_row Z_basis Z_rest Z_product_r Z_known_r : Nat → Int32) (F : Nat) (C0 : gC X c_Z_findProductsb none 6 "RemnantDictionaryModel" gAll) (hK : va_K D classes (gT cI cL cZ) (gs X)) (hA : ∀ q : Nat, (gs X).heap.size ≤ q → A q) (hN : gN (gs X)) (k24 : Int32 → (Nat → Int32) → (Nat → Int32) → Option ((Nat → Int32) × (Nat → Int32))) (hk24 : ∀ (i1 : Int32) (Z_product Z_known : Nat → Int32), k24 i1 Z_product Z_known = some (Z_product_r, Z_known_r) → g_zfindProducts X D cI cL cZ a_Z a_Z_mono a_Z_row a_Z_basis a_Z_rest a_Z_product a_Z_known a_Z_degree a_Z_generator a_Z_hand a_Z_has a_Z_work a_Z_lead a_Z_tail a_Z_word a_Z_vector a_Z_system a_Z_now a_Z_next A Z_thrownCode Z_p Z_n Z_order Z_monomials Z_generators Z_upTo Z_members Z_lefts Z_vars Z_leadsFound Z_words Z_mono Z_row Z_basis Z_rest Z_product_r Z_known_r 24 [(0, .ref a_Z), (1, .int i1)] [] Z_product Z_known) (i1 : Int32) (Z_product Z_known : Nat → Int32) (hrun : s_zfindProducts_24 F Z_lefts Z_members Z_n Z_order Z_p Z_mono Z_row Z_basis Z_rest k24 i1 Z_product Z_known = some (Z_product_r, Z_known_r)) : g_zfindProducts X D cI cL cZ a_Z a_Z_mono a_Z_row a_Z_basis a_Z_rest a_Z_product a_Z_known a_Z_degree a_Z_generator a_Z_hand a_Z_has a_Z_work a_Z_lead a_Z_tail a_Z_word a_Z_vector a_Z_system a_Z_now a_Z_next A Z_thrownCode Z_p Z_n Z_order Z_monomials Z_generators Z_upTo Z_members Z_lefts Z_vars Z_leadsFound Z_words Z_mono Z_row Z_basis Z_rest Z_product_r Z_known_r 24 [(0, .ref a_Z), (1, .int i1)] [] Z_product Z_known := by
  have C1 := C0
  obtain ⟨hx, hb, hr, hml, hown, hts, hlocks⟩ := C1
  unfold s_zfindProducts_24 at hrun
  intro H locs ls hP hD hS hl
  refine lv_iload_n hx hb d_Z_findProducts_24 rfl (lv_at hl 1 rfl) ?_
  refine lv_aload_n hx hb d_Z_findProducts_25 rfl (lv_at hl 0 rfl) ?_
  refine va_get (D := D) (ci := 5) (v := .int Z_n) (C := "RemnantDictionaryModel") (T := T_Z) (N := 30) hx hb hts iw_Z hown hK hP 0 rfl rfl 2 (by decide) (hts _ k_384) (fun _ h9 => h9) rfl d_Z_findProducts_26 ?_
  refine lv_aload_n hx hb d_Z_findProducts_29 rfl (lv_at hl 0 rfl) ?_
  refine va_get (D := D) (ci := 5) (v := .int Z_lefts) (C := "RemnantDictionaryModel") (T := T_Z) (N := 30) hx hb hts iw_Z hown hK hP 0 rfl rfl 16 (by decide) (hts _ k_445) (fun _ h9 => h9) rfl d_Z_findProducts_30 ?_
  refine lv_imul hx hb d_Z_findProducts_33 ?_
  refine g_icmp_ge (tgt := 171) hx hb d_Z_findProducts_34 (by decide) hrun (fun _ hrun => ?_) (fun _ hrun => ?_)
  · cases hrun
    exact W.vret hx hb hr (fun t ht hW => ⟨⟨(), rfl, trivial, gB_of ht hW.alike hP hK hD⟩, hS.F ht⟩) hS.2.2 d_Z_findProducts_171
  · refine lv_iconst (v := (-1)) hx hb d_Z_findProducts_37 (by decide) ?_
    refine lv_istore_n (lv' := [(2, .int (-1)), (0, .ref a_Z), (1, .int i1)]) hx hb d_Z_findProducts_38 rfl hl (by decide) rfl (fun ls hl => ?_)
    refine lv_iconst (v := 0) hx hb d_Z_findProducts_39 (by decide) ?_
    refine lv_istore_n (lv' := [(3, .int 0), (2, .int (-1)), (0, .ref a_Z), (1, .int i1)]) hx hb d_Z_findProducts_40 rfl hl (by decide) rfl (fun ls hl => ?_)
    exact v_zfindProducts_41 X D cI cL cZ a_Z a_Z_mono a_Z_row a_Z_basis a_Z_rest a_Z_product a_Z_known a_Z_degree a_Z_generator a_Z_hand a_Z_has a_Z_work a_Z_lead a_Z_tail a_Z_word a_Z_vector a_Z_system a_Z_now a_Z_next A Z_thrownCode Z_p Z_n Z_order Z_monomials Z_generators Z_upTo Z_members Z_lefts Z_vars Z_leadsFound Z_words Z_mono Z_row Z_basis Z_rest Z_product_r Z_known_r F C0 hK hA hN k24 hk24 F i1 (-1) 0 Z_product Z_known hrun H locs ls hP hD hS (lv_sub hl [2, 3, 1, 0] rfl)
theorem v_zfindProducts_24 (X : gX) (D : va_G) (cI cL cZ : ClassId) (a_Z a_Z_mono a_Z_row a_Z_basis a_Z_rest a_Z_product a_Z_known a_Z_degree a_Z_generator a_Z_hand a_Z_has a_Z_work a_Z_lead a_Z_tail a_Z_word a_Z_vector a_Z_system a_Z_now a_Z_next : Nat) (A : Nat → Prop) (Z_thrownCode Z_p Z_n Z_order Z_monomials Z_generators Z_upTo Z_members Z_lefts Z_vars Z_leadsFound Z_words : Int32) (Z_mono Z_row Z_basis Z_rest Z_product_r Z_known_r : Nat → Int32) (F : Nat) (C0 : gC X c_Z_findProductsb none 6 "RemnantDictionaryModel" gAll) (hK : va_K D classes (gT cI cL cZ) (gs X)) (hA : ∀ q : Nat, (gs X).heap.size ≤ q → A q) (hN : gN (gs X))  : ∀ (n : Nat) (i1 : Int32) (Z_product Z_known : Nat → Int32), b_zfindProducts_24 F Z_lefts Z_members Z_n Z_order Z_p Z_mono Z_row Z_basis Z_rest n i1 Z_product Z_known = some (Z_product_r, Z_known_r) → g_zfindProducts X D cI cL cZ a_Z a_Z_mono a_Z_row a_Z_basis a_Z_rest a_Z_product a_Z_known a_Z_degree a_Z_generator a_Z_hand a_Z_has a_Z_work a_Z_lead a_Z_tail a_Z_word a_Z_vector a_Z_system a_Z_now a_Z_next A Z_thrownCode Z_p Z_n Z_order Z_monomials Z_generators Z_upTo Z_members Z_lefts Z_vars Z_leadsFound Z_words Z_mono Z_row Z_basis Z_rest Z_product_r Z_known_r 24 [(0, .ref a_Z), (1, .int i1)] [] Z_product Z_known := by
  intro n
  induction n with
  | zero => intro i1 Z_product Z_known hrun; cases hrun
  | succ n ih =>
    intro i1 Z_product Z_known hrun
    exact w_zfindProducts_24 X D cI cL cZ a_Z a_Z_mono a_Z_row a_Z_basis a_Z_rest a_Z_product a_Z_known a_Z_degree a_Z_generator a_Z_hand a_Z_has a_Z_work a_Z_lead a_Z_tail a_Z_word a_Z_vector a_Z_system a_Z_now a_Z_next A Z_thrownCode Z_p Z_n Z_order Z_monomials Z_generators Z_upTo Z_members Z_lefts Z_vars Z_leadsFound Z_words Z_mono Z_row Z_basis Z_rest Z_product_r Z_known_r F C0 hK hA hN (b_zfindProducts_24 F Z_lefts Z_members Z_n Z_order Z_p Z_mono Z_row Z_basis Z_rest n) ih i1 Z_product Z_known hrun
set_option maxHeartbeats 4000000 in
set_option maxRecDepth 100000 in
theorem w_zfindProducts_2 (X : gX) (D : va_G) (cI cL cZ : ClassId) (a_Z a_Z_mono a_Z_row a_Z_basis a_Z_rest a_Z_product a_Z_known a_Z_degree a_Z_generator a_Z_hand a_Z_has a_Z_work a_Z_lead a_Z_tail a_Z_word a_Z_vector a_Z_system a_Z_now a_Z_next : Nat) (A : Nat → Prop) (Z_thrownCode Z_p Z_n Z_order Z_monomials Z_generators Z_upTo Z_members Z_lefts Z_vars Z_leadsFound Z_words : Int32) (Z_mono Z_row Z_basis Z_rest Z_product_r Z_known_r : Nat → Int32) (F : Nat) (C0 : gC X c_Z_findProductsb none 6 "RemnantDictionaryModel" gAll) (hK : va_K D classes (gT cI cL cZ) (gs X)) (hA : ∀ q : Nat, (gs X).heap.size ≤ q → A q) (hN : gN (gs X)) (k2 : Int32 → (Nat → Int32) → (Nat → Int32) → Option ((Nat → Int32) × (Nat → Int32))) (hk2 : ∀ (i1 : Int32) (Z_product Z_known : Nat → Int32), k2 i1 Z_product Z_known = some (Z_product_r, Z_known_r) → g_zfindProducts X D cI cL cZ a_Z a_Z_mono a_Z_row a_Z_basis a_Z_rest a_Z_product a_Z_known a_Z_degree a_Z_generator a_Z_hand a_Z_has a_Z_work a_Z_lead a_Z_tail a_Z_word a_Z_vector a_Z_system a_Z_now a_Z_next A Z_thrownCode Z_p Z_n Z_order Z_monomials Z_generators Z_upTo Z_members Z_lefts Z_vars Z_leadsFound Z_words Z_mono Z_row Z_basis Z_rest Z_product_r Z_known_r 2 [(0, .ref a_Z), (1, .int i1)] [] Z_product Z_known) (i1 : Int32) (Z_product Z_known : Nat → Int32) (hrun : s_zfindProducts_2 F Z_lefts Z_members Z_n Z_order Z_p Z_mono Z_row Z_basis Z_rest k2 i1 Z_product Z_known = some (Z_product_r, Z_known_r)) : g_zfindProducts X D cI cL cZ a_Z a_Z_mono a_Z_row a_Z_basis a_Z_rest a_Z_product a_Z_known a_Z_degree a_Z_generator a_Z_hand a_Z_has a_Z_work a_Z_lead a_Z_tail a_Z_word a_Z_vector a_Z_system a_Z_now a_Z_next A Z_thrownCode Z_p Z_n Z_order Z_monomials Z_generators Z_upTo Z_members Z_lefts Z_vars Z_leadsFound Z_words Z_mono Z_row Z_basis Z_rest Z_product_r Z_known_r 2 [(0, .ref a_Z), (1, .int i1)] [] Z_product Z_known := by
  have C1 := C0
  obtain ⟨hx, hb, hr, hml, hown, hts, hlocks⟩ := C1
  unfold s_zfindProducts_2 at hrun
  intro H locs ls hP hD hS hl
  refine lv_iload_n hx hb d_Z_findProducts_2 rfl (lv_at hl 1 rfl) ?_
  refine lv_sipush (v := 160) hx hb d_Z_findProducts_3 (by decide) ?_
  refine g_icmp_ge (tgt := 22) hx hb d_Z_findProducts_6 (by decide) hrun (fun _ hrun => ?_) (fun _ hrun => ?_)
  · refine lv_iconst (v := 0) hx hb d_Z_findProducts_22 (by decide) ?_
    refine lv_istore_n (lv' := [(1, .int 0), (0, .ref a_Z)]) hx hb d_Z_findProducts_23 rfl hl (by decide) rfl (fun ls hl => ?_)
    exact v_zfindProducts_24 X D cI cL cZ a_Z a_Z_mono a_Z_row a_Z_basis a_Z_rest a_Z_product a_Z_known a_Z_degree a_Z_generator a_Z_hand a_Z_has a_Z_work a_Z_lead a_Z_tail a_Z_word a_Z_vector a_Z_system a_Z_now a_Z_next A Z_thrownCode Z_p Z_n Z_order Z_monomials Z_generators Z_upTo Z_members Z_lefts Z_vars Z_leadsFound Z_words Z_mono Z_row Z_basis Z_rest Z_product_r Z_known_r F C0 hK hA hN  F 0 Z_product Z_known hrun H locs ls hP hD hS (lv_sub hl [1, 0] rfl)
  · refine lv_aload_n hx hb d_Z_findProducts_9 rfl (lv_at hl 0 rfl) ?_
    refine va_get (D := D) (ci := 5) (v := .ref a_Z_known) (C := "RemnantDictionaryModel") (T := T_Z) (N := 30) hx hb hts iw_Z hown hK hP 0 rfl rfl 20 (by decide) (hts _ k_457) (fun _ h9 => h9) rfl d_Z_findProducts_10 ?_
    refine lv_iload_n hx hb d_Z_findProducts_13 rfl (lv_at hl 1 rfl) ?_
    refine lv_iconst (v := 0) hx hb d_Z_findProducts_14 (by decide) ?_
    refine g_zast hx hb hK hP hD hS 6 2 rfl rfl hrun d_Z_findProducts_15 (fun Z_known_1 hrun H locs (hP : va_P D classes (ws_zfindProducts a_Z a_Z_mono a_Z_row a_Z_basis a_Z_rest a_Z_product a_Z_known a_Z_degree a_Z_generator a_Z_hand a_Z_has a_Z_work a_Z_lead a_Z_tail a_Z_word a_Z_vector a_Z_system a_Z_now a_Z_next cI cL cZ Z_thrownCode Z_p Z_n Z_order Z_monomials Z_generators Z_upTo Z_members Z_lefts Z_vars Z_leadsFound Z_words Z_mono Z_row Z_basis Z_rest Z_product Z_known_1) H) (hD : va_D A (ws_zfindProducts a_Z a_Z_mono a_Z_row a_Z_basis a_Z_rest a_Z_product a_Z_known a_Z_degree a_Z_generator a_Z_hand a_Z_has a_Z_work a_Z_lead a_Z_tail a_Z_word a_Z_vector a_Z_system a_Z_now a_Z_next cI cL cZ Z_thrownCode Z_p Z_n Z_order Z_monomials Z_generators Z_upTo Z_members Z_lefts Z_vars Z_leadsFound Z_words Z_mono Z_row Z_basis Z_rest Z_product Z_known_1)) hS => ?_)
    refine lv_iinc (v := (i1 + 1)) (lv' := [(1, .int (i1 + 1)), (0, .ref a_Z)]) hx hb d_Z_findProducts_16 hl (k := 1) rfl rfl (by decide) rfl (fun ls hl => ?_)
    refine lv_goto (tgt := 2) hx hb d_Z_findProducts_19 (by decide) ?_
    exact hk2 (i1 + 1) Z_product Z_known_1 hrun H locs ls hP hD hS (lv_sub hl [1, 0] rfl)
theorem v_zfindProducts_2 (X : gX) (D : va_G) (cI cL cZ : ClassId) (a_Z a_Z_mono a_Z_row a_Z_basis a_Z_rest a_Z_product a_Z_known a_Z_degree a_Z_generator a_Z_hand a_Z_has a_Z_work a_Z_lead a_Z_tail a_Z_word a_Z_vector a_Z_system a_Z_now a_Z_next : Nat) (A : Nat → Prop) (Z_thrownCode Z_p Z_n Z_order Z_monomials Z_generators Z_upTo Z_members Z_lefts Z_vars Z_leadsFound Z_words : Int32) (Z_mono Z_row Z_basis Z_rest Z_product_r Z_known_r : Nat → Int32) (F : Nat) (C0 : gC X c_Z_findProductsb none 6 "RemnantDictionaryModel" gAll) (hK : va_K D classes (gT cI cL cZ) (gs X)) (hA : ∀ q : Nat, (gs X).heap.size ≤ q → A q) (hN : gN (gs X))  : ∀ (n : Nat) (i1 : Int32) (Z_product Z_known : Nat → Int32), b_zfindProducts_2 F Z_lefts Z_members Z_n Z_order Z_p Z_mono Z_row Z_basis Z_rest n i1 Z_product Z_known = some (Z_product_r, Z_known_r) → g_zfindProducts X D cI cL cZ a_Z a_Z_mono a_Z_row a_Z_basis a_Z_rest a_Z_product a_Z_known a_Z_degree a_Z_generator a_Z_hand a_Z_has a_Z_work a_Z_lead a_Z_tail a_Z_word a_Z_vector a_Z_system a_Z_now a_Z_next A Z_thrownCode Z_p Z_n Z_order Z_monomials Z_generators Z_upTo Z_members Z_lefts Z_vars Z_leadsFound Z_words Z_mono Z_row Z_basis Z_rest Z_product_r Z_known_r 2 [(0, .ref a_Z), (1, .int i1)] [] Z_product Z_known := by
  intro n
  induction n with
  | zero => intro i1 Z_product Z_known hrun; cases hrun
  | succ n ih =>
    intro i1 Z_product Z_known hrun
    exact w_zfindProducts_2 X D cI cL cZ a_Z a_Z_mono a_Z_row a_Z_basis a_Z_rest a_Z_product a_Z_known a_Z_degree a_Z_generator a_Z_hand a_Z_has a_Z_work a_Z_lead a_Z_tail a_Z_word a_Z_vector a_Z_system a_Z_now a_Z_next A Z_thrownCode Z_p Z_n Z_order Z_monomials Z_generators Z_upTo Z_members Z_lefts Z_vars Z_leadsFound Z_words Z_mono Z_row Z_basis Z_rest Z_product_r Z_known_r F C0 hK hA hN (b_zfindProducts_2 F Z_lefts Z_members Z_n Z_order Z_p Z_mono Z_row Z_basis Z_rest n) ih i1 Z_product Z_known hrun
set_option maxHeartbeats 4000000 in
set_option maxRecDepth 100000 in
theorem e_zfindProducts (X : gX) (D : va_G) (cI cL cZ : ClassId) (a_Z a_Z_mono a_Z_row a_Z_basis a_Z_rest a_Z_product a_Z_known a_Z_degree a_Z_generator a_Z_hand a_Z_has a_Z_work a_Z_lead a_Z_tail a_Z_word a_Z_vector a_Z_system a_Z_now a_Z_next : Nat) (A : Nat → Prop) (Z_thrownCode Z_p Z_n Z_order Z_monomials Z_generators Z_upTo Z_members Z_lefts Z_vars Z_leadsFound Z_words : Int32) (Z_mono Z_row Z_basis Z_rest Z_product_r Z_known_r : Nat → Int32) (F : Nat) (C0 : gC X c_Z_findProductsb none 6 "RemnantDictionaryModel" gAll) (hK : va_K D classes (gT cI cL cZ) (gs X)) (hA : ∀ q : Nat, (gs X).heap.size ≤ q → A q) (hN : gN (gs X)) (Z_product Z_known : Nat → Int32) (hrun : m_zfindProducts F Z_lefts Z_members Z_n Z_order Z_p Z_mono Z_row Z_basis Z_rest Z_product Z_known = some (Z_product_r, Z_known_r)) : g_zfindProducts X D cI cL cZ a_Z a_Z_mono a_Z_row a_Z_basis a_Z_rest a_Z_product a_Z_known a_Z_degree a_Z_generator a_Z_hand a_Z_has a_Z_work a_Z_lead a_Z_tail a_Z_word a_Z_vector a_Z_system a_Z_now a_Z_next A Z_thrownCode Z_p Z_n Z_order Z_monomials Z_generators Z_upTo Z_members Z_lefts Z_vars Z_leadsFound Z_words Z_mono Z_row Z_basis Z_rest Z_product_r Z_known_r 0 [(0, .ref a_Z)] [] Z_product Z_known := by
  have C1 := C0
  obtain ⟨hx, hb, hr, hml, hown, hts, hlocks⟩ := C1
  unfold m_zfindProducts at hrun
  intro H locs ls hP hD hS hl
  refine lv_iconst (v := 0) hx hb d_Z_findProducts_0 (by decide) ?_
  refine lv_istore_n (lv' := [(1, .int 0), (0, .ref a_Z)]) hx hb d_Z_findProducts_1 rfl hl (by decide) rfl (fun ls hl => ?_)
  exact v_zfindProducts_2 X D cI cL cZ a_Z a_Z_mono a_Z_row a_Z_basis a_Z_rest a_Z_product a_Z_known a_Z_degree a_Z_generator a_Z_hand a_Z_has a_Z_work a_Z_lead a_Z_tail a_Z_word a_Z_vector a_Z_system a_Z_now a_Z_next A Z_thrownCode Z_p Z_n Z_order Z_monomials Z_generators Z_upTo Z_members Z_lefts Z_vars Z_leadsFound Z_words Z_mono Z_row Z_basis Z_rest Z_product_r Z_known_r F C0 hK hA hN  F 0 Z_product Z_known hrun H locs ls hP hD hS (lv_sub hl [1, 0] rfl)
set_option maxHeartbeats 4000000 in
set_option maxRecDepth 100000 in
theorem c_zfindProducts (l : Launch) (D : va_G) (cI cL cZ : ClassId) (a_Z a_Z_mono a_Z_row a_Z_basis a_Z_rest a_Z_product a_Z_known a_Z_degree a_Z_generator a_Z_hand a_Z_has a_Z_work a_Z_lead a_Z_tail a_Z_word a_Z_vector a_Z_system a_Z_now a_Z_next : Nat) (F : Nat) (Z_thrownCode Z_p Z_n Z_order Z_monomials Z_generators Z_upTo Z_members Z_lefts Z_vars Z_leadsFound Z_words : Int32) (Z_mono Z_row Z_basis Z_rest Z_product Z_known : Nat → Int32) (sz : Nat) (Z_product_r Z_known_r : Nat → Int32) (hrun : m_zfindProducts F Z_lefts Z_members Z_n Z_order Z_p Z_mono Z_row Z_basis Z_rest Z_product Z_known = some (Z_product_r, Z_known_r)) : Met l y_Z_findProducts (.code y_Z_findProducts c_Z_findProductsb 6 none :: gAll) rm_zfindProducts (va_Pc [.ref a_Z] (gPW D (gT cI cL cZ) (ws_zfindProducts a_Z a_Z_mono a_Z_row a_Z_basis a_Z_rest a_Z_product a_Z_known a_Z_degree a_Z_generator a_Z_hand a_Z_has a_Z_work a_Z_lead a_Z_tail a_Z_word a_Z_vector a_Z_system a_Z_now a_Z_next cI cL cZ Z_thrownCode Z_p Z_n Z_order Z_monomials Z_generators Z_upTo Z_members Z_lefts Z_vars Z_leadsFound Z_words Z_mono Z_row Z_basis Z_rest Z_product Z_known) sz)) (va_Qv (fun _ : Unit => True) (gB D (gT cI cL cZ) (va_A (ws_zfindProducts a_Z a_Z_mono a_Z_row a_Z_basis a_Z_rest a_Z_product a_Z_known a_Z_degree a_Z_generator a_Z_hand a_Z_has a_Z_work a_Z_lead a_Z_tail a_Z_word a_Z_vector a_Z_system a_Z_now a_Z_next cI cL cZ Z_thrownCode Z_p Z_n Z_order Z_monomials Z_generators Z_upTo Z_members Z_lefts Z_vars Z_leadsFound Z_words Z_mono Z_row Z_basis Z_rest Z_product Z_known) sz) (ws_zfindProducts a_Z a_Z_mono a_Z_row a_Z_basis a_Z_rest a_Z_product a_Z_known a_Z_degree a_Z_generator a_Z_hand a_Z_has a_Z_work a_Z_lead a_Z_tail a_Z_word a_Z_vector a_Z_system a_Z_now a_Z_next cI cL cZ Z_thrownCode Z_p Z_n Z_order Z_monomials Z_generators Z_upTo Z_members Z_lefts Z_vars Z_leadsFound Z_words Z_mono Z_row Z_basis Z_rest Z_product_r Z_known_r)) (va_A (ws_zfindProducts a_Z a_Z_mono a_Z_row a_Z_basis a_Z_rest a_Z_product a_Z_known a_Z_degree a_Z_generator a_Z_hand a_Z_has a_Z_work a_Z_lead a_Z_tail a_Z_word a_Z_vector a_Z_system a_Z_now a_Z_next cI cL cZ Z_thrownCode Z_p Z_n Z_order Z_monomials Z_generators Z_upTo Z_members Z_lefts Z_vars Z_leadsFound Z_words Z_mono Z_row Z_basis Z_rest Z_product Z_known) sz)) 0 0 (va_A (ws_zfindProducts a_Z a_Z_mono a_Z_row a_Z_basis a_Z_rest a_Z_product a_Z_known a_Z_degree a_Z_generator a_Z_hand a_Z_has a_Z_work a_Z_lead a_Z_tail a_Z_word a_Z_vector a_Z_system a_Z_now a_Z_next cI cL cZ Z_thrownCode Z_p Z_n Z_order Z_monomials Z_generators Z_upTo Z_members Z_lefts Z_vars Z_leadsFound Z_words Z_mono Z_row Z_basis Z_rest Z_product Z_known) sz) := by
  refine Met.ofW (cc := c_Z_findProductsb) (maxL := 6) (ret := none) (by decide +kernel) rfl ?_
  intro p e s m args below meth c s₁ B hml hv
  obtain ⟨rfl, hsz, hP, hK, hN, hD0⟩ := hv
  subst hsz
  have hD := hD0.self (sz := s.heap.size)
  have hl := lv_entry ([.ref a_Z]) (n := 6) (Nat.le_of_ble_eq_true rfl)
  rw [lg_entry_eq]
  generalize (lg_sl ([.ref a_Z]) ++ List.replicate (6 - (lg_sl ([.ref a_Z])).length) Slot.unset).toArray = ls at hl ⊢
  exact e_zfindProducts (p, l, e, s, m, ([.ref a_Z] : List Value).toArray, below, meth, c) D cI cL cZ a_Z a_Z_mono a_Z_row a_Z_basis a_Z_rest a_Z_product a_Z_known a_Z_degree a_Z_generator a_Z_hand a_Z_has a_Z_work a_Z_lead a_Z_tail a_Z_word a_Z_vector a_Z_system a_Z_now a_Z_next (va_A (ws_zfindProducts a_Z a_Z_mono a_Z_row a_Z_basis a_Z_rest a_Z_product a_Z_known a_Z_degree a_Z_generator a_Z_hand a_Z_has a_Z_work a_Z_lead a_Z_tail a_Z_word a_Z_vector a_Z_system a_Z_now a_Z_next cI cL cZ Z_thrownCode Z_p Z_n Z_order Z_monomials Z_generators Z_upTo Z_members Z_lefts Z_vars Z_leadsFound Z_words Z_mono Z_row Z_basis Z_rest Z_product Z_known) s.heap.size) Z_thrownCode Z_p Z_n Z_order Z_monomials Z_generators Z_upTo Z_members Z_lefts Z_vars Z_leadsFound Z_words Z_mono Z_row Z_basis Z_rest Z_product_r Z_known_r F ⟨B.exec, B.bytes, B.returns, hml, findClass_of_methodNamed B.named, fun w h => atoms_spec (ws := (.code y_Z_findProducts c_Z_findProductsb 6 none :: gAll)) B.pre w (List.mem_cons_of_mem _ h), B.notSynchronized⟩ hK (fun q h => Or.inr h) hN Z_product Z_known hrun s.heap [] ls hP hD va_S.rf hl
