/-! WavePicturesModel.openInput()I -/
theorem dX15_openInput_0 : decode cX15_openInput 0 = .ok (.aload_n 0, 1) := by decide +kernel
theorem dX15_openInput_1 : decode cX15_openInput 1 = .ok (.getfield 26, 3) := by decide +kernel
theorem dX15_openInput_4 : decode cX15_openInput 4 = .ok (.aload_n 0, 1) := by decide +kernel
theorem dX15_openInput_5 : decode cX15_openInput 5 = .ok (.getfield 114, 3) := by decide +kernel
theorem dX15_openInput_8 : decode cX15_openInput 8 = .ok (.putfield 206, 3) := by decide +kernel
theorem dX15_openInput_11 : decode cX15_openInput 11 = .ok (.iconst 0, 1) := by decide +kernel
theorem dX15_openInput_12 : decode cX15_openInput 12 = .ok (.istore_n 1, 1) := by decide +kernel
theorem dX15_openInput_13 : decode cX15_openInput 13 = .ok (.iload_n 1, 1) := by decide +kernel
theorem dX15_openInput_14 : decode cX15_openInput 14 = .ok (.aload_n 0, 1) := by decide +kernel
theorem dX15_openInput_15 : decode cX15_openInput 15 = .ok (.getfield 114, 3) := by decide +kernel
theorem dX15_openInput_18 : decode cX15_openInput 18 = .ok (.if_icmp .ge 24, 3) := by decide +kernel
theorem dX15_openInput_21 : decode cX15_openInput 21 = .ok (.aload_n 0, 1) := by decide +kernel
theorem dX15_openInput_22 : decode cX15_openInput 22 = .ok (.getfield 26, 3) := by decide +kernel
theorem dX15_openInput_25 : decode cX15_openInput 25 = .ok (.getfield 180, 3) := by decide +kernel
theorem dX15_openInput_28 : decode cX15_openInput 28 = .ok (.iload_n 1, 1) := by decide +kernel
theorem dX15_openInput_29 : decode cX15_openInput 29 = .ok (.aload_n 0, 1) := by decide +kernel
theorem dX15_openInput_30 : decode cX15_openInput 30 = .ok (.getfield 7, 3) := by decide +kernel
theorem dX15_openInput_33 : decode cX15_openInput 33 = .ok (.iload_n 1, 1) := by decide +kernel
theorem dX15_openInput_34 : decode cX15_openInput 34 = .ok (.baload, 1) := by decide +kernel
theorem dX15_openInput_35 : decode cX15_openInput 35 = .ok (.bastore, 1) := by decide +kernel
theorem dX15_openInput_36 : decode cX15_openInput 36 = .ok (.iinc 1 1, 3) := by decide +kernel
theorem dX15_openInput_39 : decode cX15_openInput 39 = .ok (.goto (-26), 3) := by decide +kernel
theorem dX15_openInput_42 : decode cX15_openInput 42 = .ok (.aload_n 0, 1) := by decide +kernel
theorem dX15_openInput_43 : decode cX15_openInput 43 = .ok (.getfield 26, 3) := by decide +kernel
theorem dX15_openInput_46 : decode cX15_openInput 46 = .ok (.aconst_null, 1) := by decide +kernel
theorem dX15_openInput_47 : decode cX15_openInput 47 = .ok (.putfield 207, 3) := by decide +kernel
theorem dX15_openInput_50 : decode cX15_openInput 50 = .ok (.aload_n 0, 1) := by decide +kernel
theorem dX15_openInput_51 : decode cX15_openInput 51 = .ok (.getfield 26, 3) := by decide +kernel
theorem dX15_openInput_54 : decode cX15_openInput 54 = .ok (.iconst 0, 1) := by decide +kernel
theorem dX15_openInput_55 : decode cX15_openInput 55 = .ok (.putfield 211, 3) := by decide +kernel
theorem dX15_openInput_58 : decode cX15_openInput 58 = .ok (.aload_n 0, 1) := by decide +kernel
theorem dX15_openInput_59 : decode cX15_openInput 59 = .ok (.aload_n 0, 1) := by decide +kernel
theorem dX15_openInput_60 : decode cX15_openInput 60 = .ok (.getfield 26, 3) := by decide +kernel
theorem dX15_openInput_63 : decode cX15_openInput 63 = .ok (.invokevirtual 214, 3) := by decide +kernel
theorem dX15_openInput_66 : decode cX15_openInput 66 = .ok (.putfield 217, 3) := by decide +kernel
theorem dX15_openInput_69 : decode cX15_openInput 69 = .ok (.aload_n 0, 1) := by decide +kernel
theorem dX15_openInput_70 : decode cX15_openInput 70 = .ok (.aload_n 0, 1) := by decide +kernel
theorem dX15_openInput_71 : decode cX15_openInput 71 = .ok (.getfield 26, 3) := by decide +kernel
theorem dX15_openInput_74 : decode cX15_openInput 74 = .ok (.getfield 220, 3) := by decide +kernel
theorem dX15_openInput_77 : decode cX15_openInput 77 = .ok (.putfield 19, 3) := by decide +kernel
theorem dX15_openInput_80 : decode cX15_openInput 80 = .ok (.aload_n 0, 1) := by decide +kernel
theorem dX15_openInput_81 : decode cX15_openInput 81 = .ok (.getfield 217, 3) := by decide +kernel
theorem dX15_openInput_84 : decode cX15_openInput 84 = .ok (.ifCond .le 8, 3) := by decide +kernel
theorem dX15_openInput_87 : decode cX15_openInput 87 = .ok (.aload_n 0, 1) := by decide +kernel
theorem dX15_openInput_88 : decode cX15_openInput 88 = .ok (.getfield 217, 3) := by decide +kernel
theorem dX15_openInput_91 : decode cX15_openInput 91 = .ok (.ireturn, 1) := by decide +kernel
theorem dX15_openInput_92 : decode cX15_openInput 92 = .ok (.aload_n 0, 1) := by decide +kernel
theorem dX15_openInput_93 : decode cX15_openInput 93 = .ok (.getfield 26, 3) := by decide +kernel
theorem dX15_openInput_96 : decode cX15_openInput 96 = .ok (.getfield 221, 3) := by decide +kernel
theorem dX15_openInput_99 : decode cX15_openInput 99 = .ok (.istore_n 1, 1) := by decide +kernel
theorem dX15_openInput_100 : decode cX15_openInput 100 = .ok (.aload_n 0, 1) := by decide +kernel
theorem dX15_openInput_101 : decode cX15_openInput 101 = .ok (.getfield 26, 3) := by decide +kernel
theorem dX15_openInput_104 : decode cX15_openInput 104 = .ok (.getfield 224, 3) := by decide +kernel
theorem dX15_openInput_107 : decode cX15_openInput 107 = .ok (.istore_n 2, 1) := by decide +kernel
theorem dX15_openInput_108 : decode cX15_openInput 108 = .ok (.iconst 0, 1) := by decide +kernel
theorem dX15_openInput_109 : decode cX15_openInput 109 = .ok (.istore_n 3, 1) := by decide +kernel
theorem dX15_openInput_110 : decode cX15_openInput 110 = .ok (.iconst 0, 1) := by decide +kernel
theorem dX15_openInput_111 : decode cX15_openInput 111 = .ok (.istore 4, 2) := by decide +kernel
theorem dX15_openInput_113 : decode cX15_openInput 113 = .ok (.iload 4, 2) := by decide +kernel
theorem dX15_openInput_115 : decode cX15_openInput 115 = .ok (.iload_n 1, 1) := by decide +kernel
theorem dX15_openInput_116 : decode cX15_openInput 116 = .ok (.if_icmp .ge 57, 3) := by decide +kernel
theorem dX15_openInput_119 : decode cX15_openInput 119 = .ok (.iload_n 3, 1) := by decide +kernel
theorem dX15_openInput_120 : decode cX15_openInput 120 = .ok (.aload_n 0, 1) := by decide +kernel
theorem dX15_openInput_121 : decode cX15_openInput 121 = .ok (.getfield 26, 3) := by decide +kernel
theorem dX15_openInput_124 : decode cX15_openInput 124 = .ok (.getfield 225, 3) := by decide +kernel
theorem dX15_openInput_127 : decode cX15_openInput 127 = .ok (.iload 4, 2) := by decide +kernel
theorem dX15_openInput_129 : decode cX15_openInput 129 = .ok (.iaload, 1) := by decide +kernel
theorem dX15_openInput_130 : decode cX15_openInput 130 = .ok (.iconst 1, 1) := by decide +kernel
theorem dX15_openInput_131 : decode cX15_openInput 131 = .ok (.isub, 1) := by decide +kernel
theorem dX15_openInput_132 : decode cX15_openInput 132 = .ok (.iconst 2, 1) := by decide +kernel
theorem dX15_openInput_133 : decode cX15_openInput 133 = .ok (.iload 4, 2) := by decide +kernel
theorem dX15_openInput_135 : decode cX15_openInput 135 = .ok (.imul, 1) := by decide +kernel
theorem dX15_openInput_136 : decode cX15_openInput 136 = .ok (.ishl, 1) := by decide +kernel
theorem dX15_openInput_137 : decode cX15_openInput 137 = .ok (.aload_n 0, 1) := by decide +kernel
theorem dX15_openInput_138 : decode cX15_openInput 138 = .ok (.getfield 26, 3) := by decide +kernel
theorem dX15_openInput_141 : decode cX15_openInput 141 = .ok (.getfield 226, 3) := by decide +kernel
theorem dX15_openInput_144 : decode cX15_openInput 144 = .ok (.iload 4, 2) := by decide +kernel
theorem dX15_openInput_146 : decode cX15_openInput 146 = .ok (.iaload, 1) := by decide +kernel
theorem dX15_openInput_147 : decode cX15_openInput 147 = .ok (.iconst 1, 1) := by decide +kernel
theorem dX15_openInput_148 : decode cX15_openInput 148 = .ok (.isub, 1) := by decide +kernel
theorem dX15_openInput_149 : decode cX15_openInput 149 = .ok (.iconst 2, 1) := by decide +kernel
theorem dX15_openInput_150 : decode cX15_openInput 150 = .ok (.iload 4, 2) := by decide +kernel
theorem dX15_openInput_152 : decode cX15_openInput 152 = .ok (.imul, 1) := by decide +kernel
theorem dX15_openInput_153 : decode cX15_openInput 153 = .ok (.iconst 1, 1) := by decide +kernel
theorem dX15_openInput_154 : decode cX15_openInput 154 = .ok (.iadd, 1) := by decide +kernel
theorem dX15_openInput_155 : decode cX15_openInput 155 = .ok (.ishl, 1) := by decide +kernel
theorem dX15_openInput_156 : decode cX15_openInput 156 = .ok (.ior, 1) := by decide +kernel
theorem dX15_openInput_157 : decode cX15_openInput 157 = .ok (.ior, 1) := by decide +kernel
theorem dX15_openInput_158 : decode cX15_openInput 158 = .ok (.istore_n 3, 1) := by decide +kernel
theorem dX15_openInput_159 : decode cX15_openInput 159 = .ok (.aload_n 0, 1) := by decide +kernel
theorem dX15_openInput_160 : decode cX15_openInput 160 = .ok (.getfield 48, 3) := by decide +kernel
theorem dX15_openInput_163 : decode cX15_openInput 163 = .ok (.iload 4, 2) := by decide +kernel
theorem dX15_openInput_165 : decode cX15_openInput 165 = .ok (.iconst 0, 1) := by decide +kernel
theorem dX15_openInput_166 : decode cX15_openInput 166 = .ok (.bastore, 1) := by decide +kernel
theorem dX15_openInput_167 : decode cX15_openInput 167 = .ok (.iinc 4 1, 3) := by decide +kernel
theorem dX15_openInput_170 : decode cX15_openInput 170 = .ok (.goto (-57), 3) := by decide +kernel
theorem dX15_openInput_173 : decode cX15_openInput 173 = .ok (.aload_n 0, 1) := by decide +kernel
theorem dX15_openInput_174 : decode cX15_openInput 174 = .ok (.getfield 33, 3) := by decide +kernel
theorem dX15_openInput_177 : decode cX15_openInput 177 = .ok (.aload_n 0, 1) := by decide +kernel
theorem dX15_openInput_178 : decode cX15_openInput 178 = .ok (.getfield 26, 3) := by decide +kernel
theorem dX15_openInput_181 : decode cX15_openInput 181 = .ok (.getfield 227, 3) := by decide +kernel
theorem dX15_openInput_184 : decode cX15_openInput 184 = .ok (.iload_n 2, 1) := by decide +kernel
theorem dX15_openInput_185 : decode cX15_openInput 185 = .ok (.iload_n 1, 1) := by decide +kernel
theorem dX15_openInput_186 : decode cX15_openInput 186 = .ok (.iload_n 3, 1) := by decide +kernel
theorem dX15_openInput_187 : decode cX15_openInput 187 = .ok (.invokevirtual 228, 3) := by decide +kernel
theorem dX15_openInput_190 : decode cX15_openInput 190 = .ok (.ifCond .ne 14, 3) := by decide +kernel
theorem dX15_openInput_193 : decode cX15_openInput 193 = .ok (.aload_n 0, 1) := by decide +kernel
theorem dX15_openInput_194 : decode cX15_openInput 194 = .ok (.bipush 9, 2) := by decide +kernel
theorem dX15_openInput_196 : decode cX15_openInput 196 = .ok (.putfield 217, 3) := by decide +kernel
theorem dX15_openInput_199 : decode cX15_openInput 199 = .ok (.aload_n 0, 1) := by decide +kernel
theorem dX15_openInput_200 : decode cX15_openInput 200 = .ok (.getfield 217, 3) := by decide +kernel
theorem dX15_openInput_203 : decode cX15_openInput 203 = .ok (.ireturn, 1) := by decide +kernel
theorem dX15_openInput_204 : decode cX15_openInput 204 = .ok (.aload_n 0, 1) := by decide +kernel
theorem dX15_openInput_205 : decode cX15_openInput 205 = .ok (.getfield 26, 3) := by decide +kernel
theorem dX15_openInput_208 : decode cX15_openInput 208 = .ok (.getfield 145, 3) := by decide +kernel
theorem dX15_openInput_211 : decode cX15_openInput 211 = .ok (.istore 4, 2) := by decide +kernel
theorem dX15_openInput_213 : decode cX15_openInput 213 = .ok (.aload_n 0, 1) := by decide +kernel
theorem dX15_openInput_214 : decode cX15_openInput 214 = .ok (.getfield 26, 3) := by decide +kernel
theorem dX15_openInput_217 : decode cX15_openInput 217 = .ok (.getfield 232, 3) := by decide +kernel
theorem dX15_openInput_220 : decode cX15_openInput 220 = .ok (.istore 5, 2) := by decide +kernel
theorem dX15_openInput_222 : decode cX15_openInput 222 = .ok (.aload_n 0, 1) := by decide +kernel
theorem dX15_openInput_223 : decode cX15_openInput 223 = .ok (.getfield 26, 3) := by decide +kernel
theorem dX15_openInput_226 : decode cX15_openInput 226 = .ok (.aload_n 0, 1) := by decide +kernel
theorem dX15_openInput_227 : decode cX15_openInput 227 = .ok (.putfield 207, 3) := by decide +kernel
theorem dX15_openInput_230 : decode cX15_openInput 230 = .ok (.aload_n 0, 1) := by decide +kernel
theorem dX15_openInput_231 : decode cX15_openInput 231 = .ok (.getfield 26, 3) := by decide +kernel
theorem dX15_openInput_234 : decode cX15_openInput 234 = .ok (.invokevirtual 214, 3) := by decide +kernel
theorem dX15_openInput_237 : decode cX15_openInput 237 = .ok (.istore 6, 2) := by decide +kernel
theorem dX15_openInput_239 : decode cX15_openInput 239 = .ok (.aload_n 0, 1) := by decide +kernel
theorem dX15_openInput_240 : decode cX15_openInput 240 = .ok (.aload_n 0, 1) := by decide +kernel
theorem dX15_openInput_241 : decode cX15_openInput 241 = .ok (.getfield 26, 3) := by decide +kernel
theorem dX15_openInput_244 : decode cX15_openInput 244 = .ok (.getfield 211, 3) := by decide +kernel
theorem dX15_openInput_247 : decode cX15_openInput 247 = .ok (.putfield 217, 3) := by decide +kernel
theorem dX15_openInput_250 : decode cX15_openInput 250 = .ok (.aload_n 0, 1) := by decide +kernel
theorem dX15_openInput_251 : decode cX15_openInput 251 = .ok (.getfield 217, 3) := by decide +kernel
theorem dX15_openInput_254 : decode cX15_openInput 254 = .ok (.ifCond .le 8, 3) := by decide +kernel
theorem dX15_openInput_257 : decode cX15_openInput 257 = .ok (.aload_n 0, 1) := by decide +kernel
theorem dX15_openInput_258 : decode cX15_openInput 258 = .ok (.getfield 217, 3) := by decide +kernel
theorem dX15_openInput_261 : decode cX15_openInput 261 = .ok (.ireturn, 1) := by decide +kernel
theorem dX15_openInput_262 : decode cX15_openInput 262 = .ok (.aload_n 0, 1) := by decide +kernel
theorem dX15_openInput_263 : decode cX15_openInput 263 = .ok (.iconst (-1), 1) := by decide +kernel
theorem dX15_openInput_264 : decode cX15_openInput 264 = .ok (.putfield 19, 3) := by decide +kernel
theorem dX15_openInput_267 : decode cX15_openInput 267 = .ok (.aload_n 0, 1) := by decide +kernel
theorem dX15_openInput_268 : decode cX15_openInput 268 = .ok (.iconst 1, 1) := by decide +kernel
theorem dX15_openInput_269 : decode cX15_openInput 269 = .ok (.putfield 235, 3) := by decide +kernel
theorem dX15_openInput_272 : decode cX15_openInput 272 = .ok (.aload_n 0, 1) := by decide +kernel
theorem dX15_openInput_273 : decode cX15_openInput 273 = .ok (.aload_n 0, 1) := by decide +kernel
theorem dX15_openInput_274 : decode cX15_openInput 274 = .ok (.getfield 26, 3) := by decide +kernel
theorem dX15_openInput_277 : decode cX15_openInput 277 = .ok (.getfield 227, 3) := by decide +kernel
theorem dX15_openInput_280 : decode cX15_openInput 280 = .ok (.putfield 129, 3) := by decide +kernel
theorem dX15_openInput_283 : decode cX15_openInput 283 = .ok (.aload_n 0, 1) := by decide +kernel
theorem dX15_openInput_284 : decode cX15_openInput 284 = .ok (.iload_n 2, 1) := by decide +kernel
theorem dX15_openInput_285 : decode cX15_openInput 285 = .ok (.putfield 139, 3) := by decide +kernel
theorem dX15_openInput_288 : decode cX15_openInput 288 = .ok (.aload_n 0, 1) := by decide +kernel
theorem dX15_openInput_289 : decode cX15_openInput 289 = .ok (.iload_n 1, 1) := by decide +kernel
theorem dX15_openInput_290 : decode cX15_openInput 290 = .ok (.putfield 126, 3) := by decide +kernel
theorem dX15_openInput_293 : decode cX15_openInput 293 = .ok (.iconst 0, 1) := by decide +kernel
theorem dX15_openInput_294 : decode cX15_openInput 294 = .ok (.istore 7, 2) := by decide +kernel
theorem dX15_openInput_296 : decode cX15_openInput 296 = .ok (.iload 7, 2) := by decide +kernel
theorem dX15_openInput_298 : decode cX15_openInput 298 = .ok (.iload_n 1, 1) := by decide +kernel
theorem dX15_openInput_299 : decode cX15_openInput 299 = .ok (.if_icmp .ge 43, 3) := by decide +kernel
theorem dX15_openInput_302 : decode cX15_openInput 302 = .ok (.aload_n 0, 1) := by decide +kernel
theorem dX15_openInput_303 : decode cX15_openInput 303 = .ok (.getfield 52, 3) := by decide +kernel
theorem dX15_openInput_306 : decode cX15_openInput 306 = .ok (.iload 7, 2) := by decide +kernel
theorem dX15_openInput_308 : decode cX15_openInput 308 = .ok (.aload_n 0, 1) := by decide +kernel
theorem dX15_openInput_309 : decode cX15_openInput 309 = .ok (.getfield 26, 3) := by decide +kernel
theorem dX15_openInput_312 : decode cX15_openInput 312 = .ok (.getfield 225, 3) := by decide +kernel
theorem dX15_openInput_315 : decode cX15_openInput 315 = .ok (.iload 7, 2) := by decide +kernel
theorem dX15_openInput_317 : decode cX15_openInput 317 = .ok (.iaload, 1) := by decide +kernel
theorem dX15_openInput_318 : decode cX15_openInput 318 = .ok (.iastore, 1) := by decide +kernel
theorem dX15_openInput_319 : decode cX15_openInput 319 = .ok (.aload_n 0, 1) := by decide +kernel
theorem dX15_openInput_320 : decode cX15_openInput 320 = .ok (.getfield 55, 3) := by decide +kernel
theorem dX15_openInput_323 : decode cX15_openInput 323 = .ok (.iload 7, 2) := by decide +kernel
theorem dX15_openInput_325 : decode cX15_openInput 325 = .ok (.aload_n 0, 1) := by decide +kernel
theorem dX15_openInput_326 : decode cX15_openInput 326 = .ok (.getfield 26, 3) := by decide +kernel
theorem dX15_openInput_329 : decode cX15_openInput 329 = .ok (.getfield 226, 3) := by decide +kernel
theorem dX15_openInput_332 : decode cX15_openInput 332 = .ok (.iload 7, 2) := by decide +kernel
theorem dX15_openInput_334 : decode cX15_openInput 334 = .ok (.iaload, 1) := by decide +kernel
theorem dX15_openInput_335 : decode cX15_openInput 335 = .ok (.iastore, 1) := by decide +kernel
theorem dX15_openInput_336 : decode cX15_openInput 336 = .ok (.iinc 7 1, 3) := by decide +kernel
theorem dX15_openInput_339 : decode cX15_openInput 339 = .ok (.goto (-43), 3) := by decide +kernel
theorem dX15_openInput_342 : decode cX15_openInput 342 = .ok (.aload_n 0, 1) := by decide +kernel
theorem dX15_openInput_343 : decode cX15_openInput 343 = .ok (.invokevirtual 239, 3) := by decide +kernel
theorem dX15_openInput_346 : decode cX15_openInput 346 = .ok (.iconst 0, 1) := by decide +kernel
theorem dX15_openInput_347 : decode cX15_openInput 347 = .ok (.istore 7, 2) := by decide +kernel
theorem dX15_openInput_349 : decode cX15_openInput 349 = .ok (.iload 7, 2) := by decide +kernel
theorem dX15_openInput_351 : decode cX15_openInput 351 = .ok (.sipush 12288, 3) := by decide +kernel
theorem dX15_openInput_354 : decode cX15_openInput 354 = .ok (.if_icmp .ge 26, 3) := by decide +kernel
theorem dX15_openInput_357 : decode cX15_openInput 357 = .ok (.aload_n 0, 1) := by decide +kernel
theorem dX15_openInput_358 : decode cX15_openInput 358 = .ok (.getfield 70, 3) := by decide +kernel
theorem dX15_openInput_361 : decode cX15_openInput 361 = .ok (.iload 7, 2) := by decide +kernel
theorem dX15_openInput_363 : decode cX15_openInput 363 = .ok (.aload_n 0, 1) := by decide +kernel
theorem dX15_openInput_364 : decode cX15_openInput 364 = .ok (.getfield 33, 3) := by decide +kernel
theorem dX15_openInput_367 : decode cX15_openInput 367 = .ok (.getfield 242, 3) := by decide +kernel
theorem dX15_openInput_370 : decode cX15_openInput 370 = .ok (.iload 7, 2) := by decide +kernel
theorem dX15_openInput_372 : decode cX15_openInput 372 = .ok (.saload, 1) := by decide +kernel
theorem dX15_openInput_373 : decode cX15_openInput 373 = .ok (.sastore, 1) := by decide +kernel
theorem dX15_openInput_374 : decode cX15_openInput 374 = .ok (.iinc 7 1, 3) := by decide +kernel
theorem dX15_openInput_377 : decode cX15_openInput 377 = .ok (.goto (-28), 3) := by decide +kernel
theorem dX15_openInput_380 : decode cX15_openInput 380 = .ok (.iconst 0, 1) := by decide +kernel
theorem dX15_openInput_381 : decode cX15_openInput 381 = .ok (.istore 7, 2) := by decide +kernel
theorem dX15_openInput_383 : decode cX15_openInput 383 = .ok (.iload 7, 2) := by decide +kernel
theorem dX15_openInput_385 : decode cX15_openInput 385 = .ok (.sipush 256, 3) := by decide +kernel
theorem dX15_openInput_388 : decode cX15_openInput 388 = .ok (.if_icmp .ge 23, 3) := by decide +kernel
theorem dX15_openInput_391 : decode cX15_openInput 391 = .ok (.aload_n 0, 1) := by decide +kernel
theorem dX15_openInput_392 : decode cX15_openInput 392 = .ok (.getfield 67, 3) := by decide +kernel
theorem dX15_openInput_395 : decode cX15_openInput 395 = .ok (.iload 7, 2) := by decide +kernel
theorem dX15_openInput_397 : decode cX15_openInput 397 = .ok (.aload_n 0, 1) := by decide +kernel
theorem dX15_openInput_398 : decode cX15_openInput 398 = .ok (.getfield 44, 3) := by decide +kernel
theorem dX15_openInput_401 : decode cX15_openInput 401 = .ok (.iload 7, 2) := by decide +kernel
theorem dX15_openInput_403 : decode cX15_openInput 403 = .ok (.iaload, 1) := by decide +kernel
theorem dX15_openInput_404 : decode cX15_openInput 404 = .ok (.iastore, 1) := by decide +kernel
theorem dX15_openInput_405 : decode cX15_openInput 405 = .ok (.iinc 7 1, 3) := by decide +kernel
theorem dX15_openInput_408 : decode cX15_openInput 408 = .ok (.goto (-25), 3) := by decide +kernel
theorem dX15_openInput_411 : decode cX15_openInput 411 = .ok (.aload_n 0, 1) := by decide +kernel
theorem dX15_openInput_412 : decode cX15_openInput 412 = .ok (.iload 4, 2) := by decide +kernel
theorem dX15_openInput_414 : decode cX15_openInput 414 = .ok (.putfield 243, 3) := by decide +kernel
theorem dX15_openInput_417 : decode cX15_openInput 417 = .ok (.aload_n 0, 1) := by decide +kernel
theorem dX15_openInput_418 : decode cX15_openInput 418 = .ok (.iload 5, 2) := by decide +kernel
theorem dX15_openInput_420 : decode cX15_openInput 420 = .ok (.putfield 246, 3) := by decide +kernel
theorem dX15_openInput_423 : decode cX15_openInput 423 = .ok (.aload_n 0, 1) := by decide +kernel
theorem dX15_openInput_424 : decode cX15_openInput 424 = .ok (.dup, 1) := by decide +kernel
theorem dX15_openInput_425 : decode cX15_openInput 425 = .ok (.getfield 249, 3) := by decide +kernel
theorem dX15_openInput_428 : decode cX15_openInput 428 = .ok (.iconst 1, 1) := by decide +kernel
theorem dX15_openInput_429 : decode cX15_openInput 429 = .ok (.iadd, 1) := by decide +kernel
theorem dX15_openInput_430 : decode cX15_openInput 430 = .ok (.putfield 249, 3) := by decide +kernel
theorem dX15_openInput_433 : decode cX15_openInput 433 = .ok (.iconst 0, 1) := by decide +kernel
theorem dX15_openInput_434 : decode cX15_openInput 434 = .ok (.ireturn, 1) := by decide +kernel
theorem flRX15_26 : px_f RX15 26 15 12 := ⟨_, rfl, by decide, Or.inl (tb7 (List.mem_of_getElem? (i := 213) rfl))⟩
theorem flRX15_67 : px_f RX15 67 15 30 := ⟨_, rfl, by decide, Or.inl (tb7 (List.mem_of_getElem? (i := 231) rfl))⟩
theorem flRX15_70 : px_f RX15 70 15 31 := ⟨_, rfl, by decide, Or.inl (tb7 (List.mem_of_getElem? (i := 232) rfl))⟩
theorem flRX15_206 : px_f RX15 206 14 1 := ⟨_, rfl, by decide, Or.inr ⟨"WavePicturesModel", tT6 (List.mem_of_getElem? (i := 102) rfl)⟩⟩
theorem flRX15_207 : px_f RX15 207 14 2 := ⟨_, rfl, by decide, Or.inr ⟨"WavePicturesModel", tT6 (List.mem_of_getElem? (i := 103) rfl)⟩⟩
theorem flRX15_211 : px_f RX15 211 14 3 := ⟨_, rfl, by decide, Or.inr ⟨"WavePicturesModel", tT6 (List.mem_of_getElem? (i := 105) rfl)⟩⟩
theorem flRX15_217 : px_f RX15 217 15 7 := ⟨_, rfl, by decide, Or.inl (tb7 (List.mem_of_getElem? (i := 208) rfl))⟩
theorem flRX15_220 : px_f RX15 220 14 5 := ⟨_, rfl, by decide, Or.inr ⟨"WavePicturesModel", tT6 (List.mem_of_getElem? (i := 109) rfl)⟩⟩
theorem flRX15_221 : px_f RX15 221 14 15 := ⟨_, rfl, by decide, Or.inr ⟨"WavePicturesModel", tT6 (List.mem_of_getElem? (i := 123) rfl)⟩⟩
theorem flRX15_224 : px_f RX15 224 14 14 := ⟨_, rfl, by decide, Or.inr ⟨"WavePicturesModel", tT6 (List.mem_of_getElem? (i := 121) rfl)⟩⟩
theorem flRX15_225 : px_f RX15 225 14 17 := ⟨_, rfl, by decide, Or.inr ⟨"WavePicturesModel", tT6 (List.mem_of_getElem? (i := 126) rfl)⟩⟩
theorem flRX15_226 : px_f RX15 226 14 18 := ⟨_, rfl, by decide, Or.inr ⟨"WavePicturesModel", tT6 (List.mem_of_getElem? (i := 128) rfl)⟩⟩
theorem flRX15_227 : px_f RX15 227 14 13 := ⟨_, rfl, by decide, Or.inr ⟨"WavePicturesModel", tT6 (List.mem_of_getElem? (i := 119) rfl)⟩⟩
theorem flRX15_232 : px_f RX15 232 14 10 := ⟨_, rfl, by decide, Or.inr ⟨"WavePicturesModel", tT6 (List.mem_of_getElem? (i := 115) rfl)⟩⟩
theorem flRX15_235 : px_f RX15 235 15 17 := ⟨_, rfl, by decide, Or.inl (tb7 (List.mem_of_getElem? (i := 218) rfl))⟩
theorem flRX15_242 : px_f RX15 242 13 12 := ⟨_, rfl, by decide, Or.inr ⟨"WavePicturesModel", tT7 (List.mem_of_getElem? (i := 22) rfl)⟩⟩
theorem flRX15_243 : px_f RX15 243 15 9 := ⟨_, rfl, by decide, Or.inl (tb7 (List.mem_of_getElem? (i := 210) rfl))⟩
theorem flRX15_246 : px_f RX15 246 15 10 := ⟨_, rfl, by decide, Or.inl (tb7 (List.mem_of_getElem? (i := 211) rfl))⟩
theorem flRX15_249 : px_f RX15 249 15 11 := ⟨_, rfl, by decide, Or.inl (tb7 (List.mem_of_getElem? (i := 212) rfl))⟩
theorem mbX14_readAll : px_mB mX14_readAll 0 := ⟨tb8 (List.mem_of_getElem? (i := 122) rfl), by decide +kernel, tb1 (List.mem_of_getElem? (i := 14) rfl), by decide +kernel, by decide +kernel⟩
theorem vbX14_readAll : px_vB mX14_readAll := ⟨tb8 (List.mem_of_getElem? (i := 120) rfl), tb8 (List.mem_of_getElem? (i := 121) rfl)⟩
theorem kcX15_openInput_214 : px_cV mX15_openInput 214 mX14_readAll 0 := ⟨⟨mbX14_readAll, by decide, by decide⟩, Or.inl (tb8 (List.mem_of_getElem? (i := 119) rfl)), vbX14_readAll⟩
theorem mbX13_frame : px_mB mX13_frame 4 := ⟨tb9 (List.mem_of_getElem? (i := 99) rfl), by decide +kernel, tb1 (List.mem_of_getElem? (i := 15) rfl), by decide +kernel, by decide +kernel⟩
theorem vbX13_frame : px_vB mX13_frame := ⟨tb9 (List.mem_of_getElem? (i := 97) rfl), tb9 (List.mem_of_getElem? (i := 98) rfl)⟩
theorem kcX15_openInput_228 : px_cV mX15_openInput 228 mX13_frame 4 := ⟨⟨mbX13_frame, by decide, by decide⟩, Or.inl (tb9 (List.mem_of_getElem? (i := 96) rfl)), vbX13_frame⟩
theorem mbX15_layOut : px_mB mX15_layOut 0 := ⟨tb9 (List.mem_of_getElem? (i := 114) rfl), by decide +kernel, tb1 (List.mem_of_getElem? (i := 13) rfl), by decide +kernel, by decide +kernel⟩
theorem vbX15_layOut : px_vB mX15_layOut := ⟨tb9 (List.mem_of_getElem? (i := 113) rfl), List.mem_append_left _ (List.mem_of_getElem? (i := 133) (by decide +kernel))⟩
theorem kcX15_openInput_239 : px_cV mX15_openInput 239 mX15_layOut 0 := ⟨⟨mbX15_layOut, by decide, by decide⟩, Or.inl (tb9 (List.mem_of_getElem? (i := 111) rfl)), vbX15_layOut⟩
set_option maxRecDepth 100000 in
set_option maxHeartbeats 4000000 in
theorem eX15_openInput_411 {X : px_X}  : ∀ (a0 : Nat) (a4 : Int32) (a5 : Int32) (w : px_W) (q : Int32 × px_W), fX15_openInput_411 X  a0 a4 a5 w = some q → EV X mX15_openInput 411 [(0, .ref a0), (4, .int a4), (5, .int a5)] [] w (some (.int q.1)) q.2 := by
  intro a0 a4 a5 w q h
  unfold fX15_openInput_411 at h
  refine EV.aload_n 0 dX15_openInput_411 rfl rfl ?_
  refine EV.iload 1 dX15_openInput_412 rfl ?_
  obtain ⟨w88, gw88, h⟩ := px_bs h
  refine ev_pV dX15_openInput_414 flRX15_243 rfl rfl rfl rfl gw88 ?_
  refine EV.aload_n 0 dX15_openInput_417 rfl rfl ?_
  refine EV.iload 2 dX15_openInput_418 rfl ?_
  obtain ⟨w89, gw89, h⟩ := px_bs h
  refine ev_pV dX15_openInput_420 flRX15_246 rfl rfl rfl rfl gw89 ?_
  refine EV.aload_n 0 dX15_openInput_423 rfl rfl ?_
  refine EV.dup dX15_openInput_424 rfl ?_
  obtain ⟨v90, gv90, h⟩ := px_bs h
  refine ev_gI dX15_openInput_425 flRX15_249 gv90 ?_
  refine EV.iconst (1) dX15_openInput_428 (by decide) ?_
  refine EV.iadd dX15_openInput_429 ?_
  obtain ⟨w91, gw91, h⟩ := px_bs h
  refine ev_pV dX15_openInput_430 flRX15_249 rfl rfl rfl rfl gw91 ?_
  refine EV.iconst (0) dX15_openInput_433 (by decide) ?_
  cases h
  exact EV.reti dX15_openInput_434 rfl
set_option maxRecDepth 100000 in
set_option maxHeartbeats 4000000 in
theorem eX15_openInput_383 {X : px_X}  : ∀ (m : Nat) (a0 : Nat) (a4 : Int32) (a5 : Int32) (a7 : Int32) (w : px_W) (q : Int32 × px_W), fX15_openInput_383 X  m a0 a4 a5 a7 w = some q → EV X mX15_openInput 383 [(0, .ref a0), (4, .int a4), (5, .int a5), (7, .int a7)] [] w (some (.int q.1)) q.2 := by
  intro m
  induction m with
  | zero => intro a0 a4 a5 a7 w q h; cases h
  | succ m ih =>
    intro a0 a4 a5 a7 w q h
    rw [fX15_openInput_383.eq_2] at h
    refine EV.iload 3 dX15_openInput_383 rfl ?_
    refine EV.sipush (256) dX15_openInput_385 (by decide) ?_
    refine EV.icmp_ge 411 dX15_openInput_388 (by decide) (fun c92 => ?_) (fun c92 => ?_)
    · rw [if_pos c92] at h
      refine EV.sub [0, 1, 2] rfl ?_
      exact eX15_openInput_411  _ _ _ _ _ h
    · rw [if_neg c92] at h
      refine EV.aload_n 0 dX15_openInput_391 rfl rfl ?_
      obtain ⟨v93, gv93, h⟩ := px_bs h
      refine ev_gR dX15_openInput_392 flRX15_67 gv93 ?_
      refine EV.iload 3 dX15_openInput_395 rfl ?_
      refine EV.aload_n 0 dX15_openInput_397 rfl rfl ?_
      obtain ⟨v94, gv94, h⟩ := px_bs h
      refine ev_gR dX15_openInput_398 flRX15_44 gv94 ?_
      refine EV.iload 3 dX15_openInput_401 rfl ?_
      obtain ⟨v95, gv95, h⟩ := px_bs h
      refine ev_aI dX15_openInput_403 gv95 ?_
      obtain ⟨w96, gw96, h⟩ := px_bs h
      refine ev_sI dX15_openInput_404 gw96 ?_
      refine EV.iinc 3 (a7 + 1) [(7, .int (a7 + 1)), (0, .ref a0), (4, .int a4), (5, .int a5)] dX15_openInput_405 rfl rfl (by decide) rfl ?_
      refine EV.goto 383 dX15_openInput_408 (by decide) ?_
      refine EV.sub [1, 2, 3, 0] rfl ?_
      exact ih _ _ _ _ _ _ h
set_option maxRecDepth 100000 in
set_option maxHeartbeats 4000000 in
theorem eX15_openInput_380 {X : px_X}  : ∀ (a0 : Nat) (a4 : Int32) (a5 : Int32) (w : px_W) (q : Int32 × px_W), fX15_openInput_380 X  a0 a4 a5 w = some q → EV X mX15_openInput 380 [(0, .ref a0), (4, .int a4), (5, .int a5)] [] w (some (.int q.1)) q.2 := by
  intro a0 a4 a5 w q h
  unfold fX15_openInput_380 at h
  refine EV.iconst (0) dX15_openInput_380 (by decide) ?_
  refine EV.istore [(7, .int 0), (0, .ref a0), (4, .int a4), (5, .int a5)] dX15_openInput_381 (by decide) rfl ?_
  refine EV.sub [1, 2, 3, 0] rfl ?_
  exact eX15_openInput_383  FU _ _ _ _ _ _ h
set_option maxRecDepth 100000 in
set_option maxHeartbeats 4000000 in
theorem eX15_openInput_349 {X : px_X}  : ∀ (m : Nat) (a0 : Nat) (a4 : Int32) (a5 : Int32) (a7 : Int32) (w : px_W) (q : Int32 × px_W), fX15_openInput_349 X  m a0 a4 a5 a7 w = some q → EV X mX15_openInput 349 [(0, .ref a0), (4, .int a4), (5, .int a5), (7, .int a7)] [] w (some (.int q.1)) q.2 := by
  intro m
  induction m with
  | zero => intro a0 a4 a5 a7 w q h; cases h
  | succ m ih =>
    intro a0 a4 a5 a7 w q h
    rw [fX15_openInput_349.eq_2] at h
    refine EV.iload 3 dX15_openInput_349 rfl ?_
    refine EV.sipush (12288) dX15_openInput_351 (by decide) ?_
    refine EV.icmp_ge 380 dX15_openInput_354 (by decide) (fun c97 => ?_) (fun c97 => ?_)
    · rw [if_pos c97] at h
      refine EV.sub [0, 1, 2] rfl ?_
      exact eX15_openInput_380  _ _ _ _ _ h
    · rw [if_neg c97] at h
      refine EV.aload_n 0 dX15_openInput_357 rfl rfl ?_
      obtain ⟨v98, gv98, h⟩ := px_bs h
      refine ev_gR dX15_openInput_358 flRX15_70 gv98 ?_
      refine EV.iload 3 dX15_openInput_361 rfl ?_
      refine EV.aload_n 0 dX15_openInput_363 rfl rfl ?_
      obtain ⟨v99, gv99, h⟩ := px_bs h
      refine ev_gR dX15_openInput_364 flRX15_33 gv99 ?_
      obtain ⟨v100, gv100, h⟩ := px_bs h
      refine ev_gR dX15_openInput_367 flRX15_242 gv100 ?_
      refine EV.iload 3 dX15_openInput_370 rfl ?_
      obtain ⟨v101, gv101, h⟩ := px_bs h
      refine ev_aS dX15_openInput_372 gv101 ?_
      obtain ⟨w102, gw102, h⟩ := px_bs h
      refine ev_sS dX15_openInput_373 gw102 ?_
      refine EV.iinc 3 (a7 + 1) [(7, .int (a7 + 1)), (0, .ref a0), (4, .int a4), (5, .int a5)] dX15_openInput_374 rfl rfl (by decide) rfl ?_
      refine EV.goto 349 dX15_openInput_377 (by decide) ?_
      refine EV.sub [1, 2, 3, 0] rfl ?_
      exact ih _ _ _ _ _ _ h
set_option maxRecDepth 100000 in
set_option maxHeartbeats 4000000 in
theorem eX15_openInput_342 {X : px_X}  : ∀ (a0 : Nat) (a4 : Int32) (a5 : Int32) (w : px_W) (q : Int32 × px_W), fX15_openInput_342 X  a0 a4 a5 w = some q → EV X mX15_openInput 342 [(0, .ref a0), (4, .int a4), (5, .int a5)] [] w (some (.int q.1)) q.2 := by
  intro a0 a4 a5 w q h
  unfold fX15_openInput_342 at h
  refine EV.aload_n 0 dX15_openInput_342 rfl rfl ?_
  obtain ⟨o103, go103, h⟩ := px_bs h
  obtain ⟨q104, gq104, h⟩ := px_bs h
  refine EV.callV (As := []) (rest := []) dX15_openInput_343 kcX15_openInput_239 (gO_ok go103) rfl rfl rfl (Nat.le_of_ble_eq_true rfl) (Nat.le_of_ble_eq_true rfl) (eX15_layOut gq104) ?_
  refine EV.iconst (0) dX15_openInput_346 (by decide) ?_
  refine EV.istore [(7, .int 0), (0, .ref a0), (4, .int a4), (5, .int a5)] dX15_openInput_347 (by decide) rfl ?_
  refine EV.sub [1, 2, 3, 0] rfl ?_
  exact eX15_openInput_349  FU _ _ _ _ _ _ h
set_option maxRecDepth 100000 in
set_option maxHeartbeats 4000000 in
theorem eX15_openInput_296 {X : px_X}  : ∀ (m : Nat) (a0 : Nat) (a1 : Int32) (a4 : Int32) (a5 : Int32) (a7 : Int32) (w : px_W) (q : Int32 × px_W), fX15_openInput_296 X  m a0 a1 a4 a5 a7 w = some q → EV X mX15_openInput 296 [(0, .ref a0), (1, .int a1), (4, .int a4), (5, .int a5), (7, .int a7)] [] w (some (.int q.1)) q.2 := by
  intro m
  induction m with
  | zero => intro a0 a1 a4 a5 a7 w q h; cases h
  | succ m ih =>
    intro a0 a1 a4 a5 a7 w q h
    rw [fX15_openInput_296.eq_2] at h
    refine EV.iload 4 dX15_openInput_296 rfl ?_
    refine EV.iload_n 1 dX15_openInput_298 rfl rfl ?_
    refine EV.icmp_ge 342 dX15_openInput_299 (by decide) (fun c105 => ?_) (fun c105 => ?_)
    · rw [if_pos c105] at h
      refine EV.sub [0, 2, 3] rfl ?_
      exact eX15_openInput_342  _ _ _ _ _ h
    · rw [if_neg c105] at h
      refine EV.aload_n 0 dX15_openInput_302 rfl rfl ?_
      obtain ⟨v106, gv106, h⟩ := px_bs h
      refine ev_gR dX15_openInput_303 flRX15_52 gv106 ?_
      refine EV.iload 4 dX15_openInput_306 rfl ?_
      refine EV.aload_n 0 dX15_openInput_308 rfl rfl ?_
      obtain ⟨v107, gv107, h⟩ := px_bs h
      refine ev_gR dX15_openInput_309 flRX15_26 gv107 ?_
      obtain ⟨v108, gv108, h⟩ := px_bs h
      refine ev_gR dX15_openInput_312 flRX15_225 gv108 ?_
      refine EV.iload 4 dX15_openInput_315 rfl ?_
      obtain ⟨v109, gv109, h⟩ := px_bs h
      refine ev_aI dX15_openInput_317 gv109 ?_
      obtain ⟨w110, gw110, h⟩ := px_bs h
      refine ev_sI dX15_openInput_318 gw110 ?_
      refine EV.aload_n 0 dX15_openInput_319 rfl rfl ?_
      obtain ⟨v111, gv111, h⟩ := px_bs h
      refine ev_gR dX15_openInput_320 flRX15_55 gv111 ?_
      refine EV.iload 4 dX15_openInput_323 rfl ?_
      refine EV.aload_n 0 dX15_openInput_325 rfl rfl ?_
      obtain ⟨v112, gv112, h⟩ := px_bs h
      refine ev_gR dX15_openInput_326 flRX15_26 gv112 ?_
      obtain ⟨v113, gv113, h⟩ := px_bs h
      refine ev_gR dX15_openInput_329 flRX15_226 gv113 ?_
      refine EV.iload 4 dX15_openInput_332 rfl ?_
      obtain ⟨v114, gv114, h⟩ := px_bs h
      refine ev_aI dX15_openInput_334 gv114 ?_
      obtain ⟨w115, gw115, h⟩ := px_bs h
      refine ev_sI dX15_openInput_335 gw115 ?_
      refine EV.iinc 4 (a7 + 1) [(7, .int (a7 + 1)), (0, .ref a0), (1, .int a1), (4, .int a4), (5, .int a5)] dX15_openInput_336 rfl rfl (by decide) rfl ?_
      refine EV.goto 296 dX15_openInput_339 (by decide) ?_
      refine EV.sub [1, 2, 3, 4, 0] rfl ?_
      exact ih _ _ _ _ _ _ _ h
set_option maxRecDepth 100000 in
set_option maxHeartbeats 4000000 in
theorem eX15_openInput_173 {X : px_X}  : ∀ (a0 : Nat) (a1 : Int32) (a2 : Int32) (a3 : Int32) (w : px_W) (q : Int32 × px_W), fX15_openInput_173 X  a0 a1 a2 a3 w = some q → EV X mX15_openInput 173 [(0, .ref a0), (1, .int a1), (2, .int a2), (3, .int a3)] [] w (some (.int q.1)) q.2 := by
  intro a0 a1 a2 a3 w q h
  unfold fX15_openInput_173 at h
  refine EV.aload_n 0 dX15_openInput_173 rfl rfl ?_
  obtain ⟨v116, gv116, h⟩ := px_bs h
  refine ev_gR dX15_openInput_174 flRX15_33 gv116 ?_
  refine EV.aload_n 0 dX15_openInput_177 rfl rfl ?_
  obtain ⟨v117, gv117, h⟩ := px_bs h
  refine ev_gR dX15_openInput_178 flRX15_26 gv117 ?_
  obtain ⟨v118, gv118, h⟩ := px_bs h
  refine ev_gI dX15_openInput_181 flRX15_227 gv118 ?_
  refine EV.iload_n 2 dX15_openInput_184 rfl rfl ?_
  refine EV.iload_n 1 dX15_openInput_185 rfl rfl ?_
  refine EV.iload_n 3 dX15_openInput_186 rfl rfl ?_
  obtain ⟨o119, go119, h⟩ := px_bs h
  obtain ⟨q120, gq120, h⟩ := px_bs h
  refine EV.callV (As := [.int v118, .int a2, .int a1, .int a3]) (rest := []) dX15_openInput_187 kcX15_openInput_228 (gO_ok go119) rfl rfl rfl (Nat.le_of_ble_eq_true rfl) (Nat.le_of_ble_eq_true rfl) (eX13_frame gq120) ?_
  refine EV.if_ne 204 dX15_openInput_190 (by decide) (fun c121 => ?_) (fun c121 => ?_)
  · rw [if_neg c121] at h
    refine EV.aload_n 0 dX15_openInput_204 rfl rfl ?_
    obtain ⟨v122, gv122, h⟩ := px_bs h
    refine ev_gR dX15_openInput_205 flRX15_26 gv122 ?_
    obtain ⟨v123, gv123, h⟩ := px_bs h
    refine ev_gI dX15_openInput_208 flRX15_145 gv123 ?_
    refine EV.istore [(4, .int v123), (0, .ref a0), (1, .int a1), (2, .int a2), (3, .int a3)] dX15_openInput_211 (by decide) rfl ?_
    refine EV.aload_n 1 dX15_openInput_213 rfl rfl ?_
    obtain ⟨v124, gv124, h⟩ := px_bs h
    refine ev_gR dX15_openInput_214 flRX15_26 gv124 ?_
    obtain ⟨v125, gv125, h⟩ := px_bs h
    refine ev_gI dX15_openInput_217 flRX15_232 gv125 ?_
    refine EV.istore [(5, .int v125), (4, .int v123), (0, .ref a0), (1, .int a1), (2, .int a2), (3, .int a3)] dX15_openInput_220 (by decide) rfl ?_
    refine EV.aload_n 2 dX15_openInput_222 rfl rfl ?_
    obtain ⟨v126, gv126, h⟩ := px_bs h
    refine ev_gR dX15_openInput_223 flRX15_26 gv126 ?_
    refine EV.aload_n 2 dX15_openInput_226 rfl rfl ?_
    obtain ⟨w127, gw127, h⟩ := px_bs h
    refine ev_pV dX15_openInput_227 flRX15_207 rfl rfl rfl rfl gw127 ?_
    refine EV.aload_n 2 dX15_openInput_230 rfl rfl ?_
    obtain ⟨v128, gv128, h⟩ := px_bs h
    refine ev_gR dX15_openInput_231 flRX15_26 gv128 ?_
    obtain ⟨o129, go129, h⟩ := px_bs h
    obtain ⟨q130, gq130, h⟩ := px_bs h
    refine EV.callV (As := []) (rest := []) dX15_openInput_234 kcX15_openInput_214 (gO_ok go129) rfl rfl rfl (Nat.le_of_ble_eq_true rfl) (Nat.le_of_ble_eq_true rfl) (eX14_readAll gq130) ?_
    refine EV.istore [(6, .int q130.1), (5, .int v125), (4, .int v123), (0, .ref a0), (1, .int a1), (2, .int a2), (3, .int a3)] dX15_openInput_237 (by decide) rfl ?_
    refine EV.aload_n 3 dX15_openInput_239 rfl rfl ?_
    refine EV.aload_n 3 dX15_openInput_240 rfl rfl ?_
    obtain ⟨v131, gv131, h⟩ := px_bs h
    refine ev_gR dX15_openInput_241 flRX15_26 gv131 ?_
    obtain ⟨v132, gv132, h⟩ := px_bs h
    refine ev_gI dX15_openInput_244 flRX15_211 gv132 ?_
    obtain ⟨w133, gw133, h⟩ := px_bs h
    refine ev_pV dX15_openInput_247 flRX15_217 rfl rfl rfl rfl gw133 ?_
    refine EV.aload_n 3 dX15_openInput_250 rfl rfl ?_
    obtain ⟨v134, gv134, h⟩ := px_bs h
    refine ev_gI dX15_openInput_251 flRX15_217 gv134 ?_
    refine EV.if_le 262 dX15_openInput_254 (by decide) (fun c135 => ?_) (fun c135 => ?_)
    · rw [if_pos c135] at h
      refine EV.aload_n 3 dX15_openInput_262 rfl rfl ?_
      refine EV.iconst ((-1)) dX15_openInput_263 (by decide) ?_
      obtain ⟨w136, gw136, h⟩ := px_bs h
      refine ev_pV dX15_openInput_264 flRX15_19 rfl rfl rfl rfl gw136 ?_
      refine EV.aload_n 3 dX15_openInput_267 rfl rfl ?_
      refine EV.iconst (1) dX15_openInput_268 (by decide) ?_
      obtain ⟨w137, gw137, h⟩ := px_bs h
      refine ev_pZ dX15_openInput_269 flRX15_235 rfl rfl (by decide +kernel) gw137 ?_
      refine EV.aload_n 3 dX15_openInput_272 rfl rfl ?_
      refine EV.aload_n 3 dX15_openInput_273 rfl rfl ?_
      obtain ⟨v138, gv138, h⟩ := px_bs h
      refine ev_gR dX15_openInput_274 flRX15_26 gv138 ?_
      obtain ⟨v139, gv139, h⟩ := px_bs h
      refine ev_gI dX15_openInput_277 flRX15_227 gv139 ?_
      obtain ⟨w140, gw140, h⟩ := px_bs h
      refine ev_pV dX15_openInput_280 flRX15_129 rfl rfl rfl rfl gw140 ?_
      refine EV.aload_n 3 dX15_openInput_283 rfl rfl ?_
      refine EV.iload_n 5 dX15_openInput_284 rfl rfl ?_
      obtain ⟨w141, gw141, h⟩ := px_bs h
      refine ev_pV dX15_openInput_285 flRX15_139 rfl rfl rfl rfl gw141 ?_
      refine EV.aload_n 3 dX15_openInput_288 rfl rfl ?_
      refine EV.iload_n 4 dX15_openInput_289 rfl rfl ?_
      obtain ⟨w142, gw142, h⟩ := px_bs h
      refine ev_pV dX15_openInput_290 flRX15_126 rfl rfl rfl rfl gw142 ?_
      refine EV.iconst (0) dX15_openInput_293 (by decide) ?_
      refine EV.istore [(7, .int 0), (6, .int q130.1), (5, .int v125), (4, .int v123), (0, .ref a0), (1, .int a1), (2, .int a2), (3, .int a3)] dX15_openInput_294 (by decide) rfl ?_
      refine EV.sub [4, 5, 3, 2, 0] rfl ?_
      exact eX15_openInput_296  FU _ _ _ _ _ _ _ h
    · rw [if_neg c135] at h
      refine EV.aload_n 3 dX15_openInput_257 rfl rfl ?_
      obtain ⟨v143, gv143, h⟩ := px_bs h
      refine ev_gI dX15_openInput_258 flRX15_217 gv143 ?_
      cases h
      exact EV.reti dX15_openInput_261 rfl
  · rw [if_pos c121] at h
    refine EV.aload_n 0 dX15_openInput_193 rfl rfl ?_
    refine EV.bipush (9) dX15_openInput_194 (by decide) ?_
    obtain ⟨w144, gw144, h⟩ := px_bs h
    refine ev_pV dX15_openInput_196 flRX15_217 rfl rfl rfl rfl gw144 ?_
    refine EV.aload_n 0 dX15_openInput_199 rfl rfl ?_
    obtain ⟨v145, gv145, h⟩ := px_bs h
    refine ev_gI dX15_openInput_200 flRX15_217 gv145 ?_
    cases h
    exact EV.reti dX15_openInput_203 rfl
set_option maxRecDepth 100000 in
set_option maxHeartbeats 4000000 in
theorem eX15_openInput_113 {X : px_X}  : ∀ (m : Nat) (a0 : Nat) (a1 : Int32) (a2 : Int32) (a3 : Int32) (a4 : Int32) (w : px_W) (q : Int32 × px_W), fX15_openInput_113 X  m a0 a1 a2 a3 a4 w = some q → EV X mX15_openInput 113 [(0, .ref a0), (1, .int a1), (2, .int a2), (3, .int a3), (4, .int a4)] [] w (some (.int q.1)) q.2 := by
  intro m
  induction m with
  | zero => intro a0 a1 a2 a3 a4 w q h; cases h
  | succ m ih =>
    intro a0 a1 a2 a3 a4 w q h
    rw [fX15_openInput_113.eq_2] at h
    refine EV.iload 4 dX15_openInput_113 rfl ?_
    refine EV.iload_n 1 dX15_openInput_115 rfl rfl ?_
    refine EV.icmp_ge 173 dX15_openInput_116 (by decide) (fun c146 => ?_) (fun c146 => ?_)
    · rw [if_pos c146] at h
      refine EV.sub [0, 1, 2, 3] rfl ?_
      exact eX15_openInput_173  _ _ _ _ _ _ h
    · rw [if_neg c146] at h
      refine EV.iload_n 3 dX15_openInput_119 rfl rfl ?_
      refine EV.aload_n 0 dX15_openInput_120 rfl rfl ?_
      obtain ⟨v147, gv147, h⟩ := px_bs h
      refine ev_gR dX15_openInput_121 flRX15_26 gv147 ?_
      obtain ⟨v148, gv148, h⟩ := px_bs h
      refine ev_gR dX15_openInput_124 flRX15_225 gv148 ?_
      refine EV.iload 4 dX15_openInput_127 rfl ?_
      obtain ⟨v149, gv149, h⟩ := px_bs h
      refine ev_aI dX15_openInput_129 gv149 ?_
      refine EV.iconst (1) dX15_openInput_130 (by decide) ?_
      refine EV.isub dX15_openInput_131 ?_
      refine EV.iconst (2) dX15_openInput_132 (by decide) ?_
      refine EV.iload 4 dX15_openInput_133 rfl ?_
      refine EV.imul dX15_openInput_135 ?_
      refine EV.ishl dX15_openInput_136 ?_
      refine EV.aload_n 0 dX15_openInput_137 rfl rfl ?_
      obtain ⟨v150, gv150, h⟩ := px_bs h
      refine ev_gR dX15_openInput_138 flRX15_26 gv150 ?_
      obtain ⟨v151, gv151, h⟩ := px_bs h
      refine ev_gR dX15_openInput_141 flRX15_226 gv151 ?_
      refine EV.iload 4 dX15_openInput_144 rfl ?_
      obtain ⟨v152, gv152, h⟩ := px_bs h
      refine ev_aI dX15_openInput_146 gv152 ?_
      refine EV.iconst (1) dX15_openInput_147 (by decide) ?_
      refine EV.isub dX15_openInput_148 ?_
      refine EV.iconst (2) dX15_openInput_149 (by decide) ?_
      refine EV.iload 4 dX15_openInput_150 rfl ?_
      refine EV.imul dX15_openInput_152 ?_
      refine EV.iconst (1) dX15_openInput_153 (by decide) ?_
      refine EV.iadd dX15_openInput_154 ?_
      refine EV.ishl dX15_openInput_155 ?_
      refine EV.ior dX15_openInput_156 ?_
      refine EV.ior dX15_openInput_157 ?_
      refine EV.istore_n [(3, .int (a3 ||| (((v149 - 1) <<< ((2 * a4) &&& 31)) ||| ((v152 - 1) <<< (((2 * a4) + 1) &&& 31))))), (0, .ref a0), (1, .int a1), (2, .int a2), (4, .int a4)] dX15_openInput_158 rfl (by decide) rfl ?_
      refine EV.aload_n 1 dX15_openInput_159 rfl rfl ?_
      obtain ⟨v153, gv153, h⟩ := px_bs h
      refine ev_gR dX15_openInput_160 flRX15_48 gv153 ?_
      refine EV.iload 4 dX15_openInput_163 rfl ?_
      refine EV.iconst (0) dX15_openInput_165 (by decide) ?_
      obtain ⟨w154, gw154, h⟩ := px_bs h
      refine ev_sZ dX15_openInput_166 gw154 ?_
      refine EV.iinc 4 (a4 + 1) [(4, .int (a4 + 1)), (3, .int (a3 ||| (((v149 - 1) <<< ((2 * a4) &&& 31)) ||| ((v152 - 1) <<< (((2 * a4) + 1) &&& 31))))), (0, .ref a0), (1, .int a1), (2, .int a2)] dX15_openInput_167 rfl rfl (by decide) rfl ?_
      refine EV.goto 113 dX15_openInput_170 (by decide) ?_
      refine EV.sub [2, 3, 4, 1, 0] rfl ?_
      exact ih _ _ _ _ _ _ _ h
set_option maxRecDepth 100000 in
set_option maxHeartbeats 4000000 in
theorem eX15_openInput_42 {X : px_X}  : ∀ (a0 : Nat) (w : px_W) (q : Int32 × px_W), fX15_openInput_42 X  a0 w = some q → EV X mX15_openInput 42 [(0, .ref a0)] [] w (some (.int q.1)) q.2 := by
  intro a0 w q h
  unfold fX15_openInput_42 at h
  refine EV.aload_n 0 dX15_openInput_42 rfl rfl ?_
  obtain ⟨v155, gv155, h⟩ := px_bs h
  refine ev_gR dX15_openInput_43 flRX15_26 gv155 ?_
  refine EV.null dX15_openInput_46 ?_
  obtain ⟨w156, gw156, h⟩ := px_bs h
  refine ev_pV dX15_openInput_47 flRX15_207 rfl rfl rfl rfl gw156 ?_
  refine EV.aload_n 0 dX15_openInput_50 rfl rfl ?_
  obtain ⟨v157, gv157, h⟩ := px_bs h
  refine ev_gR dX15_openInput_51 flRX15_26 gv157 ?_
  refine EV.iconst (0) dX15_openInput_54 (by decide) ?_
  obtain ⟨w158, gw158, h⟩ := px_bs h
  refine ev_pV dX15_openInput_55 flRX15_211 rfl rfl rfl rfl gw158 ?_
  refine EV.aload_n 0 dX15_openInput_58 rfl rfl ?_
  refine EV.aload_n 0 dX15_openInput_59 rfl rfl ?_
  obtain ⟨v159, gv159, h⟩ := px_bs h
  refine ev_gR dX15_openInput_60 flRX15_26 gv159 ?_
  obtain ⟨o160, go160, h⟩ := px_bs h
  obtain ⟨q161, gq161, h⟩ := px_bs h
  refine EV.callV (As := []) (rest := [.ref a0]) dX15_openInput_63 kcX15_openInput_214 (gO_ok go160) rfl rfl rfl (Nat.le_of_ble_eq_true rfl) (Nat.le_of_ble_eq_true rfl) (eX14_readAll gq161) ?_
  obtain ⟨w162, gw162, h⟩ := px_bs h
  refine ev_pV dX15_openInput_66 flRX15_217 rfl rfl rfl rfl gw162 ?_
  refine EV.aload_n 0 dX15_openInput_69 rfl rfl ?_
  refine EV.aload_n 0 dX15_openInput_70 rfl rfl ?_
  obtain ⟨v163, gv163, h⟩ := px_bs h
  refine ev_gR dX15_openInput_71 flRX15_26 gv163 ?_
  obtain ⟨v164, gv164, h⟩ := px_bs h
  refine ev_gI dX15_openInput_74 flRX15_220 gv164 ?_
  obtain ⟨w165, gw165, h⟩ := px_bs h
  refine ev_pV dX15_openInput_77 flRX15_19 rfl rfl rfl rfl gw165 ?_
  refine EV.aload_n 0 dX15_openInput_80 rfl rfl ?_
  obtain ⟨v166, gv166, h⟩ := px_bs h
  refine ev_gI dX15_openInput_81 flRX15_217 gv166 ?_
  refine EV.if_le 92 dX15_openInput_84 (by decide) (fun c167 => ?_) (fun c167 => ?_)
  · rw [if_pos c167] at h
    refine EV.aload_n 0 dX15_openInput_92 rfl rfl ?_
    obtain ⟨v168, gv168, h⟩ := px_bs h
    refine ev_gR dX15_openInput_93 flRX15_26 gv168 ?_
    obtain ⟨v169, gv169, h⟩ := px_bs h
    refine ev_gI dX15_openInput_96 flRX15_221 gv169 ?_
    refine EV.istore_n [(1, .int v169), (0, .ref a0)] dX15_openInput_99 rfl (by decide) rfl ?_
    refine EV.aload_n 1 dX15_openInput_100 rfl rfl ?_
    obtain ⟨v170, gv170, h⟩ := px_bs h
    refine ev_gR dX15_openInput_101 flRX15_26 gv170 ?_
    obtain ⟨v171, gv171, h⟩ := px_bs h
    refine ev_gI dX15_openInput_104 flRX15_224 gv171 ?_
    refine EV.istore_n [(2, .int v171), (1, .int v169), (0, .ref a0)] dX15_openInput_107 rfl (by decide) rfl ?_
    refine EV.iconst (0) dX15_openInput_108 (by decide) ?_
    refine EV.istore_n [(3, .int 0), (2, .int v171), (1, .int v169), (0, .ref a0)] dX15_openInput_109 rfl (by decide) rfl ?_
    refine EV.iconst (0) dX15_openInput_110 (by decide) ?_
    refine EV.istore [(4, .int 0), (3, .int 0), (2, .int v171), (1, .int v169), (0, .ref a0)] dX15_openInput_111 (by decide) rfl ?_
    refine EV.sub [4, 3, 2, 1, 0] rfl ?_
    exact eX15_openInput_113  FU _ _ _ _ _ _ _ h
  · rw [if_neg c167] at h
    refine EV.aload_n 0 dX15_openInput_87 rfl rfl ?_
    obtain ⟨v172, gv172, h⟩ := px_bs h
    refine ev_gI dX15_openInput_88 flRX15_217 gv172 ?_
    cases h
    exact EV.reti dX15_openInput_91 rfl
set_option maxRecDepth 100000 in
set_option maxHeartbeats 4000000 in
theorem eX15_openInput_13 {X : px_X}  : ∀ (m : Nat) (a0 : Nat) (a1 : Int32) (w : px_W) (q : Int32 × px_W), fX15_openInput_13 X  m a0 a1 w = some q → EV X mX15_openInput 13 [(0, .ref a0), (1, .int a1)] [] w (some (.int q.1)) q.2 := by
  intro m
  induction m with
  | zero => intro a0 a1 w q h; cases h
  | succ m ih =>
    intro a0 a1 w q h
    rw [fX15_openInput_13.eq_2] at h
    refine EV.iload_n 1 dX15_openInput_13 rfl rfl ?_
    refine EV.aload_n 0 dX15_openInput_14 rfl rfl ?_
    obtain ⟨v173, gv173, h⟩ := px_bs h
    refine ev_gI dX15_openInput_15 flRX15_114 gv173 ?_
    refine EV.icmp_ge 42 dX15_openInput_18 (by decide) (fun c174 => ?_) (fun c174 => ?_)
    · rw [if_pos c174] at h
      refine EV.sub [0] rfl ?_
      exact eX15_openInput_42  _ _ _ h
    · rw [if_neg c174] at h
      refine EV.aload_n 0 dX15_openInput_21 rfl rfl ?_
      obtain ⟨v175, gv175, h⟩ := px_bs h
      refine ev_gR dX15_openInput_22 flRX15_26 gv175 ?_
      obtain ⟨v176, gv176, h⟩ := px_bs h
      refine ev_gR dX15_openInput_25 flRX15_180 gv176 ?_
      refine EV.iload_n 1 dX15_openInput_28 rfl rfl ?_
      refine EV.aload_n 0 dX15_openInput_29 rfl rfl ?_
      obtain ⟨v177, gv177, h⟩ := px_bs h
      refine ev_gR dX15_openInput_30 flRX15_7 gv177 ?_
      refine EV.iload_n 1 dX15_openInput_33 rfl rfl ?_
      obtain ⟨v178, gv178, h⟩ := px_bs h
      refine ev_aB dX15_openInput_34 gv178 ?_
      obtain ⟨w179, gw179, h⟩ := px_bs h
      refine ev_sB dX15_openInput_35 gw179 ?_
      refine EV.iinc 1 (a1 + 1) [(1, .int (a1 + 1)), (0, .ref a0)] dX15_openInput_36 rfl rfl (by decide) rfl ?_
      refine EV.goto 13 dX15_openInput_39 (by decide) ?_
      refine EV.sub [1, 0] rfl ?_
      exact ih _ _ _ _ h
set_option maxRecDepth 100000 in
set_option maxHeartbeats 4000000 in
theorem eX15_openInput {X : px_X} {w : px_W} {a0 : Nat} {q : Int32 × px_W} (h : fX15_openInput X w a0 = some q) : EV X mX15_openInput 0 (lv_args 0 [.ref a0]) [] w (some (.int q.1)) q.2 := by
  unfold fX15_openInput at h
  show EV X mX15_openInput 0 [(0, .ref a0)] [] w (some (.int q.1)) q.2
  refine EV.aload_n 0 dX15_openInput_0 rfl rfl ?_
  obtain ⟨v180, gv180, h⟩ := px_bs h
  refine ev_gR dX15_openInput_1 flRX15_26 gv180 ?_
  refine EV.aload_n 0 dX15_openInput_4 rfl rfl ?_
  obtain ⟨v181, gv181, h⟩ := px_bs h
  refine ev_gI dX15_openInput_5 flRX15_114 gv181 ?_
  obtain ⟨w182, gw182, h⟩ := px_bs h
  refine ev_pV dX15_openInput_8 flRX15_206 rfl rfl rfl rfl gw182 ?_
  refine EV.iconst (0) dX15_openInput_11 (by decide) ?_
  refine EV.istore_n [(1, .int 0), (0, .ref a0)] dX15_openInput_12 rfl (by decide) rfl ?_
  refine EV.sub [1, 0] rfl ?_
  exact eX15_openInput_13  FU _ _ _ _ h
/-! WavePicturesModel.put(I)V -/
theorem dX15_put_0 : decode cX15_put 0 = .ok (.aload_n 0, 1) := by decide +kernel
theorem dX15_put_1 : decode cX15_put 1 = .ok (.getfield 252, 3) := by decide +kernel
theorem dX15_put_4 : decode cX15_put 4 = .ok (.sipush 16384, 3) := by decide +kernel
theorem dX15_put_7 : decode cX15_put 7 = .ok (.if_icmp .ne 9, 3) := by decide +kernel
theorem dX15_put_10 : decode cX15_put 10 = .ok (.aload_n 0, 1) := by decide +kernel
theorem dX15_put_11 : decode cX15_put 11 = .ok (.iconst 1, 1) := by decide +kernel
theorem dX15_put_12 : decode cX15_put 12 = .ok (.putfield 255, 3) := by decide +kernel
theorem dX15_put_15 : decode cX15_put 15 = .ok (.return_, 1) := by decide +kernel
theorem dX15_put_16 : decode cX15_put 16 = .ok (.aload_n 0, 1) := by decide +kernel
theorem dX15_put_17 : decode cX15_put 17 = .ok (.getfield 16, 3) := by decide +kernel
theorem dX15_put_20 : decode cX15_put 20 = .ok (.aload_n 0, 1) := by decide +kernel
theorem dX15_put_21 : decode cX15_put 21 = .ok (.getfield 252, 3) := by decide +kernel
theorem dX15_put_24 : decode cX15_put 24 = .ok (.iload_n 1, 1) := by decide +kernel
theorem dX15_put_25 : decode cX15_put 25 = .ok (.i2b, 1) := by decide +kernel
theorem dX15_put_26 : decode cX15_put 26 = .ok (.bastore, 1) := by decide +kernel
theorem dX15_put_27 : decode cX15_put 27 = .ok (.aload_n 0, 1) := by decide +kernel
theorem dX15_put_28 : decode cX15_put 28 = .ok (.dup, 1) := by decide +kernel
theorem dX15_put_29 : decode cX15_put 29 = .ok (.getfield 252, 3) := by decide +kernel
theorem dX15_put_32 : decode cX15_put 32 = .ok (.iconst 1, 1) := by decide +kernel
theorem dX15_put_33 : decode cX15_put 33 = .ok (.iadd, 1) := by decide +kernel
theorem dX15_put_34 : decode cX15_put 34 = .ok (.putfield 252, 3) := by decide +kernel
theorem dX15_put_37 : decode cX15_put 37 = .ok (.return_, 1) := by decide +kernel
theorem flRX15_16 : px_f RX15 16 15 4 := ⟨_, rfl, by decide, Or.inl (tb7 (List.mem_of_getElem? (i := 205) rfl))⟩
theorem flRX15_252 : px_f RX15 252 15 5 := ⟨_, rfl, by decide, Or.inl (tb7 (List.mem_of_getElem? (i := 206) rfl))⟩
theorem flRX15_255 : px_f RX15 255 15 6 := ⟨_, rfl, by decide, Or.inl (tb7 (List.mem_of_getElem? (i := 207) rfl))⟩
set_option maxRecDepth 100000 in
set_option maxHeartbeats 4000000 in
theorem eX15_put {X : px_X} {w : px_W} {a0 : Nat} {a1 : Int32} {q : px_W} (h : fX15_put X w a0 a1 = some q) : EV X mX15_put 0 (lv_args 0 [.ref a0, .int a1]) [] w none q := by
  unfold fX15_put at h
  show EV X mX15_put 0 [(0, .ref a0), (1, .int a1)] [] w none q
  refine EV.aload_n 0 dX15_put_0 rfl rfl ?_
  obtain ⟨v8, gv8, h⟩ := px_bs h
  refine ev_gI dX15_put_1 flRX15_252 gv8 ?_
  refine EV.sipush (16384) dX15_put_4 (by decide) ?_
  refine EV.icmp_ne 16 dX15_put_7 (by decide) (fun c9 => ?_) (fun c9 => ?_)
  · rw [if_neg c9] at h
    refine EV.aload_n 0 dX15_put_16 rfl rfl ?_
    obtain ⟨v10, gv10, h⟩ := px_bs h
    refine ev_gR dX15_put_17 flRX15_16 gv10 ?_
    refine EV.aload_n 0 dX15_put_20 rfl rfl ?_
    obtain ⟨v11, gv11, h⟩ := px_bs h
    refine ev_gI dX15_put_21 flRX15_252 gv11 ?_
    refine EV.iload_n 1 dX15_put_24 rfl rfl ?_
    refine EV.i2b dX15_put_25 ?_
    obtain ⟨w12, gw12, h⟩ := px_bs h
    refine ev_sB dX15_put_26 gw12 ?_
    refine EV.aload_n 0 dX15_put_27 rfl rfl ?_
    refine EV.dup dX15_put_28 rfl ?_
    obtain ⟨v13, gv13, h⟩ := px_bs h
    refine ev_gI dX15_put_29 flRX15_252 gv13 ?_
    refine EV.iconst (1) dX15_put_32 (by decide) ?_
    refine EV.iadd dX15_put_33 ?_
    obtain ⟨w14, gw14, h⟩ := px_bs h
    refine ev_pV dX15_put_34 flRX15_252 rfl rfl rfl rfl gw14 ?_
    cases h
    exact EV.ret0 dX15_put_37 trivial
  · rw [if_pos c9] at h
    refine EV.aload_n 0 dX15_put_10 rfl rfl ?_
    refine EV.iconst (1) dX15_put_11 (by decide) ?_
    obtain ⟨w15, gw15, h⟩ := px_bs h
    refine ev_pZ dX15_put_12 flRX15_255 rfl rfl (by decide +kernel) gw15 ?_
    cases h
    exact EV.ret0 dX15_put_15 trivial
/-! WavePicturesModel.two(I)V -/
theorem dX15_two_0 : decode cX15_two 0 = .ok (.aload_n 0, 1) := by decide +kernel
theorem dX15_two_1 : decode cX15_two 1 = .ok (.iload_n 1, 1) := by decide +kernel
theorem dX15_two_2 : decode cX15_two 2 = .ok (.bipush 8, 2) := by decide +kernel
theorem dX15_two_4 : decode cX15_two 4 = .ok (.ishr, 1) := by decide +kernel
theorem dX15_two_5 : decode cX15_two 5 = .ok (.invokevirtual 258, 3) := by decide +kernel
theorem dX15_two_8 : decode cX15_two 8 = .ok (.aload_n 0, 1) := by decide +kernel
theorem dX15_two_9 : decode cX15_two 9 = .ok (.iload_n 1, 1) := by decide +kernel
theorem dX15_two_10 : decode cX15_two 10 = .ok (.invokevirtual 258, 3) := by decide +kernel
theorem dX15_two_13 : decode cX15_two 13 = .ok (.return_, 1) := by decide +kernel
theorem mbX15_put : px_mB mX15_put 1 := ⟨tb9 (List.mem_of_getElem? (i := 130) rfl), by decide +kernel, tb1 (List.mem_of_getElem? (i := 13) rfl), by decide +kernel, by decide +kernel⟩
theorem vbX15_put : px_vB mX15_put := ⟨tb9 (List.mem_of_getElem? (i := 129) rfl), List.mem_append_left _ (List.mem_of_getElem? (i := 135) (by decide +kernel))⟩
theorem kcX15_two_258 : px_cV mX15_two 258 mX15_put 1 := ⟨⟨mbX15_put, by decide, by decide⟩, Or.inl (tb9 (List.mem_of_getElem? (i := 127) rfl)), vbX15_put⟩
set_option maxRecDepth 100000 in
set_option maxHeartbeats 4000000 in
theorem eX15_two {X : px_X} {w : px_W} {a0 : Nat} {a1 : Int32} {q : px_W} (h : fX15_two X w a0 a1 = some q) : EV X mX15_two 0 (lv_args 0 [.ref a0, .int a1]) [] w none q := by
  unfold fX15_two at h
  show EV X mX15_two 0 [(0, .ref a0), (1, .int a1)] [] w none q
  refine EV.aload_n 0 dX15_two_0 rfl rfl ?_
  refine EV.iload_n 1 dX15_two_1 rfl rfl ?_
  refine EV.bipush (8) dX15_two_2 (by decide) ?_
  refine EV.ishr dX15_two_4 ?_
  obtain ⟨o5, go5, h⟩ := px_bs h
  obtain ⟨q6, gq6, h⟩ := px_bs h
  refine EV.callV (As := [.int (a1 >>> (8 &&& 31))]) (rest := []) dX15_two_5 kcX15_two_258 (gO_ok go5) rfl rfl rfl (Nat.le_of_ble_eq_true rfl) (Nat.le_of_ble_eq_true rfl) (eX15_put gq6) ?_
  refine EV.aload_n 0 dX15_two_8 rfl rfl ?_
  refine EV.iload_n 1 dX15_two_9 rfl rfl ?_
  obtain ⟨o7, go7, h⟩ := px_bs h
  obtain ⟨q8, gq8, h⟩ := px_bs h
  refine EV.callV (As := [.int a1]) (rest := []) dX15_two_10 kcX15_two_258 (gO_ok go7) rfl rfl rfl (Nat.le_of_ble_eq_true rfl) (Nat.le_of_ble_eq_true rfl) (eX15_put gq8) ?_
  cases h
  exact EV.ret0 dX15_two_13 trivial
/-! WavePicturesModel.begin(II)V -/
theorem dX15_begin_0 : decode cX15_begin 0 = .ok (.aload_n 0, 1) := by decide +kernel
theorem dX15_begin_1 : decode cX15_begin 1 = .ok (.sipush 255, 3) := by decide +kernel
theorem dX15_begin_4 : decode cX15_begin 4 = .ok (.invokevirtual 258, 3) := by decide +kernel
theorem dX15_begin_7 : decode cX15_begin 7 = .ok (.aload_n 0, 1) := by decide +kernel
theorem dX15_begin_8 : decode cX15_begin 8 = .ok (.iload_n 1, 1) := by decide +kernel
theorem dX15_begin_9 : decode cX15_begin 9 = .ok (.invokevirtual 258, 3) := by decide +kernel
theorem dX15_begin_12 : decode cX15_begin 12 = .ok (.aload_n 0, 1) := by decide +kernel
theorem dX15_begin_13 : decode cX15_begin 13 = .ok (.iload_n 2, 1) := by decide +kernel
theorem dX15_begin_14 : decode cX15_begin 14 = .ok (.iconst 2, 1) := by decide +kernel
theorem dX15_begin_15 : decode cX15_begin 15 = .ok (.iadd, 1) := by decide +kernel
theorem dX15_begin_16 : decode cX15_begin 16 = .ok (.invokevirtual 262, 3) := by decide +kernel
theorem dX15_begin_19 : decode cX15_begin 19 = .ok (.return_, 1) := by decide +kernel
theorem kcX15_begin_258 : px_cV mX15_begin 258 mX15_put 1 := ⟨⟨mbX15_put, by decide, by decide⟩, Or.inl (tb9 (List.mem_of_getElem? (i := 127) rfl)), vbX15_put⟩
theorem mbX15_two : px_mB mX15_two 1 := ⟨tb9 (List.mem_of_getElem? (i := 142) rfl), by decide +kernel, tb1 (List.mem_of_getElem? (i := 13) rfl), by decide +kernel, by decide +kernel⟩
theorem vbX15_two : px_vB mX15_two := ⟨tb9 (List.mem_of_getElem? (i := 141) rfl), List.mem_append_left _ (List.mem_of_getElem? (i := 138) (by decide +kernel))⟩
theorem kcX15_begin_262 : px_cV mX15_begin 262 mX15_two 1 := ⟨⟨mbX15_two, by decide, by decide⟩, Or.inl (tb9 (List.mem_of_getElem? (i := 139) rfl)), vbX15_two⟩
set_option maxRecDepth 100000 in
set_option maxHeartbeats 4000000 in
theorem eX15_begin {X : px_X} {w : px_W} {a0 : Nat} {a1 : Int32} {a2 : Int32} {q : px_W} (h : fX15_begin X w a0 a1 a2 = some q) : EV X mX15_begin 0 (lv_args 0 [.ref a0, .int a1, .int a2]) [] w none q := by
  unfold fX15_begin at h
  show EV X mX15_begin 0 [(0, .ref a0), (1, .int a1), (2, .int a2)] [] w none q
  refine EV.aload_n 0 dX15_begin_0 rfl rfl ?_
  refine EV.sipush (255) dX15_begin_1 (by decide) ?_
  obtain ⟨o7, go7, h⟩ := px_bs h
  obtain ⟨q8, gq8, h⟩ := px_bs h
  refine EV.callV (As := [.int 255]) (rest := []) dX15_begin_4 kcX15_begin_258 (gO_ok go7) rfl rfl rfl (Nat.le_of_ble_eq_true rfl) (Nat.le_of_ble_eq_true rfl) (eX15_put gq8) ?_
  refine EV.aload_n 0 dX15_begin_7 rfl rfl ?_
  refine EV.iload_n 1 dX15_begin_8 rfl rfl ?_
  obtain ⟨o9, go9, h⟩ := px_bs h
  obtain ⟨q10, gq10, h⟩ := px_bs h
  refine EV.callV (As := [.int a1]) (rest := []) dX15_begin_9 kcX15_begin_258 (gO_ok go9) rfl rfl rfl (Nat.le_of_ble_eq_true rfl) (Nat.le_of_ble_eq_true rfl) (eX15_put gq10) ?_
  refine EV.aload_n 0 dX15_begin_12 rfl rfl ?_
  refine EV.iload_n 2 dX15_begin_13 rfl rfl ?_
  refine EV.iconst (2) dX15_begin_14 (by decide) ?_
  refine EV.iadd dX15_begin_15 ?_
  obtain ⟨o11, go11, h⟩ := px_bs h
  obtain ⟨q12, gq12, h⟩ := px_bs h
  refine EV.callV (As := [.int (a2 + 2)]) (rest := []) dX15_begin_16 kcX15_begin_262 (gO_ok go11) rfl rfl rfl (Nat.le_of_ble_eq_true rfl) (Nat.le_of_ble_eq_true rfl) (eX15_two gq12) ?_
  cases h
  exact EV.ret0 dX15_begin_19 trivial
/-! WavePicturesModel.make(I)V -/
theorem dX15_make_0 : decode cX15_make 0 = .ok (.aload_n 0, 1) := by decide +kernel
theorem dX15_make_1 : decode cX15_make 1 = .ok (.getfield 40, 3) := by decide +kernel
theorem dX15_make_4 : decode cX15_make 4 = .ok (.iconst 0, 1) := by decide +kernel
theorem dX15_make_5 : decode cX15_make 5 = .ok (.putfield 265, 3) := by decide +kernel
theorem dX15_make_8 : decode cX15_make 8 = .ok (.iconst 0, 1) := by decide +kernel
theorem dX15_make_9 : decode cX15_make 9 = .ok (.istore_n 2, 1) := by decide +kernel
theorem dX15_make_10 : decode cX15_make 10 = .ok (.iload_n 2, 1) := by decide +kernel
theorem dX15_make_11 : decode cX15_make 11 = .ok (.sipush 256, 3) := by decide +kernel
theorem dX15_make_14 : decode cX15_make 14 = .ok (.if_icmp .ge 54, 3) := by decide +kernel
theorem dX15_make_17 : decode cX15_make 17 = .ok (.aload_n 0, 1) := by decide +kernel
theorem dX15_make_18 : decode cX15_make 18 = .ok (.getfield 40, 3) := by decide +kernel
theorem dX15_make_21 : decode cX15_make 21 = .ok (.getfield 268, 3) := by decide +kernel
theorem dX15_make_24 : decode cX15_make 24 = .ok (.iload_n 2, 1) := by decide +kernel
theorem dX15_make_25 : decode cX15_make 25 = .ok (.aload_n 0, 1) := by decide +kernel
theorem dX15_make_26 : decode cX15_make 26 = .ok (.getfield 33, 3) := by decide +kernel
theorem dX15_make_29 : decode cX15_make 29 = .ok (.getfield 271, 3) := by decide +kernel
theorem dX15_make_32 : decode cX15_make 32 = .ok (.sipush 256, 3) := by decide +kernel
theorem dX15_make_35 : decode cX15_make 35 = .ok (.iload_n 1, 1) := by decide +kernel
theorem dX15_make_36 : decode cX15_make 36 = .ok (.imul, 1) := by decide +kernel
theorem dX15_make_37 : decode cX15_make 37 = .ok (.iload_n 2, 1) := by decide +kernel
theorem dX15_make_38 : decode cX15_make 38 = .ok (.iadd, 1) := by decide +kernel
theorem dX15_make_39 : decode cX15_make 39 = .ok (.iaload, 1) := by decide +kernel
theorem dX15_make_40 : decode cX15_make 40 = .ok (.iastore, 1) := by decide +kernel
theorem dX15_make_41 : decode cX15_make 41 = .ok (.aload_n 0, 1) := by decide +kernel
theorem dX15_make_42 : decode cX15_make 42 = .ok (.getfield 40, 3) := by decide +kernel
theorem dX15_make_45 : decode cX15_make 45 = .ok (.dup, 1) := by decide +kernel
theorem dX15_make_46 : decode cX15_make 46 = .ok (.getfield 265, 3) := by decide +kernel
theorem dX15_make_49 : decode cX15_make 49 = .ok (.aload_n 0, 1) := by decide +kernel
theorem dX15_make_50 : decode cX15_make 50 = .ok (.getfield 40, 3) := by decide +kernel
theorem dX15_make_53 : decode cX15_make 53 = .ok (.getfield 268, 3) := by decide +kernel
theorem dX15_make_56 : decode cX15_make 56 = .ok (.iload_n 2, 1) := by decide +kernel
theorem dX15_make_57 : decode cX15_make 57 = .ok (.iaload, 1) := by decide +kernel
theorem dX15_make_58 : decode cX15_make 58 = .ok (.iadd, 1) := by decide +kernel
theorem dX15_make_59 : decode cX15_make 59 = .ok (.putfield 265, 3) := by decide +kernel
theorem dX15_make_62 : decode cX15_make 62 = .ok (.iinc 2 1, 3) := by decide +kernel
theorem dX15_make_65 : decode cX15_make 65 = .ok (.goto (-55), 3) := by decide +kernel
theorem dX15_make_68 : decode cX15_make 68 = .ok (.aload_n 0, 1) := by decide +kernel
theorem dX15_make_69 : decode cX15_make 69 = .ok (.getfield 40, 3) := by decide +kernel
theorem dX15_make_72 : decode cX15_make 72 = .ok (.invokevirtual 274, 3) := by decide +kernel
theorem dX15_make_75 : decode cX15_make 75 = .ok (.iconst 1, 1) := by decide +kernel
theorem dX15_make_76 : decode cX15_make 76 = .ok (.istore_n 2, 1) := by decide +kernel
theorem dX15_make_77 : decode cX15_make 77 = .ok (.iload_n 2, 1) := by decide +kernel
theorem dX15_make_78 : decode cX15_make 78 = .ok (.bipush 17, 2) := by decide +kernel
theorem dX15_make_80 : decode cX15_make 80 = .ok (.if_icmp .ge 27, 3) := by decide +kernel
theorem dX15_make_83 : decode cX15_make 83 = .ok (.aload_n 0, 1) := by decide +kernel
theorem dX15_make_84 : decode cX15_make 84 = .ok (.getfield 33, 3) := by decide +kernel
theorem dX15_make_87 : decode cX15_make 87 = .ok (.getfield 185, 3) := by decide +kernel
theorem dX15_make_90 : decode cX15_make 90 = .ok (.iload_n 2, 1) := by decide +kernel
theorem dX15_make_91 : decode cX15_make 91 = .ok (.aload_n 0, 1) := by decide +kernel
theorem dX15_make_92 : decode cX15_make 92 = .ok (.getfield 40, 3) := by decide +kernel
theorem dX15_make_95 : decode cX15_make 95 = .ok (.getfield 277, 3) := by decide +kernel
theorem dX15_make_98 : decode cX15_make 98 = .ok (.iload_n 2, 1) := by decide +kernel
theorem dX15_make_99 : decode cX15_make 99 = .ok (.iaload, 1) := by decide +kernel
theorem dX15_make_100 : decode cX15_make 100 = .ok (.iastore, 1) := by decide +kernel
theorem dX15_make_101 : decode cX15_make 101 = .ok (.iinc 2 1, 3) := by decide +kernel
theorem dX15_make_104 : decode cX15_make 104 = .ok (.goto (-27), 3) := by decide +kernel
theorem dX15_make_107 : decode cX15_make 107 = .ok (.aload_n 0, 1) := by decide +kernel
theorem dX15_make_108 : decode cX15_make 108 = .ok (.getfield 33, 3) := by decide +kernel
theorem dX15_make_111 : decode cX15_make 111 = .ok (.aload_n 0, 1) := by decide +kernel
theorem dX15_make_112 : decode cX15_make 112 = .ok (.getfield 40, 3) := by decide +kernel
theorem dX15_make_115 : decode cX15_make 115 = .ok (.getfield 278, 3) := by decide +kernel
theorem dX15_make_118 : decode cX15_make 118 = .ok (.putfield 194, 3) := by decide +kernel
theorem dX15_make_121 : decode cX15_make 121 = .ok (.iconst 0, 1) := by decide +kernel
theorem dX15_make_122 : decode cX15_make 122 = .ok (.istore_n 2, 1) := by decide +kernel
theorem dX15_make_123 : decode cX15_make 123 = .ok (.iload_n 2, 1) := by decide +kernel
theorem dX15_make_124 : decode cX15_make 124 = .ok (.aload_n 0, 1) := by decide +kernel
theorem dX15_make_125 : decode cX15_make 125 = .ok (.getfield 40, 3) := by decide +kernel
theorem dX15_make_128 : decode cX15_make 128 = .ok (.getfield 278, 3) := by decide +kernel
theorem dX15_make_131 : decode cX15_make 131 = .ok (.if_icmp .ge 27, 3) := by decide +kernel
theorem dX15_make_134 : decode cX15_make 134 = .ok (.aload_n 0, 1) := by decide +kernel
theorem dX15_make_135 : decode cX15_make 135 = .ok (.getfield 33, 3) := by decide +kernel
theorem dX15_make_138 : decode cX15_make 138 = .ok (.getfield 197, 3) := by decide +kernel
theorem dX15_make_141 : decode cX15_make 141 = .ok (.iload_n 2, 1) := by decide +kernel
theorem dX15_make_142 : decode cX15_make 142 = .ok (.aload_n 0, 1) := by decide +kernel
theorem dX15_make_143 : decode cX15_make 143 = .ok (.getfield 40, 3) := by decide +kernel
theorem dX15_make_146 : decode cX15_make 146 = .ok (.getfield 281, 3) := by decide +kernel
theorem dX15_make_149 : decode cX15_make 149 = .ok (.iload_n 2, 1) := by decide +kernel
theorem dX15_make_150 : decode cX15_make 150 = .ok (.iaload, 1) := by decide +kernel
theorem dX15_make_151 : decode cX15_make 151 = .ok (.iastore, 1) := by decide +kernel
theorem dX15_make_152 : decode cX15_make 152 = .ok (.iinc 2 1, 3) := by decide +kernel
theorem dX15_make_155 : decode cX15_make 155 = .ok (.goto (-32), 3) := by decide +kernel
theorem dX15_make_158 : decode cX15_make 158 = .ok (.aload_n 0, 1) := by decide +kernel
theorem dX15_make_159 : decode cX15_make 159 = .ok (.getfield 33, 3) := by decide +kernel
theorem dX15_make_162 : decode cX15_make 162 = .ok (.iload_n 1, 1) := by decide +kernel
theorem dX15_make_163 : decode cX15_make 163 = .ok (.invokevirtual 203, 3) := by decide +kernel
theorem dX15_make_166 : decode cX15_make 166 = .ok (.istore_n 2, 1) := by decide +kernel
theorem dX15_make_167 : decode cX15_make 167 = .ok (.return_, 1) := by decide +kernel
theorem flRX15_40 : px_f RX15 40 15 14 := ⟨_, rfl, by decide, Or.inl (tb7 (List.mem_of_getElem? (i := 215) rfl))⟩
theorem flRX15_265 : px_f RX15 265 12 4 := ⟨_, rfl, by decide, Or.inr ⟨"WavePicturesModel", tT7 (List.mem_of_getElem? (i := 177) rfl)⟩⟩
theorem flRX15_268 : px_f RX15 268 12 3 := ⟨_, rfl, by decide, Or.inr ⟨"WavePicturesModel", tT7 (List.mem_of_getElem? (i := 175) rfl)⟩⟩
theorem flRX15_271 : px_f RX15 271 13 36 := ⟨_, rfl, by decide, Or.inr ⟨"WavePicturesModel", tT7 (List.mem_of_getElem? (i := 52) rfl)⟩⟩
theorem flRX15_277 : px_f RX15 277 12 0 := ⟨_, rfl, by decide, Or.inr ⟨"WavePicturesModel", tT7 (List.mem_of_getElem? (i := 169) rfl)⟩⟩
theorem flRX15_278 : px_f RX15 278 12 2 := ⟨_, rfl, by decide, Or.inr ⟨"WavePicturesModel", tT7 (List.mem_of_getElem? (i := 173) rfl)⟩⟩
theorem flRX15_281 : px_f RX15 281 12 1 := ⟨_, rfl, by decide, Or.inr ⟨"WavePicturesModel", tT7 (List.mem_of_getElem? (i := 171) rfl)⟩⟩
theorem kcX15_make_203 : px_cV mX15_make 203 mX13_make 1 := ⟨⟨mbX13_make, by decide, by decide⟩, Or.inl (tb8 (List.mem_of_getElem? (i := 228) rfl)), vbX13_make⟩
theorem mbX12_best : px_mB mX12_best 0 := ⟨tb9 (List.mem_of_getElem? (i := 232) rfl), by decide +kernel, tb1 (List.mem_of_getElem? (i := 16) rfl), by decide +kernel, by decide +kernel⟩
theorem vbX12_best : px_vB mX12_best := ⟨tb9 (List.mem_of_getElem? (i := 230) rfl), tb9 (List.mem_of_getElem? (i := 231) rfl)⟩
theorem kcX15_make_274 : px_cV mX15_make 274 mX12_best 0 := ⟨⟨mbX12_best, by decide, by decide⟩, Or.inl (tb9 (List.mem_of_getElem? (i := 229) rfl)), vbX12_best⟩
set_option maxRecDepth 100000 in
set_option maxHeartbeats 4000000 in
theorem eX15_make_158 {X : px_X}  : ∀ (a0 : Nat) (a1 : Int32) (w : px_W) (q : px_W), fX15_make_158 X  a0 a1 w = some q → EV X mX15_make 158 [(0, .ref a0), (1, .int a1)] [] w none q := by
  intro a0 a1 w q h
  unfold fX15_make_158 at h
  refine EV.aload_n 0 dX15_make_158 rfl rfl ?_
  obtain ⟨v39, gv39, h⟩ := px_bs h
  refine ev_gR dX15_make_159 flRX15_33 gv39 ?_
  refine EV.iload_n 1 dX15_make_162 rfl rfl ?_
  obtain ⟨o40, go40, h⟩ := px_bs h
  obtain ⟨q41, gq41, h⟩ := px_bs h
  refine EV.callV (As := [.int a1]) (rest := []) dX15_make_163 kcX15_make_203 (gO_ok go40) rfl rfl rfl (Nat.le_of_ble_eq_true rfl) (Nat.le_of_ble_eq_true rfl) (eX13_make gq41) ?_
  refine EV.istore_n [(2, .int q41.1), (0, .ref a0), (1, .int a1)] dX15_make_166 rfl (by decide) rfl ?_
  cases h
  exact EV.ret0 dX15_make_167 trivial
set_option maxRecDepth 100000 in
set_option maxHeartbeats 4000000 in
theorem eX15_make_123 {X : px_X}  : ∀ (m : Nat) (a0 : Nat) (a1 : Int32) (a2 : Int32) (w : px_W) (q : px_W), fX15_make_123 X  m a0 a1 a2 w = some q → EV X mX15_make 123 [(0, .ref a0), (1, .int a1), (2, .int a2)] [] w none q := by
  intro m
  induction m with
  | zero => intro a0 a1 a2 w q h; cases h
  | succ m ih =>
    intro a0 a1 a2 w q h
    rw [fX15_make_123.eq_2] at h
    refine EV.iload_n 2 dX15_make_123 rfl rfl ?_
    refine EV.aload_n 0 dX15_make_124 rfl rfl ?_
    obtain ⟨v42, gv42, h⟩ := px_bs h
    refine ev_gR dX15_make_125 flRX15_40 gv42 ?_
    obtain ⟨v43, gv43, h⟩ := px_bs h
    refine ev_gI dX15_make_128 flRX15_278 gv43 ?_
    refine EV.icmp_ge 158 dX15_make_131 (by decide) (fun c44 => ?_) (fun c44 => ?_)
    · rw [if_pos c44] at h
      refine EV.sub [0, 1] rfl ?_
      exact eX15_make_158  _ _ _ _ h
    · rw [if_neg c44] at h
      refine EV.aload_n 0 dX15_make_134 rfl rfl ?_
      obtain ⟨v45, gv45, h⟩ := px_bs h
      refine ev_gR dX15_make_135 flRX15_33 gv45 ?_
      obtain ⟨v46, gv46, h⟩ := px_bs h
      refine ev_gR dX15_make_138 flRX15_197 gv46 ?_
      refine EV.iload_n 2 dX15_make_141 rfl rfl ?_
      refine EV.aload_n 0 dX15_make_142 rfl rfl ?_
      obtain ⟨v47, gv47, h⟩ := px_bs h
      refine ev_gR dX15_make_143 flRX15_40 gv47 ?_
      obtain ⟨v48, gv48, h⟩ := px_bs h
      refine ev_gR dX15_make_146 flRX15_281 gv48 ?_
      refine EV.iload_n 2 dX15_make_149 rfl rfl ?_
      obtain ⟨v49, gv49, h⟩ := px_bs h
      refine ev_aI dX15_make_150 gv49 ?_
      obtain ⟨w50, gw50, h⟩ := px_bs h
      refine ev_sI dX15_make_151 gw50 ?_
      refine EV.iinc 2 (a2 + 1) [(2, .int (a2 + 1)), (0, .ref a0), (1, .int a1)] dX15_make_152 rfl rfl (by decide) rfl ?_
      refine EV.goto 123 dX15_make_155 (by decide) ?_
      refine EV.sub [1, 2, 0] rfl ?_
      exact ih _ _ _ _ _ h
set_option maxRecDepth 100000 in
set_option maxHeartbeats 4000000 in
theorem eX15_make_107 {X : px_X}  : ∀ (a0 : Nat) (a1 : Int32) (w : px_W) (q : px_W), fX15_make_107 X  a0 a1 w = some q → EV X mX15_make 107 [(0, .ref a0), (1, .int a1)] [] w none q := by
  intro a0 a1 w q h
  unfold fX15_make_107 at h
  refine EV.aload_n 0 dX15_make_107 rfl rfl ?_
  obtain ⟨v51, gv51, h⟩ := px_bs h
  refine ev_gR dX15_make_108 flRX15_33 gv51 ?_
  refine EV.aload_n 0 dX15_make_111 rfl rfl ?_
  obtain ⟨v52, gv52, h⟩ := px_bs h
  refine ev_gR dX15_make_112 flRX15_40 gv52 ?_
  obtain ⟨v53, gv53, h⟩ := px_bs h
  refine ev_gI dX15_make_115 flRX15_278 gv53 ?_
  obtain ⟨w54, gw54, h⟩ := px_bs h
  refine ev_pV dX15_make_118 flRX15_194 rfl rfl rfl rfl gw54 ?_
  refine EV.iconst (0) dX15_make_121 (by decide) ?_
  refine EV.istore_n [(2, .int 0), (0, .ref a0), (1, .int a1)] dX15_make_122 rfl (by decide) rfl ?_
  refine EV.sub [1, 2, 0] rfl ?_
  exact eX15_make_123  FU _ _ _ _ _ h
set_option maxRecDepth 100000 in
set_option maxHeartbeats 4000000 in
theorem eX15_make_77 {X : px_X}  : ∀ (m : Nat) (a0 : Nat) (a1 : Int32) (a2 : Int32) (w : px_W) (q : px_W), fX15_make_77 X  m a0 a1 a2 w = some q → EV X mX15_make 77 [(0, .ref a0), (1, .int a1), (2, .int a2)] [] w none q := by
  intro m
  induction m with
  | zero => intro a0 a1 a2 w q h; cases h
  | succ m ih =>
    intro a0 a1 a2 w q h
    rw [fX15_make_77.eq_2] at h
    refine EV.iload_n 2 dX15_make_77 rfl rfl ?_
    refine EV.bipush (17) dX15_make_78 (by decide) ?_
    refine EV.icmp_ge 107 dX15_make_80 (by decide) (fun c55 => ?_) (fun c55 => ?_)
    · rw [if_pos c55] at h
      refine EV.sub [0, 1] rfl ?_
      exact eX15_make_107  _ _ _ _ h
    · rw [if_neg c55] at h
      refine EV.aload_n 0 dX15_make_83 rfl rfl ?_
      obtain ⟨v56, gv56, h⟩ := px_bs h
      refine ev_gR dX15_make_84 flRX15_33 gv56 ?_
      obtain ⟨v57, gv57, h⟩ := px_bs h
      refine ev_gR dX15_make_87 flRX15_185 gv57 ?_
      refine EV.iload_n 2 dX15_make_90 rfl rfl ?_
      refine EV.aload_n 0 dX15_make_91 rfl rfl ?_
      obtain ⟨v58, gv58, h⟩ := px_bs h
      refine ev_gR dX15_make_92 flRX15_40 gv58 ?_
      obtain ⟨v59, gv59, h⟩ := px_bs h
      refine ev_gR dX15_make_95 flRX15_277 gv59 ?_
      refine EV.iload_n 2 dX15_make_98 rfl rfl ?_
      obtain ⟨v60, gv60, h⟩ := px_bs h
      refine ev_aI dX15_make_99 gv60 ?_
      obtain ⟨w61, gw61, h⟩ := px_bs h
      refine ev_sI dX15_make_100 gw61 ?_
      refine EV.iinc 2 (a2 + 1) [(2, .int (a2 + 1)), (0, .ref a0), (1, .int a1)] dX15_make_101 rfl rfl (by decide) rfl ?_
      refine EV.goto 77 dX15_make_104 (by decide) ?_
      refine EV.sub [1, 2, 0] rfl ?_
      exact ih _ _ _ _ _ h
set_option maxRecDepth 100000 in
set_option maxHeartbeats 4000000 in
theorem eX15_make_68 {X : px_X}  : ∀ (a0 : Nat) (a1 : Int32) (w : px_W) (q : px_W), fX15_make_68 X  a0 a1 w = some q → EV X mX15_make 68 [(0, .ref a0), (1, .int a1)] [] w none q := by
  intro a0 a1 w q h
  unfold fX15_make_68 at h
  refine EV.aload_n 0 dX15_make_68 rfl rfl ?_
  obtain ⟨v62, gv62, h⟩ := px_bs h
  refine ev_gR dX15_make_69 flRX15_40 gv62 ?_
  obtain ⟨o63, go63, h⟩ := px_bs h
  obtain ⟨q64, gq64, h⟩ := px_bs h
  refine EV.callV (As := []) (rest := []) dX15_make_72 kcX15_make_274 (gO_ok go63) rfl rfl rfl (Nat.le_of_ble_eq_true rfl) (Nat.le_of_ble_eq_true rfl) (eX12_best gq64) ?_
  refine EV.iconst (1) dX15_make_75 (by decide) ?_
  refine EV.istore_n [(2, .int 1), (0, .ref a0), (1, .int a1)] dX15_make_76 rfl (by decide) rfl ?_
  refine EV.sub [1, 2, 0] rfl ?_
  exact eX15_make_77  FU _ _ _ _ _ h
set_option maxRecDepth 100000 in
set_option maxHeartbeats 4000000 in
theorem eX15_make_10 {X : px_X}  : ∀ (m : Nat) (a0 : Nat) (a1 : Int32) (a2 : Int32) (w : px_W) (q : px_W), fX15_make_10 X  m a0 a1 a2 w = some q → EV X mX15_make 10 [(0, .ref a0), (1, .int a1), (2, .int a2)] [] w none q := by
  intro m
  induction m with
  | zero => intro a0 a1 a2 w q h; cases h
  | succ m ih =>
    intro a0 a1 a2 w q h
    rw [fX15_make_10.eq_2] at h
    refine EV.iload_n 2 dX15_make_10 rfl rfl ?_
    refine EV.sipush (256) dX15_make_11 (by decide) ?_
    refine EV.icmp_ge 68 dX15_make_14 (by decide) (fun c65 => ?_) (fun c65 => ?_)
    · rw [if_pos c65] at h
      refine EV.sub [0, 1] rfl ?_
      exact eX15_make_68  _ _ _ _ h
    · rw [if_neg c65] at h
      refine EV.aload_n 0 dX15_make_17 rfl rfl ?_
      obtain ⟨v66, gv66, h⟩ := px_bs h
      refine ev_gR dX15_make_18 flRX15_40 gv66 ?_
      obtain ⟨v67, gv67, h⟩ := px_bs h
      refine ev_gR dX15_make_21 flRX15_268 gv67 ?_
      refine EV.iload_n 2 dX15_make_24 rfl rfl ?_
      refine EV.aload_n 0 dX15_make_25 rfl rfl ?_
      obtain ⟨v68, gv68, h⟩ := px_bs h
      refine ev_gR dX15_make_26 flRX15_33 gv68 ?_
      obtain ⟨v69, gv69, h⟩ := px_bs h
      refine ev_gR dX15_make_29 flRX15_271 gv69 ?_
      refine EV.sipush (256) dX15_make_32 (by decide) ?_
      refine EV.iload_n 1 dX15_make_35 rfl rfl ?_
      refine EV.imul dX15_make_36 ?_
      refine EV.iload_n 2 dX15_make_37 rfl rfl ?_
      refine EV.iadd dX15_make_38 ?_
      obtain ⟨v70, gv70, h⟩ := px_bs h
      refine ev_aI dX15_make_39 gv70 ?_
      obtain ⟨w71, gw71, h⟩ := px_bs h
      refine ev_sI dX15_make_40 gw71 ?_
      refine EV.aload_n 0 dX15_make_41 rfl rfl ?_
      obtain ⟨v72, gv72, h⟩ := px_bs h
      refine ev_gR dX15_make_42 flRX15_40 gv72 ?_
      refine EV.dup dX15_make_45 rfl ?_
      obtain ⟨v73, gv73, h⟩ := px_bs h
      refine ev_gI dX15_make_46 flRX15_265 gv73 ?_
      refine EV.aload_n 0 dX15_make_49 rfl rfl ?_
      obtain ⟨v74, gv74, h⟩ := px_bs h
      refine ev_gR dX15_make_50 flRX15_40 gv74 ?_
      obtain ⟨v75, gv75, h⟩ := px_bs h
      refine ev_gR dX15_make_53 flRX15_268 gv75 ?_
      refine EV.iload_n 2 dX15_make_56 rfl rfl ?_
      obtain ⟨v76, gv76, h⟩ := px_bs h
      refine ev_aI dX15_make_57 gv76 ?_
      refine EV.iadd dX15_make_58 ?_
      obtain ⟨w77, gw77, h⟩ := px_bs h
      refine ev_pV dX15_make_59 flRX15_265 rfl rfl rfl rfl gw77 ?_
      refine EV.iinc 2 (a2 + 1) [(2, .int (a2 + 1)), (0, .ref a0), (1, .int a1)] dX15_make_62 rfl rfl (by decide) rfl ?_
      refine EV.goto 10 dX15_make_65 (by decide) ?_
      refine EV.sub [1, 2, 0] rfl ?_
      exact ih _ _ _ _ _ h
set_option maxRecDepth 100000 in
set_option maxHeartbeats 4000000 in
theorem eX15_make {X : px_X} {w : px_W} {a0 : Nat} {a1 : Int32} {q : px_W} (h : fX15_make X w a0 a1 = some q) : EV X mX15_make 0 (lv_args 0 [.ref a0, .int a1]) [] w none q := by
  unfold fX15_make at h
  show EV X mX15_make 0 [(0, .ref a0), (1, .int a1)] [] w none q
  refine EV.aload_n 0 dX15_make_0 rfl rfl ?_
  obtain ⟨v78, gv78, h⟩ := px_bs h
  refine ev_gR dX15_make_1 flRX15_40 gv78 ?_
  refine EV.iconst (0) dX15_make_4 (by decide) ?_
  obtain ⟨w79, gw79, h⟩ := px_bs h
  refine ev_pV dX15_make_5 flRX15_265 rfl rfl rfl rfl gw79 ?_
  refine EV.iconst (0) dX15_make_8 (by decide) ?_
  refine EV.istore_n [(2, .int 0), (0, .ref a0), (1, .int a1)] dX15_make_9 rfl (by decide) rfl ?_
  refine EV.sub [1, 2, 0] rfl ?_
  exact eX15_make_10  FU _ _ _ _ _ h
/-! WavePicturesModel.putTable(I)V -/
theorem dX15_putTable_0 : decode cX15_putTable 0 = .ok (.aload_n 0, 1) := by decide +kernel
theorem dX15_putTable_1 : decode cX15_putTable 1 = .ok (.iload_n 1, 1) := by decide +kernel
theorem dX15_putTable_2 : decode cX15_putTable 2 = .ok (.invokevirtual 282, 3) := by decide +kernel
theorem dX15_putTable_5 : decode cX15_putTable 5 = .ok (.aload_n 0, 1) := by decide +kernel
theorem dX15_putTable_6 : decode cX15_putTable 6 = .ok (.iload_n 1, 1) := by decide +kernel
theorem dX15_putTable_7 : decode cX15_putTable 7 = .ok (.iconst 4, 1) := by decide +kernel
theorem dX15_putTable_8 : decode cX15_putTable 8 = .ok (.if_icmp .ge 7, 3) := by decide +kernel
theorem dX15_putTable_11 : decode cX15_putTable 11 = .ok (.iload_n 1, 1) := by decide +kernel
theorem dX15_putTable_12 : decode cX15_putTable 12 = .ok (.goto 7, 3) := by decide +kernel
theorem dX15_putTable_15 : decode cX15_putTable 15 = .ok (.bipush 12, 2) := by decide +kernel
theorem dX15_putTable_17 : decode cX15_putTable 17 = .ok (.iload_n 1, 1) := by decide +kernel
theorem dX15_putTable_18 : decode cX15_putTable 18 = .ok (.iadd, 1) := by decide +kernel
theorem dX15_putTable_19 : decode cX15_putTable 19 = .ok (.invokevirtual 258, 3) := by decide +kernel
theorem dX15_putTable_22 : decode cX15_putTable 22 = .ok (.iconst 1, 1) := by decide +kernel
theorem dX15_putTable_23 : decode cX15_putTable 23 = .ok (.istore_n 2, 1) := by decide +kernel
theorem dX15_putTable_24 : decode cX15_putTable 24 = .ok (.iload_n 2, 1) := by decide +kernel
theorem dX15_putTable_25 : decode cX15_putTable 25 = .ok (.bipush 17, 2) := by decide +kernel
theorem dX15_putTable_27 : decode cX15_putTable 27 = .ok (.if_icmp .ge 22, 3) := by decide +kernel
theorem dX15_putTable_30 : decode cX15_putTable 30 = .ok (.aload_n 0, 1) := by decide +kernel
theorem dX15_putTable_31 : decode cX15_putTable 31 = .ok (.aload_n 0, 1) := by decide +kernel
theorem dX15_putTable_32 : decode cX15_putTable 32 = .ok (.getfield 40, 3) := by decide +kernel
theorem dX15_putTable_35 : decode cX15_putTable 35 = .ok (.getfield 277, 3) := by decide +kernel
theorem dX15_putTable_38 : decode cX15_putTable 38 = .ok (.iload_n 2, 1) := by decide +kernel
theorem dX15_putTable_39 : decode cX15_putTable 39 = .ok (.iaload, 1) := by decide +kernel
theorem dX15_putTable_40 : decode cX15_putTable 40 = .ok (.invokevirtual 258, 3) := by decide +kernel
theorem dX15_putTable_43 : decode cX15_putTable 43 = .ok (.iinc 2 1, 3) := by decide +kernel
theorem dX15_putTable_46 : decode cX15_putTable 46 = .ok (.goto (-22), 3) := by decide +kernel
theorem dX15_putTable_49 : decode cX15_putTable 49 = .ok (.iconst 0, 1) := by decide +kernel
theorem dX15_putTable_50 : decode cX15_putTable 50 = .ok (.istore_n 2, 1) := by decide +kernel
theorem dX15_putTable_51 : decode cX15_putTable 51 = .ok (.iload_n 2, 1) := by decide +kernel
theorem dX15_putTable_52 : decode cX15_putTable 52 = .ok (.aload_n 0, 1) := by decide +kernel
theorem dX15_putTable_53 : decode cX15_putTable 53 = .ok (.getfield 40, 3) := by decide +kernel
theorem dX15_putTable_56 : decode cX15_putTable 56 = .ok (.getfield 278, 3) := by decide +kernel
theorem dX15_putTable_59 : decode cX15_putTable 59 = .ok (.if_icmp .ge 22, 3) := by decide +kernel
theorem dX15_putTable_62 : decode cX15_putTable 62 = .ok (.aload_n 0, 1) := by decide +kernel
theorem dX15_putTable_63 : decode cX15_putTable 63 = .ok (.aload_n 0, 1) := by decide +kernel
theorem dX15_putTable_64 : decode cX15_putTable 64 = .ok (.getfield 40, 3) := by decide +kernel
theorem dX15_putTable_67 : decode cX15_putTable 67 = .ok (.getfield 281, 3) := by decide +kernel
theorem dX15_putTable_70 : decode cX15_putTable 70 = .ok (.iload_n 2, 1) := by decide +kernel
theorem dX15_putTable_71 : decode cX15_putTable 71 = .ok (.iaload, 1) := by decide +kernel
theorem dX15_putTable_72 : decode cX15_putTable 72 = .ok (.invokevirtual 258, 3) := by decide +kernel
theorem dX15_putTable_75 : decode cX15_putTable 75 = .ok (.iinc 2 1, 3) := by decide +kernel
theorem dX15_putTable_78 : decode cX15_putTable 78 = .ok (.goto (-27), 3) := by decide +kernel
theorem dX15_putTable_81 : decode cX15_putTable 81 = .ok (.return_, 1) := by decide +kernel
theorem kcX15_putTable_258 : px_cV mX15_putTable 258 mX15_put 1 := ⟨⟨mbX15_put, by decide, by decide⟩, Or.inl (tb9 (List.mem_of_getElem? (i := 127) rfl)), vbX15_put⟩
theorem mbX15_make : px_mB mX15_make 1 := ⟨tb9 (List.mem_of_getElem? (i := 228) rfl), by decide +kernel, tb1 (List.mem_of_getElem? (i := 13) rfl), by decide +kernel, by decide +kernel⟩
theorem vbX15_make : px_vB mX15_make := ⟨tb9 (List.mem_of_getElem? (i := 227) rfl), List.mem_append_left _ (List.mem_of_getElem? (i := 157) (by decide +kernel))⟩
theorem kcX15_putTable_282 : px_cV mX15_putTable 282 mX15_make 1 := ⟨⟨mbX15_make, by decide, by decide⟩, Or.inl (tb9 (List.mem_of_getElem? (i := 225) rfl)), vbX15_make⟩
set_option maxRecDepth 100000 in
set_option maxHeartbeats 4000000 in
theorem eX15_putTable_51 {X : px_X}  : ∀ (m : Nat) (a0 : Nat) (a2 : Int32) (w : px_W) (q : px_W), fX15_putTable_51 X  m a0 a2 w = some q → EV X mX15_putTable 51 [(0, .ref a0), (2, .int a2)] [] w none q := by
  intro m
  induction m with
  | zero => intro a0 a2 w q h; cases h
  | succ m ih =>
    intro a0 a2 w q h
    rw [fX15_putTable_51.eq_2] at h
    refine EV.iload_n 1 dX15_putTable_51 rfl rfl ?_
    refine EV.aload_n 0 dX15_putTable_52 rfl rfl ?_
    obtain ⟨v17, gv17, h⟩ := px_bs h
    refine ev_gR dX15_putTable_53 flRX15_40 gv17 ?_
    obtain ⟨v18, gv18, h⟩ := px_bs h
    refine ev_gI dX15_putTable_56 flRX15_278 gv18 ?_
    refine EV.icmp_ge 81 dX15_putTable_59 (by decide) (fun c19 => ?_) (fun c19 => ?_)
    · rw [if_pos c19] at h
      cases h
      exact EV.ret0 dX15_putTable_81 trivial
    · rw [if_neg c19] at h
      refine EV.aload_n 0 dX15_putTable_62 rfl rfl ?_
      refine EV.aload_n 0 dX15_putTable_63 rfl rfl ?_
      obtain ⟨v20, gv20, h⟩ := px_bs h
      refine ev_gR dX15_putTable_64 flRX15_40 gv20 ?_
      obtain ⟨v21, gv21, h⟩ := px_bs h
      refine ev_gR dX15_putTable_67 flRX15_281 gv21 ?_
      refine EV.iload_n 1 dX15_putTable_70 rfl rfl ?_
      obtain ⟨v22, gv22, h⟩ := px_bs h
      refine ev_aI dX15_putTable_71 gv22 ?_
      obtain ⟨o23, go23, h⟩ := px_bs h
      obtain ⟨q24, gq24, h⟩ := px_bs h
      refine EV.callV (As := [.int v22]) (rest := []) dX15_putTable_72 kcX15_putTable_258 (gO_ok go23) rfl rfl rfl (Nat.le_of_ble_eq_true rfl) (Nat.le_of_ble_eq_true rfl) (eX15_put gq24) ?_
      refine EV.iinc 1 (a2 + 1) [(2, .int (a2 + 1)), (0, .ref a0)] dX15_putTable_75 rfl rfl (by decide) rfl ?_
      refine EV.goto 51 dX15_putTable_78 (by decide) ?_
      refine EV.sub [1, 0] rfl ?_
      exact ih _ _ _ _ h
set_option maxRecDepth 100000 in
set_option maxHeartbeats 4000000 in
theorem eX15_putTable_49 {X : px_X}  : ∀ (a0 : Nat) (w : px_W) (q : px_W), fX15_putTable_49 X  a0 w = some q → EV X mX15_putTable 49 [(0, .ref a0)] [] w none q := by
  intro a0 w q h
  unfold fX15_putTable_49 at h
  refine EV.iconst (0) dX15_putTable_49 (by decide) ?_
  refine EV.istore_n [(2, .int 0), (0, .ref a0)] dX15_putTable_50 rfl (by decide) rfl ?_
  refine EV.sub [1, 0] rfl ?_
  exact eX15_putTable_51  FU _ _ _ _ h
set_option maxRecDepth 100000 in
set_option maxHeartbeats 4000000 in
theorem eX15_putTable_24 {X : px_X}  : ∀ (m : Nat) (a0 : Nat) (a2 : Int32) (w : px_W) (q : px_W), fX15_putTable_24 X  m a0 a2 w = some q → EV X mX15_putTable 24 [(0, .ref a0), (2, .int a2)] [] w none q := by
  intro m
  induction m with
  | zero => intro a0 a2 w q h; cases h
  | succ m ih =>
    intro a0 a2 w q h
    rw [fX15_putTable_24.eq_2] at h
    refine EV.iload_n 1 dX15_putTable_24 rfl rfl ?_
    refine EV.bipush (17) dX15_putTable_25 (by decide) ?_
    refine EV.icmp_ge 49 dX15_putTable_27 (by decide) (fun c25 => ?_) (fun c25 => ?_)
    · rw [if_pos c25] at h
      refine EV.sub [0] rfl ?_
      exact eX15_putTable_49  _ _ _ h
    · rw [if_neg c25] at h
      refine EV.aload_n 0 dX15_putTable_30 rfl rfl ?_
      refine EV.aload_n 0 dX15_putTable_31 rfl rfl ?_
      obtain ⟨v26, gv26, h⟩ := px_bs h
      refine ev_gR dX15_putTable_32 flRX15_40 gv26 ?_
      obtain ⟨v27, gv27, h⟩ := px_bs h
      refine ev_gR dX15_putTable_35 flRX15_277 gv27 ?_
      refine EV.iload_n 1 dX15_putTable_38 rfl rfl ?_
      obtain ⟨v28, gv28, h⟩ := px_bs h
      refine ev_aI dX15_putTable_39 gv28 ?_
      obtain ⟨o29, go29, h⟩ := px_bs h
      obtain ⟨q30, gq30, h⟩ := px_bs h
      refine EV.callV (As := [.int v28]) (rest := []) dX15_putTable_40 kcX15_putTable_258 (gO_ok go29) rfl rfl rfl (Nat.le_of_ble_eq_true rfl) (Nat.le_of_ble_eq_true rfl) (eX15_put gq30) ?_
      refine EV.iinc 1 (a2 + 1) [(2, .int (a2 + 1)), (0, .ref a0)] dX15_putTable_43 rfl rfl (by decide) rfl ?_
      refine EV.goto 24 dX15_putTable_46 (by decide) ?_
      refine EV.sub [1, 0] rfl ?_
      exact ih _ _ _ _ h
set_option maxRecDepth 100000 in
set_option maxHeartbeats 4000000 in
theorem eX15_putTable_19 {X : px_X}  : ∀ (a0 : Nat) (s0 : Int32) (s1 : Nat) (w : px_W) (q : px_W), fX15_putTable_19 X  a0 s0 s1 w = some q → EV X mX15_putTable 19 [(0, .ref a0)] [.int s0, .ref s1] w none q := by
  intro a0 s0 s1 w q h
  unfold fX15_putTable_19 at h
  obtain ⟨o31, go31, h⟩ := px_bs h
  obtain ⟨q32, gq32, h⟩ := px_bs h
  refine EV.callV (As := [.int s0]) (rest := []) dX15_putTable_19 kcX15_putTable_258 (gO_ok go31) rfl rfl rfl (Nat.le_of_ble_eq_true rfl) (Nat.le_of_ble_eq_true rfl) (eX15_put gq32) ?_
  refine EV.iconst (1) dX15_putTable_22 (by decide) ?_
  refine EV.istore_n [(2, .int 1), (0, .ref a0)] dX15_putTable_23 rfl (by decide) rfl ?_
  refine EV.sub [1, 0] rfl ?_
  exact eX15_putTable_24  FU _ _ _ _ h
set_option maxRecDepth 100000 in
set_option maxHeartbeats 4000000 in
theorem eX15_putTable {X : px_X} {w : px_W} {a0 : Nat} {a1 : Int32} {q : px_W} (h : fX15_putTable X w a0 a1 = some q) : EV X mX15_putTable 0 (lv_args 0 [.ref a0, .int a1]) [] w none q := by
  unfold fX15_putTable at h
  show EV X mX15_putTable 0 [(0, .ref a0), (1, .int a1)] [] w none q
  refine EV.aload_n 0 dX15_putTable_0 rfl rfl ?_
  refine EV.iload_n 1 dX15_putTable_1 rfl rfl ?_
  obtain ⟨o33, go33, h⟩ := px_bs h
  obtain ⟨q34, gq34, h⟩ := px_bs h
  refine EV.callV (As := [.int a1]) (rest := []) dX15_putTable_2 kcX15_putTable_282 (gO_ok go33) rfl rfl rfl (Nat.le_of_ble_eq_true rfl) (Nat.le_of_ble_eq_true rfl) (eX15_make gq34) ?_
  refine EV.aload_n 0 dX15_putTable_5 rfl rfl ?_
  refine EV.iload_n 1 dX15_putTable_6 rfl rfl ?_
  refine EV.iconst (4) dX15_putTable_7 (by decide) ?_
  refine EV.icmp_ge 15 dX15_putTable_8 (by decide) (fun c35 => ?_) (fun c35 => ?_)
  · rw [if_pos c35] at h
    refine EV.bipush (12) dX15_putTable_15 (by decide) ?_
    refine EV.iload_n 1 dX15_putTable_17 rfl rfl ?_
    refine EV.iadd dX15_putTable_18 ?_
    refine EV.sub [0] rfl ?_
    exact eX15_putTable_19  _ _ _ _ _ h
  · rw [if_neg c35] at h
    refine EV.iload_n 1 dX15_putTable_11 rfl rfl ?_
    refine EV.goto 19 dX15_putTable_12 (by decide) ?_
    refine EV.sub [0] rfl ?_
    exact eX15_putTable_19  _ _ _ _ _ h
/-! WavePicturesModel.distinct(I)I -/
theorem dX15_distinct_0 : decode cX15_distinct 0 = .ok (.iconst 0, 1) := by decide +kernel
theorem dX15_distinct_1 : decode cX15_distinct 1 = .ok (.istore_n 2, 1) := by decide +kernel
theorem dX15_distinct_2 : decode cX15_distinct 2 = .ok (.iconst 0, 1) := by decide +kernel
theorem dX15_distinct_3 : decode cX15_distinct 3 = .ok (.istore_n 3, 1) := by decide +kernel
theorem dX15_distinct_4 : decode cX15_distinct 4 = .ok (.iload_n 3, 1) := by decide +kernel
theorem dX15_distinct_5 : decode cX15_distinct 5 = .ok (.sipush 256, 3) := by decide +kernel
theorem dX15_distinct_8 : decode cX15_distinct 8 = .ok (.if_icmp .ge 35, 3) := by decide +kernel
theorem dX15_distinct_11 : decode cX15_distinct 11 = .ok (.iload_n 2, 1) := by decide +kernel
theorem dX15_distinct_12 : decode cX15_distinct 12 = .ok (.aload_n 0, 1) := by decide +kernel
theorem dX15_distinct_13 : decode cX15_distinct 13 = .ok (.getfield 33, 3) := by decide +kernel
theorem dX15_distinct_16 : decode cX15_distinct 16 = .ok (.getfield 271, 3) := by decide +kernel
theorem dX15_distinct_19 : decode cX15_distinct 19 = .ok (.sipush 256, 3) := by decide +kernel
theorem dX15_distinct_22 : decode cX15_distinct 22 = .ok (.iload_n 1, 1) := by decide +kernel
theorem dX15_distinct_23 : decode cX15_distinct 23 = .ok (.imul, 1) := by decide +kernel
theorem dX15_distinct_24 : decode cX15_distinct 24 = .ok (.iload_n 3, 1) := by decide +kernel
theorem dX15_distinct_25 : decode cX15_distinct 25 = .ok (.iadd, 1) := by decide +kernel
theorem dX15_distinct_26 : decode cX15_distinct 26 = .ok (.iaload, 1) := by decide +kernel
theorem dX15_distinct_27 : decode cX15_distinct 27 = .ok (.ifCond .le 7, 3) := by decide +kernel
theorem dX15_distinct_30 : decode cX15_distinct 30 = .ok (.iconst 1, 1) := by decide +kernel
theorem dX15_distinct_31 : decode cX15_distinct 31 = .ok (.goto 4, 3) := by decide +kernel
theorem dX15_distinct_34 : decode cX15_distinct 34 = .ok (.iconst 0, 1) := by decide +kernel
theorem dX15_distinct_35 : decode cX15_distinct 35 = .ok (.iadd, 1) := by decide +kernel
theorem dX15_distinct_36 : decode cX15_distinct 36 = .ok (.istore_n 2, 1) := by decide +kernel
theorem dX15_distinct_37 : decode cX15_distinct 37 = .ok (.iinc 3 1, 3) := by decide +kernel
theorem dX15_distinct_40 : decode cX15_distinct 40 = .ok (.goto (-36), 3) := by decide +kernel
theorem dX15_distinct_43 : decode cX15_distinct 43 = .ok (.iload_n 2, 1) := by decide +kernel
theorem dX15_distinct_44 : decode cX15_distinct 44 = .ok (.ireturn, 1) := by decide +kernel
set_option maxRecDepth 100000 in
set_option maxHeartbeats 4000000 in
theorem eX15_distinct_35 {X : px_X} {k4 : Nat → Int32 → Int32 → Int32 → px_W → Option (Int32 × px_W)} (hk4 : ∀ (a0 : Nat) (a1 : Int32) (a2 : Int32) (a3 : Int32) (w : px_W) (q : Int32 × px_W), k4 a0 a1 a2 a3 w = some q → EV X mX15_distinct 4 [(0, .ref a0), (1, .int a1), (2, .int a2), (3, .int a3)] [] w (some (.int q.1)) q.2) : ∀ (a0 : Nat) (a1 : Int32) (a3 : Int32) (s0 : Int32) (s1 : Int32) (w : px_W) (q : Int32 × px_W), fX15_distinct_35 X k4 a0 a1 a3 s0 s1 w = some q → EV X mX15_distinct 35 [(0, .ref a0), (1, .int a1), (3, .int a3)] [.int s0, .int s1] w (some (.int q.1)) q.2 := by
  intro a0 a1 a3 s0 s1 w q h
  unfold fX15_distinct_35 at h
  refine EV.iadd dX15_distinct_35 ?_
  refine EV.istore_n [(2, .int (s1 + s0)), (0, .ref a0), (1, .int a1), (3, .int a3)] dX15_distinct_36 rfl (by decide) rfl ?_
  refine EV.iinc 3 (a3 + 1) [(3, .int (a3 + 1)), (2, .int (s1 + s0)), (0, .ref a0), (1, .int a1)] dX15_distinct_37 rfl rfl (by decide) rfl ?_
  refine EV.goto 4 dX15_distinct_40 (by decide) ?_
  refine EV.sub [2, 3, 1, 0] rfl ?_
  exact hk4 _ _ _ _ _ _ h
set_option maxRecDepth 100000 in
set_option maxHeartbeats 4000000 in
theorem eX15_distinct_4 {X : px_X}  : ∀ (m : Nat) (a0 : Nat) (a1 : Int32) (a2 : Int32) (a3 : Int32) (w : px_W) (q : Int32 × px_W), fX15_distinct_4 X  m a0 a1 a2 a3 w = some q → EV X mX15_distinct 4 [(0, .ref a0), (1, .int a1), (2, .int a2), (3, .int a3)] [] w (some (.int q.1)) q.2 := by
  intro m
  induction m with
  | zero => intro a0 a1 a2 a3 w q h; cases h
  | succ m ih =>
    intro a0 a1 a2 a3 w q h
    rw [fX15_distinct_4.eq_2] at h
    refine EV.iload_n 3 dX15_distinct_4 rfl rfl ?_
    refine EV.sipush (256) dX15_distinct_5 (by decide) ?_
    refine EV.icmp_ge 43 dX15_distinct_8 (by decide) (fun c4 => ?_) (fun c4 => ?_)
    · rw [if_pos c4] at h
      refine EV.iload_n 2 dX15_distinct_43 rfl rfl ?_
      cases h
      exact EV.reti dX15_distinct_44 rfl
    · rw [if_neg c4] at h
      refine EV.iload_n 2 dX15_distinct_11 rfl rfl ?_
      refine EV.aload_n 0 dX15_distinct_12 rfl rfl ?_
      obtain ⟨v5, gv5, h⟩ := px_bs h
      refine ev_gR dX15_distinct_13 flRX15_33 gv5 ?_
      obtain ⟨v6, gv6, h⟩ := px_bs h
      refine ev_gR dX15_distinct_16 flRX15_271 gv6 ?_
      refine EV.sipush (256) dX15_distinct_19 (by decide) ?_
      refine EV.iload_n 1 dX15_distinct_22 rfl rfl ?_
      refine EV.imul dX15_distinct_23 ?_
      refine EV.iload_n 3 dX15_distinct_24 rfl rfl ?_
      refine EV.iadd dX15_distinct_25 ?_
      obtain ⟨v7, gv7, h⟩ := px_bs h
      refine ev_aI dX15_distinct_26 gv7 ?_
      refine EV.if_le 34 dX15_distinct_27 (by decide) (fun c8 => ?_) (fun c8 => ?_)
      · rw [if_pos c8] at h
        refine EV.iconst (0) dX15_distinct_34 (by decide) ?_
        refine EV.sub [0, 1, 3] rfl ?_
        exact eX15_distinct_35 ih _ _ _ _ _ _ _ h
      · rw [if_neg c8] at h
        refine EV.iconst (1) dX15_distinct_30 (by decide) ?_
        refine EV.goto 35 dX15_distinct_31 (by decide) ?_
        refine EV.sub [0, 1, 3] rfl ?_
        exact eX15_distinct_35 ih _ _ _ _ _ _ _ h
set_option maxRecDepth 100000 in
set_option maxHeartbeats 4000000 in
theorem eX15_distinct {X : px_X} {w : px_W} {a0 : Nat} {a1 : Int32} {q : Int32 × px_W} (h : fX15_distinct X w a0 a1 = some q) : EV X mX15_distinct 0 (lv_args 0 [.ref a0, .int a1]) [] w (some (.int q.1)) q.2 := by
  unfold fX15_distinct at h
  show EV X mX15_distinct 0 [(0, .ref a0), (1, .int a1)] [] w (some (.int q.1)) q.2
  refine EV.iconst (0) dX15_distinct_0 (by decide) ?_
  refine EV.istore_n [(2, .int 0), (0, .ref a0), (1, .int a1)] dX15_distinct_1 rfl (by decide) rfl ?_
  refine EV.iconst (0) dX15_distinct_2 (by decide) ?_
  refine EV.istore_n [(3, .int 0), (2, .int 0), (0, .ref a0), (1, .int a1)] dX15_distinct_3 rfl (by decide) rfl ?_
  refine EV.sub [2, 3, 1, 0] rfl ?_
  exact eX15_distinct_4  FU _ _ _ _ _ _ h
/-! WavePicturesModel.saveScan(IIIII)V -/
theorem dX15_saveScan_0 : decode cX15_saveScan 0 = .ok (.aload_n 0, 1) := by decide +kernel
theorem dX15_saveScan_1 : decode cX15_saveScan 1 = .ok (.getfield 33, 3) := by decide +kernel
theorem dX15_saveScan_4 : decode cX15_saveScan 4 = .ok (.iload_n 1, 1) := by decide +kernel
theorem dX15_saveScan_5 : decode cX15_saveScan 5 = .ok (.iload_n 2, 1) := by decide +kernel
theorem dX15_saveScan_6 : decode cX15_saveScan 6 = .ok (.iload_n 3, 1) := by decide +kernel
theorem dX15_saveScan_7 : decode cX15_saveScan 7 = .ok (.iload 4, 2) := by decide +kernel
theorem dX15_saveScan_9 : decode cX15_saveScan 9 = .ok (.iload 5, 2) := by decide +kernel
theorem dX15_saveScan_11 : decode cX15_saveScan 11 = .ok (.invokevirtual 166, 3) := by decide +kernel
theorem dX15_saveScan_14 : decode cX15_saveScan 14 = .ok (.istore 6, 2) := by decide +kernel
theorem dX15_saveScan_16 : decode cX15_saveScan 16 = .ok (.aload_n 0, 1) := by decide +kernel
theorem dX15_saveScan_17 : decode cX15_saveScan 17 = .ok (.getfield 33, 3) := by decide +kernel
theorem dX15_saveScan_20 : decode cX15_saveScan 20 = .ok (.invokevirtual 284, 3) := by decide +kernel
theorem dX15_saveScan_23 : decode cX15_saveScan 23 = .ok (.istore 7, 2) := by decide +kernel
theorem dX15_saveScan_25 : decode cX15_saveScan 25 = .ok (.iload_n 2, 1) := by decide +kernel
theorem dX15_saveScan_26 : decode cX15_saveScan 26 = .ok (.ifCond .ne 12, 3) := by decide +kernel
theorem dX15_saveScan_29 : decode cX15_saveScan 29 = .ok (.iload 4, 2) := by decide +kernel
theorem dX15_saveScan_31 : decode cX15_saveScan 31 = .ok (.ifCond .ne 7, 3) := by decide +kernel
theorem dX15_saveScan_34 : decode cX15_saveScan 34 = .ok (.iconst 1, 1) := by decide +kernel
theorem dX15_saveScan_35 : decode cX15_saveScan 35 = .ok (.goto 4, 3) := by decide +kernel
theorem dX15_saveScan_38 : decode cX15_saveScan 38 = .ok (.iconst 0, 1) := by decide +kernel
theorem dX15_saveScan_39 : decode cX15_saveScan 39 = .ok (.istore 8, 2) := by decide +kernel
theorem dX15_saveScan_41 : decode cX15_saveScan 41 = .ok (.iconst 0, 1) := by decide +kernel
theorem dX15_saveScan_42 : decode cX15_saveScan 42 = .ok (.istore 9, 2) := by decide +kernel
theorem dX15_saveScan_44 : decode cX15_saveScan 44 = .ok (.iconst 0, 1) := by decide +kernel
theorem dX15_saveScan_45 : decode cX15_saveScan 45 = .ok (.istore 10, 2) := by decide +kernel
theorem dX15_saveScan_47 : decode cX15_saveScan 47 = .ok (.iconst 0, 1) := by decide +kernel
theorem dX15_saveScan_48 : decode cX15_saveScan 48 = .ok (.istore 11, 2) := by decide +kernel
theorem dX15_saveScan_50 : decode cX15_saveScan 50 = .ok (.iload 11, 2) := by decide +kernel
theorem dX15_saveScan_52 : decode cX15_saveScan 52 = .ok (.aload_n 0, 1) := by decide +kernel
theorem dX15_saveScan_53 : decode cX15_saveScan 53 = .ok (.getfield 126, 3) := by decide +kernel
theorem dX15_saveScan_56 : decode cX15_saveScan 56 = .ok (.if_icmp .ge 98, 3) := by decide +kernel
theorem dX15_saveScan_59 : decode cX15_saveScan 59 = .ok (.iload_n 1, 1) := by decide +kernel
theorem dX15_saveScan_60 : decode cX15_saveScan 60 = .ok (.iload 11, 2) := by decide +kernel
theorem dX15_saveScan_62 : decode cX15_saveScan 62 = .ok (.ishr, 1) := by decide +kernel
theorem dX15_saveScan_63 : decode cX15_saveScan 63 = .ok (.iconst 1, 1) := by decide +kernel
theorem dX15_saveScan_64 : decode cX15_saveScan 64 = .ok (.iand, 1) := by decide +kernel
theorem dX15_saveScan_65 : decode cX15_saveScan 65 = .ok (.iconst 1, 1) := by decide +kernel
theorem dX15_saveScan_66 : decode cX15_saveScan 66 = .ok (.if_icmp .ne 7, 3) := by decide +kernel
theorem dX15_saveScan_69 : decode cX15_saveScan 69 = .ok (.iconst 1, 1) := by decide +kernel
theorem dX15_saveScan_70 : decode cX15_saveScan 70 = .ok (.goto 4, 3) := by decide +kernel
theorem dX15_saveScan_73 : decode cX15_saveScan 73 = .ok (.iconst 0, 1) := by decide +kernel
theorem dX15_saveScan_74 : decode cX15_saveScan 74 = .ok (.istore 12, 2) := by decide +kernel
theorem dX15_saveScan_76 : decode cX15_saveScan 76 = .ok (.iload 10, 2) := by decide +kernel
theorem dX15_saveScan_78 : decode cX15_saveScan 78 = .ok (.iload 12, 2) := by decide +kernel
theorem dX15_saveScan_80 : decode cX15_saveScan 80 = .ok (.ifCond .eq 7, 3) := by decide +kernel
theorem dX15_saveScan_83 : decode cX15_saveScan 83 = .ok (.iconst 1, 1) := by decide +kernel
theorem dX15_saveScan_84 : decode cX15_saveScan 84 = .ok (.goto 4, 3) := by decide +kernel
theorem dX15_saveScan_87 : decode cX15_saveScan 87 = .ok (.iconst 0, 1) := by decide +kernel
theorem dX15_saveScan_88 : decode cX15_saveScan 88 = .ok (.iadd, 1) := by decide +kernel
theorem dX15_saveScan_89 : decode cX15_saveScan 89 = .ok (.istore 10, 2) := by decide +kernel
theorem dX15_saveScan_91 : decode cX15_saveScan 91 = .ok (.iload 9, 2) := by decide +kernel
theorem dX15_saveScan_93 : decode cX15_saveScan 93 = .ok (.iload 12, 2) := by decide +kernel
theorem dX15_saveScan_95 : decode cX15_saveScan 95 = .ok (.ifCond .eq 20, 3) := by decide +kernel
theorem dX15_saveScan_98 : decode cX15_saveScan 98 = .ok (.iload 8, 2) := by decide +kernel
theorem dX15_saveScan_100 : decode cX15_saveScan 100 = .ok (.ifCond .eq 15, 3) := by decide +kernel
theorem dX15_saveScan_103 : decode cX15_saveScan 103 = .ok (.bipush 17, 2) := by decide +kernel
theorem dX15_saveScan_105 : decode cX15_saveScan 105 = .ok (.aload_n 0, 1) := by decide +kernel
theorem dX15_saveScan_106 : decode cX15_saveScan 106 = .ok (.iload 11, 2) := by decide +kernel
theorem dX15_saveScan_108 : decode cX15_saveScan 108 = .ok (.invokevirtual 287, 3) := by decide +kernel
theorem dX15_saveScan_111 : decode cX15_saveScan 111 = .ok (.iadd, 1) := by decide +kernel
theorem dX15_saveScan_112 : decode cX15_saveScan 112 = .ok (.goto 4, 3) := by decide +kernel
theorem dX15_saveScan_115 : decode cX15_saveScan 115 = .ok (.iconst 0, 1) := by decide +kernel
theorem dX15_saveScan_116 : decode cX15_saveScan 116 = .ok (.iadd, 1) := by decide +kernel
theorem dX15_saveScan_117 : decode cX15_saveScan 117 = .ok (.istore 9, 2) := by decide +kernel
theorem dX15_saveScan_119 : decode cX15_saveScan 119 = .ok (.iload 9, 2) := by decide +kernel
theorem dX15_saveScan_121 : decode cX15_saveScan 121 = .ok (.iload 12, 2) := by decide +kernel
theorem dX15_saveScan_123 : decode cX15_saveScan 123 = .ok (.ifCond .eq 21, 3) := by decide +kernel
theorem dX15_saveScan_126 : decode cX15_saveScan 126 = .ok (.iload_n 3, 1) := by decide +kernel
theorem dX15_saveScan_127 : decode cX15_saveScan 127 = .ok (.ifCond .le 17, 3) := by decide +kernel
theorem dX15_saveScan_130 : decode cX15_saveScan 130 = .ok (.bipush 17, 2) := by decide +kernel
theorem dX15_saveScan_132 : decode cX15_saveScan 132 = .ok (.aload_n 0, 1) := by decide +kernel
theorem dX15_saveScan_133 : decode cX15_saveScan 133 = .ok (.iconst 4, 1) := by decide +kernel
theorem dX15_saveScan_134 : decode cX15_saveScan 134 = .ok (.iload 11, 2) := by decide +kernel
theorem dX15_saveScan_136 : decode cX15_saveScan 136 = .ok (.iadd, 1) := by decide +kernel
theorem dX15_saveScan_137 : decode cX15_saveScan 137 = .ok (.invokevirtual 287, 3) := by decide +kernel
theorem dX15_saveScan_140 : decode cX15_saveScan 140 = .ok (.iadd, 1) := by decide +kernel
theorem dX15_saveScan_141 : decode cX15_saveScan 141 = .ok (.goto 4, 3) := by decide +kernel
theorem dX15_saveScan_144 : decode cX15_saveScan 144 = .ok (.iconst 0, 1) := by decide +kernel
theorem dX15_saveScan_145 : decode cX15_saveScan 145 = .ok (.iadd, 1) := by decide +kernel
theorem dX15_saveScan_146 : decode cX15_saveScan 146 = .ok (.istore 9, 2) := by decide +kernel
theorem dX15_saveScan_148 : decode cX15_saveScan 148 = .ok (.iinc 11 1, 3) := by decide +kernel
theorem dX15_saveScan_151 : decode cX15_saveScan 151 = .ok (.goto (-101), 3) := by decide +kernel
theorem dX15_saveScan_154 : decode cX15_saveScan 154 = .ok (.iload 9, 2) := by decide +kernel
theorem dX15_saveScan_156 : decode cX15_saveScan 156 = .ok (.ifCond .le 12, 3) := by decide +kernel
theorem dX15_saveScan_159 : decode cX15_saveScan 159 = .ok (.aload_n 0, 1) := by decide +kernel
theorem dX15_saveScan_160 : decode cX15_saveScan 160 = .ok (.sipush 196, 3) := by decide +kernel
theorem dX15_saveScan_163 : decode cX15_saveScan 163 = .ok (.iload 9, 2) := by decide +kernel
theorem dX15_saveScan_165 : decode cX15_saveScan 165 = .ok (.invokevirtual 291, 3) := by decide +kernel
theorem dX15_saveScan_168 : decode cX15_saveScan 168 = .ok (.iconst 0, 1) := by decide +kernel
theorem dX15_saveScan_169 : decode cX15_saveScan 169 = .ok (.istore 11, 2) := by decide +kernel
theorem dX15_saveScan_171 : decode cX15_saveScan 171 = .ok (.iload 11, 2) := by decide +kernel
theorem dX15_saveScan_173 : decode cX15_saveScan 173 = .ok (.bipush 8, 2) := by decide +kernel
theorem dX15_saveScan_175 : decode cX15_saveScan 175 = .ok (.if_icmp .ge 45, 3) := by decide +kernel
theorem dX15_saveScan_178 : decode cX15_saveScan 178 = .ok (.iload_n 1, 1) := by decide +kernel
theorem dX15_saveScan_179 : decode cX15_saveScan 179 = .ok (.iload 11, 2) := by decide +kernel
theorem dX15_saveScan_181 : decode cX15_saveScan 181 = .ok (.iconst 4, 1) := by decide +kernel
theorem dX15_saveScan_182 : decode cX15_saveScan 182 = .ok (.irem, 1) := by decide +kernel
theorem dX15_saveScan_183 : decode cX15_saveScan 183 = .ok (.ishr, 1) := by decide +kernel
theorem dX15_saveScan_184 : decode cX15_saveScan 184 = .ok (.iconst 1, 1) := by decide +kernel
theorem dX15_saveScan_185 : decode cX15_saveScan 185 = .ok (.iand, 1) := by decide +kernel
theorem dX15_saveScan_186 : decode cX15_saveScan 186 = .ok (.iconst 1, 1) := by decide +kernel
theorem dX15_saveScan_187 : decode cX15_saveScan 187 = .ok (.if_icmp .ne 27, 3) := by decide +kernel
theorem dX15_saveScan_190 : decode cX15_saveScan 190 = .ok (.iload 11, 2) := by decide +kernel
theorem dX15_saveScan_192 : decode cX15_saveScan 192 = .ok (.iconst 4, 1) := by decide +kernel
theorem dX15_saveScan_193 : decode cX15_saveScan 193 = .ok (.if_icmp .ge 11, 3) := by decide +kernel
theorem dX15_saveScan_196 : decode cX15_saveScan 196 = .ok (.iload 8, 2) := by decide +kernel
theorem dX15_saveScan_198 : decode cX15_saveScan 198 = .ok (.ifCond .eq 16, 3) := by decide +kernel
theorem dX15_saveScan_201 : decode cX15_saveScan 201 = .ok (.goto 7, 3) := by decide +kernel
theorem dX15_saveScan_204 : decode cX15_saveScan 204 = .ok (.iload_n 3, 1) := by decide +kernel
theorem dX15_saveScan_205 : decode cX15_saveScan 205 = .ok (.ifCond .le 9, 3) := by decide +kernel
theorem dX15_saveScan_208 : decode cX15_saveScan 208 = .ok (.aload_n 0, 1) := by decide +kernel
theorem dX15_saveScan_209 : decode cX15_saveScan 209 = .ok (.iload 11, 2) := by decide +kernel
theorem dX15_saveScan_211 : decode cX15_saveScan 211 = .ok (.invokevirtual 295, 3) := by decide +kernel
theorem dX15_saveScan_214 : decode cX15_saveScan 214 = .ok (.iinc 11 1, 3) := by decide +kernel
theorem dX15_saveScan_217 : decode cX15_saveScan 217 = .ok (.goto (-46), 3) := by decide +kernel
theorem dX15_saveScan_220 : decode cX15_saveScan 220 = .ok (.aload_n 0, 1) := by decide +kernel
theorem dX15_saveScan_221 : decode cX15_saveScan 221 = .ok (.sipush 218, 3) := by decide +kernel
theorem dX15_saveScan_224 : decode cX15_saveScan 224 = .ok (.iconst 4, 1) := by decide +kernel
theorem dX15_saveScan_225 : decode cX15_saveScan 225 = .ok (.iconst 2, 1) := by decide +kernel
theorem dX15_saveScan_226 : decode cX15_saveScan 226 = .ok (.iload 10, 2) := by decide +kernel
theorem dX15_saveScan_228 : decode cX15_saveScan 228 = .ok (.imul, 1) := by decide +kernel
theorem dX15_saveScan_229 : decode cX15_saveScan 229 = .ok (.iadd, 1) := by decide +kernel
theorem dX15_saveScan_230 : decode cX15_saveScan 230 = .ok (.invokevirtual 291, 3) := by decide +kernel
theorem dX15_saveScan_233 : decode cX15_saveScan 233 = .ok (.aload_n 0, 1) := by decide +kernel
theorem dX15_saveScan_234 : decode cX15_saveScan 234 = .ok (.iload 10, 2) := by decide +kernel
theorem dX15_saveScan_236 : decode cX15_saveScan 236 = .ok (.invokevirtual 258, 3) := by decide +kernel
theorem dX15_saveScan_239 : decode cX15_saveScan 239 = .ok (.iconst 0, 1) := by decide +kernel
theorem dX15_saveScan_240 : decode cX15_saveScan 240 = .ok (.istore 11, 2) := by decide +kernel
theorem dX15_saveScan_242 : decode cX15_saveScan 242 = .ok (.iload 11, 2) := by decide +kernel
theorem dX15_saveScan_244 : decode cX15_saveScan 244 = .ok (.aload_n 0, 1) := by decide +kernel
theorem dX15_saveScan_245 : decode cX15_saveScan 245 = .ok (.getfield 126, 3) := by decide +kernel
theorem dX15_saveScan_248 : decode cX15_saveScan 248 = .ok (.if_icmp .ge 36, 3) := by decide +kernel
theorem dX15_saveScan_251 : decode cX15_saveScan 251 = .ok (.iload_n 1, 1) := by decide +kernel
theorem dX15_saveScan_252 : decode cX15_saveScan 252 = .ok (.iload 11, 2) := by decide +kernel
theorem dX15_saveScan_254 : decode cX15_saveScan 254 = .ok (.ishr, 1) := by decide +kernel
theorem dX15_saveScan_255 : decode cX15_saveScan 255 = .ok (.iconst 1, 1) := by decide +kernel
theorem dX15_saveScan_256 : decode cX15_saveScan 256 = .ok (.iand, 1) := by decide +kernel
theorem dX15_saveScan_257 : decode cX15_saveScan 257 = .ok (.iconst 1, 1) := by decide +kernel
theorem dX15_saveScan_258 : decode cX15_saveScan 258 = .ok (.if_icmp .ne 20, 3) := by decide +kernel
theorem dX15_saveScan_261 : decode cX15_saveScan 261 = .ok (.aload_n 0, 1) := by decide +kernel
theorem dX15_saveScan_262 : decode cX15_saveScan 262 = .ok (.iload 11, 2) := by decide +kernel
theorem dX15_saveScan_264 : decode cX15_saveScan 264 = .ok (.iconst 1, 1) := by decide +kernel
theorem dX15_saveScan_265 : decode cX15_saveScan 265 = .ok (.iadd, 1) := by decide +kernel
theorem dX15_saveScan_266 : decode cX15_saveScan 266 = .ok (.invokevirtual 258, 3) := by decide +kernel
theorem dX15_saveScan_269 : decode cX15_saveScan 269 = .ok (.aload_n 0, 1) := by decide +kernel
theorem dX15_saveScan_270 : decode cX15_saveScan 270 = .ok (.bipush 17, 2) := by decide +kernel
theorem dX15_saveScan_272 : decode cX15_saveScan 272 = .ok (.iload 11, 2) := by decide +kernel
theorem dX15_saveScan_274 : decode cX15_saveScan 274 = .ok (.imul, 1) := by decide +kernel
theorem dX15_saveScan_275 : decode cX15_saveScan 275 = .ok (.invokevirtual 258, 3) := by decide +kernel
theorem dX15_saveScan_278 : decode cX15_saveScan 278 = .ok (.iinc 11 1, 3) := by decide +kernel
theorem dX15_saveScan_281 : decode cX15_saveScan 281 = .ok (.goto (-39), 3) := by decide +kernel
theorem dX15_saveScan_284 : decode cX15_saveScan 284 = .ok (.aload_n 0, 1) := by decide +kernel
theorem dX15_saveScan_285 : decode cX15_saveScan 285 = .ok (.iload_n 2, 1) := by decide +kernel
theorem dX15_saveScan_286 : decode cX15_saveScan 286 = .ok (.invokevirtual 258, 3) := by decide +kernel
theorem dX15_saveScan_289 : decode cX15_saveScan 289 = .ok (.aload_n 0, 1) := by decide +kernel
theorem dX15_saveScan_290 : decode cX15_saveScan 290 = .ok (.iload_n 3, 1) := by decide +kernel
theorem dX15_saveScan_291 : decode cX15_saveScan 291 = .ok (.invokevirtual 258, 3) := by decide +kernel
theorem dX15_saveScan_294 : decode cX15_saveScan 294 = .ok (.aload_n 0, 1) := by decide +kernel
theorem dX15_saveScan_295 : decode cX15_saveScan 295 = .ok (.bipush 16, 2) := by decide +kernel
theorem dX15_saveScan_297 : decode cX15_saveScan 297 = .ok (.iload 4, 2) := by decide +kernel
theorem dX15_saveScan_299 : decode cX15_saveScan 299 = .ok (.imul, 1) := by decide +kernel
theorem dX15_saveScan_300 : decode cX15_saveScan 300 = .ok (.iload 5, 2) := by decide +kernel
theorem dX15_saveScan_302 : decode cX15_saveScan 302 = .ok (.iadd, 1) := by decide +kernel
theorem dX15_saveScan_303 : decode cX15_saveScan 303 = .ok (.invokevirtual 258, 3) := by decide +kernel
theorem dX15_saveScan_306 : decode cX15_saveScan 306 = .ok (.aload_n 0, 1) := by decide +kernel
theorem dX15_saveScan_307 : decode cX15_saveScan 307 = .ok (.getfield 33, 3) := by decide +kernel
theorem dX15_saveScan_310 : decode cX15_saveScan 310 = .ok (.invokevirtual 298, 3) := by decide +kernel
theorem dX15_saveScan_313 : decode cX15_saveScan 313 = .ok (.istore 11, 2) := by decide +kernel
theorem dX15_saveScan_315 : decode cX15_saveScan 315 = .ok (.aload_n 0, 1) := by decide +kernel
theorem dX15_saveScan_316 : decode cX15_saveScan 316 = .ok (.aload_n 0, 1) := by decide +kernel
theorem dX15_saveScan_317 : decode cX15_saveScan 317 = .ok (.getfield 255, 3) := by decide +kernel
theorem dX15_saveScan_320 : decode cX15_saveScan 320 = .ok (.ifCond .ne 8, 3) := by decide +kernel
theorem dX15_saveScan_323 : decode cX15_saveScan 323 = .ok (.iload 11, 2) := by decide +kernel
theorem dX15_saveScan_325 : decode cX15_saveScan 325 = .ok (.ifCond .ge 7, 3) := by decide +kernel
theorem dX15_saveScan_328 : decode cX15_saveScan 328 = .ok (.iconst 1, 1) := by decide +kernel
theorem dX15_saveScan_329 : decode cX15_saveScan 329 = .ok (.goto 4, 3) := by decide +kernel
theorem dX15_saveScan_332 : decode cX15_saveScan 332 = .ok (.iconst 0, 1) := by decide +kernel
theorem dX15_saveScan_333 : decode cX15_saveScan 333 = .ok (.putfield 255, 3) := by decide +kernel
theorem dX15_saveScan_336 : decode cX15_saveScan 336 = .ok (.iconst 0, 1) := by decide +kernel
theorem dX15_saveScan_337 : decode cX15_saveScan 337 = .ok (.istore 12, 2) := by decide +kernel
theorem dX15_saveScan_339 : decode cX15_saveScan 339 = .ok (.iload 12, 2) := by decide +kernel
theorem dX15_saveScan_341 : decode cX15_saveScan 341 = .ok (.iload 11, 2) := by decide +kernel
theorem dX15_saveScan_343 : decode cX15_saveScan 343 = .ok (.if_icmp .ge 23, 3) := by decide +kernel
theorem dX15_saveScan_346 : decode cX15_saveScan 346 = .ok (.aload_n 0, 1) := by decide +kernel
theorem dX15_saveScan_347 : decode cX15_saveScan 347 = .ok (.aload_n 0, 1) := by decide +kernel
theorem dX15_saveScan_348 : decode cX15_saveScan 348 = .ok (.getfield 33, 3) := by decide +kernel
theorem dX15_saveScan_351 : decode cX15_saveScan 351 = .ok (.getfield 177, 3) := by decide +kernel
theorem dX15_saveScan_354 : decode cX15_saveScan 354 = .ok (.iload 12, 2) := by decide +kernel
theorem dX15_saveScan_356 : decode cX15_saveScan 356 = .ok (.baload, 1) := by decide +kernel
theorem dX15_saveScan_357 : decode cX15_saveScan 357 = .ok (.invokevirtual 258, 3) := by decide +kernel
theorem dX15_saveScan_360 : decode cX15_saveScan 360 = .ok (.iinc 12 1, 3) := by decide +kernel
theorem dX15_saveScan_363 : decode cX15_saveScan 363 = .ok (.goto (-24), 3) := by decide +kernel
theorem dX15_saveScan_366 : decode cX15_saveScan 366 = .ok (.return_, 1) := by decide +kernel
theorem kcX15_saveScan_166 : px_cV mX15_saveScan 166 mX13_scan 5 := ⟨⟨mbX13_scan, by decide, by decide⟩, Or.inl (tb9 (List.mem_of_getElem? (i := 1) rfl)), vbX13_scan⟩
theorem kcX15_saveScan_258 : px_cV mX15_saveScan 258 mX15_put 1 := ⟨⟨mbX15_put, by decide, by decide⟩, Or.inl (tb9 (List.mem_of_getElem? (i := 127) rfl)), vbX15_put⟩
theorem mbX13_tally : px_mB mX13_tally 0 := ⟨tb9 (List.mem_of_getElem? (i := 154) rfl), by decide +kernel, tb1 (List.mem_of_getElem? (i := 15) rfl), by decide +kernel, by decide +kernel⟩
theorem vbX13_tally : px_vB mX13_tally := ⟨tb9 (List.mem_of_getElem? (i := 152) rfl), tb9 (List.mem_of_getElem? (i := 153) rfl)⟩
theorem kcX15_saveScan_284 : px_cV mX15_saveScan 284 mX13_tally 0 := ⟨⟨mbX13_tally, by decide, by decide⟩, Or.inl (tb9 (List.mem_of_getElem? (i := 151) rfl)), vbX13_tally⟩
theorem mbX15_distinct : px_mB mX15_distinct 1 := ⟨tb9 (List.mem_of_getElem? (i := 220) rfl), by decide +kernel, tb1 (List.mem_of_getElem? (i := 13) rfl), by decide +kernel, by decide +kernel⟩
theorem vbX15_distinct : px_vB mX15_distinct := ⟨tb9 (List.mem_of_getElem? (i := 219) rfl), List.mem_append_left _ (List.mem_of_getElem? (i := 155) (by decide +kernel))⟩
theorem kcX15_saveScan_287 : px_cV mX15_saveScan 287 mX15_distinct 1 := ⟨⟨mbX15_distinct, by decide, by decide⟩, Or.inl (tb9 (List.mem_of_getElem? (i := 217) rfl)), vbX15_distinct⟩
theorem mbX15_begin : px_mB mX15_begin 2 := ⟨tb9 (List.mem_of_getElem? (i := 138) rfl), by decide +kernel, tb1 (List.mem_of_getElem? (i := 13) rfl), by decide +kernel, by decide +kernel⟩
theorem vbX15_begin : px_vB mX15_begin := ⟨tb9 (List.mem_of_getElem? (i := 137) rfl), List.mem_append_left _ (List.mem_of_getElem? (i := 137) (by decide +kernel))⟩
theorem kcX15_saveScan_291 : px_cV mX15_saveScan 291 mX15_begin 2 := ⟨⟨mbX15_begin, by decide, by decide⟩, Or.inl (tb9 (List.mem_of_getElem? (i := 135) rfl)), vbX15_begin⟩
theorem mbX15_putTable : px_mB mX15_putTable 1 := ⟨tb9 (List.mem_of_getElem? (i := 224) rfl), by decide +kernel, tb1 (List.mem_of_getElem? (i := 13) rfl), by decide +kernel, by decide +kernel⟩
theorem vbX15_putTable : px_vB mX15_putTable := ⟨tb9 (List.mem_of_getElem? (i := 223) rfl), List.mem_append_left _ (List.mem_of_getElem? (i := 156) (by decide +kernel))⟩
theorem kcX15_saveScan_295 : px_cV mX15_saveScan 295 mX15_putTable 1 := ⟨⟨mbX15_putTable, by decide, by decide⟩, Or.inl (tb9 (List.mem_of_getElem? (i := 221) rfl)), vbX15_putTable⟩
theorem mbX13_write : px_mB mX13_write 0 := ⟨tb10 (List.mem_of_getElem? (i := 8) rfl), by decide +kernel, tb1 (List.mem_of_getElem? (i := 15) rfl), by decide +kernel, by decide +kernel⟩
theorem vbX13_write : px_vB mX13_write := ⟨tb10 (List.mem_of_getElem? (i := 6) rfl), tb10 (List.mem_of_getElem? (i := 7) rfl)⟩
theorem kcX15_saveScan_298 : px_cV mX15_saveScan 298 mX13_write 0 := ⟨⟨mbX13_write, by decide, by decide⟩, Or.inl (tb10 (List.mem_of_getElem? (i := 5) rfl)), vbX13_write⟩
set_option maxRecDepth 100000 in
set_option maxHeartbeats 4000000 in
theorem eX15_saveScan_214 {X : px_X} {k171 : Nat → Int32 → Int32 → Int32 → Int32 → Int32 → Int32 → Int32 → Int32 → px_W → Option (px_W)} (hk171 : ∀ (a0 : Nat) (a1 : Int32) (a2 : Int32) (a3 : Int32) (a4 : Int32) (a5 : Int32) (a8 : Int32) (a10 : Int32) (a11 : Int32) (w : px_W) (q : px_W), k171 a0 a1 a2 a3 a4 a5 a8 a10 a11 w = some q → EV X mX15_saveScan 171 [(0, .ref a0), (1, .int a1), (2, .int a2), (3, .int a3), (4, .int a4), (5, .int a5), (8, .int a8), (10, .int a10), (11, .int a11)] [] w none q) : ∀ (a0 : Nat) (a1 : Int32) (a2 : Int32) (a3 : Int32) (a4 : Int32) (a5 : Int32) (a8 : Int32) (a10 : Int32) (a11 : Int32) (w : px_W) (q : px_W), fX15_saveScan_214 X k171 a0 a1 a2 a3 a4 a5 a8 a10 a11 w = some q → EV X mX15_saveScan 214 [(0, .ref a0), (1, .int a1), (2, .int a2), (3, .int a3), (4, .int a4), (5, .int a5), (8, .int a8), (10, .int a10), (11, .int a11)] [] w none q := by
  intro a0 a1 a2 a3 a4 a5 a8 a10 a11 w q h
  unfold fX15_saveScan_214 at h
  refine EV.iinc 8 (a11 + 1) [(11, .int (a11 + 1)), (0, .ref a0), (1, .int a1), (2, .int a2), (3, .int a3), (4, .int a4), (5, .int a5), (8, .int a8), (10, .int a10)] dX15_saveScan_214 rfl rfl (by decide) rfl ?_
  refine EV.goto 171 dX15_saveScan_217 (by decide) ?_
  refine EV.sub [1, 2, 3, 4, 5, 6, 7, 8, 0] rfl ?_
  exact hk171 _ _ _ _ _ _ _ _ _ _ _ h
set_option maxRecDepth 100000 in
set_option maxHeartbeats 4000000 in
theorem eX15_saveScan_208 {X : px_X} {k171 : Nat → Int32 → Int32 → Int32 → Int32 → Int32 → Int32 → Int32 → Int32 → px_W → Option (px_W)} (hk171 : ∀ (a0 : Nat) (a1 : Int32) (a2 : Int32) (a3 : Int32) (a4 : Int32) (a5 : Int32) (a8 : Int32) (a10 : Int32) (a11 : Int32) (w : px_W) (q : px_W), k171 a0 a1 a2 a3 a4 a5 a8 a10 a11 w = some q → EV X mX15_saveScan 171 [(0, .ref a0), (1, .int a1), (2, .int a2), (3, .int a3), (4, .int a4), (5, .int a5), (8, .int a8), (10, .int a10), (11, .int a11)] [] w none q) : ∀ (a0 : Nat) (a1 : Int32) (a2 : Int32) (a3 : Int32) (a4 : Int32) (a5 : Int32) (a8 : Int32) (a10 : Int32) (a11 : Int32) (w : px_W) (q : px_W), fX15_saveScan_208 X k171 a0 a1 a2 a3 a4 a5 a8 a10 a11 w = some q → EV X mX15_saveScan 208 [(0, .ref a0), (1, .int a1), (2, .int a2), (3, .int a3), (4, .int a4), (5, .int a5), (8, .int a8), (10, .int a10), (11, .int a11)] [] w none q := by
  intro a0 a1 a2 a3 a4 a5 a8 a10 a11 w q h
  unfold fX15_saveScan_208 at h
  refine EV.aload_n 0 dX15_saveScan_208 rfl rfl ?_
  refine EV.iload 8 dX15_saveScan_209 rfl ?_
  obtain ⟨o42, go42, h⟩ := px_bs h
  obtain ⟨q43, gq43, h⟩ := px_bs h
  refine EV.callV (As := [.int a11]) (rest := []) dX15_saveScan_211 kcX15_saveScan_295 (gO_ok go42) rfl rfl rfl (Nat.le_of_ble_eq_true rfl) (Nat.le_of_ble_eq_true rfl) (eX15_putTable gq43) ?_
  refine EV.sub [0, 1, 2, 3, 4, 5, 6, 7, 8] rfl ?_
  exact eX15_saveScan_214 hk171 _ _ _ _ _ _ _ _ _ _ _ h
set_option maxRecDepth 100000 in
set_option maxHeartbeats 4000000 in
theorem eX15_saveScan_339 {X : px_X}  : ∀ (m : Nat) (a0 : Nat) (a11 : Int32) (a12 : Int32) (w : px_W) (q : px_W), fX15_saveScan_339 X  m a0 a11 a12 w = some q → EV X mX15_saveScan 339 [(0, .ref a0), (11, .int a11), (12, .int a12)] [] w none q := by
  intro m
  induction m with
  | zero => intro a0 a11 a12 w q h; cases h
  | succ m ih =>
    intro a0 a11 a12 w q h
    rw [fX15_saveScan_339.eq_2] at h
    refine EV.iload 2 dX15_saveScan_339 rfl ?_
    refine EV.iload 1 dX15_saveScan_341 rfl ?_
    refine EV.icmp_ge 366 dX15_saveScan_343 (by decide) (fun c44 => ?_) (fun c44 => ?_)
    · rw [if_pos c44] at h
      cases h
      exact EV.ret0 dX15_saveScan_366 trivial
    · rw [if_neg c44] at h
      refine EV.aload_n 0 dX15_saveScan_346 rfl rfl ?_
      refine EV.aload_n 0 dX15_saveScan_347 rfl rfl ?_
      obtain ⟨v45, gv45, h⟩ := px_bs h
      refine ev_gR dX15_saveScan_348 flRX15_33 gv45 ?_
      obtain ⟨v46, gv46, h⟩ := px_bs h
      refine ev_gR dX15_saveScan_351 flRX15_177 gv46 ?_
      refine EV.iload 2 dX15_saveScan_354 rfl ?_
      obtain ⟨v47, gv47, h⟩ := px_bs h
      refine ev_aB dX15_saveScan_356 gv47 ?_
      obtain ⟨o48, go48, h⟩ := px_bs h
      obtain ⟨q49, gq49, h⟩ := px_bs h
      refine EV.callV (As := [.int v47]) (rest := []) dX15_saveScan_357 kcX15_saveScan_258 (gO_ok go48) rfl rfl rfl (Nat.le_of_ble_eq_true rfl) (Nat.le_of_ble_eq_true rfl) (eX15_put gq49) ?_
      refine EV.iinc 2 (a12 + 1) [(12, .int (a12 + 1)), (0, .ref a0), (11, .int a11)] dX15_saveScan_360 rfl rfl (by decide) rfl ?_
      refine EV.goto 339 dX15_saveScan_363 (by decide) ?_
      refine EV.sub [1, 2, 0] rfl ?_
      exact ih _ _ _ _ _ h
set_option maxRecDepth 100000 in
set_option maxHeartbeats 4000000 in
theorem eX15_saveScan_333 {X : px_X}  : ∀ (a0 : Nat) (a11 : Int32) (s0 : Int32) (s1 : Nat) (w : px_W) (q : px_W), fX15_saveScan_333 X  a0 a11 s0 s1 w = some q → EV X mX15_saveScan 333 [(0, .ref a0), (11, .int a11)] [.int s0, .ref s1] w none q := by
  intro a0 a11 s0 s1 w q h
  unfold fX15_saveScan_333 at h
  obtain ⟨w50, gw50, h⟩ := px_bs h
  refine ev_pZ dX15_saveScan_333 flRX15_255 rfl rfl (by decide +kernel) gw50 ?_
  refine EV.iconst (0) dX15_saveScan_336 (by decide) ?_
  refine EV.istore [(12, .int 0), (0, .ref a0), (11, .int a11)] dX15_saveScan_337 (by decide) rfl ?_
  refine EV.sub [1, 2, 0] rfl ?_
  exact eX15_saveScan_339  FU _ _ _ _ _ h
set_option maxRecDepth 100000 in
set_option maxHeartbeats 4000000 in
theorem eX15_saveScan_328 {X : px_X}  : ∀ (a0 : Nat) (a11 : Int32) (s0 : Nat) (w : px_W) (q : px_W), fX15_saveScan_328 X  a0 a11 s0 w = some q → EV X mX15_saveScan 328 [(0, .ref a0), (11, .int a11)] [.ref s0] w none q := by
  intro a0 a11 s0 w q h
  unfold fX15_saveScan_328 at h
  refine EV.iconst (1) dX15_saveScan_328 (by decide) ?_
  refine EV.goto 333 dX15_saveScan_329 (by decide) ?_
  refine EV.sub [0, 1] rfl ?_
  exact eX15_saveScan_333  _ _ _ _ _ _ h
set_option maxRecDepth 100000 in
set_option maxHeartbeats 4000000 in
theorem eX15_saveScan_284 {X : px_X}  : ∀ (a0 : Nat) (a2 : Int32) (a3 : Int32) (a4 : Int32) (a5 : Int32) (w : px_W) (q : px_W), fX15_saveScan_284 X  a0 a2 a3 a4 a5 w = some q → EV X mX15_saveScan 284 [(0, .ref a0), (2, .int a2), (3, .int a3), (4, .int a4), (5, .int a5)] [] w none q := by
  intro a0 a2 a3 a4 a5 w q h
  unfold fX15_saveScan_284 at h
  refine EV.aload_n 0 dX15_saveScan_284 rfl rfl ?_
  refine EV.iload_n 1 dX15_saveScan_285 rfl rfl ?_
  obtain ⟨o51, go51, h⟩ := px_bs h
  obtain ⟨q52, gq52, h⟩ := px_bs h
  refine EV.callV (As := [.int a2]) (rest := []) dX15_saveScan_286 kcX15_saveScan_258 (gO_ok go51) rfl rfl rfl (Nat.le_of_ble_eq_true rfl) (Nat.le_of_ble_eq_true rfl) (eX15_put gq52) ?_
  refine EV.aload_n 0 dX15_saveScan_289 rfl rfl ?_
  refine EV.iload_n 2 dX15_saveScan_290 rfl rfl ?_
  obtain ⟨o53, go53, h⟩ := px_bs h
  obtain ⟨q54, gq54, h⟩ := px_bs h
  refine EV.callV (As := [.int a3]) (rest := []) dX15_saveScan_291 kcX15_saveScan_258 (gO_ok go53) rfl rfl rfl (Nat.le_of_ble_eq_true rfl) (Nat.le_of_ble_eq_true rfl) (eX15_put gq54) ?_
  refine EV.aload_n 0 dX15_saveScan_294 rfl rfl ?_
  refine EV.bipush (16) dX15_saveScan_295 (by decide) ?_
  refine EV.iload 3 dX15_saveScan_297 rfl ?_
  refine EV.imul dX15_saveScan_299 ?_
  refine EV.iload 4 dX15_saveScan_300 rfl ?_
  refine EV.iadd dX15_saveScan_302 ?_
  obtain ⟨o55, go55, h⟩ := px_bs h
  obtain ⟨q56, gq56, h⟩ := px_bs h
  refine EV.callV (As := [.int ((16 * a4) + a5)]) (rest := []) dX15_saveScan_303 kcX15_saveScan_258 (gO_ok go55) rfl rfl rfl (Nat.le_of_ble_eq_true rfl) (Nat.le_of_ble_eq_true rfl) (eX15_put gq56) ?_
  refine EV.aload_n 0 dX15_saveScan_306 rfl rfl ?_
  obtain ⟨v57, gv57, h⟩ := px_bs h
  refine ev_gR dX15_saveScan_307 flRX15_33 gv57 ?_
  obtain ⟨o58, go58, h⟩ := px_bs h
  obtain ⟨q59, gq59, h⟩ := px_bs h
  refine EV.callV (As := []) (rest := []) dX15_saveScan_310 kcX15_saveScan_298 (gO_ok go58) rfl rfl rfl (Nat.le_of_ble_eq_true rfl) (Nat.le_of_ble_eq_true rfl) (eX13_write gq59) ?_
  refine EV.istore [(11, .int q59.1), (0, .ref a0), (2, .int a2), (3, .int a3), (4, .int a4), (5, .int a5)] dX15_saveScan_313 (by decide) rfl ?_
  refine EV.aload_n 1 dX15_saveScan_315 rfl rfl ?_
  refine EV.aload_n 1 dX15_saveScan_316 rfl rfl ?_
  obtain ⟨v60, gv60, h⟩ := px_bs h
  refine ev_gI dX15_saveScan_317 flRX15_255 gv60 ?_
  refine EV.if_ne 328 dX15_saveScan_320 (by decide) (fun c61 => ?_) (fun c61 => ?_)
  · rw [if_neg c61] at h
    refine EV.sub [1, 0] rfl ?_
    exact eX15_saveScan_328  _ _ _ _ _ h
  · rw [if_pos c61] at h
    refine EV.iload 0 dX15_saveScan_323 rfl ?_
    refine EV.if_ge 332 dX15_saveScan_325 (by decide) (fun c62 => ?_) (fun c62 => ?_)
    · rw [if_pos c62] at h
      refine EV.iconst (0) dX15_saveScan_332 (by decide) ?_
      refine EV.sub [1, 0] rfl ?_
      exact eX15_saveScan_333  _ _ _ _ _ _ h
    · rw [if_neg c62] at h
      refine EV.sub [1, 0] rfl ?_
      exact eX15_saveScan_328  _ _ _ _ _ h
set_option maxRecDepth 100000 in
set_option maxHeartbeats 4000000 in
theorem eX15_saveScan_278 {X : px_X} {k242 : Nat → Int32 → Int32 → Int32 → Int32 → Int32 → Int32 → px_W → Option (px_W)} (hk242 : ∀ (a0 : Nat) (a1 : Int32) (a2 : Int32) (a3 : Int32) (a4 : Int32) (a5 : Int32) (a11 : Int32) (w : px_W) (q : px_W), k242 a0 a1 a2 a3 a4 a5 a11 w = some q → EV X mX15_saveScan 242 [(0, .ref a0), (1, .int a1), (2, .int a2), (3, .int a3), (4, .int a4), (5, .int a5), (11, .int a11)] [] w none q) : ∀ (a0 : Nat) (a1 : Int32) (a2 : Int32) (a3 : Int32) (a4 : Int32) (a5 : Int32) (a11 : Int32) (w : px_W) (q : px_W), fX15_saveScan_278 X k242 a0 a1 a2 a3 a4 a5 a11 w = some q → EV X mX15_saveScan 278 [(0, .ref a0), (1, .int a1), (2, .int a2), (3, .int a3), (4, .int a4), (5, .int a5), (11, .int a11)] [] w none q := by
  intro a0 a1 a2 a3 a4 a5 a11 w q h
  unfold fX15_saveScan_278 at h
  refine EV.iinc 6 (a11 + 1) [(11, .int (a11 + 1)), (0, .ref a0), (1, .int a1), (2, .int a2), (3, .int a3), (4, .int a4), (5, .int a5)] dX15_saveScan_278 rfl rfl (by decide) rfl ?_
  refine EV.goto 242 dX15_saveScan_281 (by decide) ?_
  refine EV.sub [1, 2, 3, 4, 5, 6, 0] rfl ?_
  exact hk242 _ _ _ _ _ _ _ _ _ h
set_option maxRecDepth 100000 in
set_option maxHeartbeats 4000000 in
theorem eX15_saveScan_242 {X : px_X}  : ∀ (m : Nat) (a0 : Nat) (a1 : Int32) (a2 : Int32) (a3 : Int32) (a4 : Int32) (a5 : Int32) (a11 : Int32) (w : px_W) (q : px_W), fX15_saveScan_242 X  m a0 a1 a2 a3 a4 a5 a11 w = some q → EV X mX15_saveScan 242 [(0, .ref a0), (1, .int a1), (2, .int a2), (3, .int a3), (4, .int a4), (5, .int a5), (11, .int a11)] [] w none q := by
  intro m
  induction m with
  | zero => intro a0 a1 a2 a3 a4 a5 a11 w q h; cases h
  | succ m ih =>
    intro a0 a1 a2 a3 a4 a5 a11 w q h
    rw [fX15_saveScan_242.eq_2] at h
    refine EV.iload 6 dX15_saveScan_242 rfl ?_
    refine EV.aload_n 0 dX15_saveScan_244 rfl rfl ?_
    obtain ⟨v63, gv63, h⟩ := px_bs h
    refine ev_gI dX15_saveScan_245 flRX15_126 gv63 ?_
    refine EV.icmp_ge 284 dX15_saveScan_248 (by decide) (fun c64 => ?_) (fun c64 => ?_)
    · rw [if_pos c64] at h
      refine EV.sub [0, 2, 3, 4, 5] rfl ?_
      exact eX15_saveScan_284  _ _ _ _ _ _ _ h
    · rw [if_neg c64] at h
      refine EV.iload_n 1 dX15_saveScan_251 rfl rfl ?_
      refine EV.iload 6 dX15_saveScan_252 rfl ?_
      refine EV.ishr dX15_saveScan_254 ?_
      refine EV.iconst (1) dX15_saveScan_255 (by decide) ?_
      refine EV.iand dX15_saveScan_256 ?_
      refine EV.iconst (1) dX15_saveScan_257 (by decide) ?_
      refine EV.icmp_ne 278 dX15_saveScan_258 (by decide) (fun c65 => ?_) (fun c65 => ?_)
      · rw [if_neg c65] at h
        refine EV.sub [0, 1, 2, 3, 4, 5, 6] rfl ?_
        exact eX15_saveScan_278 ih _ _ _ _ _ _ _ _ _ h
      · rw [if_pos c65] at h
        refine EV.aload_n 0 dX15_saveScan_261 rfl rfl ?_
        refine EV.iload 6 dX15_saveScan_262 rfl ?_
        refine EV.iconst (1) dX15_saveScan_264 (by decide) ?_
        refine EV.iadd dX15_saveScan_265 ?_
        obtain ⟨o66, go66, h⟩ := px_bs h
        obtain ⟨q67, gq67, h⟩ := px_bs h
        refine EV.callV (As := [.int (a11 + 1)]) (rest := []) dX15_saveScan_266 kcX15_saveScan_258 (gO_ok go66) rfl rfl rfl (Nat.le_of_ble_eq_true rfl) (Nat.le_of_ble_eq_true rfl) (eX15_put gq67) ?_
        refine EV.aload_n 0 dX15_saveScan_269 rfl rfl ?_
        refine EV.bipush (17) dX15_saveScan_270 (by decide) ?_
        refine EV.iload 6 dX15_saveScan_272 rfl ?_
        refine EV.imul dX15_saveScan_274 ?_
        obtain ⟨o68, go68, h⟩ := px_bs h
        obtain ⟨q69, gq69, h⟩ := px_bs h
        refine EV.callV (As := [.int (17 * a11)]) (rest := []) dX15_saveScan_275 kcX15_saveScan_258 (gO_ok go68) rfl rfl rfl (Nat.le_of_ble_eq_true rfl) (Nat.le_of_ble_eq_true rfl) (eX15_put gq69) ?_
        refine EV.sub [0, 1, 2, 3, 4, 5, 6] rfl ?_
        exact eX15_saveScan_278 ih _ _ _ _ _ _ _ _ _ h
set_option maxRecDepth 100000 in
set_option maxHeartbeats 4000000 in
theorem eX15_saveScan_220 {X : px_X}  : ∀ (a0 : Nat) (a1 : Int32) (a2 : Int32) (a3 : Int32) (a4 : Int32) (a5 : Int32) (a10 : Int32) (w : px_W) (q : px_W), fX15_saveScan_220 X  a0 a1 a2 a3 a4 a5 a10 w = some q → EV X mX15_saveScan 220 [(0, .ref a0), (1, .int a1), (2, .int a2), (3, .int a3), (4, .int a4), (5, .int a5), (10, .int a10)] [] w none q := by
  intro a0 a1 a2 a3 a4 a5 a10 w q h
  unfold fX15_saveScan_220 at h
  refine EV.aload_n 0 dX15_saveScan_220 rfl rfl ?_
  refine EV.sipush (218) dX15_saveScan_221 (by decide) ?_
  refine EV.iconst (4) dX15_saveScan_224 (by decide) ?_
  refine EV.iconst (2) dX15_saveScan_225 (by decide) ?_
  refine EV.iload 6 dX15_saveScan_226 rfl ?_
  refine EV.imul dX15_saveScan_228 ?_
  refine EV.iadd dX15_saveScan_229 ?_
  obtain ⟨o70, go70, h⟩ := px_bs h
  obtain ⟨q71, gq71, h⟩ := px_bs h
  refine EV.callV (As := [.int 218, .int (4 + (2 * a10))]) (rest := []) dX15_saveScan_230 kcX15_saveScan_291 (gO_ok go70) rfl rfl rfl (Nat.le_of_ble_eq_true rfl) (Nat.le_of_ble_eq_true rfl) (eX15_begin gq71) ?_
  refine EV.aload_n 0 dX15_saveScan_233 rfl rfl ?_
  refine EV.iload 6 dX15_saveScan_234 rfl ?_
  obtain ⟨o72, go72, h⟩ := px_bs h
  obtain ⟨q73, gq73, h⟩ := px_bs h
  refine EV.callV (As := [.int a10]) (rest := []) dX15_saveScan_236 kcX15_saveScan_258 (gO_ok go72) rfl rfl rfl (Nat.le_of_ble_eq_true rfl) (Nat.le_of_ble_eq_true rfl) (eX15_put gq73) ?_
  refine EV.iconst (0) dX15_saveScan_239 (by decide) ?_
  refine EV.istore [(11, .int 0), (0, .ref a0), (1, .int a1), (2, .int a2), (3, .int a3), (4, .int a4), (5, .int a5), (10, .int a10)] dX15_saveScan_240 (by decide) rfl ?_
  refine EV.sub [1, 2, 3, 4, 5, 6, 0] rfl ?_
  exact eX15_saveScan_242  FU _ _ _ _ _ _ _ _ _ h
set_option maxRecDepth 100000 in
set_option maxHeartbeats 4000000 in
theorem eX15_saveScan_171 {X : px_X}  : ∀ (m : Nat) (a0 : Nat) (a1 : Int32) (a2 : Int32) (a3 : Int32) (a4 : Int32) (a5 : Int32) (a8 : Int32) (a10 : Int32) (a11 : Int32) (w : px_W) (q : px_W), fX15_saveScan_171 X  m a0 a1 a2 a3 a4 a5 a8 a10 a11 w = some q → EV X mX15_saveScan 171 [(0, .ref a0), (1, .int a1), (2, .int a2), (3, .int a3), (4, .int a4), (5, .int a5), (8, .int a8), (10, .int a10), (11, .int a11)] [] w none q := by
  intro m
  induction m with
  | zero => intro a0 a1 a2 a3 a4 a5 a8 a10 a11 w q h; cases h
  | succ m ih =>
    intro a0 a1 a2 a3 a4 a5 a8 a10 a11 w q h
    rw [fX15_saveScan_171.eq_2] at h
    refine EV.iload 8 dX15_saveScan_171 rfl ?_
    refine EV.bipush (8) dX15_saveScan_173 (by decide) ?_
    refine EV.icmp_ge 220 dX15_saveScan_175 (by decide) (fun c74 => ?_) (fun c74 => ?_)
    · rw [if_pos c74] at h
      refine EV.sub [0, 1, 2, 3, 4, 5, 7] rfl ?_
      exact eX15_saveScan_220  _ _ _ _ _ _ _ _ _ h
    · rw [if_neg c74] at h
      refine EV.iload_n 1 dX15_saveScan_178 rfl rfl ?_
      refine EV.iload 8 dX15_saveScan_179 rfl ?_
      refine EV.iconst (4) dX15_saveScan_181 (by decide) ?_
      obtain ⟨v75, gv75, h⟩ := px_bs h
      refine ev_rI dX15_saveScan_182 gv75 ?_
      refine EV.ishr dX15_saveScan_183 ?_
      refine EV.iconst (1) dX15_saveScan_184 (by decide) ?_
      refine EV.iand dX15_saveScan_185 ?_
      refine EV.iconst (1) dX15_saveScan_186 (by decide) ?_
      refine EV.icmp_ne 214 dX15_saveScan_187 (by decide) (fun c76 => ?_) (fun c76 => ?_)
      · rw [if_neg c76] at h
        refine EV.sub [0, 1, 2, 3, 4, 5, 6, 7, 8] rfl ?_
        exact eX15_saveScan_214 ih _ _ _ _ _ _ _ _ _ _ _ h
      · rw [if_pos c76] at h
        refine EV.iload 8 dX15_saveScan_190 rfl ?_
        refine EV.iconst (4) dX15_saveScan_192 (by decide) ?_
        refine EV.icmp_ge 204 dX15_saveScan_193 (by decide) (fun c77 => ?_) (fun c77 => ?_)
        · rw [if_pos c77] at h
          refine EV.iload_n 3 dX15_saveScan_204 rfl rfl ?_
          refine EV.if_le 214 dX15_saveScan_205 (by decide) (fun c78 => ?_) (fun c78 => ?_)
          · rw [if_pos c78] at h
            refine EV.sub [0, 1, 2, 3, 4, 5, 6, 7, 8] rfl ?_
            exact eX15_saveScan_214 ih _ _ _ _ _ _ _ _ _ _ _ h
          · rw [if_neg c78] at h
            refine EV.sub [0, 1, 2, 3, 4, 5, 6, 7, 8] rfl ?_
            exact eX15_saveScan_208 ih _ _ _ _ _ _ _ _ _ _ _ h
        · rw [if_neg c77] at h
          refine EV.iload 6 dX15_saveScan_196 rfl ?_
          refine EV.if_eq 214 dX15_saveScan_198 (by decide) (fun c79 => ?_) (fun c79 => ?_)
          · rw [if_pos c79] at h
            refine EV.sub [0, 1, 2, 3, 4, 5, 6, 7, 8] rfl ?_
            exact eX15_saveScan_214 ih _ _ _ _ _ _ _ _ _ _ _ h
          · rw [if_neg c79] at h
            refine EV.goto 208 dX15_saveScan_201 (by decide) ?_
            refine EV.sub [0, 1, 2, 3, 4, 5, 6, 7, 8] rfl ?_
            exact eX15_saveScan_208 ih _ _ _ _ _ _ _ _ _ _ _ h
set_option maxRecDepth 100000 in
set_option maxHeartbeats 4000000 in
theorem eX15_saveScan_168 {X : px_X}  : ∀ (a0 : Nat) (a1 : Int32) (a2 : Int32) (a3 : Int32) (a4 : Int32) (a5 : Int32) (a8 : Int32) (a10 : Int32) (w : px_W) (q : px_W), fX15_saveScan_168 X  a0 a1 a2 a3 a4 a5 a8 a10 w = some q → EV X mX15_saveScan 168 [(0, .ref a0), (1, .int a1), (2, .int a2), (3, .int a3), (4, .int a4), (5, .int a5), (8, .int a8), (10, .int a10)] [] w none q := by
  intro a0 a1 a2 a3 a4 a5 a8 a10 w q h
  unfold fX15_saveScan_168 at h
  refine EV.iconst (0) dX15_saveScan_168 (by decide) ?_
  refine EV.istore [(11, .int 0), (0, .ref a0), (1, .int a1), (2, .int a2), (3, .int a3), (4, .int a4), (5, .int a5), (8, .int a8), (10, .int a10)] dX15_saveScan_169 (by decide) rfl ?_
  refine EV.sub [1, 2, 3, 4, 5, 6, 7, 8, 0] rfl ?_
  exact eX15_saveScan_171  FU _ _ _ _ _ _ _ _ _ _ _ h
set_option maxRecDepth 100000 in
set_option maxHeartbeats 4000000 in
theorem eX15_saveScan_154 {X : px_X}  : ∀ (a0 : Nat) (a1 : Int32) (a2 : Int32) (a3 : Int32) (a4 : Int32) (a5 : Int32) (a8 : Int32) (a9 : Int32) (a10 : Int32) (w : px_W) (q : px_W), fX15_saveScan_154 X  a0 a1 a2 a3 a4 a5 a8 a9 a10 w = some q → EV X mX15_saveScan 154 [(0, .ref a0), (1, .int a1), (2, .int a2), (3, .int a3), (4, .int a4), (5, .int a5), (8, .int a8), (9, .int a9), (10, .int a10)] [] w none q := by
  intro a0 a1 a2 a3 a4 a5 a8 a9 a10 w q h
  unfold fX15_saveScan_154 at h
  refine EV.iload 7 dX15_saveScan_154 rfl ?_
  refine EV.if_le 168 dX15_saveScan_156 (by decide) (fun c80 => ?_) (fun c80 => ?_)
  · rw [if_pos c80] at h
    refine EV.sub [0, 1, 2, 3, 4, 5, 6, 8] rfl ?_
    exact eX15_saveScan_168  _ _ _ _ _ _ _ _ _ _ h
  · rw [if_neg c80] at h
    refine EV.aload_n 0 dX15_saveScan_159 rfl rfl ?_
    refine EV.sipush (196) dX15_saveScan_160 (by decide) ?_
    refine EV.iload 7 dX15_saveScan_163 rfl ?_
    obtain ⟨o81, go81, h⟩ := px_bs h
    obtain ⟨q82, gq82, h⟩ := px_bs h
    refine EV.callV (As := [.int 196, .int a9]) (rest := []) dX15_saveScan_165 kcX15_saveScan_291 (gO_ok go81) rfl rfl rfl (Nat.le_of_ble_eq_true rfl) (Nat.le_of_ble_eq_true rfl) (eX15_begin gq82) ?_
    refine EV.sub [0, 1, 2, 3, 4, 5, 6, 8] rfl ?_
    exact eX15_saveScan_168  _ _ _ _ _ _ _ _ _ _ h
set_option maxRecDepth 100000 in
set_option maxHeartbeats 4000000 in
theorem eX15_saveScan_145 {X : px_X} {k50 : Nat → Int32 → Int32 → Int32 → Int32 → Int32 → Int32 → Int32 → Int32 → Int32 → px_W → Option (px_W)} (hk50 : ∀ (a0 : Nat) (a1 : Int32) (a2 : Int32) (a3 : Int32) (a4 : Int32) (a5 : Int32) (a8 : Int32) (a9 : Int32) (a10 : Int32) (a11 : Int32) (w : px_W) (q : px_W), k50 a0 a1 a2 a3 a4 a5 a8 a9 a10 a11 w = some q → EV X mX15_saveScan 50 [(0, .ref a0), (1, .int a1), (2, .int a2), (3, .int a3), (4, .int a4), (5, .int a5), (8, .int a8), (9, .int a9), (10, .int a10), (11, .int a11)] [] w none q) : ∀ (a0 : Nat) (a1 : Int32) (a2 : Int32) (a3 : Int32) (a4 : Int32) (a5 : Int32) (a8 : Int32) (a10 : Int32) (a11 : Int32) (s0 : Int32) (s1 : Int32) (w : px_W) (q : px_W), fX15_saveScan_145 X k50 a0 a1 a2 a3 a4 a5 a8 a10 a11 s0 s1 w = some q → EV X mX15_saveScan 145 [(0, .ref a0), (1, .int a1), (2, .int a2), (3, .int a3), (4, .int a4), (5, .int a5), (8, .int a8), (10, .int a10), (11, .int a11)] [.int s0, .int s1] w none q := by
  intro a0 a1 a2 a3 a4 a5 a8 a10 a11 s0 s1 w q h
  unfold fX15_saveScan_145 at h
  refine EV.iadd dX15_saveScan_145 ?_
  refine EV.istore [(9, .int (s1 + s0)), (0, .ref a0), (1, .int a1), (2, .int a2), (3, .int a3), (4, .int a4), (5, .int a5), (8, .int a8), (10, .int a10), (11, .int a11)] dX15_saveScan_146 (by decide) rfl ?_
  refine EV.iinc 9 (a11 + 1) [(11, .int (a11 + 1)), (9, .int (s1 + s0)), (0, .ref a0), (1, .int a1), (2, .int a2), (3, .int a3), (4, .int a4), (5, .int a5), (8, .int a8), (10, .int a10)] dX15_saveScan_148 rfl rfl (by decide) rfl ?_
  refine EV.goto 50 dX15_saveScan_151 (by decide) ?_
  refine EV.sub [2, 3, 4, 5, 6, 7, 8, 1, 9, 0] rfl ?_
  exact hk50 _ _ _ _ _ _ _ _ _ _ _ _ h
set_option maxRecDepth 100000 in
set_option maxHeartbeats 4000000 in
theorem eX15_saveScan_144 {X : px_X} {k50 : Nat → Int32 → Int32 → Int32 → Int32 → Int32 → Int32 → Int32 → Int32 → Int32 → px_W → Option (px_W)} (hk50 : ∀ (a0 : Nat) (a1 : Int32) (a2 : Int32) (a3 : Int32) (a4 : Int32) (a5 : Int32) (a8 : Int32) (a9 : Int32) (a10 : Int32) (a11 : Int32) (w : px_W) (q : px_W), k50 a0 a1 a2 a3 a4 a5 a8 a9 a10 a11 w = some q → EV X mX15_saveScan 50 [(0, .ref a0), (1, .int a1), (2, .int a2), (3, .int a3), (4, .int a4), (5, .int a5), (8, .int a8), (9, .int a9), (10, .int a10), (11, .int a11)] [] w none q) : ∀ (a0 : Nat) (a1 : Int32) (a2 : Int32) (a3 : Int32) (a4 : Int32) (a5 : Int32) (a8 : Int32) (a10 : Int32) (a11 : Int32) (s0 : Int32) (w : px_W) (q : px_W), fX15_saveScan_144 X k50 a0 a1 a2 a3 a4 a5 a8 a10 a11 s0 w = some q → EV X mX15_saveScan 144 [(0, .ref a0), (1, .int a1), (2, .int a2), (3, .int a3), (4, .int a4), (5, .int a5), (8, .int a8), (10, .int a10), (11, .int a11)] [.int s0] w none q := by
  intro a0 a1 a2 a3 a4 a5 a8 a10 a11 s0 w q h
  unfold fX15_saveScan_144 at h
  refine EV.iconst (0) dX15_saveScan_144 (by decide) ?_
  refine EV.sub [0, 1, 2, 3, 4, 5, 6, 7, 8] rfl ?_
  exact eX15_saveScan_145 hk50 _ _ _ _ _ _ _ _ _ _ _ _ _ h
set_option maxRecDepth 100000 in
set_option maxHeartbeats 4000000 in
theorem eX15_saveScan_116 {X : px_X} {k50 : Nat → Int32 → Int32 → Int32 → Int32 → Int32 → Int32 → Int32 → Int32 → Int32 → px_W → Option (px_W)} (hk50 : ∀ (a0 : Nat) (a1 : Int32) (a2 : Int32) (a3 : Int32) (a4 : Int32) (a5 : Int32) (a8 : Int32) (a9 : Int32) (a10 : Int32) (a11 : Int32) (w : px_W) (q : px_W), k50 a0 a1 a2 a3 a4 a5 a8 a9 a10 a11 w = some q → EV X mX15_saveScan 50 [(0, .ref a0), (1, .int a1), (2, .int a2), (3, .int a3), (4, .int a4), (5, .int a5), (8, .int a8), (9, .int a9), (10, .int a10), (11, .int a11)] [] w none q) : ∀ (a0 : Nat) (a1 : Int32) (a2 : Int32) (a3 : Int32) (a4 : Int32) (a5 : Int32) (a8 : Int32) (a10 : Int32) (a11 : Int32) (a12 : Int32) (s0 : Int32) (s1 : Int32) (w : px_W) (q : px_W), fX15_saveScan_116 X k50 a0 a1 a2 a3 a4 a5 a8 a10 a11 a12 s0 s1 w = some q → EV X mX15_saveScan 116 [(0, .ref a0), (1, .int a1), (2, .int a2), (3, .int a3), (4, .int a4), (5, .int a5), (8, .int a8), (10, .int a10), (11, .int a11), (12, .int a12)] [.int s0, .int s1] w none q := by
  intro a0 a1 a2 a3 a4 a5 a8 a10 a11 a12 s0 s1 w q h
  unfold fX15_saveScan_116 at h
  refine EV.iadd dX15_saveScan_116 ?_
  refine EV.istore [(9, .int (s1 + s0)), (0, .ref a0), (1, .int a1), (2, .int a2), (3, .int a3), (4, .int a4), (5, .int a5), (8, .int a8), (10, .int a10), (11, .int a11), (12, .int a12)] dX15_saveScan_117 (by decide) rfl ?_
  refine EV.iload 0 dX15_saveScan_119 rfl ?_
  refine EV.iload 10 dX15_saveScan_121 rfl ?_
  refine EV.if_eq 144 dX15_saveScan_123 (by decide) (fun c83 => ?_) (fun c83 => ?_)
  · rw [if_pos c83] at h
    refine EV.sub [1, 2, 3, 4, 5, 6, 7, 8, 9] rfl ?_
    exact eX15_saveScan_144 hk50 _ _ _ _ _ _ _ _ _ _ _ _ h
  · rw [if_neg c83] at h
    refine EV.iload_n 4 dX15_saveScan_126 rfl rfl ?_
    refine EV.if_le 144 dX15_saveScan_127 (by decide) (fun c84 => ?_) (fun c84 => ?_)
    · rw [if_pos c84] at h
      refine EV.sub [1, 2, 3, 4, 5, 6, 7, 8, 9] rfl ?_
      exact eX15_saveScan_144 hk50 _ _ _ _ _ _ _ _ _ _ _ _ h
    · rw [if_neg c84] at h
      refine EV.bipush (17) dX15_saveScan_130 (by decide) ?_
      refine EV.aload_n 1 dX15_saveScan_132 rfl rfl ?_
      refine EV.iconst (4) dX15_saveScan_133 (by decide) ?_
      refine EV.iload 9 dX15_saveScan_134 rfl ?_
      refine EV.iadd dX15_saveScan_136 ?_
      obtain ⟨o85, go85, h⟩ := px_bs h
      obtain ⟨q86, gq86, h⟩ := px_bs h
      refine EV.callV (As := [.int (4 + a11)]) (rest := [.int 17, .int (s1 + s0)]) dX15_saveScan_137 kcX15_saveScan_287 (gO_ok go85) rfl rfl rfl (Nat.le_of_ble_eq_true rfl) (Nat.le_of_ble_eq_true rfl) (eX15_distinct gq86) ?_
      refine EV.iadd dX15_saveScan_140 ?_
      refine EV.goto 145 dX15_saveScan_141 (by decide) ?_
      refine EV.sub [1, 2, 3, 4, 5, 6, 7, 8, 9] rfl ?_
      exact eX15_saveScan_145 hk50 _ _ _ _ _ _ _ _ _ _ _ _ _ h
set_option maxRecDepth 100000 in
set_option maxHeartbeats 4000000 in
theorem eX15_saveScan_115 {X : px_X} {k50 : Nat → Int32 → Int32 → Int32 → Int32 → Int32 → Int32 → Int32 → Int32 → Int32 → px_W → Option (px_W)} (hk50 : ∀ (a0 : Nat) (a1 : Int32) (a2 : Int32) (a3 : Int32) (a4 : Int32) (a5 : Int32) (a8 : Int32) (a9 : Int32) (a10 : Int32) (a11 : Int32) (w : px_W) (q : px_W), k50 a0 a1 a2 a3 a4 a5 a8 a9 a10 a11 w = some q → EV X mX15_saveScan 50 [(0, .ref a0), (1, .int a1), (2, .int a2), (3, .int a3), (4, .int a4), (5, .int a5), (8, .int a8), (9, .int a9), (10, .int a10), (11, .int a11)] [] w none q) : ∀ (a0 : Nat) (a1 : Int32) (a2 : Int32) (a3 : Int32) (a4 : Int32) (a5 : Int32) (a8 : Int32) (a10 : Int32) (a11 : Int32) (a12 : Int32) (s0 : Int32) (w : px_W) (q : px_W), fX15_saveScan_115 X k50 a0 a1 a2 a3 a4 a5 a8 a10 a11 a12 s0 w = some q → EV X mX15_saveScan 115 [(0, .ref a0), (1, .int a1), (2, .int a2), (3, .int a3), (4, .int a4), (5, .int a5), (8, .int a8), (10, .int a10), (11, .int a11), (12, .int a12)] [.int s0] w none q := by
  intro a0 a1 a2 a3 a4 a5 a8 a10 a11 a12 s0 w q h
  unfold fX15_saveScan_115 at h
  refine EV.iconst (0) dX15_saveScan_115 (by decide) ?_
  refine EV.sub [0, 1, 2, 3, 4, 5, 6, 7, 8, 9] rfl ?_
  exact eX15_saveScan_116 hk50 _ _ _ _ _ _ _ _ _ _ _ _ _ _ h
set_option maxRecDepth 100000 in
set_option maxHeartbeats 4000000 in
theorem eX15_saveScan_88 {X : px_X} {k50 : Nat → Int32 → Int32 → Int32 → Int32 → Int32 → Int32 → Int32 → Int32 → Int32 → px_W → Option (px_W)} (hk50 : ∀ (a0 : Nat) (a1 : Int32) (a2 : Int32) (a3 : Int32) (a4 : Int32) (a5 : Int32) (a8 : Int32) (a9 : Int32) (a10 : Int32) (a11 : Int32) (w : px_W) (q : px_W), k50 a0 a1 a2 a3 a4 a5 a8 a9 a10 a11 w = some q → EV X mX15_saveScan 50 [(0, .ref a0), (1, .int a1), (2, .int a2), (3, .int a3), (4, .int a4), (5, .int a5), (8, .int a8), (9, .int a9), (10, .int a10), (11, .int a11)] [] w none q) : ∀ (a0 : Nat) (a1 : Int32) (a2 : Int32) (a3 : Int32) (a4 : Int32) (a5 : Int32) (a8 : Int32) (a9 : Int32) (a11 : Int32) (a12 : Int32) (s0 : Int32) (s1 : Int32) (w : px_W) (q : px_W), fX15_saveScan_88 X k50 a0 a1 a2 a3 a4 a5 a8 a9 a11 a12 s0 s1 w = some q → EV X mX15_saveScan 88 [(0, .ref a0), (1, .int a1), (2, .int a2), (3, .int a3), (4, .int a4), (5, .int a5), (8, .int a8), (9, .int a9), (11, .int a11), (12, .int a12)] [.int s0, .int s1] w none q := by
  intro a0 a1 a2 a3 a4 a5 a8 a9 a11 a12 s0 s1 w q h
  unfold fX15_saveScan_88 at h
  refine EV.iadd dX15_saveScan_88 ?_
  refine EV.istore [(10, .int (s1 + s0)), (0, .ref a0), (1, .int a1), (2, .int a2), (3, .int a3), (4, .int a4), (5, .int a5), (8, .int a8), (9, .int a9), (11, .int a11), (12, .int a12)] dX15_saveScan_89 (by decide) rfl ?_
  refine EV.iload 8 dX15_saveScan_91 rfl ?_
  refine EV.iload 10 dX15_saveScan_93 rfl ?_
  refine EV.if_eq 115 dX15_saveScan_95 (by decide) (fun c87 => ?_) (fun c87 => ?_)
  · rw [if_pos c87] at h
    refine EV.sub [1, 2, 3, 4, 5, 6, 7, 0, 9, 10] rfl ?_
    exact eX15_saveScan_115 hk50 _ _ _ _ _ _ _ _ _ _ _ _ _ h
  · rw [if_neg c87] at h
    refine EV.iload 7 dX15_saveScan_98 rfl ?_
    refine EV.if_eq 115 dX15_saveScan_100 (by decide) (fun c88 => ?_) (fun c88 => ?_)
    · rw [if_pos c88] at h
      refine EV.sub [1, 2, 3, 4, 5, 6, 7, 0, 9, 10] rfl ?_
      exact eX15_saveScan_115 hk50 _ _ _ _ _ _ _ _ _ _ _ _ _ h
    · rw [if_neg c88] at h
      refine EV.bipush (17) dX15_saveScan_103 (by decide) ?_
      refine EV.aload_n 1 dX15_saveScan_105 rfl rfl ?_
      refine EV.iload 9 dX15_saveScan_106 rfl ?_
      obtain ⟨o89, go89, h⟩ := px_bs h
      obtain ⟨q90, gq90, h⟩ := px_bs h
      refine EV.callV (As := [.int a11]) (rest := [.int 17, .int a9]) dX15_saveScan_108 kcX15_saveScan_287 (gO_ok go89) rfl rfl rfl (Nat.le_of_ble_eq_true rfl) (Nat.le_of_ble_eq_true rfl) (eX15_distinct gq90) ?_
      refine EV.iadd dX15_saveScan_111 ?_
      refine EV.goto 116 dX15_saveScan_112 (by decide) ?_
      refine EV.sub [1, 2, 3, 4, 5, 6, 7, 0, 9, 10] rfl ?_
      exact eX15_saveScan_116 hk50 _ _ _ _ _ _ _ _ _ _ _ _ _ _ h
set_option maxRecDepth 100000 in
set_option maxHeartbeats 4000000 in
theorem eX15_saveScan_74 {X : px_X} {k50 : Nat → Int32 → Int32 → Int32 → Int32 → Int32 → Int32 → Int32 → Int32 → Int32 → px_W → Option (px_W)} (hk50 : ∀ (a0 : Nat) (a1 : Int32) (a2 : Int32) (a3 : Int32) (a4 : Int32) (a5 : Int32) (a8 : Int32) (a9 : Int32) (a10 : Int32) (a11 : Int32) (w : px_W) (q : px_W), k50 a0 a1 a2 a3 a4 a5 a8 a9 a10 a11 w = some q → EV X mX15_saveScan 50 [(0, .ref a0), (1, .int a1), (2, .int a2), (3, .int a3), (4, .int a4), (5, .int a5), (8, .int a8), (9, .int a9), (10, .int a10), (11, .int a11)] [] w none q) : ∀ (a0 : Nat) (a1 : Int32) (a2 : Int32) (a3 : Int32) (a4 : Int32) (a5 : Int32) (a8 : Int32) (a9 : Int32) (a10 : Int32) (a11 : Int32) (s0 : Int32) (w : px_W) (q : px_W), fX15_saveScan_74 X k50 a0 a1 a2 a3 a4 a5 a8 a9 a10 a11 s0 w = some q → EV X mX15_saveScan 74 [(0, .ref a0), (1, .int a1), (2, .int a2), (3, .int a3), (4, .int a4), (5, .int a5), (8, .int a8), (9, .int a9), (10, .int a10), (11, .int a11)] [.int s0] w none q := by
  intro a0 a1 a2 a3 a4 a5 a8 a9 a10 a11 s0 w q h
  unfold fX15_saveScan_74 at h
  refine EV.istore [(12, .int s0), (0, .ref a0), (1, .int a1), (2, .int a2), (3, .int a3), (4, .int a4), (5, .int a5), (8, .int a8), (9, .int a9), (10, .int a10), (11, .int a11)] dX15_saveScan_74 (by decide) rfl ?_
  refine EV.iload 9 dX15_saveScan_76 rfl ?_
  refine EV.iload 0 dX15_saveScan_78 rfl ?_
  refine EV.if_eq 87 dX15_saveScan_80 (by decide) (fun c91 => ?_) (fun c91 => ?_)
  · rw [if_pos c91] at h
    refine EV.iconst (0) dX15_saveScan_87 (by decide) ?_
    refine EV.sub [1, 2, 3, 4, 5, 6, 7, 8, 10, 0] rfl ?_
    exact eX15_saveScan_88 hk50 _ _ _ _ _ _ _ _ _ _ _ _ _ _ h
  · rw [if_neg c91] at h
    refine EV.iconst (1) dX15_saveScan_83 (by decide) ?_
    refine EV.goto 88 dX15_saveScan_84 (by decide) ?_
    refine EV.sub [1, 2, 3, 4, 5, 6, 7, 8, 10, 0] rfl ?_
    exact eX15_saveScan_88 hk50 _ _ _ _ _ _ _ _ _ _ _ _ _ _ h
set_option maxRecDepth 100000 in
set_option maxHeartbeats 4000000 in
theorem eX15_saveScan_50 {X : px_X}  : ∀ (m : Nat) (a0 : Nat) (a1 : Int32) (a2 : Int32) (a3 : Int32) (a4 : Int32) (a5 : Int32) (a8 : Int32) (a9 : Int32) (a10 : Int32) (a11 : Int32) (w : px_W) (q : px_W), fX15_saveScan_50 X  m a0 a1 a2 a3 a4 a5 a8 a9 a10 a11 w = some q → EV X mX15_saveScan 50 [(0, .ref a0), (1, .int a1), (2, .int a2), (3, .int a3), (4, .int a4), (5, .int a5), (8, .int a8), (9, .int a9), (10, .int a10), (11, .int a11)] [] w none q := by
  intro m
  induction m with
  | zero => intro a0 a1 a2 a3 a4 a5 a8 a9 a10 a11 w q h; cases h
  | succ m ih =>
    intro a0 a1 a2 a3 a4 a5 a8 a9 a10 a11 w q h
    rw [fX15_saveScan_50.eq_2] at h
    refine EV.iload 9 dX15_saveScan_50 rfl ?_
    refine EV.aload_n 0 dX15_saveScan_52 rfl rfl ?_
    obtain ⟨v92, gv92, h⟩ := px_bs h
    refine ev_gI dX15_saveScan_53 flRX15_126 gv92 ?_
    refine EV.icmp_ge 154 dX15_saveScan_56 (by decide) (fun c93 => ?_) (fun c93 => ?_)
    · rw [if_pos c93] at h
      refine EV.sub [0, 1, 2, 3, 4, 5, 6, 7, 8] rfl ?_
      exact eX15_saveScan_154  _ _ _ _ _ _ _ _ _ _ _ h
    · rw [if_neg c93] at h
      refine EV.iload_n 1 dX15_saveScan_59 rfl rfl ?_
      refine EV.iload 9 dX15_saveScan_60 rfl ?_
      refine EV.ishr dX15_saveScan_62 ?_
      refine EV.iconst (1) dX15_saveScan_63 (by decide) ?_
      refine EV.iand dX15_saveScan_64 ?_
      refine EV.iconst (1) dX15_saveScan_65 (by decide) ?_
      refine EV.icmp_ne 73 dX15_saveScan_66 (by decide) (fun c94 => ?_) (fun c94 => ?_)
      · rw [if_neg c94] at h
        refine EV.iconst (0) dX15_saveScan_73 (by decide) ?_
        refine EV.sub [0, 1, 2, 3, 4, 5, 6, 7, 8, 9] rfl ?_
        exact eX15_saveScan_74 ih _ _ _ _ _ _ _ _ _ _ _ _ _ h
      · rw [if_pos c94] at h
        refine EV.iconst (1) dX15_saveScan_69 (by decide) ?_
        refine EV.goto 74 dX15_saveScan_70 (by decide) ?_
        refine EV.sub [0, 1, 2, 3, 4, 5, 6, 7, 8, 9] rfl ?_
        exact eX15_saveScan_74 ih _ _ _ _ _ _ _ _ _ _ _ _ _ h
set_option maxRecDepth 100000 in
set_option maxHeartbeats 4000000 in
theorem eX15_saveScan_39 {X : px_X}  : ∀ (a0 : Nat) (a1 : Int32) (a2 : Int32) (a3 : Int32) (a4 : Int32) (a5 : Int32) (s0 : Int32) (w : px_W) (q : px_W), fX15_saveScan_39 X  a0 a1 a2 a3 a4 a5 s0 w = some q → EV X mX15_saveScan 39 [(0, .ref a0), (1, .int a1), (2, .int a2), (3, .int a3), (4, .int a4), (5, .int a5)] [.int s0] w none q := by
  intro a0 a1 a2 a3 a4 a5 s0 w q h
  unfold fX15_saveScan_39 at h
  refine EV.istore [(8, .int s0), (0, .ref a0), (1, .int a1), (2, .int a2), (3, .int a3), (4, .int a4), (5, .int a5)] dX15_saveScan_39 (by decide) rfl ?_
  refine EV.iconst (0) dX15_saveScan_41 (by decide) ?_
  refine EV.istore [(9, .int 0), (8, .int s0), (0, .ref a0), (1, .int a1), (2, .int a2), (3, .int a3), (4, .int a4), (5, .int a5)] dX15_saveScan_42 (by decide) rfl ?_
  refine EV.iconst (0) dX15_saveScan_44 (by decide) ?_
  refine EV.istore [(10, .int 0), (9, .int 0), (8, .int s0), (0, .ref a0), (1, .int a1), (2, .int a2), (3, .int a3), (4, .int a4), (5, .int a5)] dX15_saveScan_45 (by decide) rfl ?_
  refine EV.iconst (0) dX15_saveScan_47 (by decide) ?_
  refine EV.istore [(11, .int 0), (10, .int 0), (9, .int 0), (8, .int s0), (0, .ref a0), (1, .int a1), (2, .int a2), (3, .int a3), (4, .int a4), (5, .int a5)] dX15_saveScan_48 (by decide) rfl ?_
  refine EV.sub [4, 5, 6, 7, 8, 9, 3, 2, 1, 0] rfl ?_
  exact eX15_saveScan_50  FU _ _ _ _ _ _ _ _ _ _ _ _ h
set_option maxRecDepth 100000 in
set_option maxHeartbeats 4000000 in
theorem eX15_saveScan_38 {X : px_X}  : ∀ (a0 : Nat) (a1 : Int32) (a2 : Int32) (a3 : Int32) (a4 : Int32) (a5 : Int32) (w : px_W) (q : px_W), fX15_saveScan_38 X  a0 a1 a2 a3 a4 a5 w = some q → EV X mX15_saveScan 38 [(0, .ref a0), (1, .int a1), (2, .int a2), (3, .int a3), (4, .int a4), (5, .int a5)] [] w none q := by
  intro a0 a1 a2 a3 a4 a5 w q h
  unfold fX15_saveScan_38 at h
  refine EV.iconst (0) dX15_saveScan_38 (by decide) ?_
  refine EV.sub [0, 1, 2, 3, 4, 5] rfl ?_
  exact eX15_saveScan_39  _ _ _ _ _ _ _ _ _ h
set_option maxRecDepth 100000 in
set_option maxHeartbeats 4000000 in
theorem eX15_saveScan {X : px_X} {w : px_W} {a0 : Nat} {a1 : Int32} {a2 : Int32} {a3 : Int32} {a4 : Int32} {a5 : Int32} {q : px_W} (h : fX15_saveScan X w a0 a1 a2 a3 a4 a5 = some q) : EV X mX15_saveScan 0 (lv_args 0 [.ref a0, .int a1, .int a2, .int a3, .int a4, .int a5]) [] w none q := by
  unfold fX15_saveScan at h
  show EV X mX15_saveScan 0 [(0, .ref a0), (1, .int a1), (2, .int a2), (3, .int a3), (4, .int a4), (5, .int a5)] [] w none q
  refine EV.aload_n 0 dX15_saveScan_0 rfl rfl ?_
  obtain ⟨v95, gv95, h⟩ := px_bs h
  refine ev_gR dX15_saveScan_1 flRX15_33 gv95 ?_
  refine EV.iload_n 1 dX15_saveScan_4 rfl rfl ?_
  refine EV.iload_n 2 dX15_saveScan_5 rfl rfl ?_
  refine EV.iload_n 3 dX15_saveScan_6 rfl rfl ?_
  refine EV.iload 4 dX15_saveScan_7 rfl ?_
  refine EV.iload 5 dX15_saveScan_9 rfl ?_
  obtain ⟨o96, go96, h⟩ := px_bs h
  obtain ⟨q97, gq97, h⟩ := px_bs h
  refine EV.callV (As := [.int a1, .int a2, .int a3, .int a4, .int a5]) (rest := []) dX15_saveScan_11 kcX15_saveScan_166 (gO_ok go96) rfl rfl rfl (Nat.le_of_ble_eq_true rfl) (Nat.le_of_ble_eq_true rfl) (eX13_scan gq97) ?_
  refine EV.istore [(6, .int q97.1), (0, .ref a0), (1, .int a1), (2, .int a2), (3, .int a3), (4, .int a4), (5, .int a5)] dX15_saveScan_14 (by decide) rfl ?_
  refine EV.aload_n 1 dX15_saveScan_16 rfl rfl ?_
  obtain ⟨v98, gv98, h⟩ := px_bs h
  refine ev_gR dX15_saveScan_17 flRX15_33 gv98 ?_
  obtain ⟨o99, go99, h⟩ := px_bs h
  obtain ⟨q100, gq100, h⟩ := px_bs h
  refine EV.callV (As := []) (rest := []) dX15_saveScan_20 kcX15_saveScan_284 (gO_ok go99) rfl rfl rfl (Nat.le_of_ble_eq_true rfl) (Nat.le_of_ble_eq_true rfl) (eX13_tally gq100) ?_
  refine EV.istore [(7, .int q100.1), (6, .int q97.1), (0, .ref a0), (1, .int a1), (2, .int a2), (3, .int a3), (4, .int a4), (5, .int a5)] dX15_saveScan_23 (by decide) rfl ?_
  refine EV.iload_n 4 dX15_saveScan_25 rfl rfl ?_
  refine EV.if_ne 38 dX15_saveScan_26 (by decide) (fun c101 => ?_) (fun c101 => ?_)
  · rw [if_neg c101] at h
    refine EV.sub [2, 3, 4, 5, 6, 7] rfl ?_
    exact eX15_saveScan_38  _ _ _ _ _ _ _ _ h
  · rw [if_pos c101] at h
    refine EV.iload 6 dX15_saveScan_29 rfl ?_
    refine EV.if_ne 38 dX15_saveScan_31 (by decide) (fun c102 => ?_) (fun c102 => ?_)
    · rw [if_neg c102] at h
      refine EV.sub [2, 3, 4, 5, 6, 7] rfl ?_
      exact eX15_saveScan_38  _ _ _ _ _ _ _ _ h
    · rw [if_pos c102] at h
      refine EV.iconst (1) dX15_saveScan_34 (by decide) ?_
      refine EV.goto 39 dX15_saveScan_35 (by decide) ?_
      refine EV.sub [2, 3, 4, 5, 6, 7] rfl ?_
      exact eX15_saveScan_39  _ _ _ _ _ _ _ _ _ h
/-! WavePicturesModel.saveEach(IIII)V -/
theorem dX15_saveEach_0 : decode cX15_saveEach 0 = .ok (.iconst 0, 1) := by decide +kernel
theorem dX15_saveEach_1 : decode cX15_saveEach 1 = .ok (.istore 5, 2) := by decide +kernel
theorem dX15_saveEach_3 : decode cX15_saveEach 3 = .ok (.iload 5, 2) := by decide +kernel
theorem dX15_saveEach_5 : decode cX15_saveEach 5 = .ok (.aload_n 0, 1) := by decide +kernel
theorem dX15_saveEach_6 : decode cX15_saveEach 6 = .ok (.getfield 126, 3) := by decide +kernel
theorem dX15_saveEach_9 : decode cX15_saveEach 9 = .ok (.if_icmp .ge 22, 3) := by decide +kernel
theorem dX15_saveEach_12 : decode cX15_saveEach 12 = .ok (.aload_n 0, 1) := by decide +kernel
theorem dX15_saveEach_13 : decode cX15_saveEach 13 = .ok (.iconst 1, 1) := by decide +kernel
theorem dX15_saveEach_14 : decode cX15_saveEach 14 = .ok (.iload 5, 2) := by decide +kernel
theorem dX15_saveEach_16 : decode cX15_saveEach 16 = .ok (.ishl, 1) := by decide +kernel
theorem dX15_saveEach_17 : decode cX15_saveEach 17 = .ok (.iload_n 1, 1) := by decide +kernel
theorem dX15_saveEach_18 : decode cX15_saveEach 18 = .ok (.iload_n 2, 1) := by decide +kernel
theorem dX15_saveEach_19 : decode cX15_saveEach 19 = .ok (.iload_n 3, 1) := by decide +kernel
theorem dX15_saveEach_20 : decode cX15_saveEach 20 = .ok (.iload 4, 2) := by decide +kernel
theorem dX15_saveEach_22 : decode cX15_saveEach 22 = .ok (.invokevirtual 301, 3) := by decide +kernel
theorem dX15_saveEach_25 : decode cX15_saveEach 25 = .ok (.iinc 5 1, 3) := by decide +kernel
theorem dX15_saveEach_28 : decode cX15_saveEach 28 = .ok (.goto (-25), 3) := by decide +kernel
theorem dX15_saveEach_31 : decode cX15_saveEach 31 = .ok (.return_, 1) := by decide +kernel
theorem mbX15_saveScan : px_mB mX15_saveScan 5 := ⟨tb9 (List.mem_of_getElem? (i := 150) rfl), by decide +kernel, tb1 (List.mem_of_getElem? (i := 13) rfl), by decide +kernel, by decide +kernel⟩
theorem vbX15_saveScan : px_vB mX15_saveScan := ⟨tb9 (List.mem_of_getElem? (i := 149) rfl), List.mem_append_left _ (List.mem_of_getElem? (i := 140) (by decide +kernel))⟩
theorem kcX15_saveEach_301 : px_cV mX15_saveEach 301 mX15_saveScan 5 := ⟨⟨mbX15_saveScan, by decide, by decide⟩, Or.inl (tb9 (List.mem_of_getElem? (i := 147) rfl)), vbX15_saveScan⟩
set_option maxRecDepth 100000 in
set_option maxHeartbeats 4000000 in
theorem eX15_saveEach_3 {X : px_X}  : ∀ (m : Nat) (a0 : Nat) (a1 : Int32) (a2 : Int32) (a3 : Int32) (a4 : Int32) (a5 : Int32) (w : px_W) (q : px_W), fX15_saveEach_3 X  m a0 a1 a2 a3 a4 a5 w = some q → EV X mX15_saveEach 3 [(0, .ref a0), (1, .int a1), (2, .int a2), (3, .int a3), (4, .int a4), (5, .int a5)] [] w none q := by
  intro m
  induction m with
  | zero => intro a0 a1 a2 a3 a4 a5 w q h; cases h
  | succ m ih =>
    intro a0 a1 a2 a3 a4 a5 w q h
    rw [fX15_saveEach_3.eq_2] at h
    refine EV.iload 5 dX15_saveEach_3 rfl ?_
    refine EV.aload_n 0 dX15_saveEach_5 rfl rfl ?_
    obtain ⟨v4, gv4, h⟩ := px_bs h
    refine ev_gI dX15_saveEach_6 flRX15_126 gv4 ?_
    refine EV.icmp_ge 31 dX15_saveEach_9 (by decide) (fun c5 => ?_) (fun c5 => ?_)
    · rw [if_pos c5] at h
      cases h
      exact EV.ret0 dX15_saveEach_31 trivial
    · rw [if_neg c5] at h
      refine EV.aload_n 0 dX15_saveEach_12 rfl rfl ?_
      refine EV.iconst (1) dX15_saveEach_13 (by decide) ?_
      refine EV.iload 5 dX15_saveEach_14 rfl ?_
      refine EV.ishl dX15_saveEach_16 ?_
      refine EV.iload_n 1 dX15_saveEach_17 rfl rfl ?_
      refine EV.iload_n 2 dX15_saveEach_18 rfl rfl ?_
      refine EV.iload_n 3 dX15_saveEach_19 rfl rfl ?_
      refine EV.iload 4 dX15_saveEach_20 rfl ?_
      obtain ⟨o6, go6, h⟩ := px_bs h
      obtain ⟨q7, gq7, h⟩ := px_bs h
      refine EV.callV (As := [.int ((1 : Int32) <<< (a5 &&& 31)), .int a1, .int a2, .int a3, .int a4]) (rest := []) dX15_saveEach_22 kcX15_saveEach_301 (gO_ok go6) rfl rfl rfl (Nat.le_of_ble_eq_true rfl) (Nat.le_of_ble_eq_true rfl) (eX15_saveScan gq7) ?_
      refine EV.iinc 5 (a5 + 1) [(5, .int (a5 + 1)), (0, .ref a0), (1, .int a1), (2, .int a2), (3, .int a3), (4, .int a4)] dX15_saveEach_25 rfl rfl (by decide) rfl ?_
      refine EV.goto 3 dX15_saveEach_28 (by decide) ?_
      refine EV.sub [1, 2, 3, 4, 5, 0] rfl ?_
      exact ih _ _ _ _ _ _ _ _ h
set_option maxRecDepth 100000 in
set_option maxHeartbeats 4000000 in
theorem eX15_saveEach {X : px_X} {w : px_W} {a0 : Nat} {a1 : Int32} {a2 : Int32} {a3 : Int32} {a4 : Int32} {q : px_W} (h : fX15_saveEach X w a0 a1 a2 a3 a4 = some q) : EV X mX15_saveEach 0 (lv_args 0 [.ref a0, .int a1, .int a2, .int a3, .int a4]) [] w none q := by
  unfold fX15_saveEach at h
  show EV X mX15_saveEach 0 [(0, .ref a0), (1, .int a1), (2, .int a2), (3, .int a3), (4, .int a4)] [] w none q
  refine EV.iconst (0) dX15_saveEach_0 (by decide) ?_
  refine EV.istore [(5, .int 0), (0, .ref a0), (1, .int a1), (2, .int a2), (3, .int a3), (4, .int a4)] dX15_saveEach_1 (by decide) rfl ?_
  refine EV.sub [1, 2, 3, 4, 5, 0] rfl ?_
  exact eX15_saveEach_3  FU _ _ _ _ _ _ _ _ h
/-! WavePicturesModel.saveAll(III)V -/
theorem dX15_saveAll_0 : decode cX15_saveAll 0 = .ok (.iconst 0, 1) := by decide +kernel
theorem dX15_saveAll_1 : decode cX15_saveAll 1 = .ok (.istore 4, 2) := by decide +kernel
theorem dX15_saveAll_3 : decode cX15_saveAll 3 = .ok (.iconst 0, 1) := by decide +kernel
theorem dX15_saveAll_4 : decode cX15_saveAll 4 = .ok (.istore 5, 2) := by decide +kernel
theorem dX15_saveAll_6 : decode cX15_saveAll 6 = .ok (.iload 5, 2) := by decide +kernel
theorem dX15_saveAll_8 : decode cX15_saveAll 8 = .ok (.aload_n 0, 1) := by decide +kernel
theorem dX15_saveAll_9 : decode cX15_saveAll 9 = .ok (.getfield 126, 3) := by decide +kernel
theorem dX15_saveAll_12 : decode cX15_saveAll 12 = .ok (.if_icmp .ge 29, 3) := by decide +kernel
theorem dX15_saveAll_15 : decode cX15_saveAll 15 = .ok (.iload 4, 2) := by decide +kernel
theorem dX15_saveAll_17 : decode cX15_saveAll 17 = .ok (.aload_n 0, 1) := by decide +kernel
theorem dX15_saveAll_18 : decode cX15_saveAll 18 = .ok (.getfield 52, 3) := by decide +kernel
theorem dX15_saveAll_21 : decode cX15_saveAll 21 = .ok (.iload 5, 2) := by decide +kernel
theorem dX15_saveAll_23 : decode cX15_saveAll 23 = .ok (.iaload, 1) := by decide +kernel
theorem dX15_saveAll_24 : decode cX15_saveAll 24 = .ok (.aload_n 0, 1) := by decide +kernel
theorem dX15_saveAll_25 : decode cX15_saveAll 25 = .ok (.getfield 55, 3) := by decide +kernel
theorem dX15_saveAll_28 : decode cX15_saveAll 28 = .ok (.iload 5, 2) := by decide +kernel
theorem dX15_saveAll_30 : decode cX15_saveAll 30 = .ok (.iaload, 1) := by decide +kernel
theorem dX15_saveAll_31 : decode cX15_saveAll 31 = .ok (.imul, 1) := by decide +kernel
theorem dX15_saveAll_32 : decode cX15_saveAll 32 = .ok (.iadd, 1) := by decide +kernel
theorem dX15_saveAll_33 : decode cX15_saveAll 33 = .ok (.istore 4, 2) := by decide +kernel
theorem dX15_saveAll_35 : decode cX15_saveAll 35 = .ok (.iinc 5 1, 3) := by decide +kernel
theorem dX15_saveAll_38 : decode cX15_saveAll 38 = .ok (.goto (-32), 3) := by decide +kernel
theorem dX15_saveAll_41 : decode cX15_saveAll 41 = .ok (.aload_n 0, 1) := by decide +kernel
theorem dX15_saveAll_42 : decode cX15_saveAll 42 = .ok (.getfield 126, 3) := by decide +kernel
theorem dX15_saveAll_45 : decode cX15_saveAll 45 = .ok (.iconst 1, 1) := by decide +kernel
theorem dX15_saveAll_46 : decode cX15_saveAll 46 = .ok (.if_icmp .eq 10, 3) := by decide +kernel
theorem dX15_saveAll_49 : decode cX15_saveAll 49 = .ok (.iload 4, 2) := by decide +kernel
theorem dX15_saveAll_51 : decode cX15_saveAll 51 = .ok (.bipush 10, 2) := by decide +kernel
theorem dX15_saveAll_53 : decode cX15_saveAll 53 = .ok (.if_icmp .gt 22, 3) := by decide +kernel
theorem dX15_saveAll_56 : decode cX15_saveAll 56 = .ok (.aload_n 0, 1) := by decide +kernel
theorem dX15_saveAll_57 : decode cX15_saveAll 57 = .ok (.iconst 1, 1) := by decide +kernel
theorem dX15_saveAll_58 : decode cX15_saveAll 58 = .ok (.aload_n 0, 1) := by decide +kernel
theorem dX15_saveAll_59 : decode cX15_saveAll 59 = .ok (.getfield 126, 3) := by decide +kernel
theorem dX15_saveAll_62 : decode cX15_saveAll 62 = .ok (.ishl, 1) := by decide +kernel
theorem dX15_saveAll_63 : decode cX15_saveAll 63 = .ok (.iconst 1, 1) := by decide +kernel
theorem dX15_saveAll_64 : decode cX15_saveAll 64 = .ok (.isub, 1) := by decide +kernel
theorem dX15_saveAll_65 : decode cX15_saveAll 65 = .ok (.iconst 0, 1) := by decide +kernel
theorem dX15_saveAll_66 : decode cX15_saveAll 66 = .ok (.iload_n 1, 1) := by decide +kernel
theorem dX15_saveAll_67 : decode cX15_saveAll 67 = .ok (.iload_n 2, 1) := by decide +kernel
theorem dX15_saveAll_68 : decode cX15_saveAll 68 = .ok (.iload_n 3, 1) := by decide +kernel
theorem dX15_saveAll_69 : decode cX15_saveAll 69 = .ok (.invokevirtual 301, 3) := by decide +kernel
theorem dX15_saveAll_72 : decode cX15_saveAll 72 = .ok (.goto 11, 3) := by decide +kernel
theorem dX15_saveAll_75 : decode cX15_saveAll 75 = .ok (.aload_n 0, 1) := by decide +kernel
theorem dX15_saveAll_76 : decode cX15_saveAll 76 = .ok (.iconst 0, 1) := by decide +kernel
theorem dX15_saveAll_77 : decode cX15_saveAll 77 = .ok (.iload_n 1, 1) := by decide +kernel
theorem dX15_saveAll_78 : decode cX15_saveAll 78 = .ok (.iload_n 2, 1) := by decide +kernel
theorem dX15_saveAll_79 : decode cX15_saveAll 79 = .ok (.iload_n 3, 1) := by decide +kernel
theorem dX15_saveAll_80 : decode cX15_saveAll 80 = .ok (.invokevirtual 305, 3) := by decide +kernel
theorem dX15_saveAll_83 : decode cX15_saveAll 83 = .ok (.return_, 1) := by decide +kernel
theorem kcX15_saveAll_301 : px_cV mX15_saveAll 301 mX15_saveScan 5 := ⟨⟨mbX15_saveScan, by decide, by decide⟩, Or.inl (tb9 (List.mem_of_getElem? (i := 147) rfl)), vbX15_saveScan⟩
theorem mbX15_saveEach : px_mB mX15_saveEach 4 := ⟨tb10 (List.mem_of_getElem? (i := 12) rfl), by decide +kernel, tb1 (List.mem_of_getElem? (i := 13) rfl), by decide +kernel, by decide +kernel⟩
theorem vbX15_saveEach : px_vB mX15_saveEach := ⟨tb10 (List.mem_of_getElem? (i := 11) rfl), List.mem_append_left _ (List.mem_of_getElem? (i := 161) (by decide +kernel))⟩
theorem kcX15_saveAll_305 : px_cV mX15_saveAll 305 mX15_saveEach 4 := ⟨⟨mbX15_saveEach, by decide, by decide⟩, Or.inl (tb10 (List.mem_of_getElem? (i := 9) rfl)), vbX15_saveEach⟩
set_option maxRecDepth 100000 in
set_option maxHeartbeats 4000000 in
theorem eX15_saveAll_56 {X : px_X}  : ∀ (a0 : Nat) (a1 : Int32) (a2 : Int32) (a3 : Int32) (w : px_W) (q : px_W), fX15_saveAll_56 X  a0 a1 a2 a3 w = some q → EV X mX15_saveAll 56 [(0, .ref a0), (1, .int a1), (2, .int a2), (3, .int a3)] [] w none q := by
  intro a0 a1 a2 a3 w q h
  unfold fX15_saveAll_56 at h
  refine EV.aload_n 0 dX15_saveAll_56 rfl rfl ?_
  refine EV.iconst (1) dX15_saveAll_57 (by decide) ?_
  refine EV.aload_n 0 dX15_saveAll_58 rfl rfl ?_
  obtain ⟨v12, gv12, h⟩ := px_bs h
  refine ev_gI dX15_saveAll_59 flRX15_126 gv12 ?_
  refine EV.ishl dX15_saveAll_62 ?_
  refine EV.iconst (1) dX15_saveAll_63 (by decide) ?_
  refine EV.isub dX15_saveAll_64 ?_
  refine EV.iconst (0) dX15_saveAll_65 (by decide) ?_
  refine EV.iload_n 1 dX15_saveAll_66 rfl rfl ?_
  refine EV.iload_n 2 dX15_saveAll_67 rfl rfl ?_
  refine EV.iload_n 3 dX15_saveAll_68 rfl rfl ?_
  obtain ⟨o13, go13, h⟩ := px_bs h
  obtain ⟨q14, gq14, h⟩ := px_bs h
  refine EV.callV (As := [.int (((1 : Int32) <<< (v12 &&& 31)) - 1), .int 0, .int a1, .int a2, .int a3]) (rest := []) dX15_saveAll_69 kcX15_saveAll_301 (gO_ok go13) rfl rfl rfl (Nat.le_of_ble_eq_true rfl) (Nat.le_of_ble_eq_true rfl) (eX15_saveScan gq14) ?_
  refine EV.goto 83 dX15_saveAll_72 (by decide) ?_
  cases h
  exact EV.ret0 dX15_saveAll_83 trivial
set_option maxRecDepth 100000 in
set_option maxHeartbeats 4000000 in
theorem eX15_saveAll_41 {X : px_X}  : ∀ (a0 : Nat) (a1 : Int32) (a2 : Int32) (a3 : Int32) (a4 : Int32) (w : px_W) (q : px_W), fX15_saveAll_41 X  a0 a1 a2 a3 a4 w = some q → EV X mX15_saveAll 41 [(0, .ref a0), (1, .int a1), (2, .int a2), (3, .int a3), (4, .int a4)] [] w none q := by
  intro a0 a1 a2 a3 a4 w q h
  unfold fX15_saveAll_41 at h
  refine EV.aload_n 0 dX15_saveAll_41 rfl rfl ?_
  obtain ⟨v15, gv15, h⟩ := px_bs h
  refine ev_gI dX15_saveAll_42 flRX15_126 gv15 ?_
  refine EV.iconst (1) dX15_saveAll_45 (by decide) ?_
  refine EV.icmp_eq 56 dX15_saveAll_46 (by decide) (fun c16 => ?_) (fun c16 => ?_)
  · rw [if_pos c16] at h
    refine EV.sub [0, 1, 2, 3] rfl ?_
    exact eX15_saveAll_56  _ _ _ _ _ _ h
  · rw [if_neg c16] at h
    refine EV.iload 4 dX15_saveAll_49 rfl ?_
    refine EV.bipush (10) dX15_saveAll_51 (by decide) ?_
    refine EV.icmp_gt 75 dX15_saveAll_53 (by decide) (fun c17 => ?_) (fun c17 => ?_)
    · rw [if_pos c17] at h
      refine EV.aload_n 0 dX15_saveAll_75 rfl rfl ?_
      refine EV.iconst (0) dX15_saveAll_76 (by decide) ?_
      refine EV.iload_n 1 dX15_saveAll_77 rfl rfl ?_
      refine EV.iload_n 2 dX15_saveAll_78 rfl rfl ?_
      refine EV.iload_n 3 dX15_saveAll_79 rfl rfl ?_
      obtain ⟨o18, go18, h⟩ := px_bs h
      obtain ⟨q19, gq19, h⟩ := px_bs h
      refine EV.callV (As := [.int 0, .int a1, .int a2, .int a3]) (rest := []) dX15_saveAll_80 kcX15_saveAll_305 (gO_ok go18) rfl rfl rfl (Nat.le_of_ble_eq_true rfl) (Nat.le_of_ble_eq_true rfl) (eX15_saveEach gq19) ?_
      cases h
      exact EV.ret0 dX15_saveAll_83 trivial
    · rw [if_neg c17] at h
      refine EV.sub [0, 1, 2, 3] rfl ?_
      exact eX15_saveAll_56  _ _ _ _ _ _ h
set_option maxRecDepth 100000 in
set_option maxHeartbeats 4000000 in
theorem eX15_saveAll_6 {X : px_X}  : ∀ (m : Nat) (a0 : Nat) (a1 : Int32) (a2 : Int32) (a3 : Int32) (a4 : Int32) (a5 : Int32) (w : px_W) (q : px_W), fX15_saveAll_6 X  m a0 a1 a2 a3 a4 a5 w = some q → EV X mX15_saveAll 6 [(0, .ref a0), (1, .int a1), (2, .int a2), (3, .int a3), (4, .int a4), (5, .int a5)] [] w none q := by
  intro m
  induction m with
  | zero => intro a0 a1 a2 a3 a4 a5 w q h; cases h
  | succ m ih =>
    intro a0 a1 a2 a3 a4 a5 w q h
    rw [fX15_saveAll_6.eq_2] at h
    refine EV.iload 5 dX15_saveAll_6 rfl ?_
    refine EV.aload_n 0 dX15_saveAll_8 rfl rfl ?_
    obtain ⟨v20, gv20, h⟩ := px_bs h
    refine ev_gI dX15_saveAll_9 flRX15_126 gv20 ?_
    refine EV.icmp_ge 41 dX15_saveAll_12 (by decide) (fun c21 => ?_) (fun c21 => ?_)
    · rw [if_pos c21] at h
      refine EV.sub [0, 1, 2, 3, 4] rfl ?_
      exact eX15_saveAll_41  _ _ _ _ _ _ _ h
    · rw [if_neg c21] at h
      refine EV.iload 4 dX15_saveAll_15 rfl ?_
      refine EV.aload_n 0 dX15_saveAll_17 rfl rfl ?_
      obtain ⟨v22, gv22, h⟩ := px_bs h
      refine ev_gR dX15_saveAll_18 flRX15_52 gv22 ?_
      refine EV.iload 5 dX15_saveAll_21 rfl ?_
      obtain ⟨v23, gv23, h⟩ := px_bs h
      refine ev_aI dX15_saveAll_23 gv23 ?_
      refine EV.aload_n 0 dX15_saveAll_24 rfl rfl ?_
      obtain ⟨v24, gv24, h⟩ := px_bs h
      refine ev_gR dX15_saveAll_25 flRX15_55 gv24 ?_
      refine EV.iload 5 dX15_saveAll_28 rfl ?_
      obtain ⟨v25, gv25, h⟩ := px_bs h
      refine ev_aI dX15_saveAll_30 gv25 ?_
      refine EV.imul dX15_saveAll_31 ?_
      refine EV.iadd dX15_saveAll_32 ?_
      refine EV.istore [(4, .int (a4 + (v23 * v25))), (0, .ref a0), (1, .int a1), (2, .int a2), (3, .int a3), (5, .int a5)] dX15_saveAll_33 (by decide) rfl ?_
      refine EV.iinc 5 (a5 + 1) [(5, .int (a5 + 1)), (4, .int (a4 + (v23 * v25))), (0, .ref a0), (1, .int a1), (2, .int a2), (3, .int a3)] dX15_saveAll_35 rfl rfl (by decide) rfl ?_
      refine EV.goto 6 dX15_saveAll_38 (by decide) ?_
      refine EV.sub [2, 3, 4, 5, 1, 0] rfl ?_
      exact ih _ _ _ _ _ _ _ _ h
set_option maxRecDepth 100000 in
set_option maxHeartbeats 4000000 in
theorem eX15_saveAll {X : px_X} {w : px_W} {a0 : Nat} {a1 : Int32} {a2 : Int32} {a3 : Int32} {q : px_W} (h : fX15_saveAll X w a0 a1 a2 a3 = some q) : EV X mX15_saveAll 0 (lv_args 0 [.ref a0, .int a1, .int a2, .int a3]) [] w none q := by
  unfold fX15_saveAll at h
  show EV X mX15_saveAll 0 [(0, .ref a0), (1, .int a1), (2, .int a2), (3, .int a3)] [] w none q
  refine EV.iconst (0) dX15_saveAll_0 (by decide) ?_
  refine EV.istore [(4, .int 0), (0, .ref a0), (1, .int a1), (2, .int a2), (3, .int a3)] dX15_saveAll_1 (by decide) rfl ?_
  refine EV.iconst (0) dX15_saveAll_3 (by decide) ?_
  refine EV.istore [(5, .int 0), (4, .int 0), (0, .ref a0), (1, .int a1), (2, .int a2), (3, .int a3)] dX15_saveAll_4 (by decide) rfl ?_
  refine EV.sub [2, 3, 4, 5, 1, 0] rfl ?_
  exact eX15_saveAll_6  FU _ _ _ _ _ _ _ _ h
