/-! WavePictures$Waves.back(LWavePictures$Picture;IIIILWavePictures$Plane;)V -/
theorem dX9_back_0 : decode cX9_back 0 = .ok (.aload_n 1, 1) := by decide +kernel
theorem dX9_back_1 : decode cX9_back 1 = .ok (.iload_n 2, 1) := by decide +kernel
theorem dX9_back_2 : decode cX9_back 2 = .ok (.iload_n 3, 1) := by decide +kernel
theorem dX9_back_3 : decode cX9_back 3 = .ok (.iload 4, 2) := by decide +kernel
theorem dX9_back_5 : decode cX9_back 5 = .ok (.invokevirtual 29, 3) := by decide +kernel
theorem dX9_back_8 : decode cX9_back 8 = .ok (.istore 7, 2) := by decide +kernel
theorem dX9_back_10 : decode cX9_back 10 = .ok (.iload 5, 2) := by decide +kernel
theorem dX9_back_12 : decode cX9_back 12 = .ok (.bipush 8, 2) := by decide +kernel
theorem dX9_back_14 : decode cX9_back 14 = .ok (.if_icmp .ne 7, 3) := by decide +kernel
theorem dX9_back_17 : decode cX9_back 17 = .ok (.iconst 3, 1) := by decide +kernel
theorem dX9_back_18 : decode cX9_back 18 = .ok (.goto 7, 3) := by decide +kernel
theorem dX9_back_21 : decode cX9_back 21 = .ok (.iload 5, 2) := by decide +kernel
theorem dX9_back_23 : decode cX9_back 23 = .ok (.iconst 2, 1) := by decide +kernel
theorem dX9_back_24 : decode cX9_back 24 = .ok (.idiv, 1) := by decide +kernel
theorem dX9_back_25 : decode cX9_back 25 = .ok (.istore 8, 2) := by decide +kernel
theorem dX9_back_27 : decode cX9_back 27 = .ok (.iload 7, 2) := by decide +kernel
theorem dX9_back_29 : decode cX9_back 29 = .ok (.iconst (-1), 1) := by decide +kernel
theorem dX9_back_30 : decode cX9_back 30 = .ok (.if_icmp .eq 26, 3) := by decide +kernel
theorem dX9_back_33 : decode cX9_back 33 = .ok (.iload_n 3, 1) := by decide +kernel
theorem dX9_back_34 : decode cX9_back 34 = .ok (.iconst 1, 1) := by decide +kernel
theorem dX9_back_35 : decode cX9_back 35 = .ok (.iadd, 1) := by decide +kernel
theorem dX9_back_36 : decode cX9_back 36 = .ok (.iload 5, 2) := by decide +kernel
theorem dX9_back_38 : decode cX9_back 38 = .ok (.imul, 1) := by decide +kernel
theorem dX9_back_39 : decode cX9_back 39 = .ok (.bipush 32, 2) := by decide +kernel
theorem dX9_back_41 : decode cX9_back 41 = .ok (.if_icmp .gt 15, 3) := by decide +kernel
theorem dX9_back_44 : decode cX9_back 44 = .ok (.iload 4, 2) := by decide +kernel
theorem dX9_back_46 : decode cX9_back 46 = .ok (.iconst 1, 1) := by decide +kernel
theorem dX9_back_47 : decode cX9_back 47 = .ok (.iadd, 1) := by decide +kernel
theorem dX9_back_48 : decode cX9_back 48 = .ok (.iload 5, 2) := by decide +kernel
theorem dX9_back_50 : decode cX9_back 50 = .ok (.imul, 1) := by decide +kernel
theorem dX9_back_51 : decode cX9_back 51 = .ok (.bipush 32, 2) := by decide +kernel
theorem dX9_back_53 : decode cX9_back 53 = .ok (.if_icmp .le 4, 3) := by decide +kernel
theorem dX9_back_56 : decode cX9_back 56 = .ok (.return_, 1) := by decide +kernel
theorem dX9_back_57 : decode cX9_back 57 = .ok (.iconst 0, 1) := by decide +kernel
theorem dX9_back_58 : decode cX9_back 58 = .ok (.istore 9, 2) := by decide +kernel
theorem dX9_back_60 : decode cX9_back 60 = .ok (.iload 9, 2) := by decide +kernel
theorem dX9_back_62 : decode cX9_back 62 = .ok (.bipush 64, 2) := by decide +kernel
theorem dX9_back_64 : decode cX9_back 64 = .ok (.if_icmp .ge 48, 3) := by decide +kernel
theorem dX9_back_67 : decode cX9_back 67 = .ok (.aload_n 0, 1) := by decide +kernel
theorem dX9_back_68 : decode cX9_back 68 = .ok (.getfield 15, 3) := by decide +kernel
theorem dX9_back_71 : decode cX9_back 71 = .ok (.getstatic 35, 3) := by decide +kernel
theorem dX9_back_74 : decode cX9_back 74 = .ok (.iload 9, 2) := by decide +kernel
theorem dX9_back_76 : decode cX9_back 76 = .ok (.iaload, 1) := by decide +kernel
theorem dX9_back_77 : decode cX9_back 77 = .ok (.aload_n 1, 1) := by decide +kernel
theorem dX9_back_78 : decode cX9_back 78 = .ok (.getfield 38, 3) := by decide +kernel
theorem dX9_back_81 : decode cX9_back 81 = .ok (.bipush 64, 2) := by decide +kernel
theorem dX9_back_83 : decode cX9_back 83 = .ok (.iload 7, 2) := by decide +kernel
theorem dX9_back_85 : decode cX9_back 85 = .ok (.imul, 1) := by decide +kernel
theorem dX9_back_86 : decode cX9_back 86 = .ok (.iload 9, 2) := by decide +kernel
theorem dX9_back_88 : decode cX9_back 88 = .ok (.iadd, 1) := by decide +kernel
theorem dX9_back_89 : decode cX9_back 89 = .ok (.iaload, 1) := by decide +kernel
theorem dX9_back_90 : decode cX9_back 90 = .ok (.i2l, 1) := by decide +kernel
theorem dX9_back_91 : decode cX9_back 91 = .ok (.aload_n 1, 1) := by decide +kernel
theorem dX9_back_92 : decode cX9_back 92 = .ok (.getfield 41, 3) := by decide +kernel
theorem dX9_back_95 : decode cX9_back 95 = .ok (.bipush 64, 2) := by decide +kernel
theorem dX9_back_97 : decode cX9_back 97 = .ok (.iload_n 2, 1) := by decide +kernel
theorem dX9_back_98 : decode cX9_back 98 = .ok (.imul, 1) := by decide +kernel
theorem dX9_back_99 : decode cX9_back 99 = .ok (.iload 9, 2) := by decide +kernel
theorem dX9_back_101 : decode cX9_back 101 = .ok (.iadd, 1) := by decide +kernel
theorem dX9_back_102 : decode cX9_back 102 = .ok (.iaload, 1) := by decide +kernel
theorem dX9_back_103 : decode cX9_back 103 = .ok (.i2l, 1) := by decide +kernel
theorem dX9_back_104 : decode cX9_back 104 = .ok (.lmul, 1) := by decide +kernel
theorem dX9_back_105 : decode cX9_back 105 = .ok (.lastore, 1) := by decide +kernel
theorem dX9_back_106 : decode cX9_back 106 = .ok (.iinc 9 1, 3) := by decide +kernel
theorem dX9_back_109 : decode cX9_back 109 = .ok (.goto (-49), 3) := by decide +kernel
theorem dX9_back_112 : decode cX9_back 112 = .ok (.iconst 0, 1) := by decide +kernel
theorem dX9_back_113 : decode cX9_back 113 = .ok (.istore 9, 2) := by decide +kernel
theorem dX9_back_115 : decode cX9_back 115 = .ok (.iload 9, 2) := by decide +kernel
theorem dX9_back_117 : decode cX9_back 117 = .ok (.iload 5, 2) := by decide +kernel
theorem dX9_back_119 : decode cX9_back 119 = .ok (.if_icmp .ge 103, 3) := by decide +kernel
theorem dX9_back_122 : decode cX9_back 122 = .ok (.iconst 0, 1) := by decide +kernel
theorem dX9_back_123 : decode cX9_back 123 = .ok (.istore 10, 2) := by decide +kernel
theorem dX9_back_125 : decode cX9_back 125 = .ok (.iload 10, 2) := by decide +kernel
theorem dX9_back_127 : decode cX9_back 127 = .ok (.iload 5, 2) := by decide +kernel
theorem dX9_back_129 : decode cX9_back 129 = .ok (.if_icmp .ge 87, 3) := by decide +kernel
theorem dX9_back_132 : decode cX9_back 132 = .ok (.lconst 0, 1) := by decide +kernel
theorem dX9_back_133 : decode cX9_back 133 = .ok (.lstore 11, 2) := by decide +kernel
theorem dX9_back_135 : decode cX9_back 135 = .ok (.iconst 0, 1) := by decide +kernel
theorem dX9_back_136 : decode cX9_back 136 = .ok (.istore 13, 2) := by decide +kernel
theorem dX9_back_138 : decode cX9_back 138 = .ok (.iload 13, 2) := by decide +kernel
theorem dX9_back_140 : decode cX9_back 140 = .ok (.iload 5, 2) := by decide +kernel
theorem dX9_back_142 : decode cX9_back 142 = .ok (.if_icmp .ge 48, 3) := by decide +kernel
theorem dX9_back_145 : decode cX9_back 145 = .ok (.lload 11, 2) := by decide +kernel
theorem dX9_back_147 : decode cX9_back 147 = .ok (.aload_n 0, 1) := by decide +kernel
theorem dX9_back_148 : decode cX9_back 148 = .ok (.getfield 9, 3) := by decide +kernel
theorem dX9_back_151 : decode cX9_back 151 = .ok (.bipush 64, 2) := by decide +kernel
theorem dX9_back_153 : decode cX9_back 153 = .ok (.iload 8, 2) := by decide +kernel
theorem dX9_back_155 : decode cX9_back 155 = .ok (.imul, 1) := by decide +kernel
theorem dX9_back_156 : decode cX9_back 156 = .ok (.bipush 8, 2) := by decide +kernel
theorem dX9_back_158 : decode cX9_back 158 = .ok (.iload 13, 2) := by decide +kernel
theorem dX9_back_160 : decode cX9_back 160 = .ok (.imul, 1) := by decide +kernel
theorem dX9_back_161 : decode cX9_back 161 = .ok (.iadd, 1) := by decide +kernel
theorem dX9_back_162 : decode cX9_back 162 = .ok (.iload 9, 2) := by decide +kernel
theorem dX9_back_164 : decode cX9_back 164 = .ok (.iadd, 1) := by decide +kernel
theorem dX9_back_165 : decode cX9_back 165 = .ok (.iaload, 1) := by decide +kernel
theorem dX9_back_166 : decode cX9_back 166 = .ok (.i2l, 1) := by decide +kernel
theorem dX9_back_167 : decode cX9_back 167 = .ok (.aload_n 0, 1) := by decide +kernel
theorem dX9_back_168 : decode cX9_back 168 = .ok (.getfield 15, 3) := by decide +kernel
theorem dX9_back_171 : decode cX9_back 171 = .ok (.bipush 8, 2) := by decide +kernel
theorem dX9_back_173 : decode cX9_back 173 = .ok (.iload 13, 2) := by decide +kernel
theorem dX9_back_175 : decode cX9_back 175 = .ok (.imul, 1) := by decide +kernel
theorem dX9_back_176 : decode cX9_back 176 = .ok (.iload 10, 2) := by decide +kernel
theorem dX9_back_178 : decode cX9_back 178 = .ok (.iadd, 1) := by decide +kernel
theorem dX9_back_179 : decode cX9_back 179 = .ok (.laload, 1) := by decide +kernel
theorem dX9_back_180 : decode cX9_back 180 = .ok (.lmul, 1) := by decide +kernel
theorem dX9_back_181 : decode cX9_back 181 = .ok (.ladd, 1) := by decide +kernel
theorem dX9_back_182 : decode cX9_back 182 = .ok (.lstore 11, 2) := by decide +kernel
theorem dX9_back_184 : decode cX9_back 184 = .ok (.iinc 13 1, 3) := by decide +kernel
theorem dX9_back_187 : decode cX9_back 187 = .ok (.goto (-49), 3) := by decide +kernel
theorem dX9_back_190 : decode cX9_back 190 = .ok (.aload_n 0, 1) := by decide +kernel
theorem dX9_back_191 : decode cX9_back 191 = .ok (.getfield 19, 3) := by decide +kernel
theorem dX9_back_194 : decode cX9_back 194 = .ok (.bipush 8, 2) := by decide +kernel
theorem dX9_back_196 : decode cX9_back 196 = .ok (.iload 9, 2) := by decide +kernel
theorem dX9_back_198 : decode cX9_back 198 = .ok (.imul, 1) := by decide +kernel
theorem dX9_back_199 : decode cX9_back 199 = .ok (.iload 10, 2) := by decide +kernel
theorem dX9_back_201 : decode cX9_back 201 = .ok (.iadd, 1) := by decide +kernel
theorem dX9_back_202 : decode cX9_back 202 = .ok (.lload 11, 2) := by decide +kernel
theorem dX9_back_204 : decode cX9_back 204 = .ok (.bipush 11, 2) := by decide +kernel
theorem dX9_back_206 : decode cX9_back 206 = .ok (.invokestatic 44, 3) := by decide +kernel
theorem dX9_back_209 : decode cX9_back 209 = .ok (.lastore, 1) := by decide +kernel
theorem dX9_back_210 : decode cX9_back 210 = .ok (.iinc 10 1, 3) := by decide +kernel
theorem dX9_back_213 : decode cX9_back 213 = .ok (.goto (-88), 3) := by decide +kernel
theorem dX9_back_216 : decode cX9_back 216 = .ok (.iinc 9 1, 3) := by decide +kernel
theorem dX9_back_219 : decode cX9_back 219 = .ok (.goto (-104), 3) := by decide +kernel
theorem dX9_back_222 : decode cX9_back 222 = .ok (.iconst 0, 1) := by decide +kernel
theorem dX9_back_223 : decode cX9_back 223 = .ok (.istore 9, 2) := by decide +kernel
theorem dX9_back_225 : decode cX9_back 225 = .ok (.iload 9, 2) := by decide +kernel
theorem dX9_back_227 : decode cX9_back 227 = .ok (.iload 5, 2) := by decide +kernel
theorem dX9_back_229 : decode cX9_back 229 = .ok (.if_icmp .ge 134, 3) := by decide +kernel
theorem dX9_back_232 : decode cX9_back 232 = .ok (.iconst 0, 1) := by decide +kernel
theorem dX9_back_233 : decode cX9_back 233 = .ok (.istore 10, 2) := by decide +kernel
theorem dX9_back_235 : decode cX9_back 235 = .ok (.iload 10, 2) := by decide +kernel
theorem dX9_back_237 : decode cX9_back 237 = .ok (.iload 5, 2) := by decide +kernel
theorem dX9_back_239 : decode cX9_back 239 = .ok (.if_icmp .ge 118, 3) := by decide +kernel
theorem dX9_back_242 : decode cX9_back 242 = .ok (.lconst 0, 1) := by decide +kernel
theorem dX9_back_243 : decode cX9_back 243 = .ok (.lstore 11, 2) := by decide +kernel
theorem dX9_back_245 : decode cX9_back 245 = .ok (.iconst 0, 1) := by decide +kernel
theorem dX9_back_246 : decode cX9_back 246 = .ok (.istore 13, 2) := by decide +kernel
theorem dX9_back_248 : decode cX9_back 248 = .ok (.iload 13, 2) := by decide +kernel
theorem dX9_back_250 : decode cX9_back 250 = .ok (.iload 5, 2) := by decide +kernel
theorem dX9_back_252 : decode cX9_back 252 = .ok (.if_icmp .ge 48, 3) := by decide +kernel
theorem dX9_back_255 : decode cX9_back 255 = .ok (.lload 11, 2) := by decide +kernel
theorem dX9_back_257 : decode cX9_back 257 = .ok (.aload_n 0, 1) := by decide +kernel
theorem dX9_back_258 : decode cX9_back 258 = .ok (.getfield 9, 3) := by decide +kernel
theorem dX9_back_261 : decode cX9_back 261 = .ok (.bipush 64, 2) := by decide +kernel
theorem dX9_back_263 : decode cX9_back 263 = .ok (.iload 8, 2) := by decide +kernel
theorem dX9_back_265 : decode cX9_back 265 = .ok (.imul, 1) := by decide +kernel
theorem dX9_back_266 : decode cX9_back 266 = .ok (.bipush 8, 2) := by decide +kernel
theorem dX9_back_268 : decode cX9_back 268 = .ok (.iload 13, 2) := by decide +kernel
theorem dX9_back_270 : decode cX9_back 270 = .ok (.imul, 1) := by decide +kernel
theorem dX9_back_271 : decode cX9_back 271 = .ok (.iadd, 1) := by decide +kernel
theorem dX9_back_272 : decode cX9_back 272 = .ok (.iload 10, 2) := by decide +kernel
theorem dX9_back_274 : decode cX9_back 274 = .ok (.iadd, 1) := by decide +kernel
theorem dX9_back_275 : decode cX9_back 275 = .ok (.iaload, 1) := by decide +kernel
theorem dX9_back_276 : decode cX9_back 276 = .ok (.i2l, 1) := by decide +kernel
theorem dX9_back_277 : decode cX9_back 277 = .ok (.aload_n 0, 1) := by decide +kernel
theorem dX9_back_278 : decode cX9_back 278 = .ok (.getfield 19, 3) := by decide +kernel
theorem dX9_back_281 : decode cX9_back 281 = .ok (.bipush 8, 2) := by decide +kernel
theorem dX9_back_283 : decode cX9_back 283 = .ok (.iload 9, 2) := by decide +kernel
theorem dX9_back_285 : decode cX9_back 285 = .ok (.imul, 1) := by decide +kernel
theorem dX9_back_286 : decode cX9_back 286 = .ok (.iload 13, 2) := by decide +kernel
theorem dX9_back_288 : decode cX9_back 288 = .ok (.iadd, 1) := by decide +kernel
theorem dX9_back_289 : decode cX9_back 289 = .ok (.laload, 1) := by decide +kernel
theorem dX9_back_290 : decode cX9_back 290 = .ok (.lmul, 1) := by decide +kernel
theorem dX9_back_291 : decode cX9_back 291 = .ok (.ladd, 1) := by decide +kernel
theorem dX9_back_292 : decode cX9_back 292 = .ok (.lstore 11, 2) := by decide +kernel
theorem dX9_back_294 : decode cX9_back 294 = .ok (.iinc 13 1, 3) := by decide +kernel
theorem dX9_back_297 : decode cX9_back 297 = .ok (.goto (-49), 3) := by decide +kernel
theorem dX9_back_300 : decode cX9_back 300 = .ok (.lconst 0, 1) := by decide +kernel
theorem dX9_back_301 : decode cX9_back 301 = .ok (.ldc2_w 48, 3) := by decide +kernel
theorem dX9_back_304 : decode cX9_back 304 = .ok (.lload 11, 2) := by decide +kernel
theorem dX9_back_306 : decode cX9_back 306 = .ok (.bipush 17, 2) := by decide +kernel
theorem dX9_back_308 : decode cX9_back 308 = .ok (.invokestatic 44, 3) := by decide +kernel
theorem dX9_back_311 : decode cX9_back 311 = .ok (.ldc2_w 50, 3) := by decide +kernel
theorem dX9_back_314 : decode cX9_back 314 = .ok (.ladd, 1) := by decide +kernel
theorem dX9_back_315 : decode cX9_back 315 = .ok (.invokestatic 52, 3) := by decide +kernel
theorem dX9_back_318 : decode cX9_back 318 = .ok (.invokestatic 58, 3) := by decide +kernel
theorem dX9_back_321 : decode cX9_back 321 = .ok (.lstore 13, 2) := by decide +kernel
theorem dX9_back_323 : decode cX9_back 323 = .ok (.aload 6, 2) := by decide +kernel
theorem dX9_back_325 : decode cX9_back 325 = .ok (.getfield 61, 3) := by decide +kernel
theorem dX9_back_328 : decode cX9_back 328 = .ok (.bipush 32, 2) := by decide +kernel
theorem dX9_back_330 : decode cX9_back 330 = .ok (.iload 4, 2) := by decide +kernel
theorem dX9_back_332 : decode cX9_back 332 = .ok (.iload 5, 2) := by decide +kernel
theorem dX9_back_334 : decode cX9_back 334 = .ok (.imul, 1) := by decide +kernel
theorem dX9_back_335 : decode cX9_back 335 = .ok (.iload 9, 2) := by decide +kernel
theorem dX9_back_337 : decode cX9_back 337 = .ok (.iadd, 1) := by decide +kernel
theorem dX9_back_338 : decode cX9_back 338 = .ok (.imul, 1) := by decide +kernel
theorem dX9_back_339 : decode cX9_back 339 = .ok (.iload_n 3, 1) := by decide +kernel
theorem dX9_back_340 : decode cX9_back 340 = .ok (.iload 5, 2) := by decide +kernel
theorem dX9_back_342 : decode cX9_back 342 = .ok (.imul, 1) := by decide +kernel
theorem dX9_back_343 : decode cX9_back 343 = .ok (.iadd, 1) := by decide +kernel
theorem dX9_back_344 : decode cX9_back 344 = .ok (.iload 10, 2) := by decide +kernel
theorem dX9_back_346 : decode cX9_back 346 = .ok (.iadd, 1) := by decide +kernel
theorem dX9_back_347 : decode cX9_back 347 = .ok (.lload 13, 2) := by decide +kernel
theorem dX9_back_349 : decode cX9_back 349 = .ok (.l2i, 1) := by decide +kernel
theorem dX9_back_350 : decode cX9_back 350 = .ok (.iastore, 1) := by decide +kernel
theorem dX9_back_351 : decode cX9_back 351 = .ok (.iinc 10 1, 3) := by decide +kernel
theorem dX9_back_354 : decode cX9_back 354 = .ok (.goto (-119), 3) := by decide +kernel
theorem dX9_back_357 : decode cX9_back 357 = .ok (.iinc 9 1, 3) := by decide +kernel
theorem dX9_back_360 : decode cX9_back 360 = .ok (.goto (-135), 3) := by decide +kernel
theorem dX9_back_363 : decode cX9_back 363 = .ok (.return_, 1) := by decide +kernel
theorem flRX9_15 : px_f RX9 15 9 1 := ⟨_, rfl, by decide, Or.inl (tb1 (List.mem_of_getElem? (i := 162) rfl))⟩
theorem flRX9_19 : px_f RX9 19 9 2 := ⟨_, rfl, by decide, Or.inl (tb1 (List.mem_of_getElem? (i := 163) rfl))⟩
theorem flRX9_38 : px_f RX9 38 2 11 := ⟨_, rfl, by decide, Or.inl (tb1 (List.mem_of_getElem? (i := 92) rfl))⟩
theorem flRX9_41 : px_f RX9 41 2 12 := ⟨_, rfl, by decide, Or.inl (tb1 (List.mem_of_getElem? (i := 97) rfl))⟩
theorem flRX9_61 : px_f RX9 61 3 2 := ⟨_, rfl, by decide, Or.inl (tb1 (List.mem_of_getElem? (i := 141) rfl))⟩
theorem kcX9_back_29 : px_cV mX9_back 29 mX2_block 3 := ⟨⟨mbX2_block, by decide, by decide⟩, Or.inl (tb5 (List.mem_of_getElem? (i := 142) rfl)), vbX2_block⟩
theorem mbX9_round : px_mB mX9_round 2 := ⟨tb5 (List.mem_of_getElem? (i := 149) rfl), by decide +kernel, tb1 (List.mem_of_getElem? (i := 5) rfl), by decide +kernel, by decide +kernel⟩
theorem kcX9_back_44 : px_cS mX9_back 44 mX9_round 2 := ⟨⟨mbX9_round, by decide, by decide⟩, Or.inl (tb5 (List.mem_of_getElem? (i := 147) rfl)), tb5 (List.mem_of_getElem? (i := 148) rfl)⟩
set_option maxRecDepth 100000 in
set_option maxHeartbeats 4000000 in
theorem eX9_back_216 {X : px_X} {k115 : Nat → Int32 → Int32 → Int32 → Nat → Int32 → Int32 → px_W → Option (px_W)} (hk115 : ∀ (a0 : Nat) (a3 : Int32) (a4 : Int32) (a5 : Int32) (a6 : Nat) (a8 : Int32) (a9 : Int32) (w : px_W) (q : px_W), k115 a0 a3 a4 a5 a6 a8 a9 w = some q → EV X mX9_back 115 [(0, .ref a0), (3, .int a3), (4, .int a4), (5, .int a5), (6, .ref a6), (8, .int a8), (9, .int a9)] [] w none q) : ∀ (a0 : Nat) (a3 : Int32) (a4 : Int32) (a5 : Int32) (a6 : Nat) (a8 : Int32) (a9 : Int32) (w : px_W) (q : px_W), fX9_back_216 X k115 a0 a3 a4 a5 a6 a8 a9 w = some q → EV X mX9_back 216 [(0, .ref a0), (3, .int a3), (4, .int a4), (5, .int a5), (6, .ref a6), (8, .int a8), (9, .int a9)] [] w none q := by
  intro a0 a3 a4 a5 a6 a8 a9 w q h
  unfold fX9_back_216 at h
  refine EV.iinc 6 (a9 + 1) [(9, .int (a9 + 1)), (0, .ref a0), (3, .int a3), (4, .int a4), (5, .int a5), (6, .ref a6), (8, .int a8)] dX9_back_216 rfl rfl (by decide) rfl ?_
  refine EV.goto 115 dX9_back_219 (by decide) ?_
  refine EV.sub [1, 2, 3, 4, 5, 6, 0] rfl ?_
  exact hk115 _ _ _ _ _ _ _ _ _ h
set_option maxRecDepth 100000 in
set_option maxHeartbeats 4000000 in
theorem eX9_back_190 {X : px_X} {k115 : Nat → Int32 → Int32 → Int32 → Nat → Int32 → Int32 → px_W → Option (px_W)} (hk115 : ∀ (a0 : Nat) (a3 : Int32) (a4 : Int32) (a5 : Int32) (a6 : Nat) (a8 : Int32) (a9 : Int32) (w : px_W) (q : px_W), k115 a0 a3 a4 a5 a6 a8 a9 w = some q → EV X mX9_back 115 [(0, .ref a0), (3, .int a3), (4, .int a4), (5, .int a5), (6, .ref a6), (8, .int a8), (9, .int a9)] [] w none q) {k125 : Nat → Int32 → Int32 → Int32 → Nat → Int32 → Int32 → Int32 → px_W → Option (px_W)} (hk125 : ∀ (a0 : Nat) (a3 : Int32) (a4 : Int32) (a5 : Int32) (a6 : Nat) (a8 : Int32) (a9 : Int32) (a10 : Int32) (w : px_W) (q : px_W), k125 a0 a3 a4 a5 a6 a8 a9 a10 w = some q → EV X mX9_back 125 [(0, .ref a0), (3, .int a3), (4, .int a4), (5, .int a5), (6, .ref a6), (8, .int a8), (9, .int a9), (10, .int a10)] [] w none q) : ∀ (a0 : Nat) (a3 : Int32) (a4 : Int32) (a5 : Int32) (a6 : Nat) (a8 : Int32) (a9 : Int32) (a10 : Int32) (a11 : Int64) (w : px_W) (q : px_W), fX9_back_190 X k115 k125 a0 a3 a4 a5 a6 a8 a9 a10 a11 w = some q → EV X mX9_back 190 [(0, .ref a0), (3, .int a3), (4, .int a4), (5, .int a5), (6, .ref a6), (8, .int a8), (9, .int a9), (10, .int a10), (11, .long a11)] [] w none q := by
  intro a0 a3 a4 a5 a6 a8 a9 a10 a11 w q h
  unfold fX9_back_190 at h
  refine EV.aload_n 0 dX9_back_190 rfl rfl ?_
  obtain ⟨v25, gv25, h⟩ := px_bs h
  refine ev_gR dX9_back_191 flRX9_19 gv25 ?_
  refine EV.bipush (8) dX9_back_194 (by decide) ?_
  refine EV.iload 6 dX9_back_196 rfl ?_
  refine EV.imul dX9_back_198 ?_
  refine EV.iload 7 dX9_back_199 rfl ?_
  refine EV.iadd dX9_back_201 ?_
  refine EV.lload 8 dX9_back_202 rfl ?_
  refine EV.bipush (11) dX9_back_204 (by decide) ?_
  obtain ⟨q26, gq26, h⟩ := px_bs h
  refine EV.callS (As := [.long a11, .int 11]) (rest := [.int ((8 * a9) + a10), .ref v25]) dX9_back_206 kcX9_back_44 rfl (Nat.le_of_ble_eq_true rfl) (Nat.le_of_ble_eq_true rfl) (eX9_round gq26) ?_
  obtain ⟨w27, gw27, h⟩ := px_bs h
  refine ev_sJ dX9_back_209 gw27 ?_
  refine EV.iinc 7 (a10 + 1) [(10, .int (a10 + 1)), (0, .ref a0), (3, .int a3), (4, .int a4), (5, .int a5), (6, .ref a6), (8, .int a8), (9, .int a9), (11, .long a11)] dX9_back_210 rfl rfl (by decide) rfl ?_
  refine EV.goto 125 dX9_back_213 (by decide) ?_
  refine EV.sub [1, 2, 3, 4, 5, 6, 7, 0] rfl ?_
  exact hk125 _ _ _ _ _ _ _ _ _ _ h
set_option maxRecDepth 100000 in
set_option maxHeartbeats 4000000 in
theorem eX9_back_138 {X : px_X} {k115 : Nat → Int32 → Int32 → Int32 → Nat → Int32 → Int32 → px_W → Option (px_W)} (hk115 : ∀ (a0 : Nat) (a3 : Int32) (a4 : Int32) (a5 : Int32) (a6 : Nat) (a8 : Int32) (a9 : Int32) (w : px_W) (q : px_W), k115 a0 a3 a4 a5 a6 a8 a9 w = some q → EV X mX9_back 115 [(0, .ref a0), (3, .int a3), (4, .int a4), (5, .int a5), (6, .ref a6), (8, .int a8), (9, .int a9)] [] w none q) {k125 : Nat → Int32 → Int32 → Int32 → Nat → Int32 → Int32 → Int32 → px_W → Option (px_W)} (hk125 : ∀ (a0 : Nat) (a3 : Int32) (a4 : Int32) (a5 : Int32) (a6 : Nat) (a8 : Int32) (a9 : Int32) (a10 : Int32) (w : px_W) (q : px_W), k125 a0 a3 a4 a5 a6 a8 a9 a10 w = some q → EV X mX9_back 125 [(0, .ref a0), (3, .int a3), (4, .int a4), (5, .int a5), (6, .ref a6), (8, .int a8), (9, .int a9), (10, .int a10)] [] w none q) : ∀ (m : Nat) (a0 : Nat) (a3 : Int32) (a4 : Int32) (a5 : Int32) (a6 : Nat) (a8 : Int32) (a9 : Int32) (a10 : Int32) (a11 : Int64) (a13 : Int32) (w : px_W) (q : px_W), fX9_back_138 X k115 k125 m a0 a3 a4 a5 a6 a8 a9 a10 a11 a13 w = some q → EV X mX9_back 138 [(0, .ref a0), (3, .int a3), (4, .int a4), (5, .int a5), (6, .ref a6), (8, .int a8), (9, .int a9), (10, .int a10), (11, .long a11), (13, .int a13)] [] w none q := by
  intro m
  induction m with
  | zero => intro a0 a3 a4 a5 a6 a8 a9 a10 a11 a13 w q h; cases h
  | succ m ih =>
    intro a0 a3 a4 a5 a6 a8 a9 a10 a11 a13 w q h
    rw [fX9_back_138.eq_2] at h
    refine EV.iload 9 dX9_back_138 rfl ?_
    refine EV.iload 3 dX9_back_140 rfl ?_
    refine EV.icmp_ge 190 dX9_back_142 (by decide) (fun c28 => ?_) (fun c28 => ?_)
    · rw [if_pos c28] at h
      refine EV.sub [0, 1, 2, 3, 4, 5, 6, 7, 8] rfl ?_
      exact eX9_back_190 hk115 hk125 _ _ _ _ _ _ _ _ _ _ _ h
    · rw [if_neg c28] at h
      refine EV.lload 8 dX9_back_145 rfl ?_
      refine EV.aload_n 0 dX9_back_147 rfl rfl ?_
      obtain ⟨v29, gv29, h⟩ := px_bs h
      refine ev_gR dX9_back_148 flRX9_9 gv29 ?_
      refine EV.bipush (64) dX9_back_151 (by decide) ?_
      refine EV.iload 5 dX9_back_153 rfl ?_
      refine EV.imul dX9_back_155 ?_
      refine EV.bipush (8) dX9_back_156 (by decide) ?_
      refine EV.iload 9 dX9_back_158 rfl ?_
      refine EV.imul dX9_back_160 ?_
      refine EV.iadd dX9_back_161 ?_
      refine EV.iload 6 dX9_back_162 rfl ?_
      refine EV.iadd dX9_back_164 ?_
      obtain ⟨v30, gv30, h⟩ := px_bs h
      refine ev_aI dX9_back_165 gv30 ?_
      refine EV.i2l dX9_back_166 ?_
      refine EV.aload_n 0 dX9_back_167 rfl rfl ?_
      obtain ⟨v31, gv31, h⟩ := px_bs h
      refine ev_gR dX9_back_168 flRX9_15 gv31 ?_
      refine EV.bipush (8) dX9_back_171 (by decide) ?_
      refine EV.iload 9 dX9_back_173 rfl ?_
      refine EV.imul dX9_back_175 ?_
      refine EV.iload 7 dX9_back_176 rfl ?_
      refine EV.iadd dX9_back_178 ?_
      obtain ⟨v32, gv32, h⟩ := px_bs h
      refine ev_aJ dX9_back_179 gv32 ?_
      refine EV.lmul dX9_back_180 ?_
      refine EV.ladd dX9_back_181 ?_
      refine EV.lstore [(11, .long (a11 + (v30.toInt64 * v32))), (0, .ref a0), (3, .int a3), (4, .int a4), (5, .int a5), (6, .ref a6), (8, .int a8), (9, .int a9), (10, .int a10), (13, .int a13)] dX9_back_182 (by decide) rfl ?_
      refine EV.iinc 9 (a13 + 1) [(13, .int (a13 + 1)), (11, .long (a11 + (v30.toInt64 * v32))), (0, .ref a0), (3, .int a3), (4, .int a4), (5, .int a5), (6, .ref a6), (8, .int a8), (9, .int a9), (10, .int a10)] dX9_back_184 rfl rfl (by decide) rfl ?_
      refine EV.goto 138 dX9_back_187 (by decide) ?_
      refine EV.sub [2, 3, 4, 5, 6, 7, 8, 9, 1, 0] rfl ?_
      exact ih _ _ _ _ _ _ _ _ _ _ _ _ h
set_option maxRecDepth 100000 in
set_option maxHeartbeats 4000000 in
theorem eX9_back_125 {X : px_X} {k115 : Nat → Int32 → Int32 → Int32 → Nat → Int32 → Int32 → px_W → Option (px_W)} (hk115 : ∀ (a0 : Nat) (a3 : Int32) (a4 : Int32) (a5 : Int32) (a6 : Nat) (a8 : Int32) (a9 : Int32) (w : px_W) (q : px_W), k115 a0 a3 a4 a5 a6 a8 a9 w = some q → EV X mX9_back 115 [(0, .ref a0), (3, .int a3), (4, .int a4), (5, .int a5), (6, .ref a6), (8, .int a8), (9, .int a9)] [] w none q) : ∀ (m : Nat) (a0 : Nat) (a3 : Int32) (a4 : Int32) (a5 : Int32) (a6 : Nat) (a8 : Int32) (a9 : Int32) (a10 : Int32) (w : px_W) (q : px_W), fX9_back_125 X k115 m a0 a3 a4 a5 a6 a8 a9 a10 w = some q → EV X mX9_back 125 [(0, .ref a0), (3, .int a3), (4, .int a4), (5, .int a5), (6, .ref a6), (8, .int a8), (9, .int a9), (10, .int a10)] [] w none q := by
  intro m
  induction m with
  | zero => intro a0 a3 a4 a5 a6 a8 a9 a10 w q h; cases h
  | succ m ih =>
    intro a0 a3 a4 a5 a6 a8 a9 a10 w q h
    rw [fX9_back_125.eq_2] at h
    refine EV.iload 7 dX9_back_125 rfl ?_
    refine EV.iload 3 dX9_back_127 rfl ?_
    refine EV.icmp_ge 216 dX9_back_129 (by decide) (fun c33 => ?_) (fun c33 => ?_)
    · rw [if_pos c33] at h
      refine EV.sub [0, 1, 2, 3, 4, 5, 6] rfl ?_
      exact eX9_back_216 hk115 _ _ _ _ _ _ _ _ _ h
    · rw [if_neg c33] at h
      refine EV.lconst (0) dX9_back_132 (by decide) ?_
      refine EV.lstore [(11, .long 0), (0, .ref a0), (3, .int a3), (4, .int a4), (5, .int a5), (6, .ref a6), (8, .int a8), (9, .int a9), (10, .int a10)] dX9_back_133 (by decide) rfl ?_
      refine EV.iconst (0) dX9_back_135 (by decide) ?_
      refine EV.istore [(13, .int 0), (11, .long 0), (0, .ref a0), (3, .int a3), (4, .int a4), (5, .int a5), (6, .ref a6), (8, .int a8), (9, .int a9), (10, .int a10)] dX9_back_136 (by decide) rfl ?_
      refine EV.sub [2, 3, 4, 5, 6, 7, 8, 9, 1, 0] rfl ?_
      exact eX9_back_138 hk115 ih FU _ _ _ _ _ _ _ _ _ _ _ _ h
set_option maxRecDepth 100000 in
set_option maxHeartbeats 4000000 in
theorem eX9_back_300 {X : px_X} {k225 : Nat → Int32 → Int32 → Int32 → Nat → Int32 → Int32 → px_W → Option (px_W)} (hk225 : ∀ (a0 : Nat) (a3 : Int32) (a4 : Int32) (a5 : Int32) (a6 : Nat) (a8 : Int32) (a9 : Int32) (w : px_W) (q : px_W), k225 a0 a3 a4 a5 a6 a8 a9 w = some q → EV X mX9_back 225 [(0, .ref a0), (3, .int a3), (4, .int a4), (5, .int a5), (6, .ref a6), (8, .int a8), (9, .int a9)] [] w none q) {k235 : Nat → Int32 → Int32 → Int32 → Nat → Int32 → Int32 → Int32 → px_W → Option (px_W)} (hk235 : ∀ (a0 : Nat) (a3 : Int32) (a4 : Int32) (a5 : Int32) (a6 : Nat) (a8 : Int32) (a9 : Int32) (a10 : Int32) (w : px_W) (q : px_W), k235 a0 a3 a4 a5 a6 a8 a9 a10 w = some q → EV X mX9_back 235 [(0, .ref a0), (3, .int a3), (4, .int a4), (5, .int a5), (6, .ref a6), (8, .int a8), (9, .int a9), (10, .int a10)] [] w none q) : ∀ (a0 : Nat) (a3 : Int32) (a4 : Int32) (a5 : Int32) (a6 : Nat) (a8 : Int32) (a9 : Int32) (a10 : Int32) (a11 : Int64) (w : px_W) (q : px_W), fX9_back_300 X k225 k235 a0 a3 a4 a5 a6 a8 a9 a10 a11 w = some q → EV X mX9_back 300 [(0, .ref a0), (3, .int a3), (4, .int a4), (5, .int a5), (6, .ref a6), (8, .int a8), (9, .int a9), (10, .int a10), (11, .long a11)] [] w none q := by
  intro a0 a3 a4 a5 a6 a8 a9 a10 a11 w q h
  unfold fX9_back_300 at h
  refine EV.lconst (0) dX9_back_300 (by decide) ?_
  refine EV.ldc2 (v := 255) dX9_back_301 (tb5 (List.mem_of_getElem? (i := 170) rfl)) ?_
  refine EV.lload 8 dX9_back_304 rfl ?_
  refine EV.bipush (17) dX9_back_306 (by decide) ?_
  obtain ⟨q34, gq34, h⟩ := px_bs h
  refine EV.callS (As := [.long a11, .int 17]) (rest := [.long 255, .long 0]) dX9_back_308 kcX9_back_44 rfl (Nat.le_of_ble_eq_true rfl) (Nat.le_of_ble_eq_true rfl) (eX9_round gq34) ?_
  refine EV.ldc2 (v := 128) dX9_back_311 (tb5 (List.mem_of_getElem? (i := 171) rfl)) ?_
  refine EV.ladd dX9_back_314 ?_
  refine EV.mminL dX9_back_315 (tb5 (List.mem_of_getElem? (i := 172) rfl)) (by decide) (by decide) (Nat.le_of_ble_eq_true rfl) ?_
  refine EV.mmaxL dX9_back_318 (tb5 (List.mem_of_getElem? (i := 175) rfl)) (by decide) (by decide) (Nat.le_of_ble_eq_true rfl) ?_
  refine EV.lstore [(13, .long (mmaxL 0 (mminL 255 (q34.1 + 128)))), (0, .ref a0), (3, .int a3), (4, .int a4), (5, .int a5), (6, .ref a6), (8, .int a8), (9, .int a9), (10, .int a10), (11, .long a11)] dX9_back_321 (by decide) rfl ?_
  refine EV.aload 5 dX9_back_323 rfl ?_
  obtain ⟨v35, gv35, h⟩ := px_bs h
  refine ev_gR dX9_back_325 flRX9_61 gv35 ?_
  refine EV.bipush (32) dX9_back_328 (by decide) ?_
  refine EV.iload 3 dX9_back_330 rfl ?_
  refine EV.iload 4 dX9_back_332 rfl ?_
  refine EV.imul dX9_back_334 ?_
  refine EV.iload 7 dX9_back_335 rfl ?_
  refine EV.iadd dX9_back_337 ?_
  refine EV.imul dX9_back_338 ?_
  refine EV.iload_n 2 dX9_back_339 rfl rfl ?_
  refine EV.iload 4 dX9_back_340 rfl ?_
  refine EV.imul dX9_back_342 ?_
  refine EV.iadd dX9_back_343 ?_
  refine EV.iload 8 dX9_back_344 rfl ?_
  refine EV.iadd dX9_back_346 ?_
  refine EV.lload 0 dX9_back_347 rfl ?_
  refine EV.l2i dX9_back_349 ?_
  obtain ⟨w36, gw36, h⟩ := px_bs h
  refine ev_sI dX9_back_350 gw36 ?_
  refine EV.iinc 8 (a10 + 1) [(10, .int (a10 + 1)), (13, .long (mmaxL 0 (mminL 255 (q34.1 + 128)))), (0, .ref a0), (3, .int a3), (4, .int a4), (5, .int a5), (6, .ref a6), (8, .int a8), (9, .int a9), (11, .long a11)] dX9_back_351 rfl rfl (by decide) rfl ?_
  refine EV.goto 235 dX9_back_354 (by decide) ?_
  refine EV.sub [2, 3, 4, 5, 6, 7, 8, 0] rfl ?_
  exact hk235 _ _ _ _ _ _ _ _ _ _ h
set_option maxRecDepth 100000 in
set_option maxHeartbeats 4000000 in
theorem eX9_back_248 {X : px_X} {k225 : Nat → Int32 → Int32 → Int32 → Nat → Int32 → Int32 → px_W → Option (px_W)} (hk225 : ∀ (a0 : Nat) (a3 : Int32) (a4 : Int32) (a5 : Int32) (a6 : Nat) (a8 : Int32) (a9 : Int32) (w : px_W) (q : px_W), k225 a0 a3 a4 a5 a6 a8 a9 w = some q → EV X mX9_back 225 [(0, .ref a0), (3, .int a3), (4, .int a4), (5, .int a5), (6, .ref a6), (8, .int a8), (9, .int a9)] [] w none q) {k235 : Nat → Int32 → Int32 → Int32 → Nat → Int32 → Int32 → Int32 → px_W → Option (px_W)} (hk235 : ∀ (a0 : Nat) (a3 : Int32) (a4 : Int32) (a5 : Int32) (a6 : Nat) (a8 : Int32) (a9 : Int32) (a10 : Int32) (w : px_W) (q : px_W), k235 a0 a3 a4 a5 a6 a8 a9 a10 w = some q → EV X mX9_back 235 [(0, .ref a0), (3, .int a3), (4, .int a4), (5, .int a5), (6, .ref a6), (8, .int a8), (9, .int a9), (10, .int a10)] [] w none q) : ∀ (m : Nat) (a0 : Nat) (a3 : Int32) (a4 : Int32) (a5 : Int32) (a6 : Nat) (a8 : Int32) (a9 : Int32) (a10 : Int32) (a11 : Int64) (a13 : Int32) (w : px_W) (q : px_W), fX9_back_248 X k225 k235 m a0 a3 a4 a5 a6 a8 a9 a10 a11 a13 w = some q → EV X mX9_back 248 [(0, .ref a0), (3, .int a3), (4, .int a4), (5, .int a5), (6, .ref a6), (8, .int a8), (9, .int a9), (10, .int a10), (11, .long a11), (13, .int a13)] [] w none q := by
  intro m
  induction m with
  | zero => intro a0 a3 a4 a5 a6 a8 a9 a10 a11 a13 w q h; cases h
  | succ m ih =>
    intro a0 a3 a4 a5 a6 a8 a9 a10 a11 a13 w q h
    rw [fX9_back_248.eq_2] at h
    refine EV.iload 9 dX9_back_248 rfl ?_
    refine EV.iload 3 dX9_back_250 rfl ?_
    refine EV.icmp_ge 300 dX9_back_252 (by decide) (fun c37 => ?_) (fun c37 => ?_)
    · rw [if_pos c37] at h
      refine EV.sub [0, 1, 2, 3, 4, 5, 6, 7, 8] rfl ?_
      exact eX9_back_300 hk225 hk235 _ _ _ _ _ _ _ _ _ _ _ h
    · rw [if_neg c37] at h
      refine EV.lload 8 dX9_back_255 rfl ?_
      refine EV.aload_n 0 dX9_back_257 rfl rfl ?_
      obtain ⟨v38, gv38, h⟩ := px_bs h
      refine ev_gR dX9_back_258 flRX9_9 gv38 ?_
      refine EV.bipush (64) dX9_back_261 (by decide) ?_
      refine EV.iload 5 dX9_back_263 rfl ?_
      refine EV.imul dX9_back_265 ?_
      refine EV.bipush (8) dX9_back_266 (by decide) ?_
      refine EV.iload 9 dX9_back_268 rfl ?_
      refine EV.imul dX9_back_270 ?_
      refine EV.iadd dX9_back_271 ?_
      refine EV.iload 7 dX9_back_272 rfl ?_
      refine EV.iadd dX9_back_274 ?_
      obtain ⟨v39, gv39, h⟩ := px_bs h
      refine ev_aI dX9_back_275 gv39 ?_
      refine EV.i2l dX9_back_276 ?_
      refine EV.aload_n 0 dX9_back_277 rfl rfl ?_
      obtain ⟨v40, gv40, h⟩ := px_bs h
      refine ev_gR dX9_back_278 flRX9_19 gv40 ?_
      refine EV.bipush (8) dX9_back_281 (by decide) ?_
      refine EV.iload 6 dX9_back_283 rfl ?_
      refine EV.imul dX9_back_285 ?_
      refine EV.iload 9 dX9_back_286 rfl ?_
      refine EV.iadd dX9_back_288 ?_
      obtain ⟨v41, gv41, h⟩ := px_bs h
      refine ev_aJ dX9_back_289 gv41 ?_
      refine EV.lmul dX9_back_290 ?_
      refine EV.ladd dX9_back_291 ?_
      refine EV.lstore [(11, .long (a11 + (v39.toInt64 * v41))), (0, .ref a0), (3, .int a3), (4, .int a4), (5, .int a5), (6, .ref a6), (8, .int a8), (9, .int a9), (10, .int a10), (13, .int a13)] dX9_back_292 (by decide) rfl ?_
      refine EV.iinc 9 (a13 + 1) [(13, .int (a13 + 1)), (11, .long (a11 + (v39.toInt64 * v41))), (0, .ref a0), (3, .int a3), (4, .int a4), (5, .int a5), (6, .ref a6), (8, .int a8), (9, .int a9), (10, .int a10)] dX9_back_294 rfl rfl (by decide) rfl ?_
      refine EV.goto 248 dX9_back_297 (by decide) ?_
      refine EV.sub [2, 3, 4, 5, 6, 7, 8, 9, 1, 0] rfl ?_
      exact ih _ _ _ _ _ _ _ _ _ _ _ _ h
set_option maxRecDepth 100000 in
set_option maxHeartbeats 4000000 in
theorem eX9_back_357 {X : px_X} {k225 : Nat → Int32 → Int32 → Int32 → Nat → Int32 → Int32 → px_W → Option (px_W)} (hk225 : ∀ (a0 : Nat) (a3 : Int32) (a4 : Int32) (a5 : Int32) (a6 : Nat) (a8 : Int32) (a9 : Int32) (w : px_W) (q : px_W), k225 a0 a3 a4 a5 a6 a8 a9 w = some q → EV X mX9_back 225 [(0, .ref a0), (3, .int a3), (4, .int a4), (5, .int a5), (6, .ref a6), (8, .int a8), (9, .int a9)] [] w none q) : ∀ (a0 : Nat) (a3 : Int32) (a4 : Int32) (a5 : Int32) (a6 : Nat) (a8 : Int32) (a9 : Int32) (w : px_W) (q : px_W), fX9_back_357 X k225 a0 a3 a4 a5 a6 a8 a9 w = some q → EV X mX9_back 357 [(0, .ref a0), (3, .int a3), (4, .int a4), (5, .int a5), (6, .ref a6), (8, .int a8), (9, .int a9)] [] w none q := by
  intro a0 a3 a4 a5 a6 a8 a9 w q h
  unfold fX9_back_357 at h
  refine EV.iinc 6 (a9 + 1) [(9, .int (a9 + 1)), (0, .ref a0), (3, .int a3), (4, .int a4), (5, .int a5), (6, .ref a6), (8, .int a8)] dX9_back_357 rfl rfl (by decide) rfl ?_
  refine EV.goto 225 dX9_back_360 (by decide) ?_
  refine EV.sub [1, 2, 3, 4, 5, 6, 0] rfl ?_
  exact hk225 _ _ _ _ _ _ _ _ _ h
set_option maxRecDepth 100000 in
set_option maxHeartbeats 4000000 in
theorem eX9_back_235 {X : px_X} {k225 : Nat → Int32 → Int32 → Int32 → Nat → Int32 → Int32 → px_W → Option (px_W)} (hk225 : ∀ (a0 : Nat) (a3 : Int32) (a4 : Int32) (a5 : Int32) (a6 : Nat) (a8 : Int32) (a9 : Int32) (w : px_W) (q : px_W), k225 a0 a3 a4 a5 a6 a8 a9 w = some q → EV X mX9_back 225 [(0, .ref a0), (3, .int a3), (4, .int a4), (5, .int a5), (6, .ref a6), (8, .int a8), (9, .int a9)] [] w none q) : ∀ (m : Nat) (a0 : Nat) (a3 : Int32) (a4 : Int32) (a5 : Int32) (a6 : Nat) (a8 : Int32) (a9 : Int32) (a10 : Int32) (w : px_W) (q : px_W), fX9_back_235 X k225 m a0 a3 a4 a5 a6 a8 a9 a10 w = some q → EV X mX9_back 235 [(0, .ref a0), (3, .int a3), (4, .int a4), (5, .int a5), (6, .ref a6), (8, .int a8), (9, .int a9), (10, .int a10)] [] w none q := by
  intro m
  induction m with
  | zero => intro a0 a3 a4 a5 a6 a8 a9 a10 w q h; cases h
  | succ m ih =>
    intro a0 a3 a4 a5 a6 a8 a9 a10 w q h
    rw [fX9_back_235.eq_2] at h
    refine EV.iload 7 dX9_back_235 rfl ?_
    refine EV.iload 3 dX9_back_237 rfl ?_
    refine EV.icmp_ge 357 dX9_back_239 (by decide) (fun c42 => ?_) (fun c42 => ?_)
    · rw [if_pos c42] at h
      refine EV.sub [0, 1, 2, 3, 4, 5, 6] rfl ?_
      exact eX9_back_357 hk225 _ _ _ _ _ _ _ _ _ h
    · rw [if_neg c42] at h
      refine EV.lconst (0) dX9_back_242 (by decide) ?_
      refine EV.lstore [(11, .long 0), (0, .ref a0), (3, .int a3), (4, .int a4), (5, .int a5), (6, .ref a6), (8, .int a8), (9, .int a9), (10, .int a10)] dX9_back_243 (by decide) rfl ?_
      refine EV.iconst (0) dX9_back_245 (by decide) ?_
      refine EV.istore [(13, .int 0), (11, .long 0), (0, .ref a0), (3, .int a3), (4, .int a4), (5, .int a5), (6, .ref a6), (8, .int a8), (9, .int a9), (10, .int a10)] dX9_back_246 (by decide) rfl ?_
      refine EV.sub [2, 3, 4, 5, 6, 7, 8, 9, 1, 0] rfl ?_
      exact eX9_back_248 hk225 ih FU _ _ _ _ _ _ _ _ _ _ _ _ h
set_option maxRecDepth 100000 in
set_option maxHeartbeats 4000000 in
theorem eX9_back_225 {X : px_X}  : ∀ (m : Nat) (a0 : Nat) (a3 : Int32) (a4 : Int32) (a5 : Int32) (a6 : Nat) (a8 : Int32) (a9 : Int32) (w : px_W) (q : px_W), fX9_back_225 X  m a0 a3 a4 a5 a6 a8 a9 w = some q → EV X mX9_back 225 [(0, .ref a0), (3, .int a3), (4, .int a4), (5, .int a5), (6, .ref a6), (8, .int a8), (9, .int a9)] [] w none q := by
  intro m
  induction m with
  | zero => intro a0 a3 a4 a5 a6 a8 a9 w q h; cases h
  | succ m ih =>
    intro a0 a3 a4 a5 a6 a8 a9 w q h
    rw [fX9_back_225.eq_2] at h
    refine EV.iload 6 dX9_back_225 rfl ?_
    refine EV.iload 3 dX9_back_227 rfl ?_
    refine EV.icmp_ge 363 dX9_back_229 (by decide) (fun c43 => ?_) (fun c43 => ?_)
    · rw [if_pos c43] at h
      cases h
      exact EV.ret0 dX9_back_363 trivial
    · rw [if_neg c43] at h
      refine EV.iconst (0) dX9_back_232 (by decide) ?_
      refine EV.istore [(10, .int 0), (0, .ref a0), (3, .int a3), (4, .int a4), (5, .int a5), (6, .ref a6), (8, .int a8), (9, .int a9)] dX9_back_233 (by decide) rfl ?_
      refine EV.sub [1, 2, 3, 4, 5, 6, 7, 0] rfl ?_
      exact eX9_back_235 ih FU _ _ _ _ _ _ _ _ _ _ h
set_option maxRecDepth 100000 in
set_option maxHeartbeats 4000000 in
theorem eX9_back_222 {X : px_X}  : ∀ (a0 : Nat) (a3 : Int32) (a4 : Int32) (a5 : Int32) (a6 : Nat) (a8 : Int32) (w : px_W) (q : px_W), fX9_back_222 X  a0 a3 a4 a5 a6 a8 w = some q → EV X mX9_back 222 [(0, .ref a0), (3, .int a3), (4, .int a4), (5, .int a5), (6, .ref a6), (8, .int a8)] [] w none q := by
  intro a0 a3 a4 a5 a6 a8 w q h
  unfold fX9_back_222 at h
  refine EV.iconst (0) dX9_back_222 (by decide) ?_
  refine EV.istore [(9, .int 0), (0, .ref a0), (3, .int a3), (4, .int a4), (5, .int a5), (6, .ref a6), (8, .int a8)] dX9_back_223 (by decide) rfl ?_
  refine EV.sub [1, 2, 3, 4, 5, 6, 0] rfl ?_
  exact eX9_back_225  FU _ _ _ _ _ _ _ _ _ h
set_option maxRecDepth 100000 in
set_option maxHeartbeats 4000000 in
theorem eX9_back_115 {X : px_X}  : ∀ (m : Nat) (a0 : Nat) (a3 : Int32) (a4 : Int32) (a5 : Int32) (a6 : Nat) (a8 : Int32) (a9 : Int32) (w : px_W) (q : px_W), fX9_back_115 X  m a0 a3 a4 a5 a6 a8 a9 w = some q → EV X mX9_back 115 [(0, .ref a0), (3, .int a3), (4, .int a4), (5, .int a5), (6, .ref a6), (8, .int a8), (9, .int a9)] [] w none q := by
  intro m
  induction m with
  | zero => intro a0 a3 a4 a5 a6 a8 a9 w q h; cases h
  | succ m ih =>
    intro a0 a3 a4 a5 a6 a8 a9 w q h
    rw [fX9_back_115.eq_2] at h
    refine EV.iload 6 dX9_back_115 rfl ?_
    refine EV.iload 3 dX9_back_117 rfl ?_
    refine EV.icmp_ge 222 dX9_back_119 (by decide) (fun c44 => ?_) (fun c44 => ?_)
    · rw [if_pos c44] at h
      refine EV.sub [0, 1, 2, 3, 4, 5] rfl ?_
      exact eX9_back_222  _ _ _ _ _ _ _ _ h
    · rw [if_neg c44] at h
      refine EV.iconst (0) dX9_back_122 (by decide) ?_
      refine EV.istore [(10, .int 0), (0, .ref a0), (3, .int a3), (4, .int a4), (5, .int a5), (6, .ref a6), (8, .int a8), (9, .int a9)] dX9_back_123 (by decide) rfl ?_
      refine EV.sub [1, 2, 3, 4, 5, 6, 7, 0] rfl ?_
      exact eX9_back_125 ih FU _ _ _ _ _ _ _ _ _ _ h
set_option maxRecDepth 100000 in
set_option maxHeartbeats 4000000 in
theorem eX9_back_112 {X : px_X}  : ∀ (a0 : Nat) (a3 : Int32) (a4 : Int32) (a5 : Int32) (a6 : Nat) (a8 : Int32) (w : px_W) (q : px_W), fX9_back_112 X  a0 a3 a4 a5 a6 a8 w = some q → EV X mX9_back 112 [(0, .ref a0), (3, .int a3), (4, .int a4), (5, .int a5), (6, .ref a6), (8, .int a8)] [] w none q := by
  intro a0 a3 a4 a5 a6 a8 w q h
  unfold fX9_back_112 at h
  refine EV.iconst (0) dX9_back_112 (by decide) ?_
  refine EV.istore [(9, .int 0), (0, .ref a0), (3, .int a3), (4, .int a4), (5, .int a5), (6, .ref a6), (8, .int a8)] dX9_back_113 (by decide) rfl ?_
  refine EV.sub [1, 2, 3, 4, 5, 6, 0] rfl ?_
  exact eX9_back_115  FU _ _ _ _ _ _ _ _ _ h
set_option maxRecDepth 100000 in
set_option maxHeartbeats 4000000 in
theorem eX9_back_60 {X : px_X}  : ∀ (m : Nat) (a0 : Nat) (a1 : Nat) (a2 : Int32) (a3 : Int32) (a4 : Int32) (a5 : Int32) (a6 : Nat) (a7 : Int32) (a8 : Int32) (a9 : Int32) (w : px_W) (q : px_W), fX9_back_60 X  m a0 a1 a2 a3 a4 a5 a6 a7 a8 a9 w = some q → EV X mX9_back 60 [(0, .ref a0), (1, .ref a1), (2, .int a2), (3, .int a3), (4, .int a4), (5, .int a5), (6, .ref a6), (7, .int a7), (8, .int a8), (9, .int a9)] [] w none q := by
  intro m
  induction m with
  | zero => intro a0 a1 a2 a3 a4 a5 a6 a7 a8 a9 w q h; cases h
  | succ m ih =>
    intro a0 a1 a2 a3 a4 a5 a6 a7 a8 a9 w q h
    rw [fX9_back_60.eq_2] at h
    refine EV.iload 9 dX9_back_60 rfl ?_
    refine EV.bipush (64) dX9_back_62 (by decide) ?_
    refine EV.icmp_ge 112 dX9_back_64 (by decide) (fun c45 => ?_) (fun c45 => ?_)
    · rw [if_pos c45] at h
      refine EV.sub [0, 3, 4, 5, 6, 8] rfl ?_
      exact eX9_back_112  _ _ _ _ _ _ _ _ h
    · rw [if_neg c45] at h
      refine EV.aload_n 0 dX9_back_67 rfl rfl ?_
      obtain ⟨v46, gv46, h⟩ := px_bs h
      refine ev_gR dX9_back_68 flRX9_15 gv46 ?_
      refine EV.getsN (k := 4) dX9_back_71 rfl (tT5 (List.mem_of_getElem? (i := 150) rfl)) ?_
      refine EV.iload 9 dX9_back_74 rfl ?_
      obtain ⟨v47, gv47, h⟩ := px_bs h
      refine ev_aX dX9_back_76 gv47 ?_
      refine EV.aload_n 1 dX9_back_77 rfl rfl ?_
      obtain ⟨v48, gv48, h⟩ := px_bs h
      refine ev_gR dX9_back_78 flRX9_38 gv48 ?_
      refine EV.bipush (64) dX9_back_81 (by decide) ?_
      refine EV.iload 7 dX9_back_83 rfl ?_
      refine EV.imul dX9_back_85 ?_
      refine EV.iload 9 dX9_back_86 rfl ?_
      refine EV.iadd dX9_back_88 ?_
      obtain ⟨v49, gv49, h⟩ := px_bs h
      refine ev_aI dX9_back_89 gv49 ?_
      refine EV.i2l dX9_back_90 ?_
      refine EV.aload_n 1 dX9_back_91 rfl rfl ?_
      obtain ⟨v50, gv50, h⟩ := px_bs h
      refine ev_gR dX9_back_92 flRX9_41 gv50 ?_
      refine EV.bipush (64) dX9_back_95 (by decide) ?_
      refine EV.iload_n 2 dX9_back_97 rfl rfl ?_
      refine EV.imul dX9_back_98 ?_
      refine EV.iload 9 dX9_back_99 rfl ?_
      refine EV.iadd dX9_back_101 ?_
      obtain ⟨v51, gv51, h⟩ := px_bs h
      refine ev_aI dX9_back_102 gv51 ?_
      refine EV.i2l dX9_back_103 ?_
      refine EV.lmul dX9_back_104 ?_
      obtain ⟨w52, gw52, h⟩ := px_bs h
      refine ev_sJ dX9_back_105 gw52 ?_
      refine EV.iinc 9 (a9 + 1) [(9, .int (a9 + 1)), (0, .ref a0), (1, .ref a1), (2, .int a2), (3, .int a3), (4, .int a4), (5, .int a5), (6, .ref a6), (7, .int a7), (8, .int a8)] dX9_back_106 rfl rfl (by decide) rfl ?_
      refine EV.goto 60 dX9_back_109 (by decide) ?_
      refine EV.sub [1, 2, 3, 4, 5, 6, 7, 8, 9, 0] rfl ?_
      exact ih _ _ _ _ _ _ _ _ _ _ _ _ h
set_option maxRecDepth 100000 in
set_option maxHeartbeats 4000000 in
theorem eX9_back_25 {X : px_X}  : ∀ (a0 : Nat) (a1 : Nat) (a2 : Int32) (a3 : Int32) (a4 : Int32) (a5 : Int32) (a6 : Nat) (a7 : Int32) (s0 : Int32) (w : px_W) (q : px_W), fX9_back_25 X  a0 a1 a2 a3 a4 a5 a6 a7 s0 w = some q → EV X mX9_back 25 [(0, .ref a0), (1, .ref a1), (2, .int a2), (3, .int a3), (4, .int a4), (5, .int a5), (6, .ref a6), (7, .int a7)] [.int s0] w none q := by
  intro a0 a1 a2 a3 a4 a5 a6 a7 s0 w q h
  unfold fX9_back_25 at h
  refine EV.istore [(8, .int s0), (0, .ref a0), (1, .ref a1), (2, .int a2), (3, .int a3), (4, .int a4), (5, .int a5), (6, .ref a6), (7, .int a7)] dX9_back_25 (by decide) rfl ?_
  refine EV.iload 8 dX9_back_27 rfl ?_
  refine EV.iconst ((-1)) dX9_back_29 (by decide) ?_
  refine EV.icmp_eq 56 dX9_back_30 (by decide) (fun c53 => ?_) (fun c53 => ?_)
  · rw [if_pos c53] at h
    cases h
    exact EV.ret0 dX9_back_56 trivial
  · rw [if_neg c53] at h
    refine EV.iload_n 4 dX9_back_33 rfl rfl ?_
    refine EV.iconst (1) dX9_back_34 (by decide) ?_
    refine EV.iadd dX9_back_35 ?_
    refine EV.iload 6 dX9_back_36 rfl ?_
    refine EV.imul dX9_back_38 ?_
    refine EV.bipush (32) dX9_back_39 (by decide) ?_
    refine EV.icmp_gt 56 dX9_back_41 (by decide) (fun c54 => ?_) (fun c54 => ?_)
    · rw [if_pos c54] at h
      cases h
      exact EV.ret0 dX9_back_56 trivial
    · rw [if_neg c54] at h
      refine EV.iload 5 dX9_back_44 rfl ?_
      refine EV.iconst (1) dX9_back_46 (by decide) ?_
      refine EV.iadd dX9_back_47 ?_
      refine EV.iload 6 dX9_back_48 rfl ?_
      refine EV.imul dX9_back_50 ?_
      refine EV.bipush (32) dX9_back_51 (by decide) ?_
      refine EV.icmp_le 57 dX9_back_53 (by decide) (fun c55 => ?_) (fun c55 => ?_)
      · rw [if_pos c55] at h
        refine EV.iconst (0) dX9_back_57 (by decide) ?_
        refine EV.istore [(9, .int 0), (8, .int s0), (0, .ref a0), (1, .ref a1), (2, .int a2), (3, .int a3), (4, .int a4), (5, .int a5), (6, .ref a6), (7, .int a7)] dX9_back_58 (by decide) rfl ?_
        refine EV.sub [2, 3, 4, 5, 6, 7, 8, 9, 1, 0] rfl ?_
        exact eX9_back_60  FU _ _ _ _ _ _ _ _ _ _ _ _ h
      · rw [if_neg c55] at h
        cases h
        exact EV.ret0 dX9_back_56 trivial
set_option maxRecDepth 100000 in
set_option maxHeartbeats 4000000 in
theorem eX9_back {X : px_X} {w : px_W} {a0 : Nat} {a1 : Nat} {a2 : Int32} {a3 : Int32} {a4 : Int32} {a5 : Int32} {a6 : Nat} {q : px_W} (h : fX9_back X w a0 a1 a2 a3 a4 a5 a6 = some q) : EV X mX9_back 0 (lv_args 0 [.ref a0, .ref a1, .int a2, .int a3, .int a4, .int a5, .ref a6]) [] w none q := by
  unfold fX9_back at h
  show EV X mX9_back 0 [(0, .ref a0), (1, .ref a1), (2, .int a2), (3, .int a3), (4, .int a4), (5, .int a5), (6, .ref a6)] [] w none q
  refine EV.aload_n 1 dX9_back_0 rfl rfl ?_
  refine EV.iload_n 2 dX9_back_1 rfl rfl ?_
  refine EV.iload_n 3 dX9_back_2 rfl rfl ?_
  refine EV.iload 4 dX9_back_3 rfl ?_
  obtain ⟨o56, go56, h⟩ := px_bs h
  obtain ⟨q57, gq57, h⟩ := px_bs h
  refine EV.callV (As := [.int a2, .int a3, .int a4]) (rest := []) dX9_back_5 kcX9_back_29 (gO_ok go56) rfl rfl rfl (Nat.le_of_ble_eq_true rfl) (Nat.le_of_ble_eq_true rfl) (eX2_block gq57) ?_
  refine EV.istore [(7, .int q57.1), (0, .ref a0), (1, .ref a1), (2, .int a2), (3, .int a3), (4, .int a4), (5, .int a5), (6, .ref a6)] dX9_back_8 (by decide) rfl ?_
  refine EV.iload 6 dX9_back_10 rfl ?_
  refine EV.bipush (8) dX9_back_12 (by decide) ?_
  refine EV.icmp_ne 21 dX9_back_14 (by decide) (fun c58 => ?_) (fun c58 => ?_)
  · rw [if_neg c58] at h
    refine EV.iload 6 dX9_back_21 rfl ?_
    refine EV.iconst (2) dX9_back_23 (by decide) ?_
    obtain ⟨v59, gv59, h⟩ := px_bs h
    refine ev_dI dX9_back_24 gv59 ?_
    refine EV.sub [1, 2, 3, 4, 5, 6, 7, 0] rfl ?_
    exact eX9_back_25  _ _ _ _ _ _ _ _ _ _ _ h
  · rw [if_pos c58] at h
    refine EV.iconst (3) dX9_back_17 (by decide) ?_
    refine EV.goto 25 dX9_back_18 (by decide) ?_
    refine EV.sub [1, 2, 3, 4, 5, 6, 7, 0] rfl ?_
    exact eX9_back_25  _ _ _ _ _ _ _ _ _ _ _ h
/-! WavePictures$Waves.nearestMultiple(II)I -/
theorem dX9_nearestMultiple_0 : decode cX9_nearestMultiple 0 = .ok (.iload_n 1, 1) := by decide +kernel
theorem dX9_nearestMultiple_1 : decode cX9_nearestMultiple 1 = .ok (.iconst 1, 1) := by decide +kernel
theorem dX9_nearestMultiple_2 : decode cX9_nearestMultiple 2 = .ok (.if_icmp .ge 5, 3) := by decide +kernel
theorem dX9_nearestMultiple_5 : decode cX9_nearestMultiple 5 = .ok (.iconst 0, 1) := by decide +kernel
theorem dX9_nearestMultiple_6 : decode cX9_nearestMultiple 6 = .ok (.ireturn, 1) := by decide +kernel
theorem dX9_nearestMultiple_7 : decode cX9_nearestMultiple 7 = .ok (.iconst 2, 1) := by decide +kernel
theorem dX9_nearestMultiple_8 : decode cX9_nearestMultiple 8 = .ok (.iload_n 0, 1) := by decide +kernel
theorem dX9_nearestMultiple_9 : decode cX9_nearestMultiple 9 = .ok (.invokestatic 77, 3) := by decide +kernel
theorem dX9_nearestMultiple_12 : decode cX9_nearestMultiple 12 = .ok (.imul, 1) := by decide +kernel
theorem dX9_nearestMultiple_13 : decode cX9_nearestMultiple 13 = .ok (.iload_n 1, 1) := by decide +kernel
theorem dX9_nearestMultiple_14 : decode cX9_nearestMultiple 14 = .ok (.iadd, 1) := by decide +kernel
theorem dX9_nearestMultiple_15 : decode cX9_nearestMultiple 15 = .ok (.iconst 2, 1) := by decide +kernel
theorem dX9_nearestMultiple_16 : decode cX9_nearestMultiple 16 = .ok (.iload_n 1, 1) := by decide +kernel
theorem dX9_nearestMultiple_17 : decode cX9_nearestMultiple 17 = .ok (.imul, 1) := by decide +kernel
theorem dX9_nearestMultiple_18 : decode cX9_nearestMultiple 18 = .ok (.idiv, 1) := by decide +kernel
theorem dX9_nearestMultiple_19 : decode cX9_nearestMultiple 19 = .ok (.istore_n 2, 1) := by decide +kernel
theorem dX9_nearestMultiple_20 : decode cX9_nearestMultiple 20 = .ok (.iload_n 0, 1) := by decide +kernel
theorem dX9_nearestMultiple_21 : decode cX9_nearestMultiple 21 = .ok (.ifCond .ge 8, 3) := by decide +kernel
theorem dX9_nearestMultiple_24 : decode cX9_nearestMultiple 24 = .ok (.iload_n 2, 1) := by decide +kernel
theorem dX9_nearestMultiple_25 : decode cX9_nearestMultiple 25 = .ok (.ineg, 1) := by decide +kernel
theorem dX9_nearestMultiple_26 : decode cX9_nearestMultiple 26 = .ok (.goto 4, 3) := by decide +kernel
theorem dX9_nearestMultiple_29 : decode cX9_nearestMultiple 29 = .ok (.iload_n 2, 1) := by decide +kernel
theorem dX9_nearestMultiple_30 : decode cX9_nearestMultiple 30 = .ok (.ireturn, 1) := by decide +kernel
set_option maxRecDepth 100000 in
set_option maxHeartbeats 4000000 in
theorem eX9_nearestMultiple {X : px_X} {w : px_W} {a0 : Int32} {a1 : Int32} {q : Int32 × px_W} (h : fX9_nearestMultiple X w a0 a1 = some q) : EV X mX9_nearestMultiple 0 (lv_args 0 [.int a0, .int a1]) [] w (some (.int q.1)) q.2 := by
  unfold fX9_nearestMultiple at h
  show EV X mX9_nearestMultiple 0 [(0, .int a0), (1, .int a1)] [] w (some (.int q.1)) q.2
  refine EV.iload_n 1 dX9_nearestMultiple_0 rfl rfl ?_
  refine EV.iconst (1) dX9_nearestMultiple_1 (by decide) ?_
  refine EV.icmp_ge 7 dX9_nearestMultiple_2 (by decide) (fun c2 => ?_) (fun c2 => ?_)
  · rw [if_pos c2] at h
    refine EV.iconst (2) dX9_nearestMultiple_7 (by decide) ?_
    refine EV.iload_n 0 dX9_nearestMultiple_8 rfl rfl ?_
    refine EV.mabs dX9_nearestMultiple_9 (tb5 (List.mem_of_getElem? (i := 154) rfl)) (by decide) (by decide) (Nat.le_of_ble_eq_true rfl) ?_
    refine EV.imul dX9_nearestMultiple_12 ?_
    refine EV.iload_n 1 dX9_nearestMultiple_13 rfl rfl ?_
    refine EV.iadd dX9_nearestMultiple_14 ?_
    refine EV.iconst (2) dX9_nearestMultiple_15 (by decide) ?_
    refine EV.iload_n 1 dX9_nearestMultiple_16 rfl rfl ?_
    refine EV.imul dX9_nearestMultiple_17 ?_
    obtain ⟨v3, gv3, h⟩ := px_bs h
    refine ev_dI dX9_nearestMultiple_18 gv3 ?_
    refine EV.istore_n [(2, .int v3), (0, .int a0), (1, .int a1)] dX9_nearestMultiple_19 rfl (by decide) rfl ?_
    refine EV.iload_n 1 dX9_nearestMultiple_20 rfl rfl ?_
    refine EV.if_ge 29 dX9_nearestMultiple_21 (by decide) (fun c4 => ?_) (fun c4 => ?_)
    · rw [if_pos c4] at h
      refine EV.iload_n 0 dX9_nearestMultiple_29 rfl rfl ?_
      cases h
      exact EV.reti dX9_nearestMultiple_30 rfl
    · rw [if_neg c4] at h
      refine EV.iload_n 0 dX9_nearestMultiple_24 rfl rfl ?_
      refine EV.ineg dX9_nearestMultiple_25 ?_
      refine EV.goto 30 dX9_nearestMultiple_26 (by decide) ?_
      cases h
      exact EV.reti dX9_nearestMultiple_30 rfl
  · rw [if_neg c2] at h
    refine EV.iconst (0) dX9_nearestMultiple_5 (by decide) ?_
    cases h
    exact EV.reti dX9_nearestMultiple_6 rfl
/-! WavePictures$Waves.forward(LWavePictures$Plane;LWavePictures$Picture;III)V -/
theorem dX9_forward_0 : decode cX9_forward 0 = .ok (.aload_n 2, 1) := by decide +kernel
theorem dX9_forward_1 : decode cX9_forward 1 = .ok (.iload_n 3, 1) := by decide +kernel
theorem dX9_forward_2 : decode cX9_forward 2 = .ok (.iload 4, 2) := by decide +kernel
theorem dX9_forward_4 : decode cX9_forward 4 = .ok (.iload 5, 2) := by decide +kernel
theorem dX9_forward_6 : decode cX9_forward 6 = .ok (.invokevirtual 29, 3) := by decide +kernel
theorem dX9_forward_9 : decode cX9_forward 9 = .ok (.istore 6, 2) := by decide +kernel
theorem dX9_forward_11 : decode cX9_forward 11 = .ok (.iload 6, 2) := by decide +kernel
theorem dX9_forward_13 : decode cX9_forward 13 = .ok (.iconst (-1), 1) := by decide +kernel
theorem dX9_forward_14 : decode cX9_forward 14 = .ok (.if_icmp .ne 4, 3) := by decide +kernel
theorem dX9_forward_17 : decode cX9_forward 17 = .ok (.return_, 1) := by decide +kernel
theorem dX9_forward_18 : decode cX9_forward 18 = .ok (.iconst 0, 1) := by decide +kernel
theorem dX9_forward_19 : decode cX9_forward 19 = .ok (.istore 7, 2) := by decide +kernel
theorem dX9_forward_21 : decode cX9_forward 21 = .ok (.iload 7, 2) := by decide +kernel
theorem dX9_forward_23 : decode cX9_forward 23 = .ok (.bipush 64, 2) := by decide +kernel
theorem dX9_forward_25 : decode cX9_forward 25 = .ok (.if_icmp .ge 47, 3) := by decide +kernel
theorem dX9_forward_28 : decode cX9_forward 28 = .ok (.aload_n 0, 1) := by decide +kernel
theorem dX9_forward_29 : decode cX9_forward 29 = .ok (.getfield 15, 3) := by decide +kernel
theorem dX9_forward_32 : decode cX9_forward 32 = .ok (.iload 7, 2) := by decide +kernel
theorem dX9_forward_34 : decode cX9_forward 34 = .ok (.aload_n 1, 1) := by decide +kernel
theorem dX9_forward_35 : decode cX9_forward 35 = .ok (.bipush 8, 2) := by decide +kernel
theorem dX9_forward_37 : decode cX9_forward 37 = .ok (.iload 4, 2) := by decide +kernel
theorem dX9_forward_39 : decode cX9_forward 39 = .ok (.imul, 1) := by decide +kernel
theorem dX9_forward_40 : decode cX9_forward 40 = .ok (.iload 7, 2) := by decide +kernel
theorem dX9_forward_42 : decode cX9_forward 42 = .ok (.bipush 8, 2) := by decide +kernel
theorem dX9_forward_44 : decode cX9_forward 44 = .ok (.irem, 1) := by decide +kernel
theorem dX9_forward_45 : decode cX9_forward 45 = .ok (.iadd, 1) := by decide +kernel
theorem dX9_forward_46 : decode cX9_forward 46 = .ok (.bipush 8, 2) := by decide +kernel
theorem dX9_forward_48 : decode cX9_forward 48 = .ok (.iload 5, 2) := by decide +kernel
theorem dX9_forward_50 : decode cX9_forward 50 = .ok (.imul, 1) := by decide +kernel
theorem dX9_forward_51 : decode cX9_forward 51 = .ok (.iload 7, 2) := by decide +kernel
theorem dX9_forward_53 : decode cX9_forward 53 = .ok (.bipush 8, 2) := by decide +kernel
theorem dX9_forward_55 : decode cX9_forward 55 = .ok (.idiv, 1) := by decide +kernel
theorem dX9_forward_56 : decode cX9_forward 56 = .ok (.iadd, 1) := by decide +kernel
theorem dX9_forward_57 : decode cX9_forward 57 = .ok (.invokevirtual 66, 3) := by decide +kernel
theorem dX9_forward_60 : decode cX9_forward 60 = .ok (.sipush 128, 3) := by decide +kernel
theorem dX9_forward_63 : decode cX9_forward 63 = .ok (.isub, 1) := by decide +kernel
theorem dX9_forward_64 : decode cX9_forward 64 = .ok (.i2l, 1) := by decide +kernel
theorem dX9_forward_65 : decode cX9_forward 65 = .ok (.lastore, 1) := by decide +kernel
theorem dX9_forward_66 : decode cX9_forward 66 = .ok (.iinc 7 1, 3) := by decide +kernel
theorem dX9_forward_69 : decode cX9_forward 69 = .ok (.goto (-48), 3) := by decide +kernel
theorem dX9_forward_72 : decode cX9_forward 72 = .ok (.iconst 0, 1) := by decide +kernel
theorem dX9_forward_73 : decode cX9_forward 73 = .ok (.istore 7, 2) := by decide +kernel
theorem dX9_forward_75 : decode cX9_forward 75 = .ok (.iload 7, 2) := by decide +kernel
theorem dX9_forward_77 : decode cX9_forward 77 = .ok (.bipush 8, 2) := by decide +kernel
theorem dX9_forward_79 : decode cX9_forward 79 = .ok (.if_icmp .ge 101, 3) := by decide +kernel
theorem dX9_forward_82 : decode cX9_forward 82 = .ok (.iconst 0, 1) := by decide +kernel
theorem dX9_forward_83 : decode cX9_forward 83 = .ok (.istore 8, 2) := by decide +kernel
theorem dX9_forward_85 : decode cX9_forward 85 = .ok (.iload 8, 2) := by decide +kernel
theorem dX9_forward_87 : decode cX9_forward 87 = .ok (.bipush 8, 2) := by decide +kernel
theorem dX9_forward_89 : decode cX9_forward 89 = .ok (.if_icmp .ge 85, 3) := by decide +kernel
theorem dX9_forward_92 : decode cX9_forward 92 = .ok (.lconst 0, 1) := by decide +kernel
theorem dX9_forward_93 : decode cX9_forward 93 = .ok (.lstore 9, 2) := by decide +kernel
theorem dX9_forward_95 : decode cX9_forward 95 = .ok (.iconst 0, 1) := by decide +kernel
theorem dX9_forward_96 : decode cX9_forward 96 = .ok (.istore 11, 2) := by decide +kernel
theorem dX9_forward_98 : decode cX9_forward 98 = .ok (.iload 11, 2) := by decide +kernel
theorem dX9_forward_100 : decode cX9_forward 100 = .ok (.bipush 8, 2) := by decide +kernel
theorem dX9_forward_102 : decode cX9_forward 102 = .ok (.if_icmp .ge 46, 3) := by decide +kernel
theorem dX9_forward_105 : decode cX9_forward 105 = .ok (.lload 9, 2) := by decide +kernel
theorem dX9_forward_107 : decode cX9_forward 107 = .ok (.aload_n 0, 1) := by decide +kernel
theorem dX9_forward_108 : decode cX9_forward 108 = .ok (.getfield 9, 3) := by decide +kernel
theorem dX9_forward_111 : decode cX9_forward 111 = .ok (.sipush 192, 3) := by decide +kernel
theorem dX9_forward_114 : decode cX9_forward 114 = .ok (.bipush 8, 2) := by decide +kernel
theorem dX9_forward_116 : decode cX9_forward 116 = .ok (.iload 7, 2) := by decide +kernel
theorem dX9_forward_118 : decode cX9_forward 118 = .ok (.imul, 1) := by decide +kernel
theorem dX9_forward_119 : decode cX9_forward 119 = .ok (.iadd, 1) := by decide +kernel
theorem dX9_forward_120 : decode cX9_forward 120 = .ok (.iload 11, 2) := by decide +kernel
theorem dX9_forward_122 : decode cX9_forward 122 = .ok (.iadd, 1) := by decide +kernel
theorem dX9_forward_123 : decode cX9_forward 123 = .ok (.iaload, 1) := by decide +kernel
theorem dX9_forward_124 : decode cX9_forward 124 = .ok (.i2l, 1) := by decide +kernel
theorem dX9_forward_125 : decode cX9_forward 125 = .ok (.aload_n 0, 1) := by decide +kernel
theorem dX9_forward_126 : decode cX9_forward 126 = .ok (.getfield 15, 3) := by decide +kernel
theorem dX9_forward_129 : decode cX9_forward 129 = .ok (.bipush 8, 2) := by decide +kernel
theorem dX9_forward_131 : decode cX9_forward 131 = .ok (.iload 11, 2) := by decide +kernel
theorem dX9_forward_133 : decode cX9_forward 133 = .ok (.imul, 1) := by decide +kernel
theorem dX9_forward_134 : decode cX9_forward 134 = .ok (.iload 8, 2) := by decide +kernel
theorem dX9_forward_136 : decode cX9_forward 136 = .ok (.iadd, 1) := by decide +kernel
theorem dX9_forward_137 : decode cX9_forward 137 = .ok (.laload, 1) := by decide +kernel
theorem dX9_forward_138 : decode cX9_forward 138 = .ok (.lmul, 1) := by decide +kernel
theorem dX9_forward_139 : decode cX9_forward 139 = .ok (.ladd, 1) := by decide +kernel
theorem dX9_forward_140 : decode cX9_forward 140 = .ok (.lstore 9, 2) := by decide +kernel
theorem dX9_forward_142 : decode cX9_forward 142 = .ok (.iinc 11 1, 3) := by decide +kernel
theorem dX9_forward_145 : decode cX9_forward 145 = .ok (.goto (-47), 3) := by decide +kernel
theorem dX9_forward_148 : decode cX9_forward 148 = .ok (.aload_n 0, 1) := by decide +kernel
theorem dX9_forward_149 : decode cX9_forward 149 = .ok (.getfield 19, 3) := by decide +kernel
theorem dX9_forward_152 : decode cX9_forward 152 = .ok (.bipush 8, 2) := by decide +kernel
theorem dX9_forward_154 : decode cX9_forward 154 = .ok (.iload 7, 2) := by decide +kernel
theorem dX9_forward_156 : decode cX9_forward 156 = .ok (.imul, 1) := by decide +kernel
theorem dX9_forward_157 : decode cX9_forward 157 = .ok (.iload 8, 2) := by decide +kernel
theorem dX9_forward_159 : decode cX9_forward 159 = .ok (.iadd, 1) := by decide +kernel
theorem dX9_forward_160 : decode cX9_forward 160 = .ok (.lload 9, 2) := by decide +kernel
theorem dX9_forward_162 : decode cX9_forward 162 = .ok (.bipush 11, 2) := by decide +kernel
theorem dX9_forward_164 : decode cX9_forward 164 = .ok (.invokestatic 44, 3) := by decide +kernel
theorem dX9_forward_167 : decode cX9_forward 167 = .ok (.lastore, 1) := by decide +kernel
theorem dX9_forward_168 : decode cX9_forward 168 = .ok (.iinc 8 1, 3) := by decide +kernel
theorem dX9_forward_171 : decode cX9_forward 171 = .ok (.goto (-86), 3) := by decide +kernel
theorem dX9_forward_174 : decode cX9_forward 174 = .ok (.iinc 7 1, 3) := by decide +kernel
theorem dX9_forward_177 : decode cX9_forward 177 = .ok (.goto (-102), 3) := by decide +kernel
theorem dX9_forward_180 : decode cX9_forward 180 = .ok (.iconst 0, 1) := by decide +kernel
theorem dX9_forward_181 : decode cX9_forward 181 = .ok (.istore 7, 2) := by decide +kernel
theorem dX9_forward_183 : decode cX9_forward 183 = .ok (.iload 7, 2) := by decide +kernel
theorem dX9_forward_185 : decode cX9_forward 185 = .ok (.bipush 64, 2) := by decide +kernel
theorem dX9_forward_187 : decode cX9_forward 187 = .ok (.if_icmp .ge 150, 3) := by decide +kernel
theorem dX9_forward_190 : decode cX9_forward 190 = .ok (.getstatic 35, 3) := by decide +kernel
theorem dX9_forward_193 : decode cX9_forward 193 = .ok (.iload 7, 2) := by decide +kernel
theorem dX9_forward_195 : decode cX9_forward 195 = .ok (.iaload, 1) := by decide +kernel
theorem dX9_forward_196 : decode cX9_forward 196 = .ok (.bipush 8, 2) := by decide +kernel
theorem dX9_forward_198 : decode cX9_forward 198 = .ok (.idiv, 1) := by decide +kernel
theorem dX9_forward_199 : decode cX9_forward 199 = .ok (.istore 8, 2) := by decide +kernel
theorem dX9_forward_201 : decode cX9_forward 201 = .ok (.getstatic 35, 3) := by decide +kernel
theorem dX9_forward_204 : decode cX9_forward 204 = .ok (.iload 7, 2) := by decide +kernel
theorem dX9_forward_206 : decode cX9_forward 206 = .ok (.iaload, 1) := by decide +kernel
theorem dX9_forward_207 : decode cX9_forward 207 = .ok (.bipush 8, 2) := by decide +kernel
theorem dX9_forward_209 : decode cX9_forward 209 = .ok (.irem, 1) := by decide +kernel
theorem dX9_forward_210 : decode cX9_forward 210 = .ok (.istore 9, 2) := by decide +kernel
theorem dX9_forward_212 : decode cX9_forward 212 = .ok (.lconst 0, 1) := by decide +kernel
theorem dX9_forward_213 : decode cX9_forward 213 = .ok (.lstore 10, 2) := by decide +kernel
theorem dX9_forward_215 : decode cX9_forward 215 = .ok (.iconst 0, 1) := by decide +kernel
theorem dX9_forward_216 : decode cX9_forward 216 = .ok (.istore 12, 2) := by decide +kernel
theorem dX9_forward_218 : decode cX9_forward 218 = .ok (.iload 12, 2) := by decide +kernel
theorem dX9_forward_220 : decode cX9_forward 220 = .ok (.bipush 8, 2) := by decide +kernel
theorem dX9_forward_222 : decode cX9_forward 222 = .ok (.if_icmp .ge 46, 3) := by decide +kernel
theorem dX9_forward_225 : decode cX9_forward 225 = .ok (.lload 10, 2) := by decide +kernel
theorem dX9_forward_227 : decode cX9_forward 227 = .ok (.aload_n 0, 1) := by decide +kernel
theorem dX9_forward_228 : decode cX9_forward 228 = .ok (.getfield 9, 3) := by decide +kernel
theorem dX9_forward_231 : decode cX9_forward 231 = .ok (.sipush 192, 3) := by decide +kernel
theorem dX9_forward_234 : decode cX9_forward 234 = .ok (.bipush 8, 2) := by decide +kernel
theorem dX9_forward_236 : decode cX9_forward 236 = .ok (.iload 9, 2) := by decide +kernel
theorem dX9_forward_238 : decode cX9_forward 238 = .ok (.imul, 1) := by decide +kernel
theorem dX9_forward_239 : decode cX9_forward 239 = .ok (.iadd, 1) := by decide +kernel
theorem dX9_forward_240 : decode cX9_forward 240 = .ok (.iload 12, 2) := by decide +kernel
theorem dX9_forward_242 : decode cX9_forward 242 = .ok (.iadd, 1) := by decide +kernel
theorem dX9_forward_243 : decode cX9_forward 243 = .ok (.iaload, 1) := by decide +kernel
theorem dX9_forward_244 : decode cX9_forward 244 = .ok (.i2l, 1) := by decide +kernel
theorem dX9_forward_245 : decode cX9_forward 245 = .ok (.aload_n 0, 1) := by decide +kernel
theorem dX9_forward_246 : decode cX9_forward 246 = .ok (.getfield 19, 3) := by decide +kernel
theorem dX9_forward_249 : decode cX9_forward 249 = .ok (.bipush 8, 2) := by decide +kernel
theorem dX9_forward_251 : decode cX9_forward 251 = .ok (.iload 8, 2) := by decide +kernel
theorem dX9_forward_253 : decode cX9_forward 253 = .ok (.imul, 1) := by decide +kernel
theorem dX9_forward_254 : decode cX9_forward 254 = .ok (.iload 12, 2) := by decide +kernel
theorem dX9_forward_256 : decode cX9_forward 256 = .ok (.iadd, 1) := by decide +kernel
theorem dX9_forward_257 : decode cX9_forward 257 = .ok (.laload, 1) := by decide +kernel
theorem dX9_forward_258 : decode cX9_forward 258 = .ok (.lmul, 1) := by decide +kernel
theorem dX9_forward_259 : decode cX9_forward 259 = .ok (.ladd, 1) := by decide +kernel
theorem dX9_forward_260 : decode cX9_forward 260 = .ok (.lstore 10, 2) := by decide +kernel
theorem dX9_forward_262 : decode cX9_forward 262 = .ok (.iinc 12 1, 3) := by decide +kernel
theorem dX9_forward_265 : decode cX9_forward 265 = .ok (.goto (-47), 3) := by decide +kernel
theorem dX9_forward_268 : decode cX9_forward 268 = .ok (.lload 10, 2) := by decide +kernel
theorem dX9_forward_270 : decode cX9_forward 270 = .ok (.bipush 17, 2) := by decide +kernel
theorem dX9_forward_272 : decode cX9_forward 272 = .ok (.invokestatic 44, 3) := by decide +kernel
theorem dX9_forward_275 : decode cX9_forward 275 = .ok (.l2i, 1) := by decide +kernel
theorem dX9_forward_276 : decode cX9_forward 276 = .ok (.aload_n 2, 1) := by decide +kernel
theorem dX9_forward_277 : decode cX9_forward 277 = .ok (.getfield 41, 3) := by decide +kernel
theorem dX9_forward_280 : decode cX9_forward 280 = .ok (.bipush 64, 2) := by decide +kernel
theorem dX9_forward_282 : decode cX9_forward 282 = .ok (.iload_n 3, 1) := by decide +kernel
theorem dX9_forward_283 : decode cX9_forward 283 = .ok (.imul, 1) := by decide +kernel
theorem dX9_forward_284 : decode cX9_forward 284 = .ok (.iload 7, 2) := by decide +kernel
theorem dX9_forward_286 : decode cX9_forward 286 = .ok (.iadd, 1) := by decide +kernel
theorem dX9_forward_287 : decode cX9_forward 287 = .ok (.iaload, 1) := by decide +kernel
theorem dX9_forward_288 : decode cX9_forward 288 = .ok (.invokestatic 70, 3) := by decide +kernel
theorem dX9_forward_291 : decode cX9_forward 291 = .ok (.istore 12, 2) := by decide +kernel
theorem dX9_forward_293 : decode cX9_forward 293 = .ok (.aload_n 2, 1) := by decide +kernel
theorem dX9_forward_294 : decode cX9_forward 294 = .ok (.getfield 38, 3) := by decide +kernel
theorem dX9_forward_297 : decode cX9_forward 297 = .ok (.bipush 64, 2) := by decide +kernel
theorem dX9_forward_299 : decode cX9_forward 299 = .ok (.iload 6, 2) := by decide +kernel
theorem dX9_forward_301 : decode cX9_forward 301 = .ok (.imul, 1) := by decide +kernel
theorem dX9_forward_302 : decode cX9_forward 302 = .ok (.iload 7, 2) := by decide +kernel
theorem dX9_forward_304 : decode cX9_forward 304 = .ok (.iadd, 1) := by decide +kernel
theorem dX9_forward_305 : decode cX9_forward 305 = .ok (.iload 7, 2) := by decide +kernel
theorem dX9_forward_307 : decode cX9_forward 307 = .ok (.ifCond .ne 9, 3) := by decide +kernel
theorem dX9_forward_310 : decode cX9_forward 310 = .ok (.sipush (-1024), 3) := by decide +kernel
theorem dX9_forward_313 : decode cX9_forward 313 = .ok (.goto 6, 3) := by decide +kernel
theorem dX9_forward_316 : decode cX9_forward 316 = .ok (.sipush (-1023), 3) := by decide +kernel
theorem dX9_forward_319 : decode cX9_forward 319 = .ok (.sipush 1023, 3) := by decide +kernel
theorem dX9_forward_322 : decode cX9_forward 322 = .ok (.iload 12, 2) := by decide +kernel
theorem dX9_forward_324 : decode cX9_forward 324 = .ok (.invokestatic 73, 3) := by decide +kernel
theorem dX9_forward_327 : decode cX9_forward 327 = .ok (.invokestatic 75, 3) := by decide +kernel
theorem dX9_forward_330 : decode cX9_forward 330 = .ok (.iastore, 1) := by decide +kernel
theorem dX9_forward_331 : decode cX9_forward 331 = .ok (.iinc 7 1, 3) := by decide +kernel
theorem dX9_forward_334 : decode cX9_forward 334 = .ok (.goto (-151), 3) := by decide +kernel
theorem dX9_forward_337 : decode cX9_forward 337 = .ok (.return_, 1) := by decide +kernel
theorem kcX9_forward_29 : px_cV mX9_forward 29 mX2_block 3 := ⟨⟨mbX2_block, by decide, by decide⟩, Or.inl (tb5 (List.mem_of_getElem? (i := 142) rfl)), vbX2_block⟩
theorem kcX9_forward_44 : px_cS mX9_forward 44 mX9_round 2 := ⟨⟨mbX9_round, by decide, by decide⟩, Or.inl (tb5 (List.mem_of_getElem? (i := 147) rfl)), tb5 (List.mem_of_getElem? (i := 148) rfl)⟩
theorem kcX9_forward_66 : px_cV mX9_forward 66 mX3_nearest 2 := ⟨⟨mbX3_nearest, by decide, by decide⟩, Or.inl (tb5 (List.mem_of_getElem? (i := 146) rfl)), vbX3_nearest⟩
theorem mbX9_nearestMultiple : px_mB mX9_nearestMultiple 2 := ⟨tb5 (List.mem_of_getElem? (i := 153) rfl), by decide +kernel, tb1 (List.mem_of_getElem? (i := 5) rfl), by decide +kernel, by decide +kernel⟩
theorem kcX9_forward_70 : px_cS mX9_forward 70 mX9_nearestMultiple 2 := ⟨⟨mbX9_nearestMultiple, by decide, by decide⟩, Or.inl (tb5 (List.mem_of_getElem? (i := 151) rfl)), tb5 (List.mem_of_getElem? (i := 152) rfl)⟩
set_option maxRecDepth 100000 in
set_option maxHeartbeats 4000000 in
theorem eX9_forward_319 {X : px_X} {k183 : Nat → Nat → Int32 → Int32 → Int32 → px_W → Option (px_W)} (hk183 : ∀ (a0 : Nat) (a2 : Nat) (a3 : Int32) (a6 : Int32) (a7 : Int32) (w : px_W) (q : px_W), k183 a0 a2 a3 a6 a7 w = some q → EV X mX9_forward 183 [(0, .ref a0), (2, .ref a2), (3, .int a3), (6, .int a6), (7, .int a7)] [] w none q) : ∀ (a0 : Nat) (a2 : Nat) (a3 : Int32) (a6 : Int32) (a7 : Int32) (a12 : Int32) (s0 : Int32) (s1 : Int32) (s2 : Nat) (w : px_W) (q : px_W), fX9_forward_319 X k183 a0 a2 a3 a6 a7 a12 s0 s1 s2 w = some q → EV X mX9_forward 319 [(0, .ref a0), (2, .ref a2), (3, .int a3), (6, .int a6), (7, .int a7), (12, .int a12)] [.int s0, .int s1, .ref s2] w none q := by
  intro a0 a2 a3 a6 a7 a12 s0 s1 s2 w q h
  unfold fX9_forward_319 at h
  refine EV.sipush (1023) dX9_forward_319 (by decide) ?_
  refine EV.iload 5 dX9_forward_322 rfl ?_
  refine EV.mmin dX9_forward_324 (tb5 (List.mem_of_getElem? (i := 155) rfl)) (by decide) (by decide) (Nat.le_of_ble_eq_true rfl) ?_
  refine EV.mmax dX9_forward_327 (tb5 (List.mem_of_getElem? (i := 156) rfl)) (by decide) (by decide) (Nat.le_of_ble_eq_true rfl) ?_
  obtain ⟨w30, gw30, h⟩ := px_bs h
  refine ev_sI dX9_forward_330 gw30 ?_
  refine EV.iinc 4 (a7 + 1) [(7, .int (a7 + 1)), (0, .ref a0), (2, .ref a2), (3, .int a3), (6, .int a6), (12, .int a12)] dX9_forward_331 rfl rfl (by decide) rfl ?_
  refine EV.goto 183 dX9_forward_334 (by decide) ?_
  refine EV.sub [1, 2, 3, 4, 0] rfl ?_
  exact hk183 _ _ _ _ _ _ _ h
set_option maxRecDepth 100000 in
set_option maxHeartbeats 4000000 in
theorem eX9_forward_268 {X : px_X} {k183 : Nat → Nat → Int32 → Int32 → Int32 → px_W → Option (px_W)} (hk183 : ∀ (a0 : Nat) (a2 : Nat) (a3 : Int32) (a6 : Int32) (a7 : Int32) (w : px_W) (q : px_W), k183 a0 a2 a3 a6 a7 w = some q → EV X mX9_forward 183 [(0, .ref a0), (2, .ref a2), (3, .int a3), (6, .int a6), (7, .int a7)] [] w none q) : ∀ (a0 : Nat) (a2 : Nat) (a3 : Int32) (a6 : Int32) (a7 : Int32) (a10 : Int64) (w : px_W) (q : px_W), fX9_forward_268 X k183 a0 a2 a3 a6 a7 a10 w = some q → EV X mX9_forward 268 [(0, .ref a0), (2, .ref a2), (3, .int a3), (6, .int a6), (7, .int a7), (10, .long a10)] [] w none q := by
  intro a0 a2 a3 a6 a7 a10 w q h
  unfold fX9_forward_268 at h
  refine EV.lload 5 dX9_forward_268 rfl ?_
  refine EV.bipush (17) dX9_forward_270 (by decide) ?_
  obtain ⟨q31, gq31, h⟩ := px_bs h
  refine EV.callS (As := [.long a10, .int 17]) (rest := []) dX9_forward_272 kcX9_forward_44 rfl (Nat.le_of_ble_eq_true rfl) (Nat.le_of_ble_eq_true rfl) (eX9_round gq31) ?_
  refine EV.l2i dX9_forward_275 ?_
  refine EV.aload_n 1 dX9_forward_276 rfl rfl ?_
  obtain ⟨v32, gv32, h⟩ := px_bs h
  refine ev_gR dX9_forward_277 flRX9_41 gv32 ?_
  refine EV.bipush (64) dX9_forward_280 (by decide) ?_
  refine EV.iload_n 2 dX9_forward_282 rfl rfl ?_
  refine EV.imul dX9_forward_283 ?_
  refine EV.iload 4 dX9_forward_284 rfl ?_
  refine EV.iadd dX9_forward_286 ?_
  obtain ⟨v33, gv33, h⟩ := px_bs h
  refine ev_aI dX9_forward_287 gv33 ?_
  obtain ⟨q34, gq34, h⟩ := px_bs h
  refine EV.callS (As := [.int q31.1.toInt32, .int v33]) (rest := []) dX9_forward_288 kcX9_forward_70 rfl (Nat.le_of_ble_eq_true rfl) (Nat.le_of_ble_eq_true rfl) (eX9_nearestMultiple gq34) ?_
  refine EV.istore [(12, .int q34.1), (0, .ref a0), (2, .ref a2), (3, .int a3), (6, .int a6), (7, .int a7), (10, .long a10)] dX9_forward_291 (by decide) rfl ?_
  refine EV.aload_n 2 dX9_forward_293 rfl rfl ?_
  obtain ⟨v35, gv35, h⟩ := px_bs h
  refine ev_gR dX9_forward_294 flRX9_38 gv35 ?_
  refine EV.bipush (64) dX9_forward_297 (by decide) ?_
  refine EV.iload 4 dX9_forward_299 rfl ?_
  refine EV.imul dX9_forward_301 ?_
  refine EV.iload 5 dX9_forward_302 rfl ?_
  refine EV.iadd dX9_forward_304 ?_
  refine EV.iload 5 dX9_forward_305 rfl ?_
  refine EV.if_ne 316 dX9_forward_307 (by decide) (fun c36 => ?_) (fun c36 => ?_)
  · rw [if_neg c36] at h
    refine EV.sipush ((-1023)) dX9_forward_316 (by decide) ?_
    refine EV.sub [1, 2, 3, 4, 5, 0] rfl ?_
    exact eX9_forward_319 hk183 _ _ _ _ _ _ _ _ _ _ _ h
  · rw [if_pos c36] at h
    refine EV.sipush ((-1024)) dX9_forward_310 (by decide) ?_
    refine EV.goto 319 dX9_forward_313 (by decide) ?_
    refine EV.sub [1, 2, 3, 4, 5, 0] rfl ?_
    exact eX9_forward_319 hk183 _ _ _ _ _ _ _ _ _ _ _ h
set_option maxRecDepth 100000 in
set_option maxHeartbeats 4000000 in
theorem eX9_forward_218 {X : px_X} {k183 : Nat → Nat → Int32 → Int32 → Int32 → px_W → Option (px_W)} (hk183 : ∀ (a0 : Nat) (a2 : Nat) (a3 : Int32) (a6 : Int32) (a7 : Int32) (w : px_W) (q : px_W), k183 a0 a2 a3 a6 a7 w = some q → EV X mX9_forward 183 [(0, .ref a0), (2, .ref a2), (3, .int a3), (6, .int a6), (7, .int a7)] [] w none q) : ∀ (m : Nat) (a0 : Nat) (a2 : Nat) (a3 : Int32) (a6 : Int32) (a7 : Int32) (a8 : Int32) (a9 : Int32) (a10 : Int64) (a12 : Int32) (w : px_W) (q : px_W), fX9_forward_218 X k183 m a0 a2 a3 a6 a7 a8 a9 a10 a12 w = some q → EV X mX9_forward 218 [(0, .ref a0), (2, .ref a2), (3, .int a3), (6, .int a6), (7, .int a7), (8, .int a8), (9, .int a9), (10, .long a10), (12, .int a12)] [] w none q := by
  intro m
  induction m with
  | zero => intro a0 a2 a3 a6 a7 a8 a9 a10 a12 w q h; cases h
  | succ m ih =>
    intro a0 a2 a3 a6 a7 a8 a9 a10 a12 w q h
    rw [fX9_forward_218.eq_2] at h
    refine EV.iload 8 dX9_forward_218 rfl ?_
    refine EV.bipush (8) dX9_forward_220 (by decide) ?_
    refine EV.icmp_ge 268 dX9_forward_222 (by decide) (fun c37 => ?_) (fun c37 => ?_)
    · rw [if_pos c37] at h
      refine EV.sub [0, 1, 2, 3, 4, 7] rfl ?_
      exact eX9_forward_268 hk183 _ _ _ _ _ _ _ _ h
    · rw [if_neg c37] at h
      refine EV.lload 7 dX9_forward_225 rfl ?_
      refine EV.aload_n 0 dX9_forward_227 rfl rfl ?_
      obtain ⟨v38, gv38, h⟩ := px_bs h
      refine ev_gR dX9_forward_228 flRX9_9 gv38 ?_
      refine EV.sipush (192) dX9_forward_231 (by decide) ?_
      refine EV.bipush (8) dX9_forward_234 (by decide) ?_
      refine EV.iload 6 dX9_forward_236 rfl ?_
      refine EV.imul dX9_forward_238 ?_
      refine EV.iadd dX9_forward_239 ?_
      refine EV.iload 8 dX9_forward_240 rfl ?_
      refine EV.iadd dX9_forward_242 ?_
      obtain ⟨v39, gv39, h⟩ := px_bs h
      refine ev_aI dX9_forward_243 gv39 ?_
      refine EV.i2l dX9_forward_244 ?_
      refine EV.aload_n 0 dX9_forward_245 rfl rfl ?_
      obtain ⟨v40, gv40, h⟩ := px_bs h
      refine ev_gR dX9_forward_246 flRX9_19 gv40 ?_
      refine EV.bipush (8) dX9_forward_249 (by decide) ?_
      refine EV.iload 5 dX9_forward_251 rfl ?_
      refine EV.imul dX9_forward_253 ?_
      refine EV.iload 8 dX9_forward_254 rfl ?_
      refine EV.iadd dX9_forward_256 ?_
      obtain ⟨v41, gv41, h⟩ := px_bs h
      refine ev_aJ dX9_forward_257 gv41 ?_
      refine EV.lmul dX9_forward_258 ?_
      refine EV.ladd dX9_forward_259 ?_
      refine EV.lstore [(10, .long (a10 + (v39.toInt64 * v41))), (0, .ref a0), (2, .ref a2), (3, .int a3), (6, .int a6), (7, .int a7), (8, .int a8), (9, .int a9), (12, .int a12)] dX9_forward_260 (by decide) rfl ?_
      refine EV.iinc 8 (a12 + 1) [(12, .int (a12 + 1)), (10, .long (a10 + (v39.toInt64 * v41))), (0, .ref a0), (2, .ref a2), (3, .int a3), (6, .int a6), (7, .int a7), (8, .int a8), (9, .int a9)] dX9_forward_262 rfl rfl (by decide) rfl ?_
      refine EV.goto 218 dX9_forward_265 (by decide) ?_
      refine EV.sub [2, 3, 4, 5, 6, 7, 8, 1, 0] rfl ?_
      exact ih _ _ _ _ _ _ _ _ _ _ _ h
set_option maxRecDepth 100000 in
set_option maxHeartbeats 4000000 in
theorem eX9_forward_183 {X : px_X}  : ∀ (m : Nat) (a0 : Nat) (a2 : Nat) (a3 : Int32) (a6 : Int32) (a7 : Int32) (w : px_W) (q : px_W), fX9_forward_183 X  m a0 a2 a3 a6 a7 w = some q → EV X mX9_forward 183 [(0, .ref a0), (2, .ref a2), (3, .int a3), (6, .int a6), (7, .int a7)] [] w none q := by
  intro m
  induction m with
  | zero => intro a0 a2 a3 a6 a7 w q h; cases h
  | succ m ih =>
    intro a0 a2 a3 a6 a7 w q h
    rw [fX9_forward_183.eq_2] at h
    refine EV.iload 4 dX9_forward_183 rfl ?_
    refine EV.bipush (64) dX9_forward_185 (by decide) ?_
    refine EV.icmp_ge 337 dX9_forward_187 (by decide) (fun c42 => ?_) (fun c42 => ?_)
    · rw [if_pos c42] at h
      cases h
      exact EV.ret0 dX9_forward_337 trivial
    · rw [if_neg c42] at h
      refine EV.getsN (k := 4) dX9_forward_190 rfl (tT5 (List.mem_of_getElem? (i := 150) rfl)) ?_
      refine EV.iload 4 dX9_forward_193 rfl ?_
      obtain ⟨v43, gv43, h⟩ := px_bs h
      refine ev_aX dX9_forward_195 gv43 ?_
      refine EV.bipush (8) dX9_forward_196 (by decide) ?_
      obtain ⟨v44, gv44, h⟩ := px_bs h
      refine ev_dI dX9_forward_198 gv44 ?_
      refine EV.istore [(8, .int v44), (0, .ref a0), (2, .ref a2), (3, .int a3), (6, .int a6), (7, .int a7)] dX9_forward_199 (by decide) rfl ?_
      refine EV.getsN (k := 4) dX9_forward_201 rfl (tT5 (List.mem_of_getElem? (i := 150) rfl)) ?_
      refine EV.iload 5 dX9_forward_204 rfl ?_
      obtain ⟨v45, gv45, h⟩ := px_bs h
      refine ev_aX dX9_forward_206 gv45 ?_
      refine EV.bipush (8) dX9_forward_207 (by decide) ?_
      obtain ⟨v46, gv46, h⟩ := px_bs h
      refine ev_rI dX9_forward_209 gv46 ?_
      refine EV.istore [(9, .int v46), (8, .int v44), (0, .ref a0), (2, .ref a2), (3, .int a3), (6, .int a6), (7, .int a7)] dX9_forward_210 (by decide) rfl ?_
      refine EV.lconst (0) dX9_forward_212 (by decide) ?_
      refine EV.lstore [(10, .long 0), (9, .int v46), (8, .int v44), (0, .ref a0), (2, .ref a2), (3, .int a3), (6, .int a6), (7, .int a7)] dX9_forward_213 (by decide) rfl ?_
      refine EV.iconst (0) dX9_forward_215 (by decide) ?_
      refine EV.istore [(12, .int 0), (10, .long 0), (9, .int v46), (8, .int v44), (0, .ref a0), (2, .ref a2), (3, .int a3), (6, .int a6), (7, .int a7)] dX9_forward_216 (by decide) rfl ?_
      refine EV.sub [4, 5, 6, 7, 8, 3, 2, 1, 0] rfl ?_
      exact eX9_forward_218 ih FU _ _ _ _ _ _ _ _ _ _ _ h
set_option maxRecDepth 100000 in
set_option maxHeartbeats 4000000 in
theorem eX9_forward_180 {X : px_X}  : ∀ (a0 : Nat) (a2 : Nat) (a3 : Int32) (a6 : Int32) (w : px_W) (q : px_W), fX9_forward_180 X  a0 a2 a3 a6 w = some q → EV X mX9_forward 180 [(0, .ref a0), (2, .ref a2), (3, .int a3), (6, .int a6)] [] w none q := by
  intro a0 a2 a3 a6 w q h
  unfold fX9_forward_180 at h
  refine EV.iconst (0) dX9_forward_180 (by decide) ?_
  refine EV.istore [(7, .int 0), (0, .ref a0), (2, .ref a2), (3, .int a3), (6, .int a6)] dX9_forward_181 (by decide) rfl ?_
  refine EV.sub [1, 2, 3, 4, 0] rfl ?_
  exact eX9_forward_183  FU _ _ _ _ _ _ _ h
set_option maxRecDepth 100000 in
set_option maxHeartbeats 4000000 in
theorem eX9_forward_148 {X : px_X} {k75 : Nat → Nat → Int32 → Int32 → Int32 → px_W → Option (px_W)} (hk75 : ∀ (a0 : Nat) (a2 : Nat) (a3 : Int32) (a6 : Int32) (a7 : Int32) (w : px_W) (q : px_W), k75 a0 a2 a3 a6 a7 w = some q → EV X mX9_forward 75 [(0, .ref a0), (2, .ref a2), (3, .int a3), (6, .int a6), (7, .int a7)] [] w none q) {k85 : Nat → Nat → Int32 → Int32 → Int32 → Int32 → px_W → Option (px_W)} (hk85 : ∀ (a0 : Nat) (a2 : Nat) (a3 : Int32) (a6 : Int32) (a7 : Int32) (a8 : Int32) (w : px_W) (q : px_W), k85 a0 a2 a3 a6 a7 a8 w = some q → EV X mX9_forward 85 [(0, .ref a0), (2, .ref a2), (3, .int a3), (6, .int a6), (7, .int a7), (8, .int a8)] [] w none q) : ∀ (a0 : Nat) (a2 : Nat) (a3 : Int32) (a6 : Int32) (a7 : Int32) (a8 : Int32) (a9 : Int64) (w : px_W) (q : px_W), fX9_forward_148 X k75 k85 a0 a2 a3 a6 a7 a8 a9 w = some q → EV X mX9_forward 148 [(0, .ref a0), (2, .ref a2), (3, .int a3), (6, .int a6), (7, .int a7), (8, .int a8), (9, .long a9)] [] w none q := by
  intro a0 a2 a3 a6 a7 a8 a9 w q h
  unfold fX9_forward_148 at h
  refine EV.aload_n 0 dX9_forward_148 rfl rfl ?_
  obtain ⟨v47, gv47, h⟩ := px_bs h
  refine ev_gR dX9_forward_149 flRX9_19 gv47 ?_
  refine EV.bipush (8) dX9_forward_152 (by decide) ?_
  refine EV.iload 4 dX9_forward_154 rfl ?_
  refine EV.imul dX9_forward_156 ?_
  refine EV.iload 5 dX9_forward_157 rfl ?_
  refine EV.iadd dX9_forward_159 ?_
  refine EV.lload 6 dX9_forward_160 rfl ?_
  refine EV.bipush (11) dX9_forward_162 (by decide) ?_
  obtain ⟨q48, gq48, h⟩ := px_bs h
  refine EV.callS (As := [.long a9, .int 11]) (rest := [.int ((8 * a7) + a8), .ref v47]) dX9_forward_164 kcX9_forward_44 rfl (Nat.le_of_ble_eq_true rfl) (Nat.le_of_ble_eq_true rfl) (eX9_round gq48) ?_
  obtain ⟨w49, gw49, h⟩ := px_bs h
  refine ev_sJ dX9_forward_167 gw49 ?_
  refine EV.iinc 5 (a8 + 1) [(8, .int (a8 + 1)), (0, .ref a0), (2, .ref a2), (3, .int a3), (6, .int a6), (7, .int a7), (9, .long a9)] dX9_forward_168 rfl rfl (by decide) rfl ?_
  refine EV.goto 85 dX9_forward_171 (by decide) ?_
  refine EV.sub [1, 2, 3, 4, 5, 0] rfl ?_
  exact hk85 _ _ _ _ _ _ _ _ h
set_option maxRecDepth 100000 in
set_option maxHeartbeats 4000000 in
theorem eX9_forward_98 {X : px_X} {k75 : Nat → Nat → Int32 → Int32 → Int32 → px_W → Option (px_W)} (hk75 : ∀ (a0 : Nat) (a2 : Nat) (a3 : Int32) (a6 : Int32) (a7 : Int32) (w : px_W) (q : px_W), k75 a0 a2 a3 a6 a7 w = some q → EV X mX9_forward 75 [(0, .ref a0), (2, .ref a2), (3, .int a3), (6, .int a6), (7, .int a7)] [] w none q) {k85 : Nat → Nat → Int32 → Int32 → Int32 → Int32 → px_W → Option (px_W)} (hk85 : ∀ (a0 : Nat) (a2 : Nat) (a3 : Int32) (a6 : Int32) (a7 : Int32) (a8 : Int32) (w : px_W) (q : px_W), k85 a0 a2 a3 a6 a7 a8 w = some q → EV X mX9_forward 85 [(0, .ref a0), (2, .ref a2), (3, .int a3), (6, .int a6), (7, .int a7), (8, .int a8)] [] w none q) : ∀ (m : Nat) (a0 : Nat) (a2 : Nat) (a3 : Int32) (a6 : Int32) (a7 : Int32) (a8 : Int32) (a9 : Int64) (a11 : Int32) (w : px_W) (q : px_W), fX9_forward_98 X k75 k85 m a0 a2 a3 a6 a7 a8 a9 a11 w = some q → EV X mX9_forward 98 [(0, .ref a0), (2, .ref a2), (3, .int a3), (6, .int a6), (7, .int a7), (8, .int a8), (9, .long a9), (11, .int a11)] [] w none q := by
  intro m
  induction m with
  | zero => intro a0 a2 a3 a6 a7 a8 a9 a11 w q h; cases h
  | succ m ih =>
    intro a0 a2 a3 a6 a7 a8 a9 a11 w q h
    rw [fX9_forward_98.eq_2] at h
    refine EV.iload 7 dX9_forward_98 rfl ?_
    refine EV.bipush (8) dX9_forward_100 (by decide) ?_
    refine EV.icmp_ge 148 dX9_forward_102 (by decide) (fun c50 => ?_) (fun c50 => ?_)
    · rw [if_pos c50] at h
      refine EV.sub [0, 1, 2, 3, 4, 5, 6] rfl ?_
      exact eX9_forward_148 hk75 hk85 _ _ _ _ _ _ _ _ _ h
    · rw [if_neg c50] at h
      refine EV.lload 6 dX9_forward_105 rfl ?_
      refine EV.aload_n 0 dX9_forward_107 rfl rfl ?_
      obtain ⟨v51, gv51, h⟩ := px_bs h
      refine ev_gR dX9_forward_108 flRX9_9 gv51 ?_
      refine EV.sipush (192) dX9_forward_111 (by decide) ?_
      refine EV.bipush (8) dX9_forward_114 (by decide) ?_
      refine EV.iload 4 dX9_forward_116 rfl ?_
      refine EV.imul dX9_forward_118 ?_
      refine EV.iadd dX9_forward_119 ?_
      refine EV.iload 7 dX9_forward_120 rfl ?_
      refine EV.iadd dX9_forward_122 ?_
      obtain ⟨v52, gv52, h⟩ := px_bs h
      refine ev_aI dX9_forward_123 gv52 ?_
      refine EV.i2l dX9_forward_124 ?_
      refine EV.aload_n 0 dX9_forward_125 rfl rfl ?_
      obtain ⟨v53, gv53, h⟩ := px_bs h
      refine ev_gR dX9_forward_126 flRX9_15 gv53 ?_
      refine EV.bipush (8) dX9_forward_129 (by decide) ?_
      refine EV.iload 7 dX9_forward_131 rfl ?_
      refine EV.imul dX9_forward_133 ?_
      refine EV.iload 5 dX9_forward_134 rfl ?_
      refine EV.iadd dX9_forward_136 ?_
      obtain ⟨v54, gv54, h⟩ := px_bs h
      refine ev_aJ dX9_forward_137 gv54 ?_
      refine EV.lmul dX9_forward_138 ?_
      refine EV.ladd dX9_forward_139 ?_
      refine EV.lstore [(9, .long (a9 + (v52.toInt64 * v54))), (0, .ref a0), (2, .ref a2), (3, .int a3), (6, .int a6), (7, .int a7), (8, .int a8), (11, .int a11)] dX9_forward_140 (by decide) rfl ?_
      refine EV.iinc 7 (a11 + 1) [(11, .int (a11 + 1)), (9, .long (a9 + (v52.toInt64 * v54))), (0, .ref a0), (2, .ref a2), (3, .int a3), (6, .int a6), (7, .int a7), (8, .int a8)] dX9_forward_142 rfl rfl (by decide) rfl ?_
      refine EV.goto 98 dX9_forward_145 (by decide) ?_
      refine EV.sub [2, 3, 4, 5, 6, 7, 1, 0] rfl ?_
      exact ih _ _ _ _ _ _ _ _ _ _ h
set_option maxRecDepth 100000 in
set_option maxHeartbeats 4000000 in
theorem eX9_forward_174 {X : px_X} {k75 : Nat → Nat → Int32 → Int32 → Int32 → px_W → Option (px_W)} (hk75 : ∀ (a0 : Nat) (a2 : Nat) (a3 : Int32) (a6 : Int32) (a7 : Int32) (w : px_W) (q : px_W), k75 a0 a2 a3 a6 a7 w = some q → EV X mX9_forward 75 [(0, .ref a0), (2, .ref a2), (3, .int a3), (6, .int a6), (7, .int a7)] [] w none q) : ∀ (a0 : Nat) (a2 : Nat) (a3 : Int32) (a6 : Int32) (a7 : Int32) (w : px_W) (q : px_W), fX9_forward_174 X k75 a0 a2 a3 a6 a7 w = some q → EV X mX9_forward 174 [(0, .ref a0), (2, .ref a2), (3, .int a3), (6, .int a6), (7, .int a7)] [] w none q := by
  intro a0 a2 a3 a6 a7 w q h
  unfold fX9_forward_174 at h
  refine EV.iinc 4 (a7 + 1) [(7, .int (a7 + 1)), (0, .ref a0), (2, .ref a2), (3, .int a3), (6, .int a6)] dX9_forward_174 rfl rfl (by decide) rfl ?_
  refine EV.goto 75 dX9_forward_177 (by decide) ?_
  refine EV.sub [1, 2, 3, 4, 0] rfl ?_
  exact hk75 _ _ _ _ _ _ _ h
set_option maxRecDepth 100000 in
set_option maxHeartbeats 4000000 in
theorem eX9_forward_85 {X : px_X} {k75 : Nat → Nat → Int32 → Int32 → Int32 → px_W → Option (px_W)} (hk75 : ∀ (a0 : Nat) (a2 : Nat) (a3 : Int32) (a6 : Int32) (a7 : Int32) (w : px_W) (q : px_W), k75 a0 a2 a3 a6 a7 w = some q → EV X mX9_forward 75 [(0, .ref a0), (2, .ref a2), (3, .int a3), (6, .int a6), (7, .int a7)] [] w none q) : ∀ (m : Nat) (a0 : Nat) (a2 : Nat) (a3 : Int32) (a6 : Int32) (a7 : Int32) (a8 : Int32) (w : px_W) (q : px_W), fX9_forward_85 X k75 m a0 a2 a3 a6 a7 a8 w = some q → EV X mX9_forward 85 [(0, .ref a0), (2, .ref a2), (3, .int a3), (6, .int a6), (7, .int a7), (8, .int a8)] [] w none q := by
  intro m
  induction m with
  | zero => intro a0 a2 a3 a6 a7 a8 w q h; cases h
  | succ m ih =>
    intro a0 a2 a3 a6 a7 a8 w q h
    rw [fX9_forward_85.eq_2] at h
    refine EV.iload 5 dX9_forward_85 rfl ?_
    refine EV.bipush (8) dX9_forward_87 (by decide) ?_
    refine EV.icmp_ge 174 dX9_forward_89 (by decide) (fun c55 => ?_) (fun c55 => ?_)
    · rw [if_pos c55] at h
      refine EV.sub [0, 1, 2, 3, 4] rfl ?_
      exact eX9_forward_174 hk75 _ _ _ _ _ _ _ h
    · rw [if_neg c55] at h
      refine EV.lconst (0) dX9_forward_92 (by decide) ?_
      refine EV.lstore [(9, .long 0), (0, .ref a0), (2, .ref a2), (3, .int a3), (6, .int a6), (7, .int a7), (8, .int a8)] dX9_forward_93 (by decide) rfl ?_
      refine EV.iconst (0) dX9_forward_95 (by decide) ?_
      refine EV.istore [(11, .int 0), (9, .long 0), (0, .ref a0), (2, .ref a2), (3, .int a3), (6, .int a6), (7, .int a7), (8, .int a8)] dX9_forward_96 (by decide) rfl ?_
      refine EV.sub [2, 3, 4, 5, 6, 7, 1, 0] rfl ?_
      exact eX9_forward_98 hk75 ih FU _ _ _ _ _ _ _ _ _ _ h
set_option maxRecDepth 100000 in
set_option maxHeartbeats 4000000 in
theorem eX9_forward_75 {X : px_X}  : ∀ (m : Nat) (a0 : Nat) (a2 : Nat) (a3 : Int32) (a6 : Int32) (a7 : Int32) (w : px_W) (q : px_W), fX9_forward_75 X  m a0 a2 a3 a6 a7 w = some q → EV X mX9_forward 75 [(0, .ref a0), (2, .ref a2), (3, .int a3), (6, .int a6), (7, .int a7)] [] w none q := by
  intro m
  induction m with
  | zero => intro a0 a2 a3 a6 a7 w q h; cases h
  | succ m ih =>
    intro a0 a2 a3 a6 a7 w q h
    rw [fX9_forward_75.eq_2] at h
    refine EV.iload 4 dX9_forward_75 rfl ?_
    refine EV.bipush (8) dX9_forward_77 (by decide) ?_
    refine EV.icmp_ge 180 dX9_forward_79 (by decide) (fun c56 => ?_) (fun c56 => ?_)
    · rw [if_pos c56] at h
      refine EV.sub [0, 1, 2, 3] rfl ?_
      exact eX9_forward_180  _ _ _ _ _ _ h
    · rw [if_neg c56] at h
      refine EV.iconst (0) dX9_forward_82 (by decide) ?_
      refine EV.istore [(8, .int 0), (0, .ref a0), (2, .ref a2), (3, .int a3), (6, .int a6), (7, .int a7)] dX9_forward_83 (by decide) rfl ?_
      refine EV.sub [1, 2, 3, 4, 5, 0] rfl ?_
      exact eX9_forward_85 ih FU _ _ _ _ _ _ _ _ h
set_option maxRecDepth 100000 in
set_option maxHeartbeats 4000000 in
theorem eX9_forward_72 {X : px_X}  : ∀ (a0 : Nat) (a2 : Nat) (a3 : Int32) (a6 : Int32) (w : px_W) (q : px_W), fX9_forward_72 X  a0 a2 a3 a6 w = some q → EV X mX9_forward 72 [(0, .ref a0), (2, .ref a2), (3, .int a3), (6, .int a6)] [] w none q := by
  intro a0 a2 a3 a6 w q h
  unfold fX9_forward_72 at h
  refine EV.iconst (0) dX9_forward_72 (by decide) ?_
  refine EV.istore [(7, .int 0), (0, .ref a0), (2, .ref a2), (3, .int a3), (6, .int a6)] dX9_forward_73 (by decide) rfl ?_
  refine EV.sub [1, 2, 3, 4, 0] rfl ?_
  exact eX9_forward_75  FU _ _ _ _ _ _ _ h
set_option maxRecDepth 100000 in
set_option maxHeartbeats 4000000 in
theorem eX9_forward_21 {X : px_X}  : ∀ (m : Nat) (a0 : Nat) (a1 : Nat) (a2 : Nat) (a3 : Int32) (a4 : Int32) (a5 : Int32) (a6 : Int32) (a7 : Int32) (w : px_W) (q : px_W), fX9_forward_21 X  m a0 a1 a2 a3 a4 a5 a6 a7 w = some q → EV X mX9_forward 21 [(0, .ref a0), (1, .ref a1), (2, .ref a2), (3, .int a3), (4, .int a4), (5, .int a5), (6, .int a6), (7, .int a7)] [] w none q := by
  intro m
  induction m with
  | zero => intro a0 a1 a2 a3 a4 a5 a6 a7 w q h; cases h
  | succ m ih =>
    intro a0 a1 a2 a3 a4 a5 a6 a7 w q h
    rw [fX9_forward_21.eq_2] at h
    refine EV.iload 7 dX9_forward_21 rfl ?_
    refine EV.bipush (64) dX9_forward_23 (by decide) ?_
    refine EV.icmp_ge 72 dX9_forward_25 (by decide) (fun c57 => ?_) (fun c57 => ?_)
    · rw [if_pos c57] at h
      refine EV.sub [0, 2, 3, 6] rfl ?_
      exact eX9_forward_72  _ _ _ _ _ _ h
    · rw [if_neg c57] at h
      refine EV.aload_n 0 dX9_forward_28 rfl rfl ?_
      obtain ⟨v58, gv58, h⟩ := px_bs h
      refine ev_gR dX9_forward_29 flRX9_15 gv58 ?_
      refine EV.iload 7 dX9_forward_32 rfl ?_
      refine EV.aload_n 1 dX9_forward_34 rfl rfl ?_
      refine EV.bipush (8) dX9_forward_35 (by decide) ?_
      refine EV.iload 4 dX9_forward_37 rfl ?_
      refine EV.imul dX9_forward_39 ?_
      refine EV.iload 7 dX9_forward_40 rfl ?_
      refine EV.bipush (8) dX9_forward_42 (by decide) ?_
      obtain ⟨v59, gv59, h⟩ := px_bs h
      refine ev_rI dX9_forward_44 gv59 ?_
      refine EV.iadd dX9_forward_45 ?_
      refine EV.bipush (8) dX9_forward_46 (by decide) ?_
      refine EV.iload 5 dX9_forward_48 rfl ?_
      refine EV.imul dX9_forward_50 ?_
      refine EV.iload 7 dX9_forward_51 rfl ?_
      refine EV.bipush (8) dX9_forward_53 (by decide) ?_
      obtain ⟨v60, gv60, h⟩ := px_bs h
      refine ev_dI dX9_forward_55 gv60 ?_
      refine EV.iadd dX9_forward_56 ?_
      obtain ⟨o61, go61, h⟩ := px_bs h
      obtain ⟨q62, gq62, h⟩ := px_bs h
      refine EV.callV (As := [.int ((8 * a4) + v59), .int ((8 * a5) + v60)]) (rest := [.int a7, .ref v58]) dX9_forward_57 kcX9_forward_66 (gO_ok go61) rfl rfl rfl (Nat.le_of_ble_eq_true rfl) (Nat.le_of_ble_eq_true rfl) (eX3_nearest gq62) ?_
      refine EV.sipush (128) dX9_forward_60 (by decide) ?_
      refine EV.isub dX9_forward_63 ?_
      refine EV.i2l dX9_forward_64 ?_
      obtain ⟨w63, gw63, h⟩ := px_bs h
      refine ev_sJ dX9_forward_65 gw63 ?_
      refine EV.iinc 7 (a7 + 1) [(7, .int (a7 + 1)), (0, .ref a0), (1, .ref a1), (2, .ref a2), (3, .int a3), (4, .int a4), (5, .int a5), (6, .int a6)] dX9_forward_66 rfl rfl (by decide) rfl ?_
      refine EV.goto 21 dX9_forward_69 (by decide) ?_
      refine EV.sub [1, 2, 3, 4, 5, 6, 7, 0] rfl ?_
      exact ih _ _ _ _ _ _ _ _ _ _ h
set_option maxRecDepth 100000 in
set_option maxHeartbeats 4000000 in
theorem eX9_forward {X : px_X} {w : px_W} {a0 : Nat} {a1 : Nat} {a2 : Nat} {a3 : Int32} {a4 : Int32} {a5 : Int32} {q : px_W} (h : fX9_forward X w a0 a1 a2 a3 a4 a5 = some q) : EV X mX9_forward 0 (lv_args 0 [.ref a0, .ref a1, .ref a2, .int a3, .int a4, .int a5]) [] w none q := by
  unfold fX9_forward at h
  show EV X mX9_forward 0 [(0, .ref a0), (1, .ref a1), (2, .ref a2), (3, .int a3), (4, .int a4), (5, .int a5)] [] w none q
  refine EV.aload_n 2 dX9_forward_0 rfl rfl ?_
  refine EV.iload_n 3 dX9_forward_1 rfl rfl ?_
  refine EV.iload 4 dX9_forward_2 rfl ?_
  refine EV.iload 5 dX9_forward_4 rfl ?_
  obtain ⟨o64, go64, h⟩ := px_bs h
  obtain ⟨q65, gq65, h⟩ := px_bs h
  refine EV.callV (As := [.int a3, .int a4, .int a5]) (rest := []) dX9_forward_6 kcX9_forward_29 (gO_ok go64) rfl rfl rfl (Nat.le_of_ble_eq_true rfl) (Nat.le_of_ble_eq_true rfl) (eX2_block gq65) ?_
  refine EV.istore [(6, .int q65.1), (0, .ref a0), (1, .ref a1), (2, .ref a2), (3, .int a3), (4, .int a4), (5, .int a5)] dX9_forward_9 (by decide) rfl ?_
  refine EV.iload 0 dX9_forward_11 rfl ?_
  refine EV.iconst ((-1)) dX9_forward_13 (by decide) ?_
  refine EV.icmp_ne 18 dX9_forward_14 (by decide) (fun c66 => ?_) (fun c66 => ?_)
  · rw [if_neg c66] at h
    refine EV.iconst (0) dX9_forward_18 (by decide) ?_
    refine EV.istore [(7, .int 0), (6, .int q65.1), (0, .ref a0), (1, .ref a1), (2, .ref a2), (3, .int a3), (4, .int a4), (5, .int a5)] dX9_forward_19 (by decide) rfl ?_
    refine EV.sub [2, 3, 4, 5, 6, 7, 1, 0] rfl ?_
    exact eX9_forward_21  FU _ _ _ _ _ _ _ _ _ _ h
  · rw [if_pos c66] at h
    cases h
    exact EV.ret0 dX9_forward_17 trivial
/-! WavePictures.<init>()V -/
theorem dX11_init_0 : decode cX11_init 0 = .ok (.aload_n 0, 1) := by decide +kernel
theorem dX11_init_1 : decode cX11_init 1 = .ok (.invokespecial 1, 3) := by decide +kernel
theorem dX11_init_4 : decode cX11_init 4 = .ok (.aload_n 0, 1) := by decide +kernel
theorem dX11_init_5 : decode cX11_init 5 = .ok (.new 7, 3) := by decide +kernel
theorem dX11_init_8 : decode cX11_init 8 = .ok (.dup, 1) := by decide +kernel
theorem dX11_init_9 : decode cX11_init 9 = .ok (.invokespecial 9, 3) := by decide +kernel
theorem dX11_init_12 : decode cX11_init 12 = .ok (.putfield 10, 3) := by decide +kernel
theorem dX11_init_15 : decode cX11_init 15 = .ok (.aload_n 0, 1) := by decide +kernel
theorem dX11_init_16 : decode cX11_init 16 = .ok (.new 7, 3) := by decide +kernel
theorem dX11_init_19 : decode cX11_init 19 = .ok (.dup, 1) := by decide +kernel
theorem dX11_init_20 : decode cX11_init 20 = .ok (.invokespecial 9, 3) := by decide +kernel
theorem dX11_init_23 : decode cX11_init 23 = .ok (.putfield 16, 3) := by decide +kernel
theorem dX11_init_26 : decode cX11_init 26 = .ok (.aload_n 0, 1) := by decide +kernel
theorem dX11_init_27 : decode cX11_init 27 = .ok (.new 7, 3) := by decide +kernel
theorem dX11_init_30 : decode cX11_init 30 = .ok (.dup, 1) := by decide +kernel
theorem dX11_init_31 : decode cX11_init 31 = .ok (.invokespecial 9, 3) := by decide +kernel
theorem dX11_init_34 : decode cX11_init 34 = .ok (.putfield 19, 3) := by decide +kernel
theorem dX11_init_37 : decode cX11_init 37 = .ok (.aload_n 0, 1) := by decide +kernel
theorem dX11_init_38 : decode cX11_init 38 = .ok (.new 22, 3) := by decide +kernel
theorem dX11_init_41 : decode cX11_init 41 = .ok (.dup, 1) := by decide +kernel
theorem dX11_init_42 : decode cX11_init 42 = .ok (.invokespecial 24, 3) := by decide +kernel
theorem dX11_init_45 : decode cX11_init 45 = .ok (.putfield 25, 3) := by decide +kernel
theorem dX11_init_48 : decode cX11_init 48 = .ok (.aload_n 0, 1) := by decide +kernel
theorem dX11_init_49 : decode cX11_init 49 = .ok (.new 22, 3) := by decide +kernel
theorem dX11_init_52 : decode cX11_init 52 = .ok (.dup, 1) := by decide +kernel
theorem dX11_init_53 : decode cX11_init 53 = .ok (.invokespecial 24, 3) := by decide +kernel
theorem dX11_init_56 : decode cX11_init 56 = .ok (.putfield 29, 3) := by decide +kernel
theorem dX11_init_59 : decode cX11_init 59 = .ok (.aload_n 0, 1) := by decide +kernel
theorem dX11_init_60 : decode cX11_init 60 = .ok (.iconst 4, 1) := by decide +kernel
theorem dX11_init_61 : decode cX11_init 61 = .ok (.anewarray 32, 3) := by decide +kernel
theorem dX11_init_64 : decode cX11_init 64 = .ok (.putfield 34, 3) := by decide +kernel
theorem dX11_init_67 : decode cX11_init 67 = .ok (.iconst 0, 1) := by decide +kernel
theorem dX11_init_68 : decode cX11_init 68 = .ok (.istore_n 1, 1) := by decide +kernel
theorem dX11_init_69 : decode cX11_init 69 = .ok (.iload_n 1, 1) := by decide +kernel
theorem dX11_init_70 : decode cX11_init 70 = .ok (.iconst 4, 1) := by decide +kernel
theorem dX11_init_71 : decode cX11_init 71 = .ok (.if_icmp .ge 22, 3) := by decide +kernel
theorem dX11_init_74 : decode cX11_init 74 = .ok (.aload_n 0, 1) := by decide +kernel
theorem dX11_init_75 : decode cX11_init 75 = .ok (.getfield 34, 3) := by decide +kernel
theorem dX11_init_78 : decode cX11_init 78 = .ok (.iload_n 1, 1) := by decide +kernel
theorem dX11_init_79 : decode cX11_init 79 = .ok (.new 32, 3) := by decide +kernel
theorem dX11_init_82 : decode cX11_init 82 = .ok (.dup, 1) := by decide +kernel
theorem dX11_init_83 : decode cX11_init 83 = .ok (.invokespecial 38, 3) := by decide +kernel
theorem dX11_init_86 : decode cX11_init 86 = .ok (.aastore, 1) := by decide +kernel
theorem dX11_init_87 : decode cX11_init 87 = .ok (.iinc 1 1, 3) := by decide +kernel
theorem dX11_init_90 : decode cX11_init 90 = .ok (.goto (-21), 3) := by decide +kernel
theorem dX11_init_93 : decode cX11_init 93 = .ok (.aload_n 0, 1) := by decide +kernel
theorem dX11_init_94 : decode cX11_init 94 = .ok (.new 32, 3) := by decide +kernel
theorem dX11_init_97 : decode cX11_init 97 = .ok (.dup, 1) := by decide +kernel
theorem dX11_init_98 : decode cX11_init 98 = .ok (.invokespecial 38, 3) := by decide +kernel
theorem dX11_init_101 : decode cX11_init 101 = .ok (.putfield 39, 3) := by decide +kernel
theorem dX11_init_104 : decode cX11_init 104 = .ok (.aload_n 0, 1) := by decide +kernel
theorem dX11_init_105 : decode cX11_init 105 = .ok (.new 32, 3) := by decide +kernel
theorem dX11_init_108 : decode cX11_init 108 = .ok (.dup, 1) := by decide +kernel
theorem dX11_init_109 : decode cX11_init 109 = .ok (.invokespecial 38, 3) := by decide +kernel
theorem dX11_init_112 : decode cX11_init 112 = .ok (.putfield 43, 3) := by decide +kernel
theorem dX11_init_115 : decode cX11_init 115 = .ok (.aload_n 0, 1) := by decide +kernel
theorem dX11_init_116 : decode cX11_init 116 = .ok (.new 46, 3) := by decide +kernel
theorem dX11_init_119 : decode cX11_init 119 = .ok (.dup, 1) := by decide +kernel
theorem dX11_init_120 : decode cX11_init 120 = .ok (.invokespecial 48, 3) := by decide +kernel
theorem dX11_init_123 : decode cX11_init 123 = .ok (.putfield 49, 3) := by decide +kernel
theorem dX11_init_126 : decode cX11_init 126 = .ok (.aload_n 0, 1) := by decide +kernel
theorem dX11_init_127 : decode cX11_init 127 = .ok (.new 53, 3) := by decide +kernel
theorem dX11_init_130 : decode cX11_init 130 = .ok (.dup, 1) := by decide +kernel
theorem dX11_init_131 : decode cX11_init 131 = .ok (.aload_n 0, 1) := by decide +kernel
theorem dX11_init_132 : decode cX11_init 132 = .ok (.getfield 10, 3) := by decide +kernel
theorem dX11_init_135 : decode cX11_init 135 = .ok (.aload_n 0, 1) := by decide +kernel
theorem dX11_init_136 : decode cX11_init 136 = .ok (.getfield 29, 3) := by decide +kernel
theorem dX11_init_139 : decode cX11_init 139 = .ok (.invokespecial 55, 3) := by decide +kernel
theorem dX11_init_142 : decode cX11_init 142 = .ok (.putfield 58, 3) := by decide +kernel
theorem dX11_init_145 : decode cX11_init 145 = .ok (.aload_n 0, 1) := by decide +kernel
theorem dX11_init_146 : decode cX11_init 146 = .ok (.new 62, 3) := by decide +kernel
theorem dX11_init_149 : decode cX11_init 149 = .ok (.dup, 1) := by decide +kernel
theorem dX11_init_150 : decode cX11_init 150 = .ok (.aload_n 0, 1) := by decide +kernel
theorem dX11_init_151 : decode cX11_init 151 = .ok (.getfield 10, 3) := by decide +kernel
theorem dX11_init_154 : decode cX11_init 154 = .ok (.aload_n 0, 1) := by decide +kernel
theorem dX11_init_155 : decode cX11_init 155 = .ok (.getfield 29, 3) := by decide +kernel
theorem dX11_init_158 : decode cX11_init 158 = .ok (.invokespecial 64, 3) := by decide +kernel
theorem dX11_init_161 : decode cX11_init 161 = .ok (.putfield 65, 3) := by decide +kernel
theorem dX11_init_164 : decode cX11_init 164 = .ok (.aload_n 0, 1) := by decide +kernel
theorem dX11_init_165 : decode cX11_init 165 = .ok (.new 69, 3) := by decide +kernel
theorem dX11_init_168 : decode cX11_init 168 = .ok (.dup, 1) := by decide +kernel
theorem dX11_init_169 : decode cX11_init 169 = .ok (.aload_n 0, 1) := by decide +kernel
theorem dX11_init_170 : decode cX11_init 170 = .ok (.getfield 19, 3) := by decide +kernel
theorem dX11_init_173 : decode cX11_init 173 = .ok (.aload_n 0, 1) := by decide +kernel
theorem dX11_init_174 : decode cX11_init 174 = .ok (.getfield 25, 3) := by decide +kernel
theorem dX11_init_177 : decode cX11_init 177 = .ok (.invokespecial 71, 3) := by decide +kernel
theorem dX11_init_180 : decode cX11_init 180 = .ok (.putfield 72, 3) := by decide +kernel
theorem dX11_init_183 : decode cX11_init 183 = .ok (.aload_n 0, 1) := by decide +kernel
theorem dX11_init_184 : decode cX11_init 184 = .ok (.iconst (-1), 1) := by decide +kernel
theorem dX11_init_185 : decode cX11_init 185 = .ok (.putfield 76, 3) := by decide +kernel
theorem dX11_init_188 : decode cX11_init 188 = .ok (.return_, 1) := by decide +kernel
theorem flRX11_10 : px_f RX11 10 11 0 := ⟨_, rfl, by decide, Or.inl (tb3 (List.mem_of_getElem? (i := 38) rfl))⟩
theorem flRX11_16 : px_f RX11 16 11 1 := ⟨_, rfl, by decide, Or.inl (tb3 (List.mem_of_getElem? (i := 39) rfl))⟩
theorem flRX11_19 : px_f RX11 19 11 2 := ⟨_, rfl, by decide, Or.inl (tb3 (List.mem_of_getElem? (i := 40) rfl))⟩
theorem flRX11_25 : px_f RX11 25 11 4 := ⟨_, rfl, by decide, Or.inl (tb3 (List.mem_of_getElem? (i := 42) rfl))⟩
theorem flRX11_29 : px_f RX11 29 11 5 := ⟨_, rfl, by decide, Or.inl (tb3 (List.mem_of_getElem? (i := 43) rfl))⟩
theorem flRX11_34 : px_f RX11 34 11 6 := ⟨_, rfl, by decide, Or.inl (tb3 (List.mem_of_getElem? (i := 44) rfl))⟩
theorem flRX11_76 : px_f RX11 76 11 14 := ⟨_, rfl, by decide, Or.inl (tb3 (List.mem_of_getElem? (i := 52) rfl))⟩
theorem nd1 : ∀ j, j < 3 → defaultValue (px_fty (RX1, TX1, 3) j) = vp_V [.null, .int 0, .int 0] j := by decide +kernel
theorem nd2 : ∀ j, j < 13 → defaultValue (px_fty (RX2, TX2, 13) j) = vp_V [.int 0, .int 0, .int 0, .int 0, .int 0, .int 0, .null, .null, .null, .null, .null, .null, .null] j := by decide +kernel
theorem nd3 : ∀ j, j < 3 → defaultValue (px_fty (RX3, TX3, 3) j) = vp_V [.int 0, .int 0, .null] j := by decide +kernel
theorem nd4 : ∀ j, j < 6 → defaultValue (px_fty (RX4, TX4, 6) j) = vp_V [.null, .null, .int 0, .null, .null, .null] j := by decide +kernel
theorem nd6 : ∀ j, j < 9 → defaultValue (px_fty (RX6, TX6, 9) j) = vp_V [.null, .null, .null, .int 0, .int 0, .int 0, .int 0, .int 0, .null] j := by decide +kernel
theorem nd8 : ∀ j, j < 20 → defaultValue (px_fty (RX8, TX8, 20) j) = vp_V [.null, .null, .null, .null, .int 0, .int 0, .int 0, .int 0, .int 0, .int 0, .int 0, .int 0, .int 0, .int 0, .int 0, .null, .null, .null, .null, .null] j := by decide +kernel
theorem nd9 : ∀ j, j < 3 → defaultValue (px_fty (RX9, TX9, 3) j) = vp_V [.null, .null, .null] j := by decide +kernel
theorem mbX1_init : px_mB mX1_init 0 := ⟨tb1 (List.mem_of_getElem? (i := 33) rfl), by decide +kernel, tb1 (List.mem_of_getElem? (i := 2) rfl), by decide +kernel, by decide +kernel⟩
theorem kcX11_init_9 : px_cI mX11_init 9 mX1_init 0 := ⟨⟨mbX1_init, by decide, by decide⟩, Or.inr ⟨"WavePictures", tT1 (List.mem_of_getElem? (i := 31) rfl)⟩, rfl, tb1 (List.mem_of_getElem? (i := 32) rfl), rfl⟩
theorem mbX2_init : px_mB mX2_init 0 := ⟨tb1 (List.mem_of_getElem? (i := 54) rfl), by decide +kernel, tb1 (List.mem_of_getElem? (i := 3) rfl), by decide +kernel, by decide +kernel⟩
theorem kcX11_init_24 : px_cI mX11_init 24 mX2_init 0 := ⟨⟨mbX2_init, by decide, by decide⟩, Or.inr ⟨"WavePictures", tT1 (List.mem_of_getElem? (i := 52) rfl)⟩, rfl, tb1 (List.mem_of_getElem? (i := 53) rfl), rfl⟩
theorem mbX3_init : px_mB mX3_init 0 := ⟨tb1 (List.mem_of_getElem? (i := 134) rfl), by decide +kernel, tb1 (List.mem_of_getElem? (i := 4) rfl), by decide +kernel, by decide +kernel⟩
theorem kcX11_init_38 : px_cI mX11_init 38 mX3_init 0 := ⟨⟨mbX3_init, by decide, by decide⟩, Or.inr ⟨"WavePictures", tT1 (List.mem_of_getElem? (i := 132) rfl)⟩, rfl, tb1 (List.mem_of_getElem? (i := 133) rfl), rfl⟩
theorem mbX9_init : px_mB mX9_init 0 := ⟨tb1 (List.mem_of_getElem? (i := 154) rfl), by decide +kernel, tb1 (List.mem_of_getElem? (i := 5) rfl), by decide +kernel, by decide +kernel⟩
theorem kcX11_init_48 : px_cI mX11_init 48 mX9_init 0 := ⟨⟨mbX9_init, by decide, by decide⟩, Or.inl (tb1 (List.mem_of_getElem? (i := 152) rfl)), rfl, tb1 (List.mem_of_getElem? (i := 153) rfl), rfl⟩
theorem mbX8_init : px_mB mX8_init 2 := ⟨tb1 (List.mem_of_getElem? (i := 176) rfl), by decide +kernel, tb1 (List.mem_of_getElem? (i := 6) rfl), by decide +kernel, by decide +kernel⟩
theorem kcX11_init_55 : px_cI mX11_init 55 mX8_init 2 := ⟨⟨mbX8_init, by decide, by decide⟩, Or.inl (tb1 (List.mem_of_getElem? (i := 174) rfl)), rfl, tb1 (List.mem_of_getElem? (i := 175) rfl), rfl⟩
theorem mbX6_init : px_mB mX6_init 2 := ⟨tb2 (List.mem_of_getElem? (i := 129) rfl), by decide +kernel, tb1 (List.mem_of_getElem? (i := 9) rfl), by decide +kernel, by decide +kernel⟩
theorem kcX11_init_64 : px_cI mX11_init 64 mX6_init 2 := ⟨⟨mbX6_init, by decide, by decide⟩, Or.inl (tb2 (List.mem_of_getElem? (i := 127) rfl)), rfl, tb2 (List.mem_of_getElem? (i := 128) rfl), rfl⟩
theorem mbX4_init : px_mB mX4_init 2 := ⟨tb2 (List.mem_of_getElem? (i := 165) rfl), by decide +kernel, tb1 (List.mem_of_getElem? (i := 10) rfl), by decide +kernel, by decide +kernel⟩
theorem kcX11_init_71 : px_cI mX11_init 71 mX4_init 2 := ⟨⟨mbX4_init, by decide, by decide⟩, Or.inl (tb2 (List.mem_of_getElem? (i := 163) rfl)), rfl, tb2 (List.mem_of_getElem? (i := 164) rfl), rfl⟩
set_option maxRecDepth 100000 in
set_option maxHeartbeats 4000000 in
theorem eX11_init_93 {X : px_X}  : ∀ (a0 : Nat) (w : px_W) (q : px_W), fX11_init_93 X  a0 w = some q → EV X mX11_init 93 [(0, .ref a0)] [] w none q := by
  intro a0 w q h
  unfold fX11_init_93 at h
  refine EV.aload_n 0 dX11_init_93 rfl rfl ?_
  obtain ⟨q47, gq47, h⟩ := px_bs h
  refine ev_nO (q := (RX3, TX3, 3)) dX11_init_94 rfl rfl (tb1 (List.mem_of_getElem? (i := 129) rfl)) (tb1 (List.mem_of_getElem? (i := 131) rfl)) (tb1 (List.mem_of_getElem? (i := 4) rfl)) nd3 gq47 ?_
  refine EV.dup dX11_init_97 rfl ?_
  obtain ⟨q48, gq48, h⟩ := px_bs h
  refine EV.callI (As := []) (rest := [.ref q47.1, .ref a0]) dX11_init_98 kcX11_init_38 rfl (Nat.le_of_ble_eq_true rfl) (Nat.le_of_ble_eq_true rfl) (eX3_init gq48) ?_
  obtain ⟨w49, gw49, h⟩ := px_bs h
  refine ev_pF dX11_init_101 (ci := 11) (k := 7) rfl (by decide) (tb3 (List.mem_of_getElem? (i := 45) rfl)) rfl rfl rfl rfl rfl gw49 ?_
  refine EV.aload_n 0 dX11_init_104 rfl rfl ?_
  obtain ⟨q50, gq50, h⟩ := px_bs h
  refine ev_nO (q := (RX3, TX3, 3)) dX11_init_105 rfl rfl (tb1 (List.mem_of_getElem? (i := 129) rfl)) (tb1 (List.mem_of_getElem? (i := 131) rfl)) (tb1 (List.mem_of_getElem? (i := 4) rfl)) nd3 gq50 ?_
  refine EV.dup dX11_init_108 rfl ?_
  obtain ⟨q51, gq51, h⟩ := px_bs h
  refine EV.callI (As := []) (rest := [.ref q50.1, .ref a0]) dX11_init_109 kcX11_init_38 rfl (Nat.le_of_ble_eq_true rfl) (Nat.le_of_ble_eq_true rfl) (eX3_init gq51) ?_
  obtain ⟨w52, gw52, h⟩ := px_bs h
  refine ev_pF dX11_init_112 (ci := 11) (k := 8) rfl (by decide) (tb3 (List.mem_of_getElem? (i := 46) rfl)) rfl rfl rfl rfl rfl gw52 ?_
  refine EV.aload_n 0 dX11_init_115 rfl rfl ?_
  obtain ⟨q53, gq53, h⟩ := px_bs h
  refine ev_nO (q := (RX9, TX9, 3)) dX11_init_116 rfl rfl (tb1 (List.mem_of_getElem? (i := 150) rfl)) (tb1 (List.mem_of_getElem? (i := 151) rfl)) (tb1 (List.mem_of_getElem? (i := 5) rfl)) nd9 gq53 ?_
  refine EV.dup dX11_init_119 rfl ?_
  obtain ⟨q54, gq54, h⟩ := px_bs h
  refine EV.callI (As := []) (rest := [.ref q53.1, .ref a0]) dX11_init_120 kcX11_init_48 rfl (Nat.le_of_ble_eq_true rfl) (Nat.le_of_ble_eq_true rfl) (eX9_init gq54) ?_
  obtain ⟨w55, gw55, h⟩ := px_bs h
  refine ev_pF dX11_init_123 (ci := 11) (k := 9) rfl (by decide) (tb3 (List.mem_of_getElem? (i := 47) rfl)) rfl rfl rfl rfl rfl gw55 ?_
  refine EV.aload_n 0 dX11_init_126 rfl rfl ?_
  obtain ⟨q56, gq56, h⟩ := px_bs h
  refine ev_nO (q := (RX8, TX8, 20)) dX11_init_127 rfl rfl (tb1 (List.mem_of_getElem? (i := 172) rfl)) (tb1 (List.mem_of_getElem? (i := 173) rfl)) (tb1 (List.mem_of_getElem? (i := 6) rfl)) nd8 gq56 ?_
  refine EV.dup dX11_init_130 rfl ?_
  refine EV.aload_n 0 dX11_init_131 rfl rfl ?_
  obtain ⟨v57, gv57, h⟩ := px_bs h
  refine ev_gR dX11_init_132 flRX11_10 gv57 ?_
  refine EV.aload_n 0 dX11_init_135 rfl rfl ?_
  obtain ⟨v58, gv58, h⟩ := px_bs h
  refine ev_gR dX11_init_136 flRX11_29 gv58 ?_
  obtain ⟨q59, gq59, h⟩ := px_bs h
  refine EV.callI (As := [.ref v57, .ref v58]) (rest := [.ref q56.1, .ref a0]) dX11_init_139 kcX11_init_55 rfl (Nat.le_of_ble_eq_true rfl) (Nat.le_of_ble_eq_true rfl) (eX8_init gq59) ?_
  obtain ⟨w60, gw60, h⟩ := px_bs h
  refine ev_pF dX11_init_142 (ci := 11) (k := 10) rfl (by decide) (tb3 (List.mem_of_getElem? (i := 48) rfl)) rfl rfl rfl rfl rfl gw60 ?_
  refine EV.aload_n 0 dX11_init_145 rfl rfl ?_
  obtain ⟨q61, gq61, h⟩ := px_bs h
  refine ev_nO (q := (RX6, TX6, 9)) dX11_init_146 rfl rfl (tb2 (List.mem_of_getElem? (i := 125) rfl)) (tb2 (List.mem_of_getElem? (i := 126) rfl)) (tb1 (List.mem_of_getElem? (i := 9) rfl)) nd6 gq61 ?_
  refine EV.dup dX11_init_149 rfl ?_
  refine EV.aload_n 0 dX11_init_150 rfl rfl ?_
  obtain ⟨v62, gv62, h⟩ := px_bs h
  refine ev_gR dX11_init_151 flRX11_10 gv62 ?_
  refine EV.aload_n 0 dX11_init_154 rfl rfl ?_
  obtain ⟨v63, gv63, h⟩ := px_bs h
  refine ev_gR dX11_init_155 flRX11_29 gv63 ?_
  obtain ⟨q64, gq64, h⟩ := px_bs h
  refine EV.callI (As := [.ref v62, .ref v63]) (rest := [.ref q61.1, .ref a0]) dX11_init_158 kcX11_init_64 rfl (Nat.le_of_ble_eq_true rfl) (Nat.le_of_ble_eq_true rfl) (eX6_init gq64) ?_
  obtain ⟨w65, gw65, h⟩ := px_bs h
  refine ev_pF dX11_init_161 (ci := 11) (k := 11) rfl (by decide) (tb3 (List.mem_of_getElem? (i := 49) rfl)) rfl rfl rfl rfl rfl gw65 ?_
  refine EV.aload_n 0 dX11_init_164 rfl rfl ?_
  obtain ⟨q66, gq66, h⟩ := px_bs h
  refine ev_nO (q := (RX4, TX4, 6)) dX11_init_165 rfl rfl (tb2 (List.mem_of_getElem? (i := 161) rfl)) (tb2 (List.mem_of_getElem? (i := 162) rfl)) (tb1 (List.mem_of_getElem? (i := 10) rfl)) nd4 gq66 ?_
  refine EV.dup dX11_init_168 rfl ?_
  refine EV.aload_n 0 dX11_init_169 rfl rfl ?_
  obtain ⟨v67, gv67, h⟩ := px_bs h
  refine ev_gR dX11_init_170 flRX11_19 gv67 ?_
  refine EV.aload_n 0 dX11_init_173 rfl rfl ?_
  obtain ⟨v68, gv68, h⟩ := px_bs h
  refine ev_gR dX11_init_174 flRX11_25 gv68 ?_
  obtain ⟨q69, gq69, h⟩ := px_bs h
  refine EV.callI (As := [.ref v67, .ref v68]) (rest := [.ref q66.1, .ref a0]) dX11_init_177 kcX11_init_71 rfl (Nat.le_of_ble_eq_true rfl) (Nat.le_of_ble_eq_true rfl) (eX4_init gq69) ?_
  obtain ⟨w70, gw70, h⟩ := px_bs h
  refine ev_pF dX11_init_180 (ci := 11) (k := 12) rfl (by decide) (tb3 (List.mem_of_getElem? (i := 50) rfl)) rfl rfl rfl rfl rfl gw70 ?_
  refine EV.aload_n 0 dX11_init_183 rfl rfl ?_
  refine EV.iconst ((-1)) dX11_init_184 (by decide) ?_
  obtain ⟨w71, gw71, h⟩ := px_bs h
  refine ev_pV dX11_init_185 flRX11_76 rfl rfl rfl rfl gw71 ?_
  cases h
  exact EV.ret0 dX11_init_188 trivial
set_option maxRecDepth 100000 in
set_option maxHeartbeats 4000000 in
theorem eX11_init_69 {X : px_X}  : ∀ (m : Nat) (a0 : Nat) (a1 : Int32) (w : px_W) (q : px_W), fX11_init_69 X  m a0 a1 w = some q → EV X mX11_init 69 [(0, .ref a0), (1, .int a1)] [] w none q := by
  intro m
  induction m with
  | zero => intro a0 a1 w q h; cases h
  | succ m ih =>
    intro a0 a1 w q h
    rw [fX11_init_69.eq_2] at h
    refine EV.iload_n 1 dX11_init_69 rfl rfl ?_
    refine EV.iconst (4) dX11_init_70 (by decide) ?_
    refine EV.icmp_ge 93 dX11_init_71 (by decide) (fun c72 => ?_) (fun c72 => ?_)
    · rw [if_pos c72] at h
      refine EV.sub [0] rfl ?_
      exact eX11_init_93  _ _ _ h
    · rw [if_neg c72] at h
      refine EV.aload_n 0 dX11_init_74 rfl rfl ?_
      obtain ⟨v73, gv73, h⟩ := px_bs h
      refine ev_gR dX11_init_75 flRX11_34 gv73 ?_
      refine EV.iload_n 1 dX11_init_78 rfl rfl ?_
      obtain ⟨q74, gq74, h⟩ := px_bs h
      refine ev_nO (q := (RX3, TX3, 3)) dX11_init_79 rfl rfl (tb1 (List.mem_of_getElem? (i := 129) rfl)) (tb1 (List.mem_of_getElem? (i := 131) rfl)) (tb1 (List.mem_of_getElem? (i := 4) rfl)) nd3 gq74 ?_
      refine EV.dup dX11_init_82 rfl ?_
      obtain ⟨q75, gq75, h⟩ := px_bs h
      refine EV.callI (As := []) (rest := [.ref q74.1, .int a1, .ref v73]) dX11_init_83 kcX11_init_38 rfl (Nat.le_of_ble_eq_true rfl) (Nat.le_of_ble_eq_true rfl) (eX3_init gq75) ?_
      obtain ⟨w76, gw76, h⟩ := px_bs h
      refine ev_sQ dX11_init_86 (ci := 3) rfl rfl gw76 ?_
      refine EV.iinc 1 (a1 + 1) [(1, .int (a1 + 1)), (0, .ref a0)] dX11_init_87 rfl rfl (by decide) rfl ?_
      refine EV.goto 69 dX11_init_90 (by decide) ?_
      refine EV.sub [1, 0] rfl ?_
      exact ih _ _ _ _ h
set_option maxRecDepth 100000 in
set_option maxHeartbeats 4000000 in
theorem eX11_init {X : px_X} {w : px_W} {a0 : Nat} {q : px_W} (h : fX11_init X w a0 = some q) : EV X mX11_init 0 (lv_args 0 [.ref a0]) [] w none q := by
  unfold fX11_init at h
  show EV X mX11_init 0 [(0, .ref a0)] [] w none q
  refine EV.aload_n 0 dX11_init_0 rfl rfl ?_
  refine EV.objI dX11_init_1 (tb1 (List.mem_of_getElem? (i := 26) rfl)) (by decide) (by decide) (Nat.le_of_ble_eq_true rfl) ?_
  refine EV.aload_n 0 dX11_init_4 rfl rfl ?_
  obtain ⟨q77, gq77, h⟩ := px_bs h
  refine ev_nO (q := (RX1, TX1, 3)) dX11_init_5 rfl rfl (tb1 (List.mem_of_getElem? (i := 29) rfl)) (tb1 (List.mem_of_getElem? (i := 30) rfl)) (tb1 (List.mem_of_getElem? (i := 2) rfl)) nd1 gq77 ?_
  refine EV.dup dX11_init_8 rfl ?_
  obtain ⟨q78, gq78, h⟩ := px_bs h
  refine EV.callI (As := []) (rest := [.ref q77.1, .ref a0]) dX11_init_9 kcX11_init_9 rfl (Nat.le_of_ble_eq_true rfl) (Nat.le_of_ble_eq_true rfl) (eX1_init gq78) ?_
  obtain ⟨w79, gw79, h⟩ := px_bs h
  refine ev_pF dX11_init_12 (ci := 11) (k := 0) rfl (by decide) (tb3 (List.mem_of_getElem? (i := 38) rfl)) rfl rfl rfl rfl rfl gw79 ?_
  refine EV.aload_n 0 dX11_init_15 rfl rfl ?_
  obtain ⟨q80, gq80, h⟩ := px_bs h
  refine ev_nO (q := (RX1, TX1, 3)) dX11_init_16 rfl rfl (tb1 (List.mem_of_getElem? (i := 29) rfl)) (tb1 (List.mem_of_getElem? (i := 30) rfl)) (tb1 (List.mem_of_getElem? (i := 2) rfl)) nd1 gq80 ?_
  refine EV.dup dX11_init_19 rfl ?_
  obtain ⟨q81, gq81, h⟩ := px_bs h
  refine EV.callI (As := []) (rest := [.ref q80.1, .ref a0]) dX11_init_20 kcX11_init_9 rfl (Nat.le_of_ble_eq_true rfl) (Nat.le_of_ble_eq_true rfl) (eX1_init gq81) ?_
  obtain ⟨w82, gw82, h⟩ := px_bs h
  refine ev_pV dX11_init_23 flRX11_16 rfl rfl rfl rfl gw82 ?_
  refine EV.aload_n 0 dX11_init_26 rfl rfl ?_
  obtain ⟨q83, gq83, h⟩ := px_bs h
  refine ev_nO (q := (RX1, TX1, 3)) dX11_init_27 rfl rfl (tb1 (List.mem_of_getElem? (i := 29) rfl)) (tb1 (List.mem_of_getElem? (i := 30) rfl)) (tb1 (List.mem_of_getElem? (i := 2) rfl)) nd1 gq83 ?_
  refine EV.dup dX11_init_30 rfl ?_
  obtain ⟨q84, gq84, h⟩ := px_bs h
  refine EV.callI (As := []) (rest := [.ref q83.1, .ref a0]) dX11_init_31 kcX11_init_9 rfl (Nat.le_of_ble_eq_true rfl) (Nat.le_of_ble_eq_true rfl) (eX1_init gq84) ?_
  obtain ⟨w85, gw85, h⟩ := px_bs h
  refine ev_pV dX11_init_34 flRX11_19 rfl rfl rfl rfl gw85 ?_
  refine EV.aload_n 0 dX11_init_37 rfl rfl ?_
  obtain ⟨q86, gq86, h⟩ := px_bs h
  refine ev_nO (q := (RX2, TX2, 13)) dX11_init_38 rfl rfl (tb1 (List.mem_of_getElem? (i := 50) rfl)) (tb1 (List.mem_of_getElem? (i := 51) rfl)) (tb1 (List.mem_of_getElem? (i := 3) rfl)) nd2 gq86 ?_
  refine EV.dup dX11_init_41 rfl ?_
  obtain ⟨q87, gq87, h⟩ := px_bs h
  refine EV.callI (As := []) (rest := [.ref q86.1, .ref a0]) dX11_init_42 kcX11_init_24 rfl (Nat.le_of_ble_eq_true rfl) (Nat.le_of_ble_eq_true rfl) (eX2_init gq87) ?_
  obtain ⟨w88, gw88, h⟩ := px_bs h
  refine ev_pV dX11_init_45 flRX11_25 rfl rfl rfl rfl gw88 ?_
  refine EV.aload_n 0 dX11_init_48 rfl rfl ?_
  obtain ⟨q89, gq89, h⟩ := px_bs h
  refine ev_nO (q := (RX2, TX2, 13)) dX11_init_49 rfl rfl (tb1 (List.mem_of_getElem? (i := 50) rfl)) (tb1 (List.mem_of_getElem? (i := 51) rfl)) (tb1 (List.mem_of_getElem? (i := 3) rfl)) nd2 gq89 ?_
  refine EV.dup dX11_init_52 rfl ?_
  obtain ⟨q90, gq90, h⟩ := px_bs h
  refine EV.callI (As := []) (rest := [.ref q89.1, .ref a0]) dX11_init_53 kcX11_init_24 rfl (Nat.le_of_ble_eq_true rfl) (Nat.le_of_ble_eq_true rfl) (eX2_init gq90) ?_
  obtain ⟨w91, gw91, h⟩ := px_bs h
  refine ev_pV dX11_init_56 flRX11_29 rfl rfl rfl rfl gw91 ?_
  refine EV.aload_n 0 dX11_init_59 rfl rfl ?_
  refine EV.iconst (4) dX11_init_60 (by decide) ?_
  obtain ⟨q92, gq92, h⟩ := px_bs h
  refine ev_nQ dX11_init_61 (t := 6) rfl (tb1 (List.mem_of_getElem? (i := 129) rfl)) (List.mem_of_getElem? (i := 130) (by decide +kernel)) gq92 ?_
  obtain ⟨w93, gw93, h⟩ := px_bs h
  refine ev_pF dX11_init_64 (ci := 11) (k := 6) rfl (by decide) (tb3 (List.mem_of_getElem? (i := 44) rfl)) rfl rfl rfl rfl rfl gw93 ?_
  refine EV.iconst (0) dX11_init_67 (by decide) ?_
  refine EV.istore_n [(1, .int 0), (0, .ref a0)] dX11_init_68 rfl (by decide) rfl ?_
  refine EV.sub [1, 0] rfl ?_
  exact eX11_init_69  FU _ _ _ _ h
/-! WavePictures.giveInput(JI)Z -/
theorem dX11_giveInput_0 : decode cX11_giveInput 0 = .ok (.iload_n 3, 1) := by decide +kernel
theorem dX11_giveInput_1 : decode cX11_giveInput 1 = .ok (.iconst 1, 1) := by decide +kernel
theorem dX11_giveInput_2 : decode cX11_giveInput 2 = .ok (.if_icmp .lt 24, 3) := by decide +kernel
theorem dX11_giveInput_5 : decode cX11_giveInput 5 = .ok (.iload_n 3, 1) := by decide +kernel
theorem dX11_giveInput_6 : decode cX11_giveInput 6 = .ok (.bipush 8, 2) := by decide +kernel
theorem dX11_giveInput_8 : decode cX11_giveInput 8 = .ok (.if_icmp .gt 18, 3) := by decide +kernel
theorem dX11_giveInput_11 : decode cX11_giveInput 11 = .ok (.aload_n 0, 1) := by decide +kernel
theorem dX11_giveInput_12 : decode cX11_giveInput 12 = .ok (.getfield 10, 3) := by decide +kernel
theorem dX11_giveInput_15 : decode cX11_giveInput 15 = .ok (.getfield 80, 3) := by decide +kernel
theorem dX11_giveInput_18 : decode cX11_giveInput 18 = .ok (.iload_n 3, 1) := by decide +kernel
theorem dX11_giveInput_19 : decode cX11_giveInput 19 = .ok (.iadd, 1) := by decide +kernel
theorem dX11_giveInput_20 : decode cX11_giveInput 20 = .ok (.sipush 16384, 3) := by decide +kernel
theorem dX11_giveInput_23 : decode cX11_giveInput 23 = .ok (.if_icmp .le 5, 3) := by decide +kernel
theorem dX11_giveInput_26 : decode cX11_giveInput 26 = .ok (.iconst 0, 1) := by decide +kernel
theorem dX11_giveInput_27 : decode cX11_giveInput 27 = .ok (.ireturn, 1) := by decide +kernel
theorem dX11_giveInput_28 : decode cX11_giveInput 28 = .ok (.iload_n 3, 1) := by decide +kernel
theorem dX11_giveInput_29 : decode cX11_giveInput 29 = .ok (.iconst 1, 1) := by decide +kernel
theorem dX11_giveInput_30 : decode cX11_giveInput 30 = .ok (.isub, 1) := by decide +kernel
theorem dX11_giveInput_31 : decode cX11_giveInput 31 = .ok (.istore 4, 2) := by decide +kernel
theorem dX11_giveInput_33 : decode cX11_giveInput 33 = .ok (.iload 4, 2) := by decide +kernel
theorem dX11_giveInput_35 : decode cX11_giveInput 35 = .ok (.ifCond .lt 28, 3) := by decide +kernel
theorem dX11_giveInput_38 : decode cX11_giveInput 38 = .ok (.aload_n 0, 1) := by decide +kernel
theorem dX11_giveInput_39 : decode cX11_giveInput 39 = .ok (.getfield 10, 3) := by decide +kernel
theorem dX11_giveInput_42 : decode cX11_giveInput 42 = .ok (.lload_n 1, 1) := by decide +kernel
theorem dX11_giveInput_43 : decode cX11_giveInput 43 = .ok (.bipush 8, 2) := by decide +kernel
theorem dX11_giveInput_45 : decode cX11_giveInput 45 = .ok (.iload 4, 2) := by decide +kernel
theorem dX11_giveInput_47 : decode cX11_giveInput 47 = .ok (.imul, 1) := by decide +kernel
theorem dX11_giveInput_48 : decode cX11_giveInput 48 = .ok (.lshr, 1) := by decide +kernel
theorem dX11_giveInput_49 : decode cX11_giveInput 49 = .ok (.l2i, 1) := by decide +kernel
theorem dX11_giveInput_50 : decode cX11_giveInput 50 = .ok (.sipush 255, 3) := by decide +kernel
theorem dX11_giveInput_53 : decode cX11_giveInput 53 = .ok (.iand, 1) := by decide +kernel
theorem dX11_giveInput_54 : decode cX11_giveInput 54 = .ok (.invokevirtual 83, 3) := by decide +kernel
theorem dX11_giveInput_57 : decode cX11_giveInput 57 = .ok (.iinc 4 (-1), 3) := by decide +kernel
theorem dX11_giveInput_60 : decode cX11_giveInput 60 = .ok (.goto (-27), 3) := by decide +kernel
theorem dX11_giveInput_63 : decode cX11_giveInput 63 = .ok (.iconst 1, 1) := by decide +kernel
theorem dX11_giveInput_64 : decode cX11_giveInput 64 = .ok (.ireturn, 1) := by decide +kernel
theorem flRX11_80 : px_f RX11 80 1 1 := ⟨_, rfl, by decide, Or.inl (tb1 (List.mem_of_getElem? (i := 38) rfl))⟩
theorem kcX11_giveInput_83 : px_cV mX11_giveInput 83 mX1_add 1 := ⟨⟨mbX1_add, by decide, by decide⟩, Or.inl (tb3 (List.mem_of_getElem? (i := 97) rfl)), vbX1_add⟩
set_option maxRecDepth 100000 in
set_option maxHeartbeats 4000000 in
theorem eX11_giveInput_33 {X : px_X}  : ∀ (m : Nat) (a0 : Nat) (a1 : Int64) (a4 : Int32) (w : px_W) (q : Int32 × px_W), fX11_giveInput_33 X  m a0 a1 a4 w = some q → EV X mX11_giveInput 33 [(0, .ref a0), (1, .long a1), (4, .int a4)] [] w (some (.int q.1)) q.2 := by
  intro m
  induction m with
  | zero => intro a0 a1 a4 w q h; cases h
  | succ m ih =>
    intro a0 a1 a4 w q h
    rw [fX11_giveInput_33.eq_2] at h
    refine EV.iload 2 dX11_giveInput_33 rfl ?_
    refine EV.if_lt 63 dX11_giveInput_35 (by decide) (fun c6 => ?_) (fun c6 => ?_)
    · rw [if_pos c6] at h
      refine EV.iconst (1) dX11_giveInput_63 (by decide) ?_
      cases h
      exact EV.reti dX11_giveInput_64 rfl
    · rw [if_neg c6] at h
      refine EV.aload_n 0 dX11_giveInput_38 rfl rfl ?_
      obtain ⟨v7, gv7, h⟩ := px_bs h
      refine ev_gR dX11_giveInput_39 flRX11_10 gv7 ?_
      refine EV.lload_n 1 dX11_giveInput_42 rfl rfl ?_
      refine EV.bipush (8) dX11_giveInput_43 (by decide) ?_
      refine EV.iload 2 dX11_giveInput_45 rfl ?_
      refine EV.imul dX11_giveInput_47 ?_
      refine EV.lshr dX11_giveInput_48 ?_
      refine EV.l2i dX11_giveInput_49 ?_
      refine EV.sipush (255) dX11_giveInput_50 (by decide) ?_
      refine EV.iand dX11_giveInput_53 ?_
      obtain ⟨o8, go8, h⟩ := px_bs h
      obtain ⟨q9, gq9, h⟩ := px_bs h
      refine EV.callV (As := [.int (((a1 >>> ((8 * a4).toInt64 &&& 63)).toInt32) &&& 255)]) (rest := []) dX11_giveInput_54 kcX11_giveInput_83 (gO_ok go8) rfl rfl rfl (Nat.le_of_ble_eq_true rfl) (Nat.le_of_ble_eq_true rfl) (eX1_add gq9) ?_
      refine EV.iinc 2 (a4 + (-1)) [(4, .int (a4 + (-1))), (0, .ref a0), (1, .long a1)] dX11_giveInput_57 rfl rfl (by decide) rfl ?_
      refine EV.goto 33 dX11_giveInput_60 (by decide) ?_
      refine EV.sub [1, 2, 0] rfl ?_
      exact ih _ _ _ _ _ h
set_option maxRecDepth 100000 in
set_option maxHeartbeats 4000000 in
theorem eX11_giveInput {X : px_X} {w : px_W} {a0 : Nat} {a1 : Int64} {a3 : Int32} {q : Int32 × px_W} (h : fX11_giveInput X w a0 a1 a3 = some q) : EV X mX11_giveInput 0 (lv_args 0 [.ref a0, .long a1, .int a3]) [] w (some (.int q.1)) q.2 := by
  unfold fX11_giveInput at h
  show EV X mX11_giveInput 0 [(0, .ref a0), (1, .long a1), (3, .int a3)] [] w (some (.int q.1)) q.2
  refine EV.iload_n 2 dX11_giveInput_0 rfl rfl ?_
  refine EV.iconst (1) dX11_giveInput_1 (by decide) ?_
  refine EV.icmp_lt 26 dX11_giveInput_2 (by decide) (fun c10 => ?_) (fun c10 => ?_)
  · rw [if_pos c10] at h
    refine EV.iconst (0) dX11_giveInput_26 (by decide) ?_
    cases h
    exact EV.reti dX11_giveInput_27 rfl
  · rw [if_neg c10] at h
    refine EV.iload_n 2 dX11_giveInput_5 rfl rfl ?_
    refine EV.bipush (8) dX11_giveInput_6 (by decide) ?_
    refine EV.icmp_gt 26 dX11_giveInput_8 (by decide) (fun c11 => ?_) (fun c11 => ?_)
    · rw [if_pos c11] at h
      refine EV.iconst (0) dX11_giveInput_26 (by decide) ?_
      cases h
      exact EV.reti dX11_giveInput_27 rfl
    · rw [if_neg c11] at h
      refine EV.aload_n 0 dX11_giveInput_11 rfl rfl ?_
      obtain ⟨v12, gv12, h⟩ := px_bs h
      refine ev_gR dX11_giveInput_12 flRX11_10 gv12 ?_
      obtain ⟨v13, gv13, h⟩ := px_bs h
      refine ev_gI dX11_giveInput_15 flRX11_80 gv13 ?_
      refine EV.iload_n 2 dX11_giveInput_18 rfl rfl ?_
      refine EV.iadd dX11_giveInput_19 ?_
      refine EV.sipush (16384) dX11_giveInput_20 (by decide) ?_
      refine EV.icmp_le 28 dX11_giveInput_23 (by decide) (fun c14 => ?_) (fun c14 => ?_)
      · rw [if_pos c14] at h
        refine EV.iload_n 2 dX11_giveInput_28 rfl rfl ?_
        refine EV.iconst (1) dX11_giveInput_29 (by decide) ?_
        refine EV.isub dX11_giveInput_30 ?_
        refine EV.istore [(4, .int (a3 - 1)), (0, .ref a0), (1, .long a1), (3, .int a3)] dX11_giveInput_31 (by decide) rfl ?_
        refine EV.sub [1, 2, 0] rfl ?_
        exact eX11_giveInput_33  FU _ _ _ _ _ h
      · rw [if_neg c14] at h
        refine EV.iconst (0) dX11_giveInput_26 (by decide) ?_
        cases h
        exact EV.reti dX11_giveInput_27 rfl
/-! WavePictures.wipeInput()V -/
theorem dX11_wipeInput_0 : decode cX11_wipeInput 0 = .ok (.aload_n 0, 1) := by decide +kernel
theorem dX11_wipeInput_1 : decode cX11_wipeInput 1 = .ok (.getfield 10, 3) := by decide +kernel
theorem dX11_wipeInput_4 : decode cX11_wipeInput 4 = .ok (.invokevirtual 87, 3) := by decide +kernel
theorem dX11_wipeInput_7 : decode cX11_wipeInput 7 = .ok (.return_, 1) := by decide +kernel
theorem kcX11_wipeInput_87 : px_cV mX11_wipeInput 87 mX1_clear 0 := ⟨⟨mbX1_clear, by decide, by decide⟩, Or.inl (tb3 (List.mem_of_getElem? (i := 105) rfl)), vbX1_clear⟩
set_option maxRecDepth 100000 in
set_option maxHeartbeats 4000000 in
theorem eX11_wipeInput {X : px_X} {w : px_W} {a0 : Nat} {q : px_W} (h : fX11_wipeInput X w a0 = some q) : EV X mX11_wipeInput 0 (lv_args 0 [.ref a0]) [] w none q := by
  unfold fX11_wipeInput at h
  show EV X mX11_wipeInput 0 [(0, .ref a0)] [] w none q
  refine EV.aload_n 0 dX11_wipeInput_0 rfl rfl ?_
  obtain ⟨v4, gv4, h⟩ := px_bs h
  refine ev_gR dX11_wipeInput_1 flRX11_10 gv4 ?_
  obtain ⟨o5, go5, h⟩ := px_bs h
  obtain ⟨q6, gq6, h⟩ := px_bs h
  refine EV.callV (As := []) (rest := []) dX11_wipeInput_4 kcX11_wipeInput_87 (gO_ok go5) rfl rfl rfl (Nat.le_of_ble_eq_true rfl) (Nat.le_of_ble_eq_true rfl) (eX1_clear gq6) ?_
  cases h
  exact EV.ret0 dX11_wipeInput_7 trivial
/-! WavePictures.takeOutput()V -/
theorem dX11_takeOutput_0 : decode cX11_takeOutput 0 = .ok (.aload_n 0, 1) := by decide +kernel
theorem dX11_takeOutput_1 : decode cX11_takeOutput 1 = .ok (.getfield 10, 3) := by decide +kernel
theorem dX11_takeOutput_4 : decode cX11_takeOutput 4 = .ok (.aload_n 0, 1) := by decide +kernel
theorem dX11_takeOutput_5 : decode cX11_takeOutput 5 = .ok (.getfield 16, 3) := by decide +kernel
theorem dX11_takeOutput_8 : decode cX11_takeOutput 8 = .ok (.invokevirtual 90, 3) := by decide +kernel
theorem dX11_takeOutput_11 : decode cX11_takeOutput 11 = .ok (.return_, 1) := by decide +kernel
theorem mbX1_takeAll : px_mB mX1_takeAll 1 := ⟨tb3 (List.mem_of_getElem? (i := 116) rfl), by decide +kernel, tb1 (List.mem_of_getElem? (i := 2) rfl), by decide +kernel, by decide +kernel⟩
theorem vbX1_takeAll : px_vB mX1_takeAll := ⟨tb3 (List.mem_of_getElem? (i := 114) rfl), tb3 (List.mem_of_getElem? (i := 115) rfl)⟩
theorem kcX11_takeOutput_90 : px_cV mX11_takeOutput 90 mX1_takeAll 1 := ⟨⟨mbX1_takeAll, by decide, by decide⟩, Or.inl (tb3 (List.mem_of_getElem? (i := 113) rfl)), vbX1_takeAll⟩
set_option maxRecDepth 100000 in
set_option maxHeartbeats 4000000 in
theorem eX11_takeOutput {X : px_X} {w : px_W} {a0 : Nat} {q : px_W} (h : fX11_takeOutput X w a0 = some q) : EV X mX11_takeOutput 0 (lv_args 0 [.ref a0]) [] w none q := by
  unfold fX11_takeOutput at h
  show EV X mX11_takeOutput 0 [(0, .ref a0)] [] w none q
  refine EV.aload_n 0 dX11_takeOutput_0 rfl rfl ?_
  obtain ⟨v5, gv5, h⟩ := px_bs h
  refine ev_gR dX11_takeOutput_1 flRX11_10 gv5 ?_
  refine EV.aload_n 0 dX11_takeOutput_4 rfl rfl ?_
  obtain ⟨v6, gv6, h⟩ := px_bs h
  refine ev_gR dX11_takeOutput_5 flRX11_16 gv6 ?_
  obtain ⟨o7, go7, h⟩ := px_bs h
  obtain ⟨q8, gq8, h⟩ := px_bs h
  refine EV.callV (As := [.ref v6]) (rest := []) dX11_takeOutput_8 kcX11_takeOutput_90 (gO_ok go7) rfl rfl rfl (Nat.le_of_ble_eq_true rfl) (Nat.le_of_ble_eq_true rfl) (eX1_takeAll gq8) ?_
  cases h
  exact EV.ret0 dX11_takeOutput_11 trivial
/-! WavePictures.outputAt(I)I -/
theorem dX11_outputAt_0 : decode cX11_outputAt 0 = .ok (.aload_n 0, 1) := by decide +kernel
theorem dX11_outputAt_1 : decode cX11_outputAt 1 = .ok (.getfield 16, 3) := by decide +kernel
theorem dX11_outputAt_4 : decode cX11_outputAt 4 = .ok (.iload_n 1, 1) := by decide +kernel
theorem dX11_outputAt_5 : decode cX11_outputAt 5 = .ok (.invokevirtual 94, 3) := by decide +kernel
theorem dX11_outputAt_8 : decode cX11_outputAt 8 = .ok (.ireturn, 1) := by decide +kernel
theorem kcX11_outputAt_94 : px_cV mX11_outputAt 94 mX1_at 1 := ⟨⟨mbX1_at, by decide, by decide⟩, Or.inl (tb3 (List.mem_of_getElem? (i := 124) rfl)), vbX1_at⟩
set_option maxRecDepth 100000 in
set_option maxHeartbeats 4000000 in
theorem eX11_outputAt {X : px_X} {w : px_W} {a0 : Nat} {a1 : Int32} {q : Int32 × px_W} (h : fX11_outputAt X w a0 a1 = some q) : EV X mX11_outputAt 0 (lv_args 0 [.ref a0, .int a1]) [] w (some (.int q.1)) q.2 := by
  unfold fX11_outputAt at h
  show EV X mX11_outputAt 0 [(0, .ref a0), (1, .int a1)] [] w (some (.int q.1)) q.2
  refine EV.aload_n 0 dX11_outputAt_0 rfl rfl ?_
  obtain ⟨v4, gv4, h⟩ := px_bs h
  refine ev_gR dX11_outputAt_1 flRX11_16 gv4 ?_
  refine EV.iload_n 1 dX11_outputAt_4 rfl rfl ?_
  obtain ⟨o5, go5, h⟩ := px_bs h
  obtain ⟨q6, gq6, h⟩ := px_bs h
  refine EV.callV (As := [.int a1]) (rest := []) dX11_outputAt_5 kcX11_outputAt_94 (gO_ok go5) rfl rfl rfl (Nat.le_of_ble_eq_true rfl) (Nat.le_of_ble_eq_true rfl) (eX1_at gq6) ?_
  cases h
  exact EV.reti dX11_outputAt_8 rfl
/-! WavePictures.refuseInput(II)I -/
theorem dX11_refuseInput_0 : decode cX11_refuseInput 0 = .ok (.aload_n 0, 1) := by decide +kernel
theorem dX11_refuseInput_1 : decode cX11_refuseInput 1 = .ok (.iload_n 1, 1) := by decide +kernel
theorem dX11_refuseInput_2 : decode cX11_refuseInput 2 = .ok (.putfield 158, 3) := by decide +kernel
theorem dX11_refuseInput_5 : decode cX11_refuseInput 5 = .ok (.aload_n 0, 1) := by decide +kernel
theorem dX11_refuseInput_6 : decode cX11_refuseInput 6 = .ok (.iload_n 2, 1) := by decide +kernel
theorem dX11_refuseInput_7 : decode cX11_refuseInput 7 = .ok (.putfield 76, 3) := by decide +kernel
theorem dX11_refuseInput_10 : decode cX11_refuseInput 10 = .ok (.iload_n 1, 1) := by decide +kernel
theorem dX11_refuseInput_11 : decode cX11_refuseInput 11 = .ok (.ireturn, 1) := by decide +kernel
theorem flRX11_158 : px_f RX11 158 11 13 := ⟨_, rfl, by decide, Or.inl (tb3 (List.mem_of_getElem? (i := 51) rfl))⟩
set_option maxRecDepth 100000 in
set_option maxHeartbeats 4000000 in
theorem eX11_refuseInput {X : px_X} {w : px_W} {a0 : Nat} {a1 : Int32} {a2 : Int32} {q : Int32 × px_W} (h : fX11_refuseInput X w a0 a1 a2 = some q) : EV X mX11_refuseInput 0 (lv_args 0 [.ref a0, .int a1, .int a2]) [] w (some (.int q.1)) q.2 := by
  unfold fX11_refuseInput at h
  show EV X mX11_refuseInput 0 [(0, .ref a0), (1, .int a1), (2, .int a2)] [] w (some (.int q.1)) q.2
  refine EV.aload_n 0 dX11_refuseInput_0 rfl rfl ?_
  refine EV.iload_n 1 dX11_refuseInput_1 rfl rfl ?_
  obtain ⟨w3, gw3, h⟩ := px_bs h
  refine ev_pV dX11_refuseInput_2 flRX11_158 rfl rfl rfl rfl gw3 ?_
  refine EV.aload_n 0 dX11_refuseInput_5 rfl rfl ?_
  refine EV.iload_n 2 dX11_refuseInput_6 rfl rfl ?_
  obtain ⟨w4, gw4, h⟩ := px_bs h
  refine ev_pV dX11_refuseInput_7 flRX11_76 rfl rfl rfl rfl gw4 ?_
  refine EV.iload_n 1 dX11_refuseInput_10 rfl rfl ?_
  cases h
  exact EV.reti dX11_refuseInput_11 rfl
/-! WavePictures.takeDraft()V -/
theorem dX11_takeDraft_0 : decode cX11_takeDraft 0 = .ok (.aload_n 0, 1) := by decide +kernel
theorem dX11_takeDraft_1 : decode cX11_takeDraft 1 = .ok (.getfield 25, 3) := by decide +kernel
theorem dX11_takeDraft_4 : decode cX11_takeDraft 4 = .ok (.astore_n 1, 1) := by decide +kernel
theorem dX11_takeDraft_5 : decode cX11_takeDraft 5 = .ok (.aload_n 0, 1) := by decide +kernel
theorem dX11_takeDraft_6 : decode cX11_takeDraft 6 = .ok (.aload_n 0, 1) := by decide +kernel
theorem dX11_takeDraft_7 : decode cX11_takeDraft 7 = .ok (.getfield 29, 3) := by decide +kernel
theorem dX11_takeDraft_10 : decode cX11_takeDraft 10 = .ok (.putfield 25, 3) := by decide +kernel
theorem dX11_takeDraft_13 : decode cX11_takeDraft 13 = .ok (.aload_n 0, 1) := by decide +kernel
theorem dX11_takeDraft_14 : decode cX11_takeDraft 14 = .ok (.aload_n 1, 1) := by decide +kernel
theorem dX11_takeDraft_15 : decode cX11_takeDraft 15 = .ok (.putfield 29, 3) := by decide +kernel
theorem dX11_takeDraft_18 : decode cX11_takeDraft 18 = .ok (.aload_n 0, 1) := by decide +kernel
theorem dX11_takeDraft_19 : decode cX11_takeDraft 19 = .ok (.iconst 1, 1) := by decide +kernel
theorem dX11_takeDraft_20 : decode cX11_takeDraft 20 = .ok (.putfield 169, 3) := by decide +kernel
theorem dX11_takeDraft_23 : decode cX11_takeDraft 23 = .ok (.return_, 1) := by decide +kernel
theorem flRX11_169 : px_f RX11 169 11 3 := ⟨_, rfl, by decide, Or.inl (tb3 (List.mem_of_getElem? (i := 41) rfl))⟩
set_option maxRecDepth 100000 in
set_option maxHeartbeats 4000000 in
theorem eX11_takeDraft {X : px_X} {w : px_W} {a0 : Nat} {q : px_W} (h : fX11_takeDraft X w a0 = some q) : EV X mX11_takeDraft 0 (lv_args 0 [.ref a0]) [] w none q := by
  unfold fX11_takeDraft at h
  show EV X mX11_takeDraft 0 [(0, .ref a0)] [] w none q
  refine EV.aload_n 0 dX11_takeDraft_0 rfl rfl ?_
  obtain ⟨v6, gv6, h⟩ := px_bs h
  refine ev_gR dX11_takeDraft_1 flRX11_25 gv6 ?_
  refine EV.astore_n [(1, .ref v6), (0, .ref a0)] dX11_takeDraft_4 rfl (by decide) rfl ?_
  refine EV.aload_n 1 dX11_takeDraft_5 rfl rfl ?_
  refine EV.aload_n 1 dX11_takeDraft_6 rfl rfl ?_
  obtain ⟨v7, gv7, h⟩ := px_bs h
  refine ev_gR dX11_takeDraft_7 flRX11_29 gv7 ?_
  obtain ⟨w8, gw8, h⟩ := px_bs h
  refine ev_pV dX11_takeDraft_10 flRX11_25 rfl rfl rfl rfl gw8 ?_
  refine EV.aload_n 1 dX11_takeDraft_13 rfl rfl ?_
  refine EV.aload_n 0 dX11_takeDraft_14 rfl rfl ?_
  obtain ⟨w9, gw9, h⟩ := px_bs h
  refine ev_pV dX11_takeDraft_15 flRX11_29 rfl rfl rfl rfl gw9 ?_
  refine EV.aload_n 1 dX11_takeDraft_18 rfl rfl ?_
  refine EV.iconst (1) dX11_takeDraft_19 (by decide) ?_
  obtain ⟨w10, gw10, h⟩ := px_bs h
  refine ev_pZ dX11_takeDraft_20 flRX11_169 rfl rfl (by decide +kernel) gw10 ?_
  cases h
  exact EV.ret0 dX11_takeDraft_23 trivial
/-! WavePictures.openInput()I -/
theorem dX11_openInput_0 : decode cX11_openInput 0 = .ok (.aload_n 0, 1) := by decide +kernel
theorem dX11_openInput_1 : decode cX11_openInput 1 = .ok (.getfield 58, 3) := by decide +kernel
theorem dX11_openInput_4 : decode cX11_openInput 4 = .ok (.aload_n 0, 1) := by decide +kernel
theorem dX11_openInput_5 : decode cX11_openInput 5 = .ok (.getfield 29, 3) := by decide +kernel
theorem dX11_openInput_8 : decode cX11_openInput 8 = .ok (.invokevirtual 98, 3) := by decide +kernel
theorem dX11_openInput_11 : decode cX11_openInput 11 = .ok (.iconst 0, 1) := by decide +kernel
theorem dX11_openInput_12 : decode cX11_openInput 12 = .ok (.istore_n 1, 1) := by decide +kernel
theorem dX11_openInput_13 : decode cX11_openInput 13 = .ok (.iload_n 1, 1) := by decide +kernel
theorem dX11_openInput_14 : decode cX11_openInput 14 = .ok (.sipush 16384, 3) := by decide +kernel
theorem dX11_openInput_17 : decode cX11_openInput 17 = .ok (.if_icmp .ge 19, 3) := by decide +kernel
theorem dX11_openInput_20 : decode cX11_openInput 20 = .ok (.aload_n 0, 1) := by decide +kernel
theorem dX11_openInput_21 : decode cX11_openInput 21 = .ok (.getfield 58, 3) := by decide +kernel
theorem dX11_openInput_24 : decode cX11_openInput 24 = .ok (.invokevirtual 102, 3) := by decide +kernel
theorem dX11_openInput_27 : decode cX11_openInput 27 = .ok (.ifCond .eq 9, 3) := by decide +kernel
theorem dX11_openInput_30 : decode cX11_openInput 30 = .ok (.iinc 1 1, 3) := by decide +kernel
theorem dX11_openInput_33 : decode cX11_openInput 33 = .ok (.goto (-20), 3) := by decide +kernel
theorem dX11_openInput_36 : decode cX11_openInput 36 = .ok (.aload_n 0, 1) := by decide +kernel
theorem dX11_openInput_37 : decode cX11_openInput 37 = .ok (.getfield 58, 3) := by decide +kernel
theorem dX11_openInput_40 : decode cX11_openInput 40 = .ok (.getfield 106, 3) := by decide +kernel
theorem dX11_openInput_43 : decode cX11_openInput 43 = .ok (.ifCond .eq 22, 3) := by decide +kernel
theorem dX11_openInput_46 : decode cX11_openInput 46 = .ok (.aload_n 0, 1) := by decide +kernel
theorem dX11_openInput_47 : decode cX11_openInput 47 = .ok (.aload_n 0, 1) := by decide +kernel
theorem dX11_openInput_48 : decode cX11_openInput 48 = .ok (.getfield 58, 3) := by decide +kernel
theorem dX11_openInput_51 : decode cX11_openInput 51 = .ok (.getfield 106, 3) := by decide +kernel
theorem dX11_openInput_54 : decode cX11_openInput 54 = .ok (.aload_n 0, 1) := by decide +kernel
theorem dX11_openInput_55 : decode cX11_openInput 55 = .ok (.getfield 58, 3) := by decide +kernel
theorem dX11_openInput_58 : decode cX11_openInput 58 = .ok (.getfield 109, 3) := by decide +kernel
theorem dX11_openInput_61 : decode cX11_openInput 61 = .ok (.invokevirtual 112, 3) := by decide +kernel
theorem dX11_openInput_64 : decode cX11_openInput 64 = .ok (.ireturn, 1) := by decide +kernel
theorem dX11_openInput_65 : decode cX11_openInput 65 = .ok (.aload_n 0, 1) := by decide +kernel
theorem dX11_openInput_66 : decode cX11_openInput 66 = .ok (.getfield 29, 3) := by decide +kernel
theorem dX11_openInput_69 : decode cX11_openInput 69 = .ok (.invokevirtual 116, 3) := by decide +kernel
theorem dX11_openInput_72 : decode cX11_openInput 72 = .ok (.aload_n 0, 1) := by decide +kernel
theorem dX11_openInput_73 : decode cX11_openInput 73 = .ok (.getfield 29, 3) := by decide +kernel
theorem dX11_openInput_76 : decode cX11_openInput 76 = .ok (.getfield 119, 3) := by decide +kernel
theorem dX11_openInput_79 : decode cX11_openInput 79 = .ok (.sipush 192, 3) := by decide +kernel
theorem dX11_openInput_82 : decode cX11_openInput 82 = .ok (.if_icmp .le 11, 3) := by decide +kernel
theorem dX11_openInput_85 : decode cX11_openInput 85 = .ok (.aload_n 0, 1) := by decide +kernel
theorem dX11_openInput_86 : decode cX11_openInput 86 = .ok (.bipush 9, 2) := by decide +kernel
theorem dX11_openInput_88 : decode cX11_openInput 88 = .ok (.iconst (-1), 1) := by decide +kernel
theorem dX11_openInput_89 : decode cX11_openInput 89 = .ok (.invokevirtual 112, 3) := by decide +kernel
theorem dX11_openInput_92 : decode cX11_openInput 92 = .ok (.ireturn, 1) := by decide +kernel
theorem dX11_openInput_93 : decode cX11_openInput 93 = .ok (.aload_n 0, 1) := by decide +kernel
theorem dX11_openInput_94 : decode cX11_openInput 94 = .ok (.getfield 29, 3) := by decide +kernel
theorem dX11_openInput_97 : decode cX11_openInput 97 = .ok (.getfield 122, 3) := by decide +kernel
theorem dX11_openInput_100 : decode cX11_openInput 100 = .ok (.iconst 0, 1) := by decide +kernel
theorem dX11_openInput_101 : decode cX11_openInput 101 = .ok (.invokestatic 126, 3) := by decide +kernel
theorem dX11_openInput_104 : decode cX11_openInput 104 = .ok (.aload_n 0, 1) := by decide +kernel
theorem dX11_openInput_105 : decode cX11_openInput 105 = .ok (.getfield 58, 3) := by decide +kernel
theorem dX11_openInput_108 : decode cX11_openInput 108 = .ok (.getfield 132, 3) := by decide +kernel
theorem dX11_openInput_111 : decode cX11_openInput 111 = .ok (.istore_n 2, 1) := by decide +kernel
theorem dX11_openInput_112 : decode cX11_openInput 112 = .ok (.aload_n 0, 1) := by decide +kernel
theorem dX11_openInput_113 : decode cX11_openInput 113 = .ok (.getfield 58, 3) := by decide +kernel
theorem dX11_openInput_116 : decode cX11_openInput 116 = .ok (.invokevirtual 135, 3) := by decide +kernel
theorem dX11_openInput_119 : decode cX11_openInput 119 = .ok (.iconst 0, 1) := by decide +kernel
theorem dX11_openInput_120 : decode cX11_openInput 120 = .ok (.istore_n 3, 1) := by decide +kernel
theorem dX11_openInput_121 : decode cX11_openInput 121 = .ok (.iload_n 3, 1) := by decide +kernel
theorem dX11_openInput_122 : decode cX11_openInput 122 = .ok (.iload_n 1, 1) := by decide +kernel
theorem dX11_openInput_123 : decode cX11_openInput 123 = .ok (.if_icmp .ge 86, 3) := by decide +kernel
theorem dX11_openInput_126 : decode cX11_openInput 126 = .ok (.aload_n 0, 1) := by decide +kernel
theorem dX11_openInput_127 : decode cX11_openInput 127 = .ok (.getfield 58, 3) := by decide +kernel
theorem dX11_openInput_130 : decode cX11_openInput 130 = .ok (.invokevirtual 102, 3) := by decide +kernel
theorem dX11_openInput_133 : decode cX11_openInput 133 = .ok (.ifCond .eq 76, 3) := by decide +kernel
theorem dX11_openInput_136 : decode cX11_openInput 136 = .ok (.aload_n 0, 1) := by decide +kernel
theorem dX11_openInput_137 : decode cX11_openInput 137 = .ok (.getfield 58, 3) := by decide +kernel
theorem dX11_openInput_140 : decode cX11_openInput 140 = .ok (.getfield 138, 3) := by decide +kernel
theorem dX11_openInput_143 : decode cX11_openInput 143 = .ok (.getfield 142, 3) := by decide +kernel
theorem dX11_openInput_146 : decode cX11_openInput 146 = .ok (.bipush 9, 2) := by decide +kernel
theorem dX11_openInput_148 : decode cX11_openInput 148 = .ok (.if_icmp .le 8, 3) := by decide +kernel
theorem dX11_openInput_151 : decode cX11_openInput 151 = .ok (.bipush 10, 2) := by decide +kernel
theorem dX11_openInput_153 : decode cX11_openInput 153 = .ok (.goto 35, 3) := by decide +kernel
theorem dX11_openInput_156 : decode cX11_openInput 156 = .ok (.aload_n 0, 1) := by decide +kernel
theorem dX11_openInput_157 : decode cX11_openInput 157 = .ok (.getfield 65, 3) := by decide +kernel
theorem dX11_openInput_160 : decode cX11_openInput 160 = .ok (.aload_n 0, 1) := by decide +kernel
theorem dX11_openInput_161 : decode cX11_openInput 161 = .ok (.getfield 29, 3) := by decide +kernel
theorem dX11_openInput_164 : decode cX11_openInput 164 = .ok (.aload_n 0, 1) := by decide +kernel
theorem dX11_openInput_165 : decode cX11_openInput 165 = .ok (.getfield 58, 3) := by decide +kernel
theorem dX11_openInput_168 : decode cX11_openInput 168 = .ok (.getfield 138, 3) := by decide +kernel
theorem dX11_openInput_171 : decode cX11_openInput 171 = .ok (.aload_n 0, 1) := by decide +kernel
theorem dX11_openInput_172 : decode cX11_openInput 172 = .ok (.getfield 58, 3) := by decide +kernel
theorem dX11_openInput_175 : decode cX11_openInput 175 = .ok (.getfield 147, 3) := by decide +kernel
theorem dX11_openInput_178 : decode cX11_openInput 178 = .ok (.aload_n 0, 1) := by decide +kernel
theorem dX11_openInput_179 : decode cX11_openInput 179 = .ok (.getfield 58, 3) := by decide +kernel
theorem dX11_openInput_182 : decode cX11_openInput 182 = .ok (.getfield 151, 3) := by decide +kernel
theorem dX11_openInput_185 : decode cX11_openInput 185 = .ok (.invokevirtual 154, 3) := by decide +kernel
theorem dX11_openInput_188 : decode cX11_openInput 188 = .ok (.istore 4, 2) := by decide +kernel
theorem dX11_openInput_190 : decode cX11_openInput 190 = .ok (.iload 4, 2) := by decide +kernel
theorem dX11_openInput_192 : decode cX11_openInput 192 = .ok (.ifCond .eq 11, 3) := by decide +kernel
theorem dX11_openInput_195 : decode cX11_openInput 195 = .ok (.aload_n 0, 1) := by decide +kernel
theorem dX11_openInput_196 : decode cX11_openInput 196 = .ok (.iload 4, 2) := by decide +kernel
theorem dX11_openInput_198 : decode cX11_openInput 198 = .ok (.iload_n 3, 1) := by decide +kernel
theorem dX11_openInput_199 : decode cX11_openInput 199 = .ok (.invokevirtual 112, 3) := by decide +kernel
theorem dX11_openInput_202 : decode cX11_openInput 202 = .ok (.ireturn, 1) := by decide +kernel
theorem dX11_openInput_203 : decode cX11_openInput 203 = .ok (.iinc 3 1, 3) := by decide +kernel
theorem dX11_openInput_206 : decode cX11_openInput 206 = .ok (.goto (-85), 3) := by decide +kernel
theorem dX11_openInput_209 : decode cX11_openInput 209 = .ok (.aload_n 0, 1) := by decide +kernel
theorem dX11_openInput_210 : decode cX11_openInput 210 = .ok (.iconst 0, 1) := by decide +kernel
theorem dX11_openInput_211 : decode cX11_openInput 211 = .ok (.putfield 158, 3) := by decide +kernel
theorem dX11_openInput_214 : decode cX11_openInput 214 = .ok (.aload_n 0, 1) := by decide +kernel
theorem dX11_openInput_215 : decode cX11_openInput 215 = .ok (.iconst (-1), 1) := by decide +kernel
theorem dX11_openInput_216 : decode cX11_openInput 216 = .ok (.putfield 76, 3) := by decide +kernel
theorem dX11_openInput_219 : decode cX11_openInput 219 = .ok (.aload_n 0, 1) := by decide +kernel
theorem dX11_openInput_220 : decode cX11_openInput 220 = .ok (.iload_n 1, 1) := by decide +kernel
theorem dX11_openInput_221 : decode cX11_openInput 221 = .ok (.putfield 159, 3) := by decide +kernel
theorem dX11_openInput_224 : decode cX11_openInput 224 = .ok (.aload_n 0, 1) := by decide +kernel
theorem dX11_openInput_225 : decode cX11_openInput 225 = .ok (.iload_n 2, 1) := by decide +kernel
theorem dX11_openInput_226 : decode cX11_openInput 226 = .ok (.putfield 162, 3) := by decide +kernel
theorem dX11_openInput_229 : decode cX11_openInput 229 = .ok (.aload_n 0, 1) := by decide +kernel
theorem dX11_openInput_230 : decode cX11_openInput 230 = .ok (.dup, 1) := by decide +kernel
theorem dX11_openInput_231 : decode cX11_openInput 231 = .ok (.getfield 163, 3) := by decide +kernel
theorem dX11_openInput_234 : decode cX11_openInput 234 = .ok (.iconst 1, 1) := by decide +kernel
theorem dX11_openInput_235 : decode cX11_openInput 235 = .ok (.iadd, 1) := by decide +kernel
theorem dX11_openInput_236 : decode cX11_openInput 236 = .ok (.putfield 163, 3) := by decide +kernel
theorem dX11_openInput_239 : decode cX11_openInput 239 = .ok (.aload_n 0, 1) := by decide +kernel
theorem dX11_openInput_240 : decode cX11_openInput 240 = .ok (.invokevirtual 166, 3) := by decide +kernel
theorem dX11_openInput_243 : decode cX11_openInput 243 = .ok (.iconst 0, 1) := by decide +kernel
theorem dX11_openInput_244 : decode cX11_openInput 244 = .ok (.ireturn, 1) := by decide +kernel
theorem flRX11_58 : px_f RX11 58 11 10 := ⟨_, rfl, by decide, Or.inl (tb3 (List.mem_of_getElem? (i := 48) rfl))⟩
theorem flRX11_65 : px_f RX11 65 11 11 := ⟨_, rfl, by decide, Or.inl (tb3 (List.mem_of_getElem? (i := 49) rfl))⟩
theorem flRX11_106 : px_f RX11 106 8 6 := ⟨_, rfl, by decide, Or.inl (tb2 (List.mem_of_getElem? (i := 69) rfl))⟩
theorem flRX11_109 : px_f RX11 109 8 7 := ⟨_, rfl, by decide, Or.inl (tb2 (List.mem_of_getElem? (i := 71) rfl))⟩
theorem flRX11_119 : px_f RX11 119 2 5 := ⟨_, rfl, by decide, Or.inl (tb1 (List.mem_of_getElem? (i := 73) rfl))⟩
theorem flRX11_122 : px_f RX11 122 2 11 := ⟨_, rfl, by decide, Or.inl (tb1 (List.mem_of_getElem? (i := 93) rfl))⟩
theorem flRX11_132 : px_f RX11 132 8 5 := ⟨_, rfl, by decide, Or.inl (tb2 (List.mem_of_getElem? (i := 67) rfl))⟩
theorem flRX11_138 : px_f RX11 138 8 2 := ⟨_, rfl, by decide, Or.inl (tb2 (List.mem_of_getElem? (i := 61) rfl))⟩
theorem flRX11_142 : px_f RX11 142 5 4 := ⟨_, rfl, by decide, Or.inl (tb1 (List.mem_of_getElem? (i := 201) rfl))⟩
theorem flRX11_147 : px_f RX11 147 8 3 := ⟨_, rfl, by decide, Or.inl (tb2 (List.mem_of_getElem? (i := 63) rfl))⟩
theorem flRX11_151 : px_f RX11 151 8 4 := ⟨_, rfl, by decide, Or.inl (tb2 (List.mem_of_getElem? (i := 65) rfl))⟩
theorem flRX11_159 : px_f RX11 159 11 15 := ⟨_, rfl, by decide, Or.inl (tb3 (List.mem_of_getElem? (i := 53) rfl))⟩
theorem flRX11_162 : px_f RX11 162 11 16 := ⟨_, rfl, by decide, Or.inl (tb3 (List.mem_of_getElem? (i := 54) rfl))⟩
theorem flRX11_163 : px_f RX11 163 11 17 := ⟨_, rfl, by decide, Or.inl (tb3 (List.mem_of_getElem? (i := 55) rfl))⟩
theorem mbX8_begin : px_mB mX8_begin 1 := ⟨tb3 (List.mem_of_getElem? (i := 135) rfl), by decide +kernel, tb1 (List.mem_of_getElem? (i := 6) rfl), by decide +kernel, by decide +kernel⟩
theorem vbX8_begin : px_vB mX8_begin := ⟨tb3 (List.mem_of_getElem? (i := 133) rfl), tb3 (List.mem_of_getElem? (i := 134) rfl)⟩
theorem kcX11_openInput_98 : px_cV mX11_openInput 98 mX8_begin 1 := ⟨⟨mbX8_begin, by decide, by decide⟩, Or.inl (tb3 (List.mem_of_getElem? (i := 132) rfl)), vbX8_begin⟩
theorem mbX8_nextScan : px_mB mX8_nextScan 0 := ⟨tb3 (List.mem_of_getElem? (i := 151) rfl), by decide +kernel, tb1 (List.mem_of_getElem? (i := 6) rfl), by decide +kernel, by decide +kernel⟩
theorem vbX8_nextScan : px_vB mX8_nextScan := ⟨tb3 (List.mem_of_getElem? (i := 149) rfl), tb3 (List.mem_of_getElem? (i := 150) rfl)⟩
theorem kcX11_openInput_102 : px_cV mX11_openInput 102 mX8_nextScan 0 := ⟨⟨mbX8_nextScan, by decide, by decide⟩, Or.inl (tb3 (List.mem_of_getElem? (i := 148) rfl)), vbX8_nextScan⟩
theorem mbX11_refuseInput : px_mB mX11_refuseInput 2 := ⟨tb4 (List.mem_of_getElem? (i := 33) rfl), by decide +kernel, tb1 (List.mem_of_getElem? (i := 1) rfl), by decide +kernel, by decide +kernel⟩
theorem vbX11_refuseInput : px_vB mX11_refuseInput := ⟨tb4 (List.mem_of_getElem? (i := 32) rfl), List.mem_append_left _ (List.mem_of_getElem? (i := 29) (by decide +kernel))⟩
theorem kcX11_openInput_112 : px_cV mX11_openInput 112 mX11_refuseInput 2 := ⟨⟨mbX11_refuseInput, by decide, by decide⟩, Or.inl (tb4 (List.mem_of_getElem? (i := 30) rfl)), vbX11_refuseInput⟩
theorem kcX11_openInput_116 : px_cV mX11_openInput 116 mX2_settle 0 := ⟨⟨mbX2_settle, by decide, by decide⟩, Or.inl (tb4 (List.mem_of_getElem? (i := 34) rfl)), vbX2_settle⟩
theorem kcX11_openInput_126 : px_cS mX11_openInput 126 mJ7_fill_53178 2 := ⟨⟨mbJ7_fill_53178, by decide, by decide⟩, Or.inl (tb4 (List.mem_of_getElem? (i := 52) rfl)), tb3 (List.mem_of_getElem? (i := 141) rfl)⟩
theorem kcX11_openInput_135 : px_cV mX11_openInput 135 mX8_beginAgain 0 := ⟨⟨mbX8_beginAgain, by decide, by decide⟩, Or.inl (tb4 (List.mem_of_getElem? (i := 53) rfl)), vbX8_beginAgain⟩
theorem mbX6_read : px_mB mX6_read 4 := ⟨tb4 (List.mem_of_getElem? (i := 57) rfl), by decide +kernel, tb1 (List.mem_of_getElem? (i := 9) rfl), by decide +kernel, by decide +kernel⟩
theorem vbX6_read : px_vB mX6_read := ⟨tb4 (List.mem_of_getElem? (i := 55) rfl), tb4 (List.mem_of_getElem? (i := 56) rfl)⟩
theorem kcX11_openInput_154 : px_cV mX11_openInput 154 mX6_read 4 := ⟨⟨mbX6_read, by decide, by decide⟩, Or.inl (tb4 (List.mem_of_getElem? (i := 54) rfl)), vbX6_read⟩
theorem mbX11_takeDraft : px_mB mX11_takeDraft 0 := ⟨tb4 (List.mem_of_getElem? (i := 170) rfl), by decide +kernel, tb1 (List.mem_of_getElem? (i := 1) rfl), by decide +kernel, by decide +kernel⟩
theorem vbX11_takeDraft : px_vB mX11_takeDraft := ⟨tb4 (List.mem_of_getElem? (i := 169) rfl), List.mem_append_left _ (List.mem_of_getElem? (i := 47) (by decide +kernel))⟩
theorem kcX11_openInput_166 : px_cV mX11_openInput 166 mX11_takeDraft 0 := ⟨⟨mbX11_takeDraft, by decide, by decide⟩, Or.inl (tb4 (List.mem_of_getElem? (i := 167) rfl)), vbX11_takeDraft⟩
set_option maxRecDepth 100000 in
set_option maxHeartbeats 4000000 in
theorem eX11_openInput_209 {X : px_X}  : ∀ (a0 : Nat) (a1 : Int32) (a2 : Int32) (w : px_W) (q : Int32 × px_W), fX11_openInput_209 X  a0 a1 a2 w = some q → EV X mX11_openInput 209 [(0, .ref a0), (1, .int a1), (2, .int a2)] [] w (some (.int q.1)) q.2 := by
  intro a0 a1 a2 w q h
  unfold fX11_openInput_209 at h
  refine EV.aload_n 0 dX11_openInput_209 rfl rfl ?_
  refine EV.iconst (0) dX11_openInput_210 (by decide) ?_
  obtain ⟨w57, gw57, h⟩ := px_bs h
  refine ev_pV dX11_openInput_211 flRX11_158 rfl rfl rfl rfl gw57 ?_
  refine EV.aload_n 0 dX11_openInput_214 rfl rfl ?_
  refine EV.iconst ((-1)) dX11_openInput_215 (by decide) ?_
  obtain ⟨w58, gw58, h⟩ := px_bs h
  refine ev_pV dX11_openInput_216 flRX11_76 rfl rfl rfl rfl gw58 ?_
  refine EV.aload_n 0 dX11_openInput_219 rfl rfl ?_
  refine EV.iload_n 1 dX11_openInput_220 rfl rfl ?_
  obtain ⟨w59, gw59, h⟩ := px_bs h
  refine ev_pV dX11_openInput_221 flRX11_159 rfl rfl rfl rfl gw59 ?_
  refine EV.aload_n 0 dX11_openInput_224 rfl rfl ?_
  refine EV.iload_n 2 dX11_openInput_225 rfl rfl ?_
  obtain ⟨w60, gw60, h⟩ := px_bs h
  refine ev_pV dX11_openInput_226 flRX11_162 rfl rfl rfl rfl gw60 ?_
  refine EV.aload_n 0 dX11_openInput_229 rfl rfl ?_
  refine EV.dup dX11_openInput_230 rfl ?_
  obtain ⟨v61, gv61, h⟩ := px_bs h
  refine ev_gI dX11_openInput_231 flRX11_163 gv61 ?_
  refine EV.iconst (1) dX11_openInput_234 (by decide) ?_
  refine EV.iadd dX11_openInput_235 ?_
  obtain ⟨w62, gw62, h⟩ := px_bs h
  refine ev_pV dX11_openInput_236 flRX11_163 rfl rfl rfl rfl gw62 ?_
  refine EV.aload_n 0 dX11_openInput_239 rfl rfl ?_
  obtain ⟨o63, go63, h⟩ := px_bs h
  obtain ⟨q64, gq64, h⟩ := px_bs h
  refine EV.callV (As := []) (rest := []) dX11_openInput_240 kcX11_openInput_166 (gO_ok go63) rfl rfl rfl (Nat.le_of_ble_eq_true rfl) (Nat.le_of_ble_eq_true rfl) (eX11_takeDraft gq64) ?_
  refine EV.iconst (0) dX11_openInput_243 (by decide) ?_
  cases h
  exact EV.reti dX11_openInput_244 rfl
set_option maxRecDepth 100000 in
set_option maxHeartbeats 4000000 in
theorem eX11_openInput_195 {X : px_X}  : ∀ (a0 : Nat) (a3 : Int32) (a4 : Int32) (w : px_W) (q : Int32 × px_W), fX11_openInput_195 X  a0 a3 a4 w = some q → EV X mX11_openInput 195 [(0, .ref a0), (3, .int a3), (4, .int a4)] [] w (some (.int q.1)) q.2 := by
  intro a0 a3 a4 w q h
  unfold fX11_openInput_195 at h
  refine EV.aload_n 0 dX11_openInput_195 rfl rfl ?_
  refine EV.iload 2 dX11_openInput_196 rfl ?_
  refine EV.iload_n 1 dX11_openInput_198 rfl rfl ?_
  obtain ⟨o65, go65, h⟩ := px_bs h
  obtain ⟨q66, gq66, h⟩ := px_bs h
  refine EV.callV (As := [.int a4, .int a3]) (rest := []) dX11_openInput_199 kcX11_openInput_112 (gO_ok go65) rfl rfl rfl (Nat.le_of_ble_eq_true rfl) (Nat.le_of_ble_eq_true rfl) (eX11_refuseInput gq66) ?_
  cases h
  exact EV.reti dX11_openInput_202 rfl
set_option maxRecDepth 100000 in
set_option maxHeartbeats 4000000 in
theorem eX11_openInput_188 {X : px_X} {k121 : Nat → Int32 → Int32 → Int32 → px_W → Option (Int32 × px_W)} (hk121 : ∀ (a0 : Nat) (a1 : Int32) (a2 : Int32) (a3 : Int32) (w : px_W) (q : Int32 × px_W), k121 a0 a1 a2 a3 w = some q → EV X mX11_openInput 121 [(0, .ref a0), (1, .int a1), (2, .int a2), (3, .int a3)] [] w (some (.int q.1)) q.2) : ∀ (a0 : Nat) (a1 : Int32) (a2 : Int32) (a3 : Int32) (s0 : Int32) (w : px_W) (q : Int32 × px_W), fX11_openInput_188 X k121 a0 a1 a2 a3 s0 w = some q → EV X mX11_openInput 188 [(0, .ref a0), (1, .int a1), (2, .int a2), (3, .int a3)] [.int s0] w (some (.int q.1)) q.2 := by
  intro a0 a1 a2 a3 s0 w q h
  unfold fX11_openInput_188 at h
  refine EV.istore [(4, .int s0), (0, .ref a0), (1, .int a1), (2, .int a2), (3, .int a3)] dX11_openInput_188 (by decide) rfl ?_
  refine EV.iload 0 dX11_openInput_190 rfl ?_
  refine EV.if_eq 203 dX11_openInput_192 (by decide) (fun c67 => ?_) (fun c67 => ?_)
  · rw [if_pos c67] at h
    refine EV.iinc 4 (a3 + 1) [(3, .int (a3 + 1)), (4, .int s0), (0, .ref a0), (1, .int a1), (2, .int a2)] dX11_openInput_203 rfl rfl (by decide) rfl ?_
    refine EV.goto 121 dX11_openInput_206 (by decide) ?_
    refine EV.sub [2, 3, 4, 0] rfl ?_
    exact hk121 _ _ _ _ _ _ h
  · rw [if_neg c67] at h
    refine EV.sub [1, 4, 0] rfl ?_
    exact eX11_openInput_195  _ _ _ _ _ h
set_option maxRecDepth 100000 in
set_option maxHeartbeats 4000000 in
theorem eX11_openInput_121 {X : px_X}  : ∀ (m : Nat) (a0 : Nat) (a1 : Int32) (a2 : Int32) (a3 : Int32) (w : px_W) (q : Int32 × px_W), fX11_openInput_121 X  m a0 a1 a2 a3 w = some q → EV X mX11_openInput 121 [(0, .ref a0), (1, .int a1), (2, .int a2), (3, .int a3)] [] w (some (.int q.1)) q.2 := by
  intro m
  induction m with
  | zero => intro a0 a1 a2 a3 w q h; cases h
  | succ m ih =>
    intro a0 a1 a2 a3 w q h
    rw [fX11_openInput_121.eq_2] at h
    refine EV.iload_n 3 dX11_openInput_121 rfl rfl ?_
    refine EV.iload_n 1 dX11_openInput_122 rfl rfl ?_
    refine EV.icmp_ge 209 dX11_openInput_123 (by decide) (fun c68 => ?_) (fun c68 => ?_)
    · rw [if_pos c68] at h
      refine EV.sub [0, 1, 2] rfl ?_
      exact eX11_openInput_209  _ _ _ _ _ h
    · rw [if_neg c68] at h
      refine EV.aload_n 0 dX11_openInput_126 rfl rfl ?_
      obtain ⟨v69, gv69, h⟩ := px_bs h
      refine ev_gR dX11_openInput_127 flRX11_58 gv69 ?_
      obtain ⟨o70, go70, h⟩ := px_bs h
      obtain ⟨q71, gq71, h⟩ := px_bs h
      refine EV.callV (As := []) (rest := []) dX11_openInput_130 kcX11_openInput_102 (gO_ok go70) rfl rfl rfl (Nat.le_of_ble_eq_true rfl) (Nat.le_of_ble_eq_true rfl) (eX8_nextScan gq71) ?_
      refine EV.if_eq 209 dX11_openInput_133 (by decide) (fun c72 => ?_) (fun c72 => ?_)
      · rw [if_pos c72] at h
        refine EV.sub [0, 1, 2] rfl ?_
        exact eX11_openInput_209  _ _ _ _ _ h
      · rw [if_neg c72] at h
        refine EV.aload_n 0 dX11_openInput_136 rfl rfl ?_
        obtain ⟨v73, gv73, h⟩ := px_bs h
        refine ev_gR dX11_openInput_137 flRX11_58 gv73 ?_
        obtain ⟨v74, gv74, h⟩ := px_bs h
        refine ev_gR dX11_openInput_140 flRX11_138 gv74 ?_
        obtain ⟨v75, gv75, h⟩ := px_bs h
        refine ev_gI dX11_openInput_143 flRX11_142 gv75 ?_
        refine EV.bipush (9) dX11_openInput_146 (by decide) ?_
        refine EV.icmp_le 156 dX11_openInput_148 (by decide) (fun c76 => ?_) (fun c76 => ?_)
        · rw [if_pos c76] at h
          refine EV.aload_n 0 dX11_openInput_156 rfl rfl ?_
          obtain ⟨v77, gv77, h⟩ := px_bs h
          refine ev_gR dX11_openInput_157 flRX11_65 gv77 ?_
          refine EV.aload_n 0 dX11_openInput_160 rfl rfl ?_
          obtain ⟨v78, gv78, h⟩ := px_bs h
          refine ev_gR dX11_openInput_161 flRX11_29 gv78 ?_
          refine EV.aload_n 0 dX11_openInput_164 rfl rfl ?_
          obtain ⟨v79, gv79, h⟩ := px_bs h
          refine ev_gR dX11_openInput_165 flRX11_58 gv79 ?_
          obtain ⟨v80, gv80, h⟩ := px_bs h
          refine ev_gR dX11_openInput_168 flRX11_138 gv80 ?_
          refine EV.aload_n 0 dX11_openInput_171 rfl rfl ?_
          obtain ⟨v81, gv81, h⟩ := px_bs h
          refine ev_gR dX11_openInput_172 flRX11_58 gv81 ?_
          obtain ⟨v82, gv82, h⟩ := px_bs h
          refine ev_gR dX11_openInput_175 flRX11_147 gv82 ?_
          refine EV.aload_n 0 dX11_openInput_178 rfl rfl ?_
          obtain ⟨v83, gv83, h⟩ := px_bs h
          refine ev_gR dX11_openInput_179 flRX11_58 gv83 ?_
          obtain ⟨v84, gv84, h⟩ := px_bs h
          refine ev_gI dX11_openInput_182 flRX11_151 gv84 ?_
          obtain ⟨o85, go85, h⟩ := px_bs h
          obtain ⟨q86, gq86, h⟩ := px_bs h
          refine EV.callV (As := [.ref v78, .ref v80, .ref v82, .int v84]) (rest := []) dX11_openInput_185 kcX11_openInput_154 (gO_ok go85) rfl rfl rfl (Nat.le_of_ble_eq_true rfl) (Nat.le_of_ble_eq_true rfl) (eX6_read gq86) ?_
          refine EV.sub [0, 1, 2, 3] rfl ?_
          exact eX11_openInput_188 ih _ _ _ _ _ _ _ h
        · rw [if_neg c76] at h
          refine EV.bipush (10) dX11_openInput_151 (by decide) ?_
          refine EV.goto 188 dX11_openInput_153 (by decide) ?_
          refine EV.sub [0, 1, 2, 3] rfl ?_
          exact eX11_openInput_188 ih _ _ _ _ _ _ _ h
set_option maxRecDepth 100000 in
set_option maxHeartbeats 4000000 in
theorem eX11_openInput_36 {X : px_X}  : ∀ (a0 : Nat) (a1 : Int32) (w : px_W) (q : Int32 × px_W), fX11_openInput_36 X  a0 a1 w = some q → EV X mX11_openInput 36 [(0, .ref a0), (1, .int a1)] [] w (some (.int q.1)) q.2 := by
  intro a0 a1 w q h
  unfold fX11_openInput_36 at h
  refine EV.aload_n 0 dX11_openInput_36 rfl rfl ?_
  obtain ⟨v87, gv87, h⟩ := px_bs h
  refine ev_gR dX11_openInput_37 flRX11_58 gv87 ?_
  obtain ⟨v88, gv88, h⟩ := px_bs h
  refine ev_gI dX11_openInput_40 flRX11_106 gv88 ?_
  refine EV.if_eq 65 dX11_openInput_43 (by decide) (fun c89 => ?_) (fun c89 => ?_)
  · rw [if_pos c89] at h
    refine EV.aload_n 0 dX11_openInput_65 rfl rfl ?_
    obtain ⟨v90, gv90, h⟩ := px_bs h
    refine ev_gR dX11_openInput_66 flRX11_29 gv90 ?_
    obtain ⟨o91, go91, h⟩ := px_bs h
    obtain ⟨q92, gq92, h⟩ := px_bs h
    refine EV.callV (As := []) (rest := []) dX11_openInput_69 kcX11_openInput_116 (gO_ok go91) rfl rfl rfl (Nat.le_of_ble_eq_true rfl) (Nat.le_of_ble_eq_true rfl) (eX2_settle gq92) ?_
    refine EV.aload_n 0 dX11_openInput_72 rfl rfl ?_
    obtain ⟨v93, gv93, h⟩ := px_bs h
    refine ev_gR dX11_openInput_73 flRX11_29 gv93 ?_
    obtain ⟨v94, gv94, h⟩ := px_bs h
    refine ev_gI dX11_openInput_76 flRX11_119 gv94 ?_
    refine EV.sipush (192) dX11_openInput_79 (by decide) ?_
    refine EV.icmp_le 93 dX11_openInput_82 (by decide) (fun c95 => ?_) (fun c95 => ?_)
    · rw [if_pos c95] at h
      refine EV.aload_n 0 dX11_openInput_93 rfl rfl ?_
      obtain ⟨v96, gv96, h⟩ := px_bs h
      refine ev_gR dX11_openInput_94 flRX11_29 gv96 ?_
      obtain ⟨v97, gv97, h⟩ := px_bs h
      refine ev_gR dX11_openInput_97 flRX11_122 gv97 ?_
      refine EV.iconst (0) dX11_openInput_100 (by decide) ?_
      obtain ⟨q98, gq98, h⟩ := px_bs h
      refine EV.callS (As := [.ref v97, .int 0]) (rest := []) dX11_openInput_101 kcX11_openInput_126 rfl (Nat.le_of_ble_eq_true rfl) (Nat.le_of_ble_eq_true rfl) (eJ7_fill_53178 gq98) ?_
      refine EV.aload_n 0 dX11_openInput_104 rfl rfl ?_
      obtain ⟨v99, gv99, h⟩ := px_bs h
      refine ev_gR dX11_openInput_105 flRX11_58 gv99 ?_
      obtain ⟨v100, gv100, h⟩ := px_bs h
      refine ev_gI dX11_openInput_108 flRX11_132 gv100 ?_
      refine EV.istore_n [(2, .int v100), (0, .ref a0), (1, .int a1)] dX11_openInput_111 rfl (by decide) rfl ?_
      refine EV.aload_n 1 dX11_openInput_112 rfl rfl ?_
      obtain ⟨v101, gv101, h⟩ := px_bs h
      refine ev_gR dX11_openInput_113 flRX11_58 gv101 ?_
      obtain ⟨o102, go102, h⟩ := px_bs h
      obtain ⟨q103, gq103, h⟩ := px_bs h
      refine EV.callV (As := []) (rest := []) dX11_openInput_116 kcX11_openInput_135 (gO_ok go102) rfl rfl rfl (Nat.le_of_ble_eq_true rfl) (Nat.le_of_ble_eq_true rfl) (eX8_beginAgain gq103) ?_
      refine EV.iconst (0) dX11_openInput_119 (by decide) ?_
      refine EV.istore_n [(3, .int 0), (2, .int v100), (0, .ref a0), (1, .int a1)] dX11_openInput_120 rfl (by decide) rfl ?_
      refine EV.sub [2, 3, 1, 0] rfl ?_
      exact eX11_openInput_121  FU _ _ _ _ _ _ h
    · rw [if_neg c95] at h
      refine EV.aload_n 0 dX11_openInput_85 rfl rfl ?_
      refine EV.bipush (9) dX11_openInput_86 (by decide) ?_
      refine EV.iconst ((-1)) dX11_openInput_88 (by decide) ?_
      obtain ⟨o104, go104, h⟩ := px_bs h
      obtain ⟨q105, gq105, h⟩ := px_bs h
      refine EV.callV (As := [.int 9, .int ((-1))]) (rest := []) dX11_openInput_89 kcX11_openInput_112 (gO_ok go104) rfl rfl rfl (Nat.le_of_ble_eq_true rfl) (Nat.le_of_ble_eq_true rfl) (eX11_refuseInput gq105) ?_
      cases h
      exact EV.reti dX11_openInput_92 rfl
  · rw [if_neg c89] at h
    refine EV.aload_n 0 dX11_openInput_46 rfl rfl ?_
    refine EV.aload_n 0 dX11_openInput_47 rfl rfl ?_
    obtain ⟨v106, gv106, h⟩ := px_bs h
    refine ev_gR dX11_openInput_48 flRX11_58 gv106 ?_
    obtain ⟨v107, gv107, h⟩ := px_bs h
    refine ev_gI dX11_openInput_51 flRX11_106 gv107 ?_
    refine EV.aload_n 0 dX11_openInput_54 rfl rfl ?_
    obtain ⟨v108, gv108, h⟩ := px_bs h
    refine ev_gR dX11_openInput_55 flRX11_58 gv108 ?_
    obtain ⟨v109, gv109, h⟩ := px_bs h
    refine ev_gI dX11_openInput_58 flRX11_109 gv109 ?_
    obtain ⟨o110, go110, h⟩ := px_bs h
    obtain ⟨q111, gq111, h⟩ := px_bs h
    refine EV.callV (As := [.int v107, .int v109]) (rest := []) dX11_openInput_61 kcX11_openInput_112 (gO_ok go110) rfl rfl rfl (Nat.le_of_ble_eq_true rfl) (Nat.le_of_ble_eq_true rfl) (eX11_refuseInput gq111) ?_
    cases h
    exact EV.reti dX11_openInput_64 rfl
set_option maxRecDepth 100000 in
set_option maxHeartbeats 4000000 in
theorem eX11_openInput_13 {X : px_X}  : ∀ (m : Nat) (a0 : Nat) (a1 : Int32) (w : px_W) (q : Int32 × px_W), fX11_openInput_13 X  m a0 a1 w = some q → EV X mX11_openInput 13 [(0, .ref a0), (1, .int a1)] [] w (some (.int q.1)) q.2 := by
  intro m
  induction m with
  | zero => intro a0 a1 w q h; cases h
  | succ m ih =>
    intro a0 a1 w q h
    rw [fX11_openInput_13.eq_2] at h
    refine EV.iload_n 1 dX11_openInput_13 rfl rfl ?_
    refine EV.sipush (16384) dX11_openInput_14 (by decide) ?_
    refine EV.icmp_ge 36 dX11_openInput_17 (by decide) (fun c112 => ?_) (fun c112 => ?_)
    · rw [if_pos c112] at h
      refine EV.sub [0, 1] rfl ?_
      exact eX11_openInput_36  _ _ _ _ h
    · rw [if_neg c112] at h
      refine EV.aload_n 0 dX11_openInput_20 rfl rfl ?_
      obtain ⟨v113, gv113, h⟩ := px_bs h
      refine ev_gR dX11_openInput_21 flRX11_58 gv113 ?_
      obtain ⟨o114, go114, h⟩ := px_bs h
      obtain ⟨q115, gq115, h⟩ := px_bs h
      refine EV.callV (As := []) (rest := []) dX11_openInput_24 kcX11_openInput_102 (gO_ok go114) rfl rfl rfl (Nat.le_of_ble_eq_true rfl) (Nat.le_of_ble_eq_true rfl) (eX8_nextScan gq115) ?_
      refine EV.if_eq 36 dX11_openInput_27 (by decide) (fun c116 => ?_) (fun c116 => ?_)
      · rw [if_pos c116] at h
        refine EV.sub [0, 1] rfl ?_
        exact eX11_openInput_36  _ _ _ _ h
      · rw [if_neg c116] at h
        refine EV.iinc 1 (a1 + 1) [(1, .int (a1 + 1)), (0, .ref a0)] dX11_openInput_30 rfl rfl (by decide) rfl ?_
        refine EV.goto 13 dX11_openInput_33 (by decide) ?_
        refine EV.sub [1, 0] rfl ?_
        exact ih _ _ _ _ h
set_option maxRecDepth 100000 in
set_option maxHeartbeats 4000000 in
theorem eX11_openInput {X : px_X} {w : px_W} {a0 : Nat} {q : Int32 × px_W} (h : fX11_openInput X w a0 = some q) : EV X mX11_openInput 0 (lv_args 0 [.ref a0]) [] w (some (.int q.1)) q.2 := by
  unfold fX11_openInput at h
  show EV X mX11_openInput 0 [(0, .ref a0)] [] w (some (.int q.1)) q.2
  refine EV.aload_n 0 dX11_openInput_0 rfl rfl ?_
  obtain ⟨v117, gv117, h⟩ := px_bs h
  refine ev_gR dX11_openInput_1 flRX11_58 gv117 ?_
  refine EV.aload_n 0 dX11_openInput_4 rfl rfl ?_
  obtain ⟨v118, gv118, h⟩ := px_bs h
  refine ev_gR dX11_openInput_5 flRX11_29 gv118 ?_
  obtain ⟨o119, go119, h⟩ := px_bs h
  obtain ⟨q120, gq120, h⟩ := px_bs h
  refine EV.callV (As := [.ref v118]) (rest := []) dX11_openInput_8 kcX11_openInput_98 (gO_ok go119) rfl rfl rfl (Nat.le_of_ble_eq_true rfl) (Nat.le_of_ble_eq_true rfl) (eX8_begin gq120) ?_
  refine EV.iconst (0) dX11_openInput_11 (by decide) ?_
  refine EV.istore_n [(1, .int 0), (0, .ref a0)] dX11_openInput_12 rfl (by decide) rfl ?_
  refine EV.sub [1, 0] rfl ?_
  exact eX11_openInput_13  FU _ _ _ _ h
