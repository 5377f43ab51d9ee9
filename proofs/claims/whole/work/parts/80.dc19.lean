/-! WavePicturesModel$Segments.readFrame(I)V -/
theorem dX14_readFrame_0 : decode cX14_readFrame 0 = .ok (.aload_n 0, 1) := by decide +kernel
theorem dX14_readFrame_1 : decode cX14_readFrame 1 = .ok (.aload_n 0, 1) := by decide +kernel
theorem dX14_readFrame_2 : decode cX14_readFrame 2 = .ok (.invokevirtual 124, 3) := by decide +kernel
theorem dX14_readFrame_5 : decode cX14_readFrame 5 = .ok (.bipush 8, 2) := by decide +kernel
theorem dX14_readFrame_7 : decode cX14_readFrame 7 = .ok (.if_icmp .eq 10, 3) := by decide +kernel
theorem dX14_readFrame_10 : decode cX14_readFrame 10 = .ok (.aload_n 0, 1) := by decide +kernel
theorem dX14_readFrame_11 : decode cX14_readFrame 11 = .ok (.getfield 100, 3) := by decide +kernel
theorem dX14_readFrame_14 : decode cX14_readFrame 14 = .ok (.ifCond .le 7, 3) := by decide +kernel
theorem dX14_readFrame_17 : decode cX14_readFrame 17 = .ok (.iconst 1, 1) := by decide +kernel
theorem dX14_readFrame_18 : decode cX14_readFrame 18 = .ok (.goto 4, 3) := by decide +kernel
theorem dX14_readFrame_21 : decode cX14_readFrame 21 = .ok (.iconst 0, 1) := by decide +kernel
theorem dX14_readFrame_22 : decode cX14_readFrame 22 = .ok (.invokevirtual 136, 3) := by decide +kernel
theorem dX14_readFrame_25 : decode cX14_readFrame 25 = .ok (.aload_n 0, 1) := by decide +kernel
theorem dX14_readFrame_26 : decode cX14_readFrame 26 = .ok (.aload_n 0, 1) := by decide +kernel
theorem dX14_readFrame_27 : decode cX14_readFrame 27 = .ok (.invokevirtual 133, 3) := by decide +kernel
theorem dX14_readFrame_30 : decode cX14_readFrame 30 = .ok (.putfield 88, 3) := by decide +kernel
theorem dX14_readFrame_33 : decode cX14_readFrame 33 = .ok (.aload_n 0, 1) := by decide +kernel
theorem dX14_readFrame_34 : decode cX14_readFrame 34 = .ok (.aload_n 0, 1) := by decide +kernel
theorem dX14_readFrame_35 : decode cX14_readFrame 35 = .ok (.getfield 100, 3) := by decide +kernel
theorem dX14_readFrame_38 : decode cX14_readFrame 38 = .ok (.ifCond .gt 12, 3) := by decide +kernel
theorem dX14_readFrame_41 : decode cX14_readFrame 41 = .ok (.aload_n 0, 1) := by decide +kernel
theorem dX14_readFrame_42 : decode cX14_readFrame 42 = .ok (.getfield 88, 3) := by decide +kernel
theorem dX14_readFrame_45 : decode cX14_readFrame 45 = .ok (.bipush 64, 2) := by decide +kernel
theorem dX14_readFrame_47 : decode cX14_readFrame 47 = .ok (.if_icmp .gt 7, 3) := by decide +kernel
theorem dX14_readFrame_50 : decode cX14_readFrame 50 = .ok (.iconst 1, 1) := by decide +kernel
theorem dX14_readFrame_51 : decode cX14_readFrame 51 = .ok (.goto 4, 3) := by decide +kernel
theorem dX14_readFrame_54 : decode cX14_readFrame 54 = .ok (.iconst 0, 1) := by decide +kernel
theorem dX14_readFrame_55 : decode cX14_readFrame 55 = .ok (.invokevirtual 136, 3) := by decide +kernel
theorem dX14_readFrame_58 : decode cX14_readFrame 58 = .ok (.aload_n 0, 1) := by decide +kernel
theorem dX14_readFrame_59 : decode cX14_readFrame 59 = .ok (.aload_n 0, 1) := by decide +kernel
theorem dX14_readFrame_60 : decode cX14_readFrame 60 = .ok (.invokevirtual 133, 3) := by decide +kernel
theorem dX14_readFrame_63 : decode cX14_readFrame 63 = .ok (.putfield 85, 3) := by decide +kernel
theorem dX14_readFrame_66 : decode cX14_readFrame 66 = .ok (.aload_n 0, 1) := by decide +kernel
theorem dX14_readFrame_67 : decode cX14_readFrame 67 = .ok (.aload_n 0, 1) := by decide +kernel
theorem dX14_readFrame_68 : decode cX14_readFrame 68 = .ok (.getfield 100, 3) := by decide +kernel
theorem dX14_readFrame_71 : decode cX14_readFrame 71 = .ok (.ifCond .gt 19, 3) := by decide +kernel
theorem dX14_readFrame_74 : decode cX14_readFrame 74 = .ok (.aload_n 0, 1) := by decide +kernel
theorem dX14_readFrame_75 : decode cX14_readFrame 75 = .ok (.getfield 85, 3) := by decide +kernel
theorem dX14_readFrame_78 : decode cX14_readFrame 78 = .ok (.ifCond .le 16, 3) := by decide +kernel
theorem dX14_readFrame_81 : decode cX14_readFrame 81 = .ok (.aload_n 0, 1) := by decide +kernel
theorem dX14_readFrame_82 : decode cX14_readFrame 82 = .ok (.getfield 85, 3) := by decide +kernel
theorem dX14_readFrame_85 : decode cX14_readFrame 85 = .ok (.bipush 64, 2) := by decide +kernel
theorem dX14_readFrame_87 : decode cX14_readFrame 87 = .ok (.if_icmp .gt 7, 3) := by decide +kernel
theorem dX14_readFrame_90 : decode cX14_readFrame 90 = .ok (.iconst 1, 1) := by decide +kernel
theorem dX14_readFrame_91 : decode cX14_readFrame 91 = .ok (.goto 4, 3) := by decide +kernel
theorem dX14_readFrame_94 : decode cX14_readFrame 94 = .ok (.iconst 0, 1) := by decide +kernel
theorem dX14_readFrame_95 : decode cX14_readFrame 95 = .ok (.invokevirtual 136, 3) := by decide +kernel
theorem dX14_readFrame_98 : decode cX14_readFrame 98 = .ok (.aload_n 0, 1) := by decide +kernel
theorem dX14_readFrame_99 : decode cX14_readFrame 99 = .ok (.invokevirtual 124, 3) := by decide +kernel
theorem dX14_readFrame_102 : decode cX14_readFrame 102 = .ok (.istore_n 2, 1) := by decide +kernel
theorem dX14_readFrame_103 : decode cX14_readFrame 103 = .ok (.aload_n 0, 1) := by decide +kernel
theorem dX14_readFrame_104 : decode cX14_readFrame 104 = .ok (.aload_n 0, 1) := by decide +kernel
theorem dX14_readFrame_105 : decode cX14_readFrame 105 = .ok (.getfield 100, 3) := by decide +kernel
theorem dX14_readFrame_108 : decode cX14_readFrame 108 = .ok (.ifCond .gt 12, 3) := by decide +kernel
theorem dX14_readFrame_111 : decode cX14_readFrame 111 = .ok (.iload_n 2, 1) := by decide +kernel
theorem dX14_readFrame_112 : decode cX14_readFrame 112 = .ok (.ifCond .le 12, 3) := by decide +kernel
theorem dX14_readFrame_115 : decode cX14_readFrame 115 = .ok (.iload_n 2, 1) := by decide +kernel
theorem dX14_readFrame_116 : decode cX14_readFrame 116 = .ok (.iconst 5, 1) := by decide +kernel
theorem dX14_readFrame_117 : decode cX14_readFrame 117 = .ok (.if_icmp .ge 7, 3) := by decide +kernel
theorem dX14_readFrame_120 : decode cX14_readFrame 120 = .ok (.iconst 1, 1) := by decide +kernel
theorem dX14_readFrame_121 : decode cX14_readFrame 121 = .ok (.goto 4, 3) := by decide +kernel
theorem dX14_readFrame_124 : decode cX14_readFrame 124 = .ok (.iconst 0, 1) := by decide +kernel
theorem dX14_readFrame_125 : decode cX14_readFrame 125 = .ok (.invokevirtual 136, 3) := by decide +kernel
theorem dX14_readFrame_128 : decode cX14_readFrame 128 = .ok (.iconst 0, 1) := by decide +kernel
theorem dX14_readFrame_129 : decode cX14_readFrame 129 = .ok (.istore_n 3, 1) := by decide +kernel
theorem dX14_readFrame_130 : decode cX14_readFrame 130 = .ok (.iload_n 3, 1) := by decide +kernel
theorem dX14_readFrame_131 : decode cX14_readFrame 131 = .ok (.iload_n 2, 1) := by decide +kernel
theorem dX14_readFrame_132 : decode cX14_readFrame 132 = .ok (.if_icmp .ge 213, 3) := by decide +kernel
theorem dX14_readFrame_135 : decode cX14_readFrame 135 = .ok (.aload_n 0, 1) := by decide +kernel
theorem dX14_readFrame_136 : decode cX14_readFrame 136 = .ok (.getfield 100, 3) := by decide +kernel
theorem dX14_readFrame_139 : decode cX14_readFrame 139 = .ok (.ifCond .ne 206, 3) := by decide +kernel
theorem dX14_readFrame_142 : decode cX14_readFrame 142 = .ok (.aload_n 0, 1) := by decide +kernel
theorem dX14_readFrame_143 : decode cX14_readFrame 143 = .ok (.getfield 23, 3) := by decide +kernel
theorem dX14_readFrame_146 : decode cX14_readFrame 146 = .ok (.iload_n 3, 1) := by decide +kernel
theorem dX14_readFrame_147 : decode cX14_readFrame 147 = .ok (.aload_n 0, 1) := by decide +kernel
theorem dX14_readFrame_148 : decode cX14_readFrame 148 = .ok (.invokevirtual 124, 3) := by decide +kernel
theorem dX14_readFrame_151 : decode cX14_readFrame 151 = .ok (.iastore, 1) := by decide +kernel
theorem dX14_readFrame_152 : decode cX14_readFrame 152 = .ok (.iconst 0, 1) := by decide +kernel
theorem dX14_readFrame_153 : decode cX14_readFrame 153 = .ok (.istore 4, 2) := by decide +kernel
theorem dX14_readFrame_155 : decode cX14_readFrame 155 = .ok (.iconst 0, 1) := by decide +kernel
theorem dX14_readFrame_156 : decode cX14_readFrame 156 = .ok (.istore 5, 2) := by decide +kernel
theorem dX14_readFrame_158 : decode cX14_readFrame 158 = .ok (.iload 5, 2) := by decide +kernel
theorem dX14_readFrame_160 : decode cX14_readFrame 160 = .ok (.iload_n 3, 1) := by decide +kernel
theorem dX14_readFrame_161 : decode cX14_readFrame 161 = .ok (.if_icmp .ge 37, 3) := by decide +kernel
theorem dX14_readFrame_164 : decode cX14_readFrame 164 = .ok (.iload 4, 2) := by decide +kernel
theorem dX14_readFrame_166 : decode cX14_readFrame 166 = .ok (.ifCond .ne 19, 3) := by decide +kernel
theorem dX14_readFrame_169 : decode cX14_readFrame 169 = .ok (.aload_n 0, 1) := by decide +kernel
theorem dX14_readFrame_170 : decode cX14_readFrame 170 = .ok (.getfield 23, 3) := by decide +kernel
theorem dX14_readFrame_173 : decode cX14_readFrame 173 = .ok (.iload 5, 2) := by decide +kernel
theorem dX14_readFrame_175 : decode cX14_readFrame 175 = .ok (.iaload, 1) := by decide +kernel
theorem dX14_readFrame_176 : decode cX14_readFrame 176 = .ok (.aload_n 0, 1) := by decide +kernel
theorem dX14_readFrame_177 : decode cX14_readFrame 177 = .ok (.getfield 23, 3) := by decide +kernel
theorem dX14_readFrame_180 : decode cX14_readFrame 180 = .ok (.iload_n 3, 1) := by decide +kernel
theorem dX14_readFrame_181 : decode cX14_readFrame 181 = .ok (.iaload, 1) := by decide +kernel
theorem dX14_readFrame_182 : decode cX14_readFrame 182 = .ok (.if_icmp .ne 7, 3) := by decide +kernel
theorem dX14_readFrame_185 : decode cX14_readFrame 185 = .ok (.iconst 1, 1) := by decide +kernel
theorem dX14_readFrame_186 : decode cX14_readFrame 186 = .ok (.goto 4, 3) := by decide +kernel
theorem dX14_readFrame_189 : decode cX14_readFrame 189 = .ok (.iconst 0, 1) := by decide +kernel
theorem dX14_readFrame_190 : decode cX14_readFrame 190 = .ok (.istore 4, 2) := by decide +kernel
theorem dX14_readFrame_192 : decode cX14_readFrame 192 = .ok (.iinc 5 1, 3) := by decide +kernel
theorem dX14_readFrame_195 : decode cX14_readFrame 195 = .ok (.goto (-37), 3) := by decide +kernel
theorem dX14_readFrame_198 : decode cX14_readFrame 198 = .ok (.aload_n 0, 1) := by decide +kernel
theorem dX14_readFrame_199 : decode cX14_readFrame 199 = .ok (.aload_n 0, 1) := by decide +kernel
theorem dX14_readFrame_200 : decode cX14_readFrame 200 = .ok (.getfield 100, 3) := by decide +kernel
theorem dX14_readFrame_203 : decode cX14_readFrame 203 = .ok (.ifCond .gt 8, 3) := by decide +kernel
theorem dX14_readFrame_206 : decode cX14_readFrame 206 = .ok (.iload 4, 2) := by decide +kernel
theorem dX14_readFrame_208 : decode cX14_readFrame 208 = .ok (.ifCond .ne 7, 3) := by decide +kernel
theorem dX14_readFrame_211 : decode cX14_readFrame 211 = .ok (.iconst 1, 1) := by decide +kernel
theorem dX14_readFrame_212 : decode cX14_readFrame 212 = .ok (.goto 4, 3) := by decide +kernel
theorem dX14_readFrame_215 : decode cX14_readFrame 215 = .ok (.iconst 0, 1) := by decide +kernel
theorem dX14_readFrame_216 : decode cX14_readFrame 216 = .ok (.invokevirtual 136, 3) := by decide +kernel
theorem dX14_readFrame_219 : decode cX14_readFrame 219 = .ok (.aload_n 0, 1) := by decide +kernel
theorem dX14_readFrame_220 : decode cX14_readFrame 220 = .ok (.invokevirtual 124, 3) := by decide +kernel
theorem dX14_readFrame_223 : decode cX14_readFrame 223 = .ok (.istore 5, 2) := by decide +kernel
theorem dX14_readFrame_225 : decode cX14_readFrame 225 = .ok (.aload_n 0, 1) := by decide +kernel
theorem dX14_readFrame_226 : decode cX14_readFrame 226 = .ok (.getfield 26, 3) := by decide +kernel
theorem dX14_readFrame_229 : decode cX14_readFrame 229 = .ok (.iload_n 3, 1) := by decide +kernel
theorem dX14_readFrame_230 : decode cX14_readFrame 230 = .ok (.iload 5, 2) := by decide +kernel
theorem dX14_readFrame_232 : decode cX14_readFrame 232 = .ok (.bipush 16, 2) := by decide +kernel
theorem dX14_readFrame_234 : decode cX14_readFrame 234 = .ok (.idiv, 1) := by decide +kernel
theorem dX14_readFrame_235 : decode cX14_readFrame 235 = .ok (.iastore, 1) := by decide +kernel
theorem dX14_readFrame_236 : decode cX14_readFrame 236 = .ok (.aload_n 0, 1) := by decide +kernel
theorem dX14_readFrame_237 : decode cX14_readFrame 237 = .ok (.getfield 29, 3) := by decide +kernel
theorem dX14_readFrame_240 : decode cX14_readFrame 240 = .ok (.iload_n 3, 1) := by decide +kernel
theorem dX14_readFrame_241 : decode cX14_readFrame 241 = .ok (.iload 5, 2) := by decide +kernel
theorem dX14_readFrame_243 : decode cX14_readFrame 243 = .ok (.bipush 16, 2) := by decide +kernel
theorem dX14_readFrame_245 : decode cX14_readFrame 245 = .ok (.irem, 1) := by decide +kernel
theorem dX14_readFrame_246 : decode cX14_readFrame 246 = .ok (.iastore, 1) := by decide +kernel
theorem dX14_readFrame_247 : decode cX14_readFrame 247 = .ok (.aload_n 0, 1) := by decide +kernel
theorem dX14_readFrame_248 : decode cX14_readFrame 248 = .ok (.aload_n 0, 1) := by decide +kernel
theorem dX14_readFrame_249 : decode cX14_readFrame 249 = .ok (.getfield 100, 3) := by decide +kernel
theorem dX14_readFrame_252 : decode cX14_readFrame 252 = .ok (.ifCond .gt 43, 3) := by decide +kernel
theorem dX14_readFrame_255 : decode cX14_readFrame 255 = .ok (.aload_n 0, 1) := by decide +kernel
theorem dX14_readFrame_256 : decode cX14_readFrame 256 = .ok (.getfield 26, 3) := by decide +kernel
theorem dX14_readFrame_259 : decode cX14_readFrame 259 = .ok (.iload_n 3, 1) := by decide +kernel
theorem dX14_readFrame_260 : decode cX14_readFrame 260 = .ok (.iaload, 1) := by decide +kernel
theorem dX14_readFrame_261 : decode cX14_readFrame 261 = .ok (.iconst 1, 1) := by decide +kernel
theorem dX14_readFrame_262 : decode cX14_readFrame 262 = .ok (.if_icmp .lt 37, 3) := by decide +kernel
theorem dX14_readFrame_265 : decode cX14_readFrame 265 = .ok (.aload_n 0, 1) := by decide +kernel
theorem dX14_readFrame_266 : decode cX14_readFrame 266 = .ok (.getfield 26, 3) := by decide +kernel
theorem dX14_readFrame_269 : decode cX14_readFrame 269 = .ok (.iload_n 3, 1) := by decide +kernel
theorem dX14_readFrame_270 : decode cX14_readFrame 270 = .ok (.iaload, 1) := by decide +kernel
theorem dX14_readFrame_271 : decode cX14_readFrame 271 = .ok (.iconst 2, 1) := by decide +kernel
theorem dX14_readFrame_272 : decode cX14_readFrame 272 = .ok (.if_icmp .gt 27, 3) := by decide +kernel
theorem dX14_readFrame_275 : decode cX14_readFrame 275 = .ok (.aload_n 0, 1) := by decide +kernel
theorem dX14_readFrame_276 : decode cX14_readFrame 276 = .ok (.getfield 29, 3) := by decide +kernel
theorem dX14_readFrame_279 : decode cX14_readFrame 279 = .ok (.iload_n 3, 1) := by decide +kernel
theorem dX14_readFrame_280 : decode cX14_readFrame 280 = .ok (.iaload, 1) := by decide +kernel
theorem dX14_readFrame_281 : decode cX14_readFrame 281 = .ok (.iconst 1, 1) := by decide +kernel
theorem dX14_readFrame_282 : decode cX14_readFrame 282 = .ok (.if_icmp .lt 17, 3) := by decide +kernel
theorem dX14_readFrame_285 : decode cX14_readFrame 285 = .ok (.aload_n 0, 1) := by decide +kernel
theorem dX14_readFrame_286 : decode cX14_readFrame 286 = .ok (.getfield 29, 3) := by decide +kernel
theorem dX14_readFrame_289 : decode cX14_readFrame 289 = .ok (.iload_n 3, 1) := by decide +kernel
theorem dX14_readFrame_290 : decode cX14_readFrame 290 = .ok (.iaload, 1) := by decide +kernel
theorem dX14_readFrame_291 : decode cX14_readFrame 291 = .ok (.iconst 2, 1) := by decide +kernel
theorem dX14_readFrame_292 : decode cX14_readFrame 292 = .ok (.if_icmp .gt 7, 3) := by decide +kernel
theorem dX14_readFrame_295 : decode cX14_readFrame 295 = .ok (.iconst 1, 1) := by decide +kernel
theorem dX14_readFrame_296 : decode cX14_readFrame 296 = .ok (.goto 4, 3) := by decide +kernel
theorem dX14_readFrame_299 : decode cX14_readFrame 299 = .ok (.iconst 0, 1) := by decide +kernel
theorem dX14_readFrame_300 : decode cX14_readFrame 300 = .ok (.invokevirtual 136, 3) := by decide +kernel
theorem dX14_readFrame_303 : decode cX14_readFrame 303 = .ok (.aload_n 0, 1) := by decide +kernel
theorem dX14_readFrame_304 : decode cX14_readFrame 304 = .ok (.getfield 32, 3) := by decide +kernel
theorem dX14_readFrame_307 : decode cX14_readFrame 307 = .ok (.iload_n 3, 1) := by decide +kernel
theorem dX14_readFrame_308 : decode cX14_readFrame 308 = .ok (.aload_n 0, 1) := by decide +kernel
theorem dX14_readFrame_309 : decode cX14_readFrame 309 = .ok (.invokevirtual 124, 3) := by decide +kernel
theorem dX14_readFrame_312 : decode cX14_readFrame 312 = .ok (.iastore, 1) := by decide +kernel
theorem dX14_readFrame_313 : decode cX14_readFrame 313 = .ok (.aload_n 0, 1) := by decide +kernel
theorem dX14_readFrame_314 : decode cX14_readFrame 314 = .ok (.aload_n 0, 1) := by decide +kernel
theorem dX14_readFrame_315 : decode cX14_readFrame 315 = .ok (.getfield 100, 3) := by decide +kernel
theorem dX14_readFrame_318 : decode cX14_readFrame 318 = .ok (.ifCond .gt 13, 3) := by decide +kernel
theorem dX14_readFrame_321 : decode cX14_readFrame 321 = .ok (.aload_n 0, 1) := by decide +kernel
theorem dX14_readFrame_322 : decode cX14_readFrame 322 = .ok (.getfield 32, 3) := by decide +kernel
theorem dX14_readFrame_325 : decode cX14_readFrame 325 = .ok (.iload_n 3, 1) := by decide +kernel
theorem dX14_readFrame_326 : decode cX14_readFrame 326 = .ok (.iaload, 1) := by decide +kernel
theorem dX14_readFrame_327 : decode cX14_readFrame 327 = .ok (.iconst 4, 1) := by decide +kernel
theorem dX14_readFrame_328 : decode cX14_readFrame 328 = .ok (.if_icmp .ge 7, 3) := by decide +kernel
theorem dX14_readFrame_331 : decode cX14_readFrame 331 = .ok (.iconst 1, 1) := by decide +kernel
theorem dX14_readFrame_332 : decode cX14_readFrame 332 = .ok (.goto 4, 3) := by decide +kernel
theorem dX14_readFrame_335 : decode cX14_readFrame 335 = .ok (.iconst 0, 1) := by decide +kernel
theorem dX14_readFrame_336 : decode cX14_readFrame 336 = .ok (.invokevirtual 136, 3) := by decide +kernel
theorem dX14_readFrame_339 : decode cX14_readFrame 339 = .ok (.iinc 3 1, 3) := by decide +kernel
theorem dX14_readFrame_342 : decode cX14_readFrame 342 = .ok (.goto (-212), 3) := by decide +kernel
theorem dX14_readFrame_345 : decode cX14_readFrame 345 = .ok (.aload_n 0, 1) := by decide +kernel
theorem dX14_readFrame_346 : decode cX14_readFrame 346 = .ok (.iload_n 2, 1) := by decide +kernel
theorem dX14_readFrame_347 : decode cX14_readFrame 347 = .ok (.putfield 91, 3) := by decide +kernel
theorem dX14_readFrame_350 : decode cX14_readFrame 350 = .ok (.aload_n 0, 1) := by decide +kernel
theorem dX14_readFrame_351 : decode cX14_readFrame 351 = .ok (.iload_n 1, 1) := by decide +kernel
theorem dX14_readFrame_352 : decode cX14_readFrame 352 = .ok (.putfield 82, 3) := by decide +kernel
theorem dX14_readFrame_355 : decode cX14_readFrame 355 = .ok (.return_, 1) := by decide +kernel
theorem flRX14_23 : px_f RX14 23 14 16 := ⟨_, rfl, by decide, Or.inl (tb6 (List.mem_of_getElem? (i := 124) rfl))⟩
theorem flRX14_26 : px_f RX14 26 14 17 := ⟨_, rfl, by decide, Or.inl (tb6 (List.mem_of_getElem? (i := 125) rfl))⟩
theorem flRX14_29 : px_f RX14 29 14 18 := ⟨_, rfl, by decide, Or.inl (tb6 (List.mem_of_getElem? (i := 127) rfl))⟩
theorem flRX14_32 : px_f RX14 32 14 19 := ⟨_, rfl, by decide, Or.inl (tb6 (List.mem_of_getElem? (i := 129) rfl))⟩
theorem kcX14_readFrame_124 : px_cV mX14_readFrame 124 mX14_next 0 := ⟨⟨mbX14_next, by decide, by decide⟩, Or.inl (tb8 (List.mem_of_getElem? (i := 131) rfl)), vbX14_next⟩
theorem kcX14_readFrame_133 : px_cV mX14_readFrame 133 mX14_two 0 := ⟨⟨mbX14_two, by decide, by decide⟩, Or.inl (tb8 (List.mem_of_getElem? (i := 163) rfl)), vbX14_two⟩
theorem kcX14_readFrame_136 : px_cV mX14_readFrame 136 mX14_must 1 := ⟨⟨mbX14_must, by decide, by decide⟩, Or.inl (tb8 (List.mem_of_getElem? (i := 171) rfl)), vbX14_must⟩
set_option maxRecDepth 100000 in
set_option maxHeartbeats 4000000 in
theorem eX14_readFrame_345 {X : px_X}  : ∀ (a0 : Nat) (a1 : Int32) (a2 : Int32) (w : px_W) (q : px_W), fX14_readFrame_345 X  a0 a1 a2 w = some q → EV X mX14_readFrame 345 [(0, .ref a0), (1, .int a1), (2, .int a2)] [] w none q := by
  intro a0 a1 a2 w q h
  unfold fX14_readFrame_345 at h
  refine EV.aload_n 0 dX14_readFrame_345 rfl rfl ?_
  refine EV.iload_n 2 dX14_readFrame_346 rfl rfl ?_
  obtain ⟨w68, gw68, h⟩ := px_bs h
  refine ev_pV dX14_readFrame_347 flRX14_91 rfl rfl rfl rfl gw68 ?_
  refine EV.aload_n 0 dX14_readFrame_350 rfl rfl ?_
  refine EV.iload_n 1 dX14_readFrame_351 rfl rfl ?_
  obtain ⟨w69, gw69, h⟩ := px_bs h
  refine ev_pV dX14_readFrame_352 flRX14_82 rfl rfl rfl rfl gw69 ?_
  cases h
  exact EV.ret0 dX14_readFrame_355 trivial
set_option maxRecDepth 100000 in
set_option maxHeartbeats 4000000 in
theorem eX14_readFrame_190 {X : px_X} {k130 : Nat → Int32 → Int32 → Int32 → px_W → Option (px_W)} (hk130 : ∀ (a0 : Nat) (a1 : Int32) (a2 : Int32) (a3 : Int32) (w : px_W) (q : px_W), k130 a0 a1 a2 a3 w = some q → EV X mX14_readFrame 130 [(0, .ref a0), (1, .int a1), (2, .int a2), (3, .int a3)] [] w none q) {k158 : Nat → Int32 → Int32 → Int32 → Int32 → Int32 → px_W → Option (px_W)} (hk158 : ∀ (a0 : Nat) (a1 : Int32) (a2 : Int32) (a3 : Int32) (a4 : Int32) (a5 : Int32) (w : px_W) (q : px_W), k158 a0 a1 a2 a3 a4 a5 w = some q → EV X mX14_readFrame 158 [(0, .ref a0), (1, .int a1), (2, .int a2), (3, .int a3), (4, .int a4), (5, .int a5)] [] w none q) : ∀ (a0 : Nat) (a1 : Int32) (a2 : Int32) (a3 : Int32) (a5 : Int32) (s0 : Int32) (w : px_W) (q : px_W), fX14_readFrame_190 X k130 k158 a0 a1 a2 a3 a5 s0 w = some q → EV X mX14_readFrame 190 [(0, .ref a0), (1, .int a1), (2, .int a2), (3, .int a3), (5, .int a5)] [.int s0] w none q := by
  intro a0 a1 a2 a3 a5 s0 w q h
  unfold fX14_readFrame_190 at h
  refine EV.istore [(4, .int s0), (0, .ref a0), (1, .int a1), (2, .int a2), (3, .int a3), (5, .int a5)] dX14_readFrame_190 (by decide) rfl ?_
  refine EV.iinc 5 (a5 + 1) [(5, .int (a5 + 1)), (4, .int s0), (0, .ref a0), (1, .int a1), (2, .int a2), (3, .int a3)] dX14_readFrame_192 rfl rfl (by decide) rfl ?_
  refine EV.goto 158 dX14_readFrame_195 (by decide) ?_
  refine EV.sub [2, 3, 4, 5, 1, 0] rfl ?_
  exact hk158 _ _ _ _ _ _ _ _ h
set_option maxRecDepth 100000 in
set_option maxHeartbeats 4000000 in
theorem eX14_readFrame_185 {X : px_X} {k130 : Nat → Int32 → Int32 → Int32 → px_W → Option (px_W)} (hk130 : ∀ (a0 : Nat) (a1 : Int32) (a2 : Int32) (a3 : Int32) (w : px_W) (q : px_W), k130 a0 a1 a2 a3 w = some q → EV X mX14_readFrame 130 [(0, .ref a0), (1, .int a1), (2, .int a2), (3, .int a3)] [] w none q) {k158 : Nat → Int32 → Int32 → Int32 → Int32 → Int32 → px_W → Option (px_W)} (hk158 : ∀ (a0 : Nat) (a1 : Int32) (a2 : Int32) (a3 : Int32) (a4 : Int32) (a5 : Int32) (w : px_W) (q : px_W), k158 a0 a1 a2 a3 a4 a5 w = some q → EV X mX14_readFrame 158 [(0, .ref a0), (1, .int a1), (2, .int a2), (3, .int a3), (4, .int a4), (5, .int a5)] [] w none q) : ∀ (a0 : Nat) (a1 : Int32) (a2 : Int32) (a3 : Int32) (a5 : Int32) (w : px_W) (q : px_W), fX14_readFrame_185 X k130 k158 a0 a1 a2 a3 a5 w = some q → EV X mX14_readFrame 185 [(0, .ref a0), (1, .int a1), (2, .int a2), (3, .int a3), (5, .int a5)] [] w none q := by
  intro a0 a1 a2 a3 a5 w q h
  unfold fX14_readFrame_185 at h
  refine EV.iconst (1) dX14_readFrame_185 (by decide) ?_
  refine EV.goto 190 dX14_readFrame_186 (by decide) ?_
  refine EV.sub [0, 1, 2, 3, 4] rfl ?_
  exact eX14_readFrame_190 hk130 hk158 _ _ _ _ _ _ _ _ h
set_option maxRecDepth 100000 in
set_option maxHeartbeats 4000000 in
theorem eX14_readFrame_336 {X : px_X} {k130 : Nat → Int32 → Int32 → Int32 → px_W → Option (px_W)} (hk130 : ∀ (a0 : Nat) (a1 : Int32) (a2 : Int32) (a3 : Int32) (w : px_W) (q : px_W), k130 a0 a1 a2 a3 w = some q → EV X mX14_readFrame 130 [(0, .ref a0), (1, .int a1), (2, .int a2), (3, .int a3)] [] w none q) : ∀ (a0 : Nat) (a1 : Int32) (a2 : Int32) (a3 : Int32) (s0 : Int32) (s1 : Nat) (w : px_W) (q : px_W), fX14_readFrame_336 X k130 a0 a1 a2 a3 s0 s1 w = some q → EV X mX14_readFrame 336 [(0, .ref a0), (1, .int a1), (2, .int a2), (3, .int a3)] [.int s0, .ref s1] w none q := by
  intro a0 a1 a2 a3 s0 s1 w q h
  unfold fX14_readFrame_336 at h
  obtain ⟨o70, go70, h⟩ := px_bs h
  obtain ⟨q71, gq71, h⟩ := px_bs h
  refine EV.callV (As := [.int s0]) (rest := []) dX14_readFrame_336 kcX14_readFrame_136 (gO_ok go70) rfl rfl rfl (Nat.le_of_ble_eq_true rfl) (Nat.le_of_ble_eq_true rfl) (eX14_must gq71) ?_
  refine EV.iinc 3 (a3 + 1) [(3, .int (a3 + 1)), (0, .ref a0), (1, .int a1), (2, .int a2)] dX14_readFrame_339 rfl rfl (by decide) rfl ?_
  refine EV.goto 130 dX14_readFrame_342 (by decide) ?_
  refine EV.sub [1, 2, 3, 0] rfl ?_
  exact hk130 _ _ _ _ _ _ h
set_option maxRecDepth 100000 in
set_option maxHeartbeats 4000000 in
theorem eX14_readFrame_331 {X : px_X} {k130 : Nat → Int32 → Int32 → Int32 → px_W → Option (px_W)} (hk130 : ∀ (a0 : Nat) (a1 : Int32) (a2 : Int32) (a3 : Int32) (w : px_W) (q : px_W), k130 a0 a1 a2 a3 w = some q → EV X mX14_readFrame 130 [(0, .ref a0), (1, .int a1), (2, .int a2), (3, .int a3)] [] w none q) : ∀ (a0 : Nat) (a1 : Int32) (a2 : Int32) (a3 : Int32) (s0 : Nat) (w : px_W) (q : px_W), fX14_readFrame_331 X k130 a0 a1 a2 a3 s0 w = some q → EV X mX14_readFrame 331 [(0, .ref a0), (1, .int a1), (2, .int a2), (3, .int a3)] [.ref s0] w none q := by
  intro a0 a1 a2 a3 s0 w q h
  unfold fX14_readFrame_331 at h
  refine EV.iconst (1) dX14_readFrame_331 (by decide) ?_
  refine EV.goto 336 dX14_readFrame_332 (by decide) ?_
  refine EV.sub [0, 1, 2, 3] rfl ?_
  exact eX14_readFrame_336 hk130 _ _ _ _ _ _ _ _ h
set_option maxRecDepth 100000 in
set_option maxHeartbeats 4000000 in
theorem eX14_readFrame_300 {X : px_X} {k130 : Nat → Int32 → Int32 → Int32 → px_W → Option (px_W)} (hk130 : ∀ (a0 : Nat) (a1 : Int32) (a2 : Int32) (a3 : Int32) (w : px_W) (q : px_W), k130 a0 a1 a2 a3 w = some q → EV X mX14_readFrame 130 [(0, .ref a0), (1, .int a1), (2, .int a2), (3, .int a3)] [] w none q) : ∀ (a0 : Nat) (a1 : Int32) (a2 : Int32) (a3 : Int32) (s0 : Int32) (s1 : Nat) (w : px_W) (q : px_W), fX14_readFrame_300 X k130 a0 a1 a2 a3 s0 s1 w = some q → EV X mX14_readFrame 300 [(0, .ref a0), (1, .int a1), (2, .int a2), (3, .int a3)] [.int s0, .ref s1] w none q := by
  intro a0 a1 a2 a3 s0 s1 w q h
  unfold fX14_readFrame_300 at h
  obtain ⟨o72, go72, h⟩ := px_bs h
  obtain ⟨q73, gq73, h⟩ := px_bs h
  refine EV.callV (As := [.int s0]) (rest := []) dX14_readFrame_300 kcX14_readFrame_136 (gO_ok go72) rfl rfl rfl (Nat.le_of_ble_eq_true rfl) (Nat.le_of_ble_eq_true rfl) (eX14_must gq73) ?_
  refine EV.aload_n 0 dX14_readFrame_303 rfl rfl ?_
  obtain ⟨v74, gv74, h⟩ := px_bs h
  refine ev_gR dX14_readFrame_304 flRX14_32 gv74 ?_
  refine EV.iload_n 3 dX14_readFrame_307 rfl rfl ?_
  refine EV.aload_n 0 dX14_readFrame_308 rfl rfl ?_
  obtain ⟨o75, go75, h⟩ := px_bs h
  obtain ⟨q76, gq76, h⟩ := px_bs h
  refine EV.callV (As := []) (rest := [.int a3, .ref v74]) dX14_readFrame_309 kcX14_readFrame_124 (gO_ok go75) rfl rfl rfl (Nat.le_of_ble_eq_true rfl) (Nat.le_of_ble_eq_true rfl) (eX14_next gq76) ?_
  obtain ⟨w77, gw77, h⟩ := px_bs h
  refine ev_sI dX14_readFrame_312 gw77 ?_
  refine EV.aload_n 0 dX14_readFrame_313 rfl rfl ?_
  refine EV.aload_n 0 dX14_readFrame_314 rfl rfl ?_
  obtain ⟨v78, gv78, h⟩ := px_bs h
  refine ev_gI dX14_readFrame_315 flRX14_100 gv78 ?_
  refine EV.if_gt 331 dX14_readFrame_318 (by decide) (fun c79 => ?_) (fun c79 => ?_)
  · rw [if_pos c79] at h
    refine EV.sub [0, 1, 2, 3] rfl ?_
    exact eX14_readFrame_331 hk130 _ _ _ _ _ _ _ h
  · rw [if_neg c79] at h
    refine EV.aload_n 0 dX14_readFrame_321 rfl rfl ?_
    obtain ⟨v80, gv80, h⟩ := px_bs h
    refine ev_gR dX14_readFrame_322 flRX14_32 gv80 ?_
    refine EV.iload_n 3 dX14_readFrame_325 rfl rfl ?_
    obtain ⟨v81, gv81, h⟩ := px_bs h
    refine ev_aI dX14_readFrame_326 gv81 ?_
    refine EV.iconst (4) dX14_readFrame_327 (by decide) ?_
    refine EV.icmp_ge 335 dX14_readFrame_328 (by decide) (fun c82 => ?_) (fun c82 => ?_)
    · rw [if_pos c82] at h
      refine EV.iconst (0) dX14_readFrame_335 (by decide) ?_
      refine EV.sub [0, 1, 2, 3] rfl ?_
      exact eX14_readFrame_336 hk130 _ _ _ _ _ _ _ _ h
    · rw [if_neg c82] at h
      refine EV.sub [0, 1, 2, 3] rfl ?_
      exact eX14_readFrame_331 hk130 _ _ _ _ _ _ _ h
set_option maxRecDepth 100000 in
set_option maxHeartbeats 4000000 in
theorem eX14_readFrame_299 {X : px_X} {k130 : Nat → Int32 → Int32 → Int32 → px_W → Option (px_W)} (hk130 : ∀ (a0 : Nat) (a1 : Int32) (a2 : Int32) (a3 : Int32) (w : px_W) (q : px_W), k130 a0 a1 a2 a3 w = some q → EV X mX14_readFrame 130 [(0, .ref a0), (1, .int a1), (2, .int a2), (3, .int a3)] [] w none q) : ∀ (a0 : Nat) (a1 : Int32) (a2 : Int32) (a3 : Int32) (s0 : Nat) (w : px_W) (q : px_W), fX14_readFrame_299 X k130 a0 a1 a2 a3 s0 w = some q → EV X mX14_readFrame 299 [(0, .ref a0), (1, .int a1), (2, .int a2), (3, .int a3)] [.ref s0] w none q := by
  intro a0 a1 a2 a3 s0 w q h
  unfold fX14_readFrame_299 at h
  refine EV.iconst (0) dX14_readFrame_299 (by decide) ?_
  refine EV.sub [0, 1, 2, 3] rfl ?_
  exact eX14_readFrame_300 hk130 _ _ _ _ _ _ _ _ h
set_option maxRecDepth 100000 in
set_option maxHeartbeats 4000000 in
theorem eX14_readFrame_295 {X : px_X} {k130 : Nat → Int32 → Int32 → Int32 → px_W → Option (px_W)} (hk130 : ∀ (a0 : Nat) (a1 : Int32) (a2 : Int32) (a3 : Int32) (w : px_W) (q : px_W), k130 a0 a1 a2 a3 w = some q → EV X mX14_readFrame 130 [(0, .ref a0), (1, .int a1), (2, .int a2), (3, .int a3)] [] w none q) : ∀ (a0 : Nat) (a1 : Int32) (a2 : Int32) (a3 : Int32) (s0 : Nat) (w : px_W) (q : px_W), fX14_readFrame_295 X k130 a0 a1 a2 a3 s0 w = some q → EV X mX14_readFrame 295 [(0, .ref a0), (1, .int a1), (2, .int a2), (3, .int a3)] [.ref s0] w none q := by
  intro a0 a1 a2 a3 s0 w q h
  unfold fX14_readFrame_295 at h
  refine EV.iconst (1) dX14_readFrame_295 (by decide) ?_
  refine EV.goto 300 dX14_readFrame_296 (by decide) ?_
  refine EV.sub [0, 1, 2, 3] rfl ?_
  exact eX14_readFrame_300 hk130 _ _ _ _ _ _ _ _ h
set_option maxRecDepth 100000 in
set_option maxHeartbeats 4000000 in
theorem eX14_readFrame_216 {X : px_X} {k130 : Nat → Int32 → Int32 → Int32 → px_W → Option (px_W)} (hk130 : ∀ (a0 : Nat) (a1 : Int32) (a2 : Int32) (a3 : Int32) (w : px_W) (q : px_W), k130 a0 a1 a2 a3 w = some q → EV X mX14_readFrame 130 [(0, .ref a0), (1, .int a1), (2, .int a2), (3, .int a3)] [] w none q) : ∀ (a0 : Nat) (a1 : Int32) (a2 : Int32) (a3 : Int32) (s0 : Int32) (s1 : Nat) (w : px_W) (q : px_W), fX14_readFrame_216 X k130 a0 a1 a2 a3 s0 s1 w = some q → EV X mX14_readFrame 216 [(0, .ref a0), (1, .int a1), (2, .int a2), (3, .int a3)] [.int s0, .ref s1] w none q := by
  intro a0 a1 a2 a3 s0 s1 w q h
  unfold fX14_readFrame_216 at h
  obtain ⟨o83, go83, h⟩ := px_bs h
  obtain ⟨q84, gq84, h⟩ := px_bs h
  refine EV.callV (As := [.int s0]) (rest := []) dX14_readFrame_216 kcX14_readFrame_136 (gO_ok go83) rfl rfl rfl (Nat.le_of_ble_eq_true rfl) (Nat.le_of_ble_eq_true rfl) (eX14_must gq84) ?_
  refine EV.aload_n 0 dX14_readFrame_219 rfl rfl ?_
  obtain ⟨o85, go85, h⟩ := px_bs h
  obtain ⟨q86, gq86, h⟩ := px_bs h
  refine EV.callV (As := []) (rest := []) dX14_readFrame_220 kcX14_readFrame_124 (gO_ok go85) rfl rfl rfl (Nat.le_of_ble_eq_true rfl) (Nat.le_of_ble_eq_true rfl) (eX14_next gq86) ?_
  refine EV.istore [(5, .int q86.1), (0, .ref a0), (1, .int a1), (2, .int a2), (3, .int a3)] dX14_readFrame_223 (by decide) rfl ?_
  refine EV.aload_n 1 dX14_readFrame_225 rfl rfl ?_
  obtain ⟨v87, gv87, h⟩ := px_bs h
  refine ev_gR dX14_readFrame_226 flRX14_26 gv87 ?_
  refine EV.iload_n 4 dX14_readFrame_229 rfl rfl ?_
  refine EV.iload 0 dX14_readFrame_230 rfl ?_
  refine EV.bipush (16) dX14_readFrame_232 (by decide) ?_
  obtain ⟨v88, gv88, h⟩ := px_bs h
  refine ev_dI dX14_readFrame_234 gv88 ?_
  obtain ⟨w89, gw89, h⟩ := px_bs h
  refine ev_sI dX14_readFrame_235 gw89 ?_
  refine EV.aload_n 1 dX14_readFrame_236 rfl rfl ?_
  obtain ⟨v90, gv90, h⟩ := px_bs h
  refine ev_gR dX14_readFrame_237 flRX14_29 gv90 ?_
  refine EV.iload_n 4 dX14_readFrame_240 rfl rfl ?_
  refine EV.iload 0 dX14_readFrame_241 rfl ?_
  refine EV.bipush (16) dX14_readFrame_243 (by decide) ?_
  obtain ⟨v91, gv91, h⟩ := px_bs h
  refine ev_rI dX14_readFrame_245 gv91 ?_
  obtain ⟨w92, gw92, h⟩ := px_bs h
  refine ev_sI dX14_readFrame_246 gw92 ?_
  refine EV.aload_n 1 dX14_readFrame_247 rfl rfl ?_
  refine EV.aload_n 1 dX14_readFrame_248 rfl rfl ?_
  obtain ⟨v93, gv93, h⟩ := px_bs h
  refine ev_gI dX14_readFrame_249 flRX14_100 gv93 ?_
  refine EV.if_gt 295 dX14_readFrame_252 (by decide) (fun c94 => ?_) (fun c94 => ?_)
  · rw [if_pos c94] at h
    refine EV.sub [1, 2, 3, 4] rfl ?_
    exact eX14_readFrame_295 hk130 _ _ _ _ _ _ _ h
  · rw [if_neg c94] at h
    refine EV.aload_n 1 dX14_readFrame_255 rfl rfl ?_
    obtain ⟨v95, gv95, h⟩ := px_bs h
    refine ev_gR dX14_readFrame_256 flRX14_26 gv95 ?_
    refine EV.iload_n 4 dX14_readFrame_259 rfl rfl ?_
    obtain ⟨v96, gv96, h⟩ := px_bs h
    refine ev_aI dX14_readFrame_260 gv96 ?_
    refine EV.iconst (1) dX14_readFrame_261 (by decide) ?_
    refine EV.icmp_lt 299 dX14_readFrame_262 (by decide) (fun c97 => ?_) (fun c97 => ?_)
    · rw [if_pos c97] at h
      refine EV.sub [1, 2, 3, 4] rfl ?_
      exact eX14_readFrame_299 hk130 _ _ _ _ _ _ _ h
    · rw [if_neg c97] at h
      refine EV.aload_n 1 dX14_readFrame_265 rfl rfl ?_
      obtain ⟨v98, gv98, h⟩ := px_bs h
      refine ev_gR dX14_readFrame_266 flRX14_26 gv98 ?_
      refine EV.iload_n 4 dX14_readFrame_269 rfl rfl ?_
      obtain ⟨v99, gv99, h⟩ := px_bs h
      refine ev_aI dX14_readFrame_270 gv99 ?_
      refine EV.iconst (2) dX14_readFrame_271 (by decide) ?_
      refine EV.icmp_gt 299 dX14_readFrame_272 (by decide) (fun c100 => ?_) (fun c100 => ?_)
      · rw [if_pos c100] at h
        refine EV.sub [1, 2, 3, 4] rfl ?_
        exact eX14_readFrame_299 hk130 _ _ _ _ _ _ _ h
      · rw [if_neg c100] at h
        refine EV.aload_n 1 dX14_readFrame_275 rfl rfl ?_
        obtain ⟨v101, gv101, h⟩ := px_bs h
        refine ev_gR dX14_readFrame_276 flRX14_29 gv101 ?_
        refine EV.iload_n 4 dX14_readFrame_279 rfl rfl ?_
        obtain ⟨v102, gv102, h⟩ := px_bs h
        refine ev_aI dX14_readFrame_280 gv102 ?_
        refine EV.iconst (1) dX14_readFrame_281 (by decide) ?_
        refine EV.icmp_lt 299 dX14_readFrame_282 (by decide) (fun c103 => ?_) (fun c103 => ?_)
        · rw [if_pos c103] at h
          refine EV.sub [1, 2, 3, 4] rfl ?_
          exact eX14_readFrame_299 hk130 _ _ _ _ _ _ _ h
        · rw [if_neg c103] at h
          refine EV.aload_n 1 dX14_readFrame_285 rfl rfl ?_
          obtain ⟨v104, gv104, h⟩ := px_bs h
          refine ev_gR dX14_readFrame_286 flRX14_29 gv104 ?_
          refine EV.iload_n 4 dX14_readFrame_289 rfl rfl ?_
          obtain ⟨v105, gv105, h⟩ := px_bs h
          refine ev_aI dX14_readFrame_290 gv105 ?_
          refine EV.iconst (2) dX14_readFrame_291 (by decide) ?_
          refine EV.icmp_gt 299 dX14_readFrame_292 (by decide) (fun c106 => ?_) (fun c106 => ?_)
          · rw [if_pos c106] at h
            refine EV.sub [1, 2, 3, 4] rfl ?_
            exact eX14_readFrame_299 hk130 _ _ _ _ _ _ _ h
          · rw [if_neg c106] at h
            refine EV.sub [1, 2, 3, 4] rfl ?_
            exact eX14_readFrame_295 hk130 _ _ _ _ _ _ _ h
set_option maxRecDepth 100000 in
set_option maxHeartbeats 4000000 in
theorem eX14_readFrame_211 {X : px_X} {k130 : Nat → Int32 → Int32 → Int32 → px_W → Option (px_W)} (hk130 : ∀ (a0 : Nat) (a1 : Int32) (a2 : Int32) (a3 : Int32) (w : px_W) (q : px_W), k130 a0 a1 a2 a3 w = some q → EV X mX14_readFrame 130 [(0, .ref a0), (1, .int a1), (2, .int a2), (3, .int a3)] [] w none q) : ∀ (a0 : Nat) (a1 : Int32) (a2 : Int32) (a3 : Int32) (s0 : Nat) (w : px_W) (q : px_W), fX14_readFrame_211 X k130 a0 a1 a2 a3 s0 w = some q → EV X mX14_readFrame 211 [(0, .ref a0), (1, .int a1), (2, .int a2), (3, .int a3)] [.ref s0] w none q := by
  intro a0 a1 a2 a3 s0 w q h
  unfold fX14_readFrame_211 at h
  refine EV.iconst (1) dX14_readFrame_211 (by decide) ?_
  refine EV.goto 216 dX14_readFrame_212 (by decide) ?_
  refine EV.sub [0, 1, 2, 3] rfl ?_
  exact eX14_readFrame_216 hk130 _ _ _ _ _ _ _ _ h
set_option maxRecDepth 100000 in
set_option maxHeartbeats 4000000 in
theorem eX14_readFrame_198 {X : px_X} {k130 : Nat → Int32 → Int32 → Int32 → px_W → Option (px_W)} (hk130 : ∀ (a0 : Nat) (a1 : Int32) (a2 : Int32) (a3 : Int32) (w : px_W) (q : px_W), k130 a0 a1 a2 a3 w = some q → EV X mX14_readFrame 130 [(0, .ref a0), (1, .int a1), (2, .int a2), (3, .int a3)] [] w none q) : ∀ (a0 : Nat) (a1 : Int32) (a2 : Int32) (a3 : Int32) (a4 : Int32) (w : px_W) (q : px_W), fX14_readFrame_198 X k130 a0 a1 a2 a3 a4 w = some q → EV X mX14_readFrame 198 [(0, .ref a0), (1, .int a1), (2, .int a2), (3, .int a3), (4, .int a4)] [] w none q := by
  intro a0 a1 a2 a3 a4 w q h
  unfold fX14_readFrame_198 at h
  refine EV.aload_n 0 dX14_readFrame_198 rfl rfl ?_
  refine EV.aload_n 0 dX14_readFrame_199 rfl rfl ?_
  obtain ⟨v107, gv107, h⟩ := px_bs h
  refine ev_gI dX14_readFrame_200 flRX14_100 gv107 ?_
  refine EV.if_gt 211 dX14_readFrame_203 (by decide) (fun c108 => ?_) (fun c108 => ?_)
  · rw [if_pos c108] at h
    refine EV.sub [0, 1, 2, 3] rfl ?_
    exact eX14_readFrame_211 hk130 _ _ _ _ _ _ _ h
  · rw [if_neg c108] at h
    refine EV.iload 4 dX14_readFrame_206 rfl ?_
    refine EV.if_ne 215 dX14_readFrame_208 (by decide) (fun c109 => ?_) (fun c109 => ?_)
    · rw [if_neg c109] at h
      refine EV.iconst (0) dX14_readFrame_215 (by decide) ?_
      refine EV.sub [0, 1, 2, 3] rfl ?_
      exact eX14_readFrame_216 hk130 _ _ _ _ _ _ _ _ h
    · rw [if_pos c109] at h
      refine EV.sub [0, 1, 2, 3] rfl ?_
      exact eX14_readFrame_211 hk130 _ _ _ _ _ _ _ h
set_option maxRecDepth 100000 in
set_option maxHeartbeats 4000000 in
theorem eX14_readFrame_158 {X : px_X} {k130 : Nat → Int32 → Int32 → Int32 → px_W → Option (px_W)} (hk130 : ∀ (a0 : Nat) (a1 : Int32) (a2 : Int32) (a3 : Int32) (w : px_W) (q : px_W), k130 a0 a1 a2 a3 w = some q → EV X mX14_readFrame 130 [(0, .ref a0), (1, .int a1), (2, .int a2), (3, .int a3)] [] w none q) : ∀ (m : Nat) (a0 : Nat) (a1 : Int32) (a2 : Int32) (a3 : Int32) (a4 : Int32) (a5 : Int32) (w : px_W) (q : px_W), fX14_readFrame_158 X k130 m a0 a1 a2 a3 a4 a5 w = some q → EV X mX14_readFrame 158 [(0, .ref a0), (1, .int a1), (2, .int a2), (3, .int a3), (4, .int a4), (5, .int a5)] [] w none q := by
  intro m
  induction m with
  | zero => intro a0 a1 a2 a3 a4 a5 w q h; cases h
  | succ m ih =>
    intro a0 a1 a2 a3 a4 a5 w q h
    rw [fX14_readFrame_158.eq_2] at h
    refine EV.iload 5 dX14_readFrame_158 rfl ?_
    refine EV.iload_n 3 dX14_readFrame_160 rfl rfl ?_
    refine EV.icmp_ge 198 dX14_readFrame_161 (by decide) (fun c110 => ?_) (fun c110 => ?_)
    · rw [if_pos c110] at h
      refine EV.sub [0, 1, 2, 3, 4] rfl ?_
      exact eX14_readFrame_198 hk130 _ _ _ _ _ _ _ h
    · rw [if_neg c110] at h
      refine EV.iload 4 dX14_readFrame_164 rfl ?_
      refine EV.if_ne 185 dX14_readFrame_166 (by decide) (fun c111 => ?_) (fun c111 => ?_)
      · rw [if_neg c111] at h
        refine EV.sub [0, 1, 2, 3, 5] rfl ?_
        exact eX14_readFrame_185 hk130 ih _ _ _ _ _ _ _ h
      · rw [if_pos c111] at h
        refine EV.aload_n 0 dX14_readFrame_169 rfl rfl ?_
        obtain ⟨v112, gv112, h⟩ := px_bs h
        refine ev_gR dX14_readFrame_170 flRX14_23 gv112 ?_
        refine EV.iload 5 dX14_readFrame_173 rfl ?_
        obtain ⟨v113, gv113, h⟩ := px_bs h
        refine ev_aI dX14_readFrame_175 gv113 ?_
        refine EV.aload_n 0 dX14_readFrame_176 rfl rfl ?_
        obtain ⟨v114, gv114, h⟩ := px_bs h
        refine ev_gR dX14_readFrame_177 flRX14_23 gv114 ?_
        refine EV.iload_n 3 dX14_readFrame_180 rfl rfl ?_
        obtain ⟨v115, gv115, h⟩ := px_bs h
        refine ev_aI dX14_readFrame_181 gv115 ?_
        refine EV.icmp_ne 189 dX14_readFrame_182 (by decide) (fun c116 => ?_) (fun c116 => ?_)
        · rw [if_neg c116] at h
          refine EV.iconst (0) dX14_readFrame_189 (by decide) ?_
          refine EV.sub [0, 1, 2, 3, 5] rfl ?_
          exact eX14_readFrame_190 hk130 ih _ _ _ _ _ _ _ _ h
        · rw [if_pos c116] at h
          refine EV.sub [0, 1, 2, 3, 5] rfl ?_
          exact eX14_readFrame_185 hk130 ih _ _ _ _ _ _ _ h
set_option maxRecDepth 100000 in
set_option maxHeartbeats 4000000 in
theorem eX14_readFrame_130 {X : px_X}  : ∀ (m : Nat) (a0 : Nat) (a1 : Int32) (a2 : Int32) (a3 : Int32) (w : px_W) (q : px_W), fX14_readFrame_130 X  m a0 a1 a2 a3 w = some q → EV X mX14_readFrame 130 [(0, .ref a0), (1, .int a1), (2, .int a2), (3, .int a3)] [] w none q := by
  intro m
  induction m with
  | zero => intro a0 a1 a2 a3 w q h; cases h
  | succ m ih =>
    intro a0 a1 a2 a3 w q h
    rw [fX14_readFrame_130.eq_2] at h
    refine EV.iload_n 3 dX14_readFrame_130 rfl rfl ?_
    refine EV.iload_n 2 dX14_readFrame_131 rfl rfl ?_
    refine EV.icmp_ge 345 dX14_readFrame_132 (by decide) (fun c117 => ?_) (fun c117 => ?_)
    · rw [if_pos c117] at h
      refine EV.sub [0, 1, 2] rfl ?_
      exact eX14_readFrame_345  _ _ _ _ _ h
    · rw [if_neg c117] at h
      refine EV.aload_n 0 dX14_readFrame_135 rfl rfl ?_
      obtain ⟨v118, gv118, h⟩ := px_bs h
      refine ev_gI dX14_readFrame_136 flRX14_100 gv118 ?_
      refine EV.if_ne 345 dX14_readFrame_139 (by decide) (fun c119 => ?_) (fun c119 => ?_)
      · rw [if_neg c119] at h
        refine EV.sub [0, 1, 2] rfl ?_
        exact eX14_readFrame_345  _ _ _ _ _ h
      · rw [if_pos c119] at h
        refine EV.aload_n 0 dX14_readFrame_142 rfl rfl ?_
        obtain ⟨v120, gv120, h⟩ := px_bs h
        refine ev_gR dX14_readFrame_143 flRX14_23 gv120 ?_
        refine EV.iload_n 3 dX14_readFrame_146 rfl rfl ?_
        refine EV.aload_n 0 dX14_readFrame_147 rfl rfl ?_
        obtain ⟨o121, go121, h⟩ := px_bs h
        obtain ⟨q122, gq122, h⟩ := px_bs h
        refine EV.callV (As := []) (rest := [.int a3, .ref v120]) dX14_readFrame_148 kcX14_readFrame_124 (gO_ok go121) rfl rfl rfl (Nat.le_of_ble_eq_true rfl) (Nat.le_of_ble_eq_true rfl) (eX14_next gq122) ?_
        obtain ⟨w123, gw123, h⟩ := px_bs h
        refine ev_sI dX14_readFrame_151 gw123 ?_
        refine EV.iconst (0) dX14_readFrame_152 (by decide) ?_
        refine EV.istore [(4, .int 0), (0, .ref a0), (1, .int a1), (2, .int a2), (3, .int a3)] dX14_readFrame_153 (by decide) rfl ?_
        refine EV.iconst (0) dX14_readFrame_155 (by decide) ?_
        refine EV.istore [(5, .int 0), (4, .int 0), (0, .ref a0), (1, .int a1), (2, .int a2), (3, .int a3)] dX14_readFrame_156 (by decide) rfl ?_
        refine EV.sub [2, 3, 4, 5, 1, 0] rfl ?_
        exact eX14_readFrame_158 ih FU _ _ _ _ _ _ _ _ h
set_option maxRecDepth 100000 in
set_option maxHeartbeats 4000000 in
theorem eX14_readFrame_125 {X : px_X}  : ∀ (a0 : Nat) (a1 : Int32) (a2 : Int32) (s0 : Int32) (s1 : Nat) (w : px_W) (q : px_W), fX14_readFrame_125 X  a0 a1 a2 s0 s1 w = some q → EV X mX14_readFrame 125 [(0, .ref a0), (1, .int a1), (2, .int a2)] [.int s0, .ref s1] w none q := by
  intro a0 a1 a2 s0 s1 w q h
  unfold fX14_readFrame_125 at h
  obtain ⟨o124, go124, h⟩ := px_bs h
  obtain ⟨q125, gq125, h⟩ := px_bs h
  refine EV.callV (As := [.int s0]) (rest := []) dX14_readFrame_125 kcX14_readFrame_136 (gO_ok go124) rfl rfl rfl (Nat.le_of_ble_eq_true rfl) (Nat.le_of_ble_eq_true rfl) (eX14_must gq125) ?_
  refine EV.iconst (0) dX14_readFrame_128 (by decide) ?_
  refine EV.istore_n [(3, .int 0), (0, .ref a0), (1, .int a1), (2, .int a2)] dX14_readFrame_129 rfl (by decide) rfl ?_
  refine EV.sub [1, 2, 3, 0] rfl ?_
  exact eX14_readFrame_130  FU _ _ _ _ _ _ h
set_option maxRecDepth 100000 in
set_option maxHeartbeats 4000000 in
theorem eX14_readFrame_120 {X : px_X}  : ∀ (a0 : Nat) (a1 : Int32) (a2 : Int32) (s0 : Nat) (w : px_W) (q : px_W), fX14_readFrame_120 X  a0 a1 a2 s0 w = some q → EV X mX14_readFrame 120 [(0, .ref a0), (1, .int a1), (2, .int a2)] [.ref s0] w none q := by
  intro a0 a1 a2 s0 w q h
  unfold fX14_readFrame_120 at h
  refine EV.iconst (1) dX14_readFrame_120 (by decide) ?_
  refine EV.goto 125 dX14_readFrame_121 (by decide) ?_
  refine EV.sub [0, 1, 2] rfl ?_
  exact eX14_readFrame_125  _ _ _ _ _ _ _ h
set_option maxRecDepth 100000 in
set_option maxHeartbeats 4000000 in
theorem eX14_readFrame_124 {X : px_X}  : ∀ (a0 : Nat) (a1 : Int32) (a2 : Int32) (s0 : Nat) (w : px_W) (q : px_W), fX14_readFrame_124 X  a0 a1 a2 s0 w = some q → EV X mX14_readFrame 124 [(0, .ref a0), (1, .int a1), (2, .int a2)] [.ref s0] w none q := by
  intro a0 a1 a2 s0 w q h
  unfold fX14_readFrame_124 at h
  refine EV.iconst (0) dX14_readFrame_124 (by decide) ?_
  refine EV.sub [0, 1, 2] rfl ?_
  exact eX14_readFrame_125  _ _ _ _ _ _ _ h
set_option maxRecDepth 100000 in
set_option maxHeartbeats 4000000 in
theorem eX14_readFrame_95 {X : px_X}  : ∀ (a0 : Nat) (a1 : Int32) (s0 : Int32) (s1 : Nat) (w : px_W) (q : px_W), fX14_readFrame_95 X  a0 a1 s0 s1 w = some q → EV X mX14_readFrame 95 [(0, .ref a0), (1, .int a1)] [.int s0, .ref s1] w none q := by
  intro a0 a1 s0 s1 w q h
  unfold fX14_readFrame_95 at h
  obtain ⟨o126, go126, h⟩ := px_bs h
  obtain ⟨q127, gq127, h⟩ := px_bs h
  refine EV.callV (As := [.int s0]) (rest := []) dX14_readFrame_95 kcX14_readFrame_136 (gO_ok go126) rfl rfl rfl (Nat.le_of_ble_eq_true rfl) (Nat.le_of_ble_eq_true rfl) (eX14_must gq127) ?_
  refine EV.aload_n 0 dX14_readFrame_98 rfl rfl ?_
  obtain ⟨o128, go128, h⟩ := px_bs h
  obtain ⟨q129, gq129, h⟩ := px_bs h
  refine EV.callV (As := []) (rest := []) dX14_readFrame_99 kcX14_readFrame_124 (gO_ok go128) rfl rfl rfl (Nat.le_of_ble_eq_true rfl) (Nat.le_of_ble_eq_true rfl) (eX14_next gq129) ?_
  refine EV.istore_n [(2, .int q129.1), (0, .ref a0), (1, .int a1)] dX14_readFrame_102 rfl (by decide) rfl ?_
  refine EV.aload_n 1 dX14_readFrame_103 rfl rfl ?_
  refine EV.aload_n 1 dX14_readFrame_104 rfl rfl ?_
  obtain ⟨v130, gv130, h⟩ := px_bs h
  refine ev_gI dX14_readFrame_105 flRX14_100 gv130 ?_
  refine EV.if_gt 120 dX14_readFrame_108 (by decide) (fun c131 => ?_) (fun c131 => ?_)
  · rw [if_pos c131] at h
    refine EV.sub [1, 2, 0] rfl ?_
    exact eX14_readFrame_120  _ _ _ _ _ _ h
  · rw [if_neg c131] at h
    refine EV.iload_n 0 dX14_readFrame_111 rfl rfl ?_
    refine EV.if_le 124 dX14_readFrame_112 (by decide) (fun c132 => ?_) (fun c132 => ?_)
    · rw [if_pos c132] at h
      refine EV.sub [1, 2, 0] rfl ?_
      exact eX14_readFrame_124  _ _ _ _ _ _ h
    · rw [if_neg c132] at h
      refine EV.iload_n 0 dX14_readFrame_115 rfl rfl ?_
      refine EV.iconst (5) dX14_readFrame_116 (by decide) ?_
      refine EV.icmp_ge 124 dX14_readFrame_117 (by decide) (fun c133 => ?_) (fun c133 => ?_)
      · rw [if_pos c133] at h
        refine EV.sub [1, 2, 0] rfl ?_
        exact eX14_readFrame_124  _ _ _ _ _ _ h
      · rw [if_neg c133] at h
        refine EV.sub [1, 2, 0] rfl ?_
        exact eX14_readFrame_120  _ _ _ _ _ _ h
set_option maxRecDepth 100000 in
set_option maxHeartbeats 4000000 in
theorem eX14_readFrame_90 {X : px_X}  : ∀ (a0 : Nat) (a1 : Int32) (s0 : Nat) (w : px_W) (q : px_W), fX14_readFrame_90 X  a0 a1 s0 w = some q → EV X mX14_readFrame 90 [(0, .ref a0), (1, .int a1)] [.ref s0] w none q := by
  intro a0 a1 s0 w q h
  unfold fX14_readFrame_90 at h
  refine EV.iconst (1) dX14_readFrame_90 (by decide) ?_
  refine EV.goto 95 dX14_readFrame_91 (by decide) ?_
  refine EV.sub [0, 1] rfl ?_
  exact eX14_readFrame_95  _ _ _ _ _ _ h
set_option maxRecDepth 100000 in
set_option maxHeartbeats 4000000 in
theorem eX14_readFrame_94 {X : px_X}  : ∀ (a0 : Nat) (a1 : Int32) (s0 : Nat) (w : px_W) (q : px_W), fX14_readFrame_94 X  a0 a1 s0 w = some q → EV X mX14_readFrame 94 [(0, .ref a0), (1, .int a1)] [.ref s0] w none q := by
  intro a0 a1 s0 w q h
  unfold fX14_readFrame_94 at h
  refine EV.iconst (0) dX14_readFrame_94 (by decide) ?_
  refine EV.sub [0, 1] rfl ?_
  exact eX14_readFrame_95  _ _ _ _ _ _ h
set_option maxRecDepth 100000 in
set_option maxHeartbeats 4000000 in
theorem eX14_readFrame_55 {X : px_X}  : ∀ (a0 : Nat) (a1 : Int32) (s0 : Int32) (s1 : Nat) (w : px_W) (q : px_W), fX14_readFrame_55 X  a0 a1 s0 s1 w = some q → EV X mX14_readFrame 55 [(0, .ref a0), (1, .int a1)] [.int s0, .ref s1] w none q := by
  intro a0 a1 s0 s1 w q h
  unfold fX14_readFrame_55 at h
  obtain ⟨o134, go134, h⟩ := px_bs h
  obtain ⟨q135, gq135, h⟩ := px_bs h
  refine EV.callV (As := [.int s0]) (rest := []) dX14_readFrame_55 kcX14_readFrame_136 (gO_ok go134) rfl rfl rfl (Nat.le_of_ble_eq_true rfl) (Nat.le_of_ble_eq_true rfl) (eX14_must gq135) ?_
  refine EV.aload_n 0 dX14_readFrame_58 rfl rfl ?_
  refine EV.aload_n 0 dX14_readFrame_59 rfl rfl ?_
  obtain ⟨o136, go136, h⟩ := px_bs h
  obtain ⟨q137, gq137, h⟩ := px_bs h
  refine EV.callV (As := []) (rest := [.ref a0]) dX14_readFrame_60 kcX14_readFrame_133 (gO_ok go136) rfl rfl rfl (Nat.le_of_ble_eq_true rfl) (Nat.le_of_ble_eq_true rfl) (eX14_two gq137) ?_
  obtain ⟨w138, gw138, h⟩ := px_bs h
  refine ev_pV dX14_readFrame_63 flRX14_85 rfl rfl rfl rfl gw138 ?_
  refine EV.aload_n 0 dX14_readFrame_66 rfl rfl ?_
  refine EV.aload_n 0 dX14_readFrame_67 rfl rfl ?_
  obtain ⟨v139, gv139, h⟩ := px_bs h
  refine ev_gI dX14_readFrame_68 flRX14_100 gv139 ?_
  refine EV.if_gt 90 dX14_readFrame_71 (by decide) (fun c140 => ?_) (fun c140 => ?_)
  · rw [if_pos c140] at h
    refine EV.sub [0, 1] rfl ?_
    exact eX14_readFrame_90  _ _ _ _ _ h
  · rw [if_neg c140] at h
    refine EV.aload_n 0 dX14_readFrame_74 rfl rfl ?_
    obtain ⟨v141, gv141, h⟩ := px_bs h
    refine ev_gI dX14_readFrame_75 flRX14_85 gv141 ?_
    refine EV.if_le 94 dX14_readFrame_78 (by decide) (fun c142 => ?_) (fun c142 => ?_)
    · rw [if_pos c142] at h
      refine EV.sub [0, 1] rfl ?_
      exact eX14_readFrame_94  _ _ _ _ _ h
    · rw [if_neg c142] at h
      refine EV.aload_n 0 dX14_readFrame_81 rfl rfl ?_
      obtain ⟨v143, gv143, h⟩ := px_bs h
      refine ev_gI dX14_readFrame_82 flRX14_85 gv143 ?_
      refine EV.bipush (64) dX14_readFrame_85 (by decide) ?_
      refine EV.icmp_gt 94 dX14_readFrame_87 (by decide) (fun c144 => ?_) (fun c144 => ?_)
      · rw [if_pos c144] at h
        refine EV.sub [0, 1] rfl ?_
        exact eX14_readFrame_94  _ _ _ _ _ h
      · rw [if_neg c144] at h
        refine EV.sub [0, 1] rfl ?_
        exact eX14_readFrame_90  _ _ _ _ _ h
set_option maxRecDepth 100000 in
set_option maxHeartbeats 4000000 in
theorem eX14_readFrame_50 {X : px_X}  : ∀ (a0 : Nat) (a1 : Int32) (s0 : Nat) (w : px_W) (q : px_W), fX14_readFrame_50 X  a0 a1 s0 w = some q → EV X mX14_readFrame 50 [(0, .ref a0), (1, .int a1)] [.ref s0] w none q := by
  intro a0 a1 s0 w q h
  unfold fX14_readFrame_50 at h
  refine EV.iconst (1) dX14_readFrame_50 (by decide) ?_
  refine EV.goto 55 dX14_readFrame_51 (by decide) ?_
  refine EV.sub [0, 1] rfl ?_
  exact eX14_readFrame_55  _ _ _ _ _ _ h
set_option maxRecDepth 100000 in
set_option maxHeartbeats 4000000 in
theorem eX14_readFrame_22 {X : px_X}  : ∀ (a0 : Nat) (a1 : Int32) (s0 : Int32) (s1 : Nat) (w : px_W) (q : px_W), fX14_readFrame_22 X  a0 a1 s0 s1 w = some q → EV X mX14_readFrame 22 [(0, .ref a0), (1, .int a1)] [.int s0, .ref s1] w none q := by
  intro a0 a1 s0 s1 w q h
  unfold fX14_readFrame_22 at h
  obtain ⟨o145, go145, h⟩ := px_bs h
  obtain ⟨q146, gq146, h⟩ := px_bs h
  refine EV.callV (As := [.int s0]) (rest := []) dX14_readFrame_22 kcX14_readFrame_136 (gO_ok go145) rfl rfl rfl (Nat.le_of_ble_eq_true rfl) (Nat.le_of_ble_eq_true rfl) (eX14_must gq146) ?_
  refine EV.aload_n 0 dX14_readFrame_25 rfl rfl ?_
  refine EV.aload_n 0 dX14_readFrame_26 rfl rfl ?_
  obtain ⟨o147, go147, h⟩ := px_bs h
  obtain ⟨q148, gq148, h⟩ := px_bs h
  refine EV.callV (As := []) (rest := [.ref a0]) dX14_readFrame_27 kcX14_readFrame_133 (gO_ok go147) rfl rfl rfl (Nat.le_of_ble_eq_true rfl) (Nat.le_of_ble_eq_true rfl) (eX14_two gq148) ?_
  obtain ⟨w149, gw149, h⟩ := px_bs h
  refine ev_pV dX14_readFrame_30 flRX14_88 rfl rfl rfl rfl gw149 ?_
  refine EV.aload_n 0 dX14_readFrame_33 rfl rfl ?_
  refine EV.aload_n 0 dX14_readFrame_34 rfl rfl ?_
  obtain ⟨v150, gv150, h⟩ := px_bs h
  refine ev_gI dX14_readFrame_35 flRX14_100 gv150 ?_
  refine EV.if_gt 50 dX14_readFrame_38 (by decide) (fun c151 => ?_) (fun c151 => ?_)
  · rw [if_pos c151] at h
    refine EV.sub [0, 1] rfl ?_
    exact eX14_readFrame_50  _ _ _ _ _ h
  · rw [if_neg c151] at h
    refine EV.aload_n 0 dX14_readFrame_41 rfl rfl ?_
    obtain ⟨v152, gv152, h⟩ := px_bs h
    refine ev_gI dX14_readFrame_42 flRX14_88 gv152 ?_
    refine EV.bipush (64) dX14_readFrame_45 (by decide) ?_
    refine EV.icmp_gt 54 dX14_readFrame_47 (by decide) (fun c153 => ?_) (fun c153 => ?_)
    · rw [if_pos c153] at h
      refine EV.iconst (0) dX14_readFrame_54 (by decide) ?_
      refine EV.sub [0, 1] rfl ?_
      exact eX14_readFrame_55  _ _ _ _ _ _ h
    · rw [if_neg c153] at h
      refine EV.sub [0, 1] rfl ?_
      exact eX14_readFrame_50  _ _ _ _ _ h
set_option maxRecDepth 100000 in
set_option maxHeartbeats 4000000 in
theorem eX14_readFrame_17 {X : px_X}  : ∀ (a0 : Nat) (a1 : Int32) (s0 : Nat) (w : px_W) (q : px_W), fX14_readFrame_17 X  a0 a1 s0 w = some q → EV X mX14_readFrame 17 [(0, .ref a0), (1, .int a1)] [.ref s0] w none q := by
  intro a0 a1 s0 w q h
  unfold fX14_readFrame_17 at h
  refine EV.iconst (1) dX14_readFrame_17 (by decide) ?_
  refine EV.goto 22 dX14_readFrame_18 (by decide) ?_
  refine EV.sub [0, 1] rfl ?_
  exact eX14_readFrame_22  _ _ _ _ _ _ h
set_option maxRecDepth 100000 in
set_option maxHeartbeats 4000000 in
theorem eX14_readFrame {X : px_X} {w : px_W} {a0 : Nat} {a1 : Int32} {q : px_W} (h : fX14_readFrame X w a0 a1 = some q) : EV X mX14_readFrame 0 (lv_args 0 [.ref a0, .int a1]) [] w none q := by
  unfold fX14_readFrame at h
  show EV X mX14_readFrame 0 [(0, .ref a0), (1, .int a1)] [] w none q
  refine EV.aload_n 0 dX14_readFrame_0 rfl rfl ?_
  refine EV.aload_n 0 dX14_readFrame_1 rfl rfl ?_
  obtain ⟨o154, go154, h⟩ := px_bs h
  obtain ⟨q155, gq155, h⟩ := px_bs h
  refine EV.callV (As := []) (rest := [.ref a0]) dX14_readFrame_2 kcX14_readFrame_124 (gO_ok go154) rfl rfl rfl (Nat.le_of_ble_eq_true rfl) (Nat.le_of_ble_eq_true rfl) (eX14_next gq155) ?_
  refine EV.bipush (8) dX14_readFrame_5 (by decide) ?_
  refine EV.icmp_eq 17 dX14_readFrame_7 (by decide) (fun c156 => ?_) (fun c156 => ?_)
  · rw [if_pos c156] at h
    refine EV.sub [0, 1] rfl ?_
    exact eX14_readFrame_17  _ _ _ _ _ h
  · rw [if_neg c156] at h
    refine EV.aload_n 0 dX14_readFrame_10 rfl rfl ?_
    obtain ⟨v157, gv157, h⟩ := px_bs h
    refine ev_gI dX14_readFrame_11 flRX14_100 gv157 ?_
    refine EV.if_le 21 dX14_readFrame_14 (by decide) (fun c158 => ?_) (fun c158 => ?_)
    · rw [if_pos c158] at h
      refine EV.iconst (0) dX14_readFrame_21 (by decide) ?_
      refine EV.sub [0, 1] rfl ?_
      exact eX14_readFrame_22  _ _ _ _ _ _ h
    · rw [if_neg c158] at h
      refine EV.sub [0, 1] rfl ?_
      exact eX14_readFrame_17  _ _ _ _ _ h
/-! WavePicturesModel$Segments.named(I)I -/
theorem dX14_named_0 : decode cX14_named 0 = .ok (.iconst (-1), 1) := by decide +kernel
theorem dX14_named_1 : decode cX14_named 1 = .ok (.istore_n 2, 1) := by decide +kernel
theorem dX14_named_2 : decode cX14_named 2 = .ok (.iconst 0, 1) := by decide +kernel
theorem dX14_named_3 : decode cX14_named 3 = .ok (.istore_n 3, 1) := by decide +kernel
theorem dX14_named_4 : decode cX14_named 4 = .ok (.iload_n 3, 1) := by decide +kernel
theorem dX14_named_5 : decode cX14_named 5 = .ok (.aload_n 0, 1) := by decide +kernel
theorem dX14_named_6 : decode cX14_named 6 = .ok (.getfield 91, 3) := by decide +kernel
theorem dX14_named_9 : decode cX14_named 9 = .ok (.if_icmp .ge 25, 3) := by decide +kernel
theorem dX14_named_12 : decode cX14_named 12 = .ok (.aload_n 0, 1) := by decide +kernel
theorem dX14_named_13 : decode cX14_named 13 = .ok (.getfield 23, 3) := by decide +kernel
theorem dX14_named_16 : decode cX14_named 16 = .ok (.iload_n 3, 1) := by decide +kernel
theorem dX14_named_17 : decode cX14_named 17 = .ok (.iaload, 1) := by decide +kernel
theorem dX14_named_18 : decode cX14_named 18 = .ok (.iload_n 1, 1) := by decide +kernel
theorem dX14_named_19 : decode cX14_named 19 = .ok (.if_icmp .ne 7, 3) := by decide +kernel
theorem dX14_named_22 : decode cX14_named 22 = .ok (.iload_n 3, 1) := by decide +kernel
theorem dX14_named_23 : decode cX14_named 23 = .ok (.goto 4, 3) := by decide +kernel
theorem dX14_named_26 : decode cX14_named 26 = .ok (.iload_n 2, 1) := by decide +kernel
theorem dX14_named_27 : decode cX14_named 27 = .ok (.istore_n 2, 1) := by decide +kernel
theorem dX14_named_28 : decode cX14_named 28 = .ok (.iinc 3 1, 3) := by decide +kernel
theorem dX14_named_31 : decode cX14_named 31 = .ok (.goto (-27), 3) := by decide +kernel
theorem dX14_named_34 : decode cX14_named 34 = .ok (.iload_n 2, 1) := by decide +kernel
theorem dX14_named_35 : decode cX14_named 35 = .ok (.ireturn, 1) := by decide +kernel
set_option maxRecDepth 100000 in
set_option maxHeartbeats 4000000 in
theorem eX14_named_27 {X : px_X} {k4 : Nat → Int32 → Int32 → Int32 → px_W → Option (Int32 × px_W)} (hk4 : ∀ (a0 : Nat) (a1 : Int32) (a2 : Int32) (a3 : Int32) (w : px_W) (q : Int32 × px_W), k4 a0 a1 a2 a3 w = some q → EV X mX14_named 4 [(0, .ref a0), (1, .int a1), (2, .int a2), (3, .int a3)] [] w (some (.int q.1)) q.2) : ∀ (a0 : Nat) (a1 : Int32) (a3 : Int32) (s0 : Int32) (w : px_W) (q : Int32 × px_W), fX14_named_27 X k4 a0 a1 a3 s0 w = some q → EV X mX14_named 27 [(0, .ref a0), (1, .int a1), (3, .int a3)] [.int s0] w (some (.int q.1)) q.2 := by
  intro a0 a1 a3 s0 w q h
  unfold fX14_named_27 at h
  refine EV.istore_n [(2, .int s0), (0, .ref a0), (1, .int a1), (3, .int a3)] dX14_named_27 rfl (by decide) rfl ?_
  refine EV.iinc 3 (a3 + 1) [(3, .int (a3 + 1)), (2, .int s0), (0, .ref a0), (1, .int a1)] dX14_named_28 rfl rfl (by decide) rfl ?_
  refine EV.goto 4 dX14_named_31 (by decide) ?_
  refine EV.sub [2, 3, 1, 0] rfl ?_
  exact hk4 _ _ _ _ _ _ h
set_option maxRecDepth 100000 in
set_option maxHeartbeats 4000000 in
theorem eX14_named_4 {X : px_X}  : ∀ (m : Nat) (a0 : Nat) (a1 : Int32) (a2 : Int32) (a3 : Int32) (w : px_W) (q : Int32 × px_W), fX14_named_4 X  m a0 a1 a2 a3 w = some q → EV X mX14_named 4 [(0, .ref a0), (1, .int a1), (2, .int a2), (3, .int a3)] [] w (some (.int q.1)) q.2 := by
  intro m
  induction m with
  | zero => intro a0 a1 a2 a3 w q h; cases h
  | succ m ih =>
    intro a0 a1 a2 a3 w q h
    rw [fX14_named_4.eq_2] at h
    refine EV.iload_n 3 dX14_named_4 rfl rfl ?_
    refine EV.aload_n 0 dX14_named_5 rfl rfl ?_
    obtain ⟨v4, gv4, h⟩ := px_bs h
    refine ev_gI dX14_named_6 flRX14_91 gv4 ?_
    refine EV.icmp_ge 34 dX14_named_9 (by decide) (fun c5 => ?_) (fun c5 => ?_)
    · rw [if_pos c5] at h
      refine EV.iload_n 2 dX14_named_34 rfl rfl ?_
      cases h
      exact EV.reti dX14_named_35 rfl
    · rw [if_neg c5] at h
      refine EV.aload_n 0 dX14_named_12 rfl rfl ?_
      obtain ⟨v6, gv6, h⟩ := px_bs h
      refine ev_gR dX14_named_13 flRX14_23 gv6 ?_
      refine EV.iload_n 3 dX14_named_16 rfl rfl ?_
      obtain ⟨v7, gv7, h⟩ := px_bs h
      refine ev_aI dX14_named_17 gv7 ?_
      refine EV.iload_n 1 dX14_named_18 rfl rfl ?_
      refine EV.icmp_ne 26 dX14_named_19 (by decide) (fun c8 => ?_) (fun c8 => ?_)
      · rw [if_neg c8] at h
        refine EV.iload_n 2 dX14_named_26 rfl rfl ?_
        refine EV.sub [0, 1, 3] rfl ?_
        exact eX14_named_27 ih _ _ _ _ _ _ h
      · rw [if_pos c8] at h
        refine EV.iload_n 3 dX14_named_22 rfl rfl ?_
        refine EV.goto 27 dX14_named_23 (by decide) ?_
        refine EV.sub [0, 1, 3] rfl ?_
        exact eX14_named_27 ih _ _ _ _ _ _ h
set_option maxRecDepth 100000 in
set_option maxHeartbeats 4000000 in
theorem eX14_named {X : px_X} {w : px_W} {a0 : Nat} {a1 : Int32} {q : Int32 × px_W} (h : fX14_named X w a0 a1 = some q) : EV X mX14_named 0 (lv_args 0 [.ref a0, .int a1]) [] w (some (.int q.1)) q.2 := by
  unfold fX14_named at h
  show EV X mX14_named 0 [(0, .ref a0), (1, .int a1)] [] w (some (.int q.1)) q.2
  refine EV.iconst ((-1)) dX14_named_0 (by decide) ?_
  refine EV.istore_n [(2, .int ((-1))), (0, .ref a0), (1, .int a1)] dX14_named_1 rfl (by decide) rfl ?_
  refine EV.iconst (0) dX14_named_2 (by decide) ?_
  refine EV.istore_n [(3, .int 0), (2, .int ((-1))), (0, .ref a0), (1, .int a1)] dX14_named_3 rfl (by decide) rfl ?_
  refine EV.sub [2, 3, 1, 0] rfl ?_
  exact eX14_named_4  FU _ _ _ _ _ _ h
/-! WavePicturesModel$Segments.order(IZ)V -/
theorem dX14_order_0 : decode cX14_order 0 = .ok (.bipush 64, 2) := by decide +kernel
theorem dX14_order_2 : decode cX14_order 2 = .ok (.aload_n 0, 1) := by decide +kernel
theorem dX14_order_3 : decode cX14_order 3 = .ok (.getfield 61, 3) := by decide +kernel
theorem dX14_order_6 : decode cX14_order 6 = .ok (.iload_n 1, 1) := by decide +kernel
theorem dX14_order_7 : decode cX14_order 7 = .ok (.iaload, 1) := by decide +kernel
theorem dX14_order_8 : decode cX14_order 8 = .ok (.imul, 1) := by decide +kernel
theorem dX14_order_9 : decode cX14_order 9 = .ok (.istore_n 3, 1) := by decide +kernel
theorem dX14_order_10 : decode cX14_order 10 = .ok (.iload_n 2, 1) := by decide +kernel
theorem dX14_order_11 : decode cX14_order 11 = .ok (.ifCond .eq 22, 3) := by decide +kernel
theorem dX14_order_14 : decode cX14_order 14 = .ok (.aload_n 0, 1) := by decide +kernel
theorem dX14_order_15 : decode cX14_order 15 = .ok (.getfield 152, 3) := by decide +kernel
theorem dX14_order_18 : decode cX14_order 18 = .ok (.ifCond .le 38, 3) := by decide +kernel
theorem dX14_order_21 : decode cX14_order 21 = .ok (.aload_n 0, 1) := by decide +kernel
theorem dX14_order_22 : decode cX14_order 22 = .ok (.getfield 58, 3) := by decide +kernel
theorem dX14_order_25 : decode cX14_order 25 = .ok (.iload_n 3, 1) := by decide +kernel
theorem dX14_order_26 : decode cX14_order 26 = .ok (.iaload, 1) := by decide +kernel
theorem dX14_order_27 : decode cX14_order 27 = .ok (.ifCond .ge 29, 3) := by decide +kernel
theorem dX14_order_30 : decode cX14_order 30 = .ok (.goto 12, 3) := by decide +kernel
theorem dX14_order_33 : decode cX14_order 33 = .ok (.aload_n 0, 1) := by decide +kernel
theorem dX14_order_34 : decode cX14_order 34 = .ok (.getfield 58, 3) := by decide +kernel
theorem dX14_order_37 : decode cX14_order 37 = .ok (.iload_n 3, 1) := by decide +kernel
theorem dX14_order_38 : decode cX14_order 38 = .ok (.iaload, 1) := by decide +kernel
theorem dX14_order_39 : decode cX14_order 39 = .ok (.ifCond .lt 17, 3) := by decide +kernel
theorem dX14_order_42 : decode cX14_order 42 = .ok (.aload_n 0, 1) := by decide +kernel
theorem dX14_order_43 : decode cX14_order 43 = .ok (.bipush 7, 2) := by decide +kernel
theorem dX14_order_45 : decode cX14_order 45 = .ok (.aload_n 0, 1) := by decide +kernel
theorem dX14_order_46 : decode cX14_order 46 = .ok (.getfield 70, 3) := by decide +kernel
theorem dX14_order_49 : decode cX14_order 49 = .ok (.iload_n 1, 1) := by decide +kernel
theorem dX14_order_50 : decode cX14_order 50 = .ok (.iaload, 1) := by decide +kernel
theorem dX14_order_51 : decode cX14_order 51 = .ok (.invokevirtual 113, 3) := by decide +kernel
theorem dX14_order_54 : decode cX14_order 54 = .ok (.istore 4, 2) := by decide +kernel
theorem dX14_order_56 : decode cX14_order 56 = .ok (.aload_n 0, 1) := by decide +kernel
theorem dX14_order_57 : decode cX14_order 57 = .ok (.getfield 152, 3) := by decide +kernel
theorem dX14_order_60 : decode cX14_order 60 = .ok (.istore 4, 2) := by decide +kernel
theorem dX14_order_62 : decode cX14_order 62 = .ok (.iload 4, 2) := by decide +kernel
theorem dX14_order_64 : decode cX14_order 64 = .ok (.aload_n 0, 1) := by decide +kernel
theorem dX14_order_65 : decode cX14_order 65 = .ok (.getfield 155, 3) := by decide +kernel
theorem dX14_order_68 : decode cX14_order 68 = .ok (.if_icmp .gt 95, 3) := by decide +kernel
theorem dX14_order_71 : decode cX14_order 71 = .ok (.iload_n 2, 1) := by decide +kernel
theorem dX14_order_72 : decode cX14_order 72 = .ok (.ifCond .eq 91, 3) := by decide +kernel
theorem dX14_order_75 : decode cX14_order 75 = .ok (.aload_n 0, 1) := by decide +kernel
theorem dX14_order_76 : decode cX14_order 76 = .ok (.getfield 58, 3) := by decide +kernel
theorem dX14_order_79 : decode cX14_order 79 = .ok (.iload_n 3, 1) := by decide +kernel
theorem dX14_order_80 : decode cX14_order 80 = .ok (.iload 4, 2) := by decide +kernel
theorem dX14_order_82 : decode cX14_order 82 = .ok (.iadd, 1) := by decide +kernel
theorem dX14_order_83 : decode cX14_order 83 = .ok (.iaload, 1) := by decide +kernel
theorem dX14_order_84 : decode cX14_order 84 = .ok (.ifCond .ge 18, 3) := by decide +kernel
theorem dX14_order_87 : decode cX14_order 87 = .ok (.aload_n 0, 1) := by decide +kernel
theorem dX14_order_88 : decode cX14_order 88 = .ok (.getfield 158, 3) := by decide +kernel
theorem dX14_order_91 : decode cX14_order 91 = .ok (.ifCond .ne 7, 3) := by decide +kernel
theorem dX14_order_94 : decode cX14_order 94 = .ok (.iconst 1, 1) := by decide +kernel
theorem dX14_order_95 : decode cX14_order 95 = .ok (.goto 41, 3) := by decide +kernel
theorem dX14_order_98 : decode cX14_order 98 = .ok (.iconst 0, 1) := by decide +kernel
theorem dX14_order_99 : decode cX14_order 99 = .ok (.goto 37, 3) := by decide +kernel
theorem dX14_order_102 : decode cX14_order 102 = .ok (.aload_n 0, 1) := by decide +kernel
theorem dX14_order_103 : decode cX14_order 103 = .ok (.getfield 158, 3) := by decide +kernel
theorem dX14_order_106 : decode cX14_order 106 = .ok (.aload_n 0, 1) := by decide +kernel
theorem dX14_order_107 : decode cX14_order 107 = .ok (.getfield 161, 3) := by decide +kernel
theorem dX14_order_110 : decode cX14_order 110 = .ok (.iconst 1, 1) := by decide +kernel
theorem dX14_order_111 : decode cX14_order 111 = .ok (.iadd, 1) := by decide +kernel
theorem dX14_order_112 : decode cX14_order 112 = .ok (.if_icmp .ne 23, 3) := by decide +kernel
theorem dX14_order_115 : decode cX14_order 115 = .ok (.aload_n 0, 1) := by decide +kernel
theorem dX14_order_116 : decode cX14_order 116 = .ok (.getfield 58, 3) := by decide +kernel
theorem dX14_order_119 : decode cX14_order 119 = .ok (.iload_n 3, 1) := by decide +kernel
theorem dX14_order_120 : decode cX14_order 120 = .ok (.iload 4, 2) := by decide +kernel
theorem dX14_order_122 : decode cX14_order 122 = .ok (.iadd, 1) := by decide +kernel
theorem dX14_order_123 : decode cX14_order 123 = .ok (.iaload, 1) := by decide +kernel
theorem dX14_order_124 : decode cX14_order 124 = .ok (.aload_n 0, 1) := by decide +kernel
theorem dX14_order_125 : decode cX14_order 125 = .ok (.getfield 158, 3) := by decide +kernel
theorem dX14_order_128 : decode cX14_order 128 = .ok (.if_icmp .ne 7, 3) := by decide +kernel
theorem dX14_order_131 : decode cX14_order 131 = .ok (.iconst 1, 1) := by decide +kernel
theorem dX14_order_132 : decode cX14_order 132 = .ok (.goto 4, 3) := by decide +kernel
theorem dX14_order_135 : decode cX14_order 135 = .ok (.iconst 0, 1) := by decide +kernel
theorem dX14_order_136 : decode cX14_order 136 = .ok (.istore 5, 2) := by decide +kernel
theorem dX14_order_138 : decode cX14_order 138 = .ok (.iload 5, 2) := by decide +kernel
theorem dX14_order_140 : decode cX14_order 140 = .ok (.ifCond .ne 17, 3) := by decide +kernel
theorem dX14_order_143 : decode cX14_order 143 = .ok (.aload_n 0, 1) := by decide +kernel
theorem dX14_order_144 : decode cX14_order 144 = .ok (.bipush 6, 2) := by decide +kernel
theorem dX14_order_146 : decode cX14_order 146 = .ok (.aload_n 0, 1) := by decide +kernel
theorem dX14_order_147 : decode cX14_order 147 = .ok (.getfield 106, 3) := by decide +kernel
theorem dX14_order_150 : decode cX14_order 150 = .ok (.iconst 1, 1) := by decide +kernel
theorem dX14_order_151 : decode cX14_order 151 = .ok (.isub, 1) := by decide +kernel
theorem dX14_order_152 : decode cX14_order 152 = .ok (.invokevirtual 113, 3) := by decide +kernel
theorem dX14_order_155 : decode cX14_order 155 = .ok (.istore 6, 2) := by decide +kernel
theorem dX14_order_157 : decode cX14_order 157 = .ok (.iinc 4 1, 3) := by decide +kernel
theorem dX14_order_160 : decode cX14_order 160 = .ok (.goto (-98), 3) := by decide +kernel
theorem dX14_order_163 : decode cX14_order 163 = .ok (.return_, 1) := by decide +kernel
theorem flRX14_61 : px_f RX14 61 14 31 := ⟨_, rfl, by decide, Or.inl (tb6 (List.mem_of_getElem? (i := 149) rfl))⟩
theorem flRX14_70 : px_f RX14 70 14 34 := ⟨_, rfl, by decide, Or.inl (tb6 (List.mem_of_getElem? (i := 152) rfl))⟩
theorem flRX14_152 : px_f RX14 152 14 37 := ⟨_, rfl, by decide, Or.inl (tb6 (List.mem_of_getElem? (i := 155) rfl))⟩
theorem flRX14_155 : px_f RX14 155 14 38 := ⟨_, rfl, by decide, Or.inl (tb6 (List.mem_of_getElem? (i := 156) rfl))⟩
theorem flRX14_158 : px_f RX14 158 14 39 := ⟨_, rfl, by decide, Or.inl (tb6 (List.mem_of_getElem? (i := 157) rfl))⟩
theorem flRX14_161 : px_f RX14 161 14 40 := ⟨_, rfl, by decide, Or.inl (tb6 (List.mem_of_getElem? (i := 158) rfl))⟩
theorem kcX14_order_113 : px_cV mX14_order 113 mX14_wrong 2 := ⟨⟨mbX14_wrong, by decide, by decide⟩, Or.inl (tb8 (List.mem_of_getElem? (i := 139) rfl)), vbX14_wrong⟩
set_option maxRecDepth 100000 in
set_option maxHeartbeats 4000000 in
theorem eX14_order_157 {X : px_X} {k62 : Nat → Int32 → Int32 → Int32 → px_W → Option (px_W)} (hk62 : ∀ (a0 : Nat) (a2 : Int32) (a3 : Int32) (a4 : Int32) (w : px_W) (q : px_W), k62 a0 a2 a3 a4 w = some q → EV X mX14_order 62 [(0, .ref a0), (2, .int a2), (3, .int a3), (4, .int a4)] [] w none q) : ∀ (a0 : Nat) (a2 : Int32) (a3 : Int32) (a4 : Int32) (w : px_W) (q : px_W), fX14_order_157 X k62 a0 a2 a3 a4 w = some q → EV X mX14_order 157 [(0, .ref a0), (2, .int a2), (3, .int a3), (4, .int a4)] [] w none q := by
  intro a0 a2 a3 a4 w q h
  unfold fX14_order_157 at h
  refine EV.iinc 3 (a4 + 1) [(4, .int (a4 + 1)), (0, .ref a0), (2, .int a2), (3, .int a3)] dX14_order_157 rfl rfl (by decide) rfl ?_
  refine EV.goto 62 dX14_order_160 (by decide) ?_
  refine EV.sub [1, 2, 3, 0] rfl ?_
  exact hk62 _ _ _ _ _ _ h
set_option maxRecDepth 100000 in
set_option maxHeartbeats 4000000 in
theorem eX14_order_136 {X : px_X} {k62 : Nat → Int32 → Int32 → Int32 → px_W → Option (px_W)} (hk62 : ∀ (a0 : Nat) (a2 : Int32) (a3 : Int32) (a4 : Int32) (w : px_W) (q : px_W), k62 a0 a2 a3 a4 w = some q → EV X mX14_order 62 [(0, .ref a0), (2, .int a2), (3, .int a3), (4, .int a4)] [] w none q) : ∀ (a0 : Nat) (a2 : Int32) (a3 : Int32) (a4 : Int32) (s0 : Int32) (w : px_W) (q : px_W), fX14_order_136 X k62 a0 a2 a3 a4 s0 w = some q → EV X mX14_order 136 [(0, .ref a0), (2, .int a2), (3, .int a3), (4, .int a4)] [.int s0] w none q := by
  intro a0 a2 a3 a4 s0 w q h
  unfold fX14_order_136 at h
  refine EV.istore [(5, .int s0), (0, .ref a0), (2, .int a2), (3, .int a3), (4, .int a4)] dX14_order_136 (by decide) rfl ?_
  refine EV.iload 0 dX14_order_138 rfl ?_
  refine EV.if_ne 157 dX14_order_140 (by decide) (fun c25 => ?_) (fun c25 => ?_)
  · rw [if_neg c25] at h
    refine EV.sub [1, 2, 3, 4] rfl ?_
    exact eX14_order_157 hk62 _ _ _ _ _ _ h
  · rw [if_pos c25] at h
    refine EV.aload_n 1 dX14_order_143 rfl rfl ?_
    refine EV.bipush (6) dX14_order_144 (by decide) ?_
    refine EV.aload_n 1 dX14_order_146 rfl rfl ?_
    obtain ⟨v26, gv26, h⟩ := px_bs h
    refine ev_gI dX14_order_147 flRX14_106 gv26 ?_
    refine EV.iconst (1) dX14_order_150 (by decide) ?_
    refine EV.isub dX14_order_151 ?_
    obtain ⟨o27, go27, h⟩ := px_bs h
    obtain ⟨q28, gq28, h⟩ := px_bs h
    refine EV.callV (As := [.int 6, .int (v26 - 1)]) (rest := []) dX14_order_152 kcX14_order_113 (gO_ok go27) rfl rfl rfl (Nat.le_of_ble_eq_true rfl) (Nat.le_of_ble_eq_true rfl) (eX14_wrong gq28) ?_
    refine EV.istore [(6, .int q28.1), (5, .int s0), (0, .ref a0), (2, .int a2), (3, .int a3), (4, .int a4)] dX14_order_155 (by decide) rfl ?_
    refine EV.sub [2, 3, 4, 5] rfl ?_
    exact eX14_order_157 hk62 _ _ _ _ _ _ h
set_option maxRecDepth 100000 in
set_option maxHeartbeats 4000000 in
theorem eX14_order_135 {X : px_X} {k62 : Nat → Int32 → Int32 → Int32 → px_W → Option (px_W)} (hk62 : ∀ (a0 : Nat) (a2 : Int32) (a3 : Int32) (a4 : Int32) (w : px_W) (q : px_W), k62 a0 a2 a3 a4 w = some q → EV X mX14_order 62 [(0, .ref a0), (2, .int a2), (3, .int a3), (4, .int a4)] [] w none q) : ∀ (a0 : Nat) (a2 : Int32) (a3 : Int32) (a4 : Int32) (w : px_W) (q : px_W), fX14_order_135 X k62 a0 a2 a3 a4 w = some q → EV X mX14_order 135 [(0, .ref a0), (2, .int a2), (3, .int a3), (4, .int a4)] [] w none q := by
  intro a0 a2 a3 a4 w q h
  unfold fX14_order_135 at h
  refine EV.iconst (0) dX14_order_135 (by decide) ?_
  refine EV.sub [0, 1, 2, 3] rfl ?_
  exact eX14_order_136 hk62 _ _ _ _ _ _ _ h
set_option maxRecDepth 100000 in
set_option maxHeartbeats 4000000 in
theorem eX14_order_62 {X : px_X}  : ∀ (m : Nat) (a0 : Nat) (a2 : Int32) (a3 : Int32) (a4 : Int32) (w : px_W) (q : px_W), fX14_order_62 X  m a0 a2 a3 a4 w = some q → EV X mX14_order 62 [(0, .ref a0), (2, .int a2), (3, .int a3), (4, .int a4)] [] w none q := by
  intro m
  induction m with
  | zero => intro a0 a2 a3 a4 w q h; cases h
  | succ m ih =>
    intro a0 a2 a3 a4 w q h
    rw [fX14_order_62.eq_2] at h
    refine EV.iload 3 dX14_order_62 rfl ?_
    refine EV.aload_n 0 dX14_order_64 rfl rfl ?_
    obtain ⟨v29, gv29, h⟩ := px_bs h
    refine ev_gI dX14_order_65 flRX14_155 gv29 ?_
    refine EV.icmp_gt 163 dX14_order_68 (by decide) (fun c30 => ?_) (fun c30 => ?_)
    · rw [if_pos c30] at h
      cases h
      exact EV.ret0 dX14_order_163 trivial
    · rw [if_neg c30] at h
      refine EV.iload_n 1 dX14_order_71 rfl rfl ?_
      refine EV.if_eq 163 dX14_order_72 (by decide) (fun c31 => ?_) (fun c31 => ?_)
      · rw [if_pos c31] at h
        cases h
        exact EV.ret0 dX14_order_163 trivial
      · rw [if_neg c31] at h
        refine EV.aload_n 0 dX14_order_75 rfl rfl ?_
        obtain ⟨v32, gv32, h⟩ := px_bs h
        refine ev_gR dX14_order_76 flRX14_58 gv32 ?_
        refine EV.iload_n 2 dX14_order_79 rfl rfl ?_
        refine EV.iload 3 dX14_order_80 rfl ?_
        refine EV.iadd dX14_order_82 ?_
        obtain ⟨v33, gv33, h⟩ := px_bs h
        refine ev_aI dX14_order_83 gv33 ?_
        refine EV.if_ge 102 dX14_order_84 (by decide) (fun c34 => ?_) (fun c34 => ?_)
        · rw [if_pos c34] at h
          refine EV.aload_n 0 dX14_order_102 rfl rfl ?_
          obtain ⟨v35, gv35, h⟩ := px_bs h
          refine ev_gI dX14_order_103 flRX14_158 gv35 ?_
          refine EV.aload_n 0 dX14_order_106 rfl rfl ?_
          obtain ⟨v36, gv36, h⟩ := px_bs h
          refine ev_gI dX14_order_107 flRX14_161 gv36 ?_
          refine EV.iconst (1) dX14_order_110 (by decide) ?_
          refine EV.iadd dX14_order_111 ?_
          refine EV.icmp_ne 135 dX14_order_112 (by decide) (fun c37 => ?_) (fun c37 => ?_)
          · rw [if_neg c37] at h
            refine EV.sub [0, 1, 2, 3] rfl ?_
            exact eX14_order_135 ih _ _ _ _ _ _ h
          · rw [if_pos c37] at h
            refine EV.aload_n 0 dX14_order_115 rfl rfl ?_
            obtain ⟨v38, gv38, h⟩ := px_bs h
            refine ev_gR dX14_order_116 flRX14_58 gv38 ?_
            refine EV.iload_n 2 dX14_order_119 rfl rfl ?_
            refine EV.iload 3 dX14_order_120 rfl ?_
            refine EV.iadd dX14_order_122 ?_
            obtain ⟨v39, gv39, h⟩ := px_bs h
            refine ev_aI dX14_order_123 gv39 ?_
            refine EV.aload_n 0 dX14_order_124 rfl rfl ?_
            obtain ⟨v40, gv40, h⟩ := px_bs h
            refine ev_gI dX14_order_125 flRX14_158 gv40 ?_
            refine EV.icmp_ne 135 dX14_order_128 (by decide) (fun c41 => ?_) (fun c41 => ?_)
            · rw [if_neg c41] at h
              refine EV.sub [0, 1, 2, 3] rfl ?_
              exact eX14_order_135 ih _ _ _ _ _ _ h
            · rw [if_pos c41] at h
              refine EV.iconst (1) dX14_order_131 (by decide) ?_
              refine EV.goto 136 dX14_order_132 (by decide) ?_
              refine EV.sub [0, 1, 2, 3] rfl ?_
              exact eX14_order_136 ih _ _ _ _ _ _ _ h
        · rw [if_neg c34] at h
          refine EV.aload_n 0 dX14_order_87 rfl rfl ?_
          obtain ⟨v42, gv42, h⟩ := px_bs h
          refine ev_gI dX14_order_88 flRX14_158 gv42 ?_
          refine EV.if_ne 98 dX14_order_91 (by decide) (fun c43 => ?_) (fun c43 => ?_)
          · rw [if_neg c43] at h
            refine EV.iconst (0) dX14_order_98 (by decide) ?_
            refine EV.goto 136 dX14_order_99 (by decide) ?_
            refine EV.sub [0, 1, 2, 3] rfl ?_
            exact eX14_order_136 ih _ _ _ _ _ _ _ h
          · rw [if_pos c43] at h
            refine EV.iconst (1) dX14_order_94 (by decide) ?_
            refine EV.goto 136 dX14_order_95 (by decide) ?_
            refine EV.sub [0, 1, 2, 3] rfl ?_
            exact eX14_order_136 ih _ _ _ _ _ _ _ h
set_option maxRecDepth 100000 in
set_option maxHeartbeats 4000000 in
theorem eX14_order_56 {X : px_X}  : ∀ (a0 : Nat) (a2 : Int32) (a3 : Int32) (w : px_W) (q : px_W), fX14_order_56 X  a0 a2 a3 w = some q → EV X mX14_order 56 [(0, .ref a0), (2, .int a2), (3, .int a3)] [] w none q := by
  intro a0 a2 a3 w q h
  unfold fX14_order_56 at h
  refine EV.aload_n 0 dX14_order_56 rfl rfl ?_
  obtain ⟨v44, gv44, h⟩ := px_bs h
  refine ev_gI dX14_order_57 flRX14_152 gv44 ?_
  refine EV.istore [(4, .int v44), (0, .ref a0), (2, .int a2), (3, .int a3)] dX14_order_60 (by decide) rfl ?_
  refine EV.sub [1, 2, 3, 0] rfl ?_
  exact eX14_order_62  FU _ _ _ _ _ _ h
set_option maxRecDepth 100000 in
set_option maxHeartbeats 4000000 in
theorem eX14_order_42 {X : px_X}  : ∀ (a0 : Nat) (a1 : Int32) (a2 : Int32) (a3 : Int32) (w : px_W) (q : px_W), fX14_order_42 X  a0 a1 a2 a3 w = some q → EV X mX14_order 42 [(0, .ref a0), (1, .int a1), (2, .int a2), (3, .int a3)] [] w none q := by
  intro a0 a1 a2 a3 w q h
  unfold fX14_order_42 at h
  refine EV.aload_n 0 dX14_order_42 rfl rfl ?_
  refine EV.bipush (7) dX14_order_43 (by decide) ?_
  refine EV.aload_n 0 dX14_order_45 rfl rfl ?_
  obtain ⟨v45, gv45, h⟩ := px_bs h
  refine ev_gR dX14_order_46 flRX14_70 gv45 ?_
  refine EV.iload_n 1 dX14_order_49 rfl rfl ?_
  obtain ⟨v46, gv46, h⟩ := px_bs h
  refine ev_aI dX14_order_50 gv46 ?_
  obtain ⟨o47, go47, h⟩ := px_bs h
  obtain ⟨q48, gq48, h⟩ := px_bs h
  refine EV.callV (As := [.int 7, .int v46]) (rest := []) dX14_order_51 kcX14_order_113 (gO_ok go47) rfl rfl rfl (Nat.le_of_ble_eq_true rfl) (Nat.le_of_ble_eq_true rfl) (eX14_wrong gq48) ?_
  refine EV.istore [(4, .int q48.1), (0, .ref a0), (1, .int a1), (2, .int a2), (3, .int a3)] dX14_order_54 (by decide) rfl ?_
  refine EV.sub [1, 3, 4] rfl ?_
  exact eX14_order_56  _ _ _ _ _ h
set_option maxRecDepth 100000 in
set_option maxHeartbeats 4000000 in
theorem eX14_order {X : px_X} {w : px_W} {a0 : Nat} {a1 : Int32} {a2 : Int32} {q : px_W} (h : fX14_order X w a0 a1 a2 = some q) : EV X mX14_order 0 (lv_args 0 [.ref a0, .int a1, .int a2]) [] w none q := by
  unfold fX14_order at h
  show EV X mX14_order 0 [(0, .ref a0), (1, .int a1), (2, .int a2)] [] w none q
  refine EV.bipush (64) dX14_order_0 (by decide) ?_
  refine EV.aload_n 0 dX14_order_2 rfl rfl ?_
  obtain ⟨v49, gv49, h⟩ := px_bs h
  refine ev_gR dX14_order_3 flRX14_61 gv49 ?_
  refine EV.iload_n 1 dX14_order_6 rfl rfl ?_
  obtain ⟨v50, gv50, h⟩ := px_bs h
  refine ev_aI dX14_order_7 gv50 ?_
  refine EV.imul dX14_order_8 ?_
  refine EV.istore_n [(3, .int (64 * v50)), (0, .ref a0), (1, .int a1), (2, .int a2)] dX14_order_9 rfl (by decide) rfl ?_
  refine EV.iload_n 3 dX14_order_10 rfl rfl ?_
  refine EV.if_eq 33 dX14_order_11 (by decide) (fun c51 => ?_) (fun c51 => ?_)
  · rw [if_pos c51] at h
    refine EV.aload_n 1 dX14_order_33 rfl rfl ?_
    obtain ⟨v52, gv52, h⟩ := px_bs h
    refine ev_gR dX14_order_34 flRX14_58 gv52 ?_
    refine EV.iload_n 0 dX14_order_37 rfl rfl ?_
    obtain ⟨v53, gv53, h⟩ := px_bs h
    refine ev_aI dX14_order_38 gv53 ?_
    refine EV.if_lt 56 dX14_order_39 (by decide) (fun c54 => ?_) (fun c54 => ?_)
    · rw [if_pos c54] at h
      refine EV.sub [1, 3, 0] rfl ?_
      exact eX14_order_56  _ _ _ _ _ h
    · rw [if_neg c54] at h
      refine EV.sub [1, 2, 3, 0] rfl ?_
      exact eX14_order_42  _ _ _ _ _ _ h
  · rw [if_neg c51] at h
    refine EV.aload_n 1 dX14_order_14 rfl rfl ?_
    obtain ⟨v55, gv55, h⟩ := px_bs h
    refine ev_gI dX14_order_15 flRX14_152 gv55 ?_
    refine EV.if_le 56 dX14_order_18 (by decide) (fun c56 => ?_) (fun c56 => ?_)
    · rw [if_pos c56] at h
      refine EV.sub [1, 3, 0] rfl ?_
      exact eX14_order_56  _ _ _ _ _ h
    · rw [if_neg c56] at h
      refine EV.aload_n 1 dX14_order_21 rfl rfl ?_
      obtain ⟨v57, gv57, h⟩ := px_bs h
      refine ev_gR dX14_order_22 flRX14_58 gv57 ?_
      refine EV.iload_n 0 dX14_order_25 rfl rfl ?_
      obtain ⟨v58, gv58, h⟩ := px_bs h
      refine ev_aI dX14_order_26 gv58 ?_
      refine EV.if_ge 56 dX14_order_27 (by decide) (fun c59 => ?_) (fun c59 => ?_)
      · rw [if_pos c59] at h
        refine EV.sub [1, 3, 0] rfl ?_
        exact eX14_order_56  _ _ _ _ _ h
      · rw [if_neg c59] at h
        refine EV.goto 42 dX14_order_30 (by decide) ?_
        refine EV.sub [1, 2, 3, 0] rfl ?_
        exact eX14_order_42  _ _ _ _ _ _ h
/-! WavePicturesModel$Segments.needs(I)V -/
theorem dX14_needs_0 : decode cX14_needs 0 = .ok (.aload_n 0, 1) := by decide +kernel
theorem dX14_needs_1 : decode cX14_needs 1 = .ok (.getfield 35, 3) := by decide +kernel
theorem dX14_needs_4 : decode cX14_needs 4 = .ok (.aload_n 0, 1) := by decide +kernel
theorem dX14_needs_5 : decode cX14_needs 5 = .ok (.getfield 32, 3) := by decide +kernel
theorem dX14_needs_8 : decode cX14_needs 8 = .ok (.aload_n 0, 1) := by decide +kernel
theorem dX14_needs_9 : decode cX14_needs 9 = .ok (.getfield 61, 3) := by decide +kernel
theorem dX14_needs_12 : decode cX14_needs 12 = .ok (.iload_n 1, 1) := by decide +kernel
theorem dX14_needs_13 : decode cX14_needs 13 = .ok (.iaload, 1) := by decide +kernel
theorem dX14_needs_14 : decode cX14_needs 14 = .ok (.iaload, 1) := by decide +kernel
theorem dX14_needs_15 : decode cX14_needs 15 = .ok (.baload, 1) := by decide +kernel
theorem dX14_needs_16 : decode cX14_needs 16 = .ok (.ifCond .ne 16, 3) := by decide +kernel
theorem dX14_needs_19 : decode cX14_needs 19 = .ok (.aload_n 0, 1) := by decide +kernel
theorem dX14_needs_20 : decode cX14_needs 20 = .ok (.bipush 8, 2) := by decide +kernel
theorem dX14_needs_22 : decode cX14_needs 22 = .ok (.aload_n 0, 1) := by decide +kernel
theorem dX14_needs_23 : decode cX14_needs 23 = .ok (.getfield 70, 3) := by decide +kernel
theorem dX14_needs_26 : decode cX14_needs 26 = .ok (.iload_n 1, 1) := by decide +kernel
theorem dX14_needs_27 : decode cX14_needs 27 = .ok (.iaload, 1) := by decide +kernel
theorem dX14_needs_28 : decode cX14_needs 28 = .ok (.invokevirtual 113, 3) := by decide +kernel
theorem dX14_needs_31 : decode cX14_needs 31 = .ok (.istore_n 2, 1) := by decide +kernel
theorem dX14_needs_32 : decode cX14_needs 32 = .ok (.aload_n 0, 1) := by decide +kernel
theorem dX14_needs_33 : decode cX14_needs 33 = .ok (.getfield 152, 3) := by decide +kernel
theorem dX14_needs_36 : decode cX14_needs 36 = .ok (.ifCond .ne 14, 3) := by decide +kernel
theorem dX14_needs_39 : decode cX14_needs 39 = .ok (.aload_n 0, 1) := by decide +kernel
theorem dX14_needs_40 : decode cX14_needs 40 = .ok (.getfield 158, 3) := by decide +kernel
theorem dX14_needs_43 : decode cX14_needs 43 = .ok (.ifCond .ne 7, 3) := by decide +kernel
theorem dX14_needs_46 : decode cX14_needs 46 = .ok (.iconst 1, 1) := by decide +kernel
theorem dX14_needs_47 : decode cX14_needs 47 = .ok (.goto 4, 3) := by decide +kernel
theorem dX14_needs_50 : decode cX14_needs 50 = .ok (.iconst 0, 1) := by decide +kernel
theorem dX14_needs_51 : decode cX14_needs 51 = .ok (.istore_n 2, 1) := by decide +kernel
theorem dX14_needs_52 : decode cX14_needs 52 = .ok (.iload_n 2, 1) := by decide +kernel
theorem dX14_needs_53 : decode cX14_needs 53 = .ok (.ifCond .eq 17, 3) := by decide +kernel
theorem dX14_needs_56 : decode cX14_needs 56 = .ok (.aload_n 0, 1) := by decide +kernel
theorem dX14_needs_57 : decode cX14_needs 57 = .ok (.getfield 42, 3) := by decide +kernel
theorem dX14_needs_60 : decode cX14_needs 60 = .ok (.aload_n 0, 1) := by decide +kernel
theorem dX14_needs_61 : decode cX14_needs 61 = .ok (.getfield 64, 3) := by decide +kernel
theorem dX14_needs_64 : decode cX14_needs 64 = .ok (.iload_n 1, 1) := by decide +kernel
theorem dX14_needs_65 : decode cX14_needs 65 = .ok (.iaload, 1) := by decide +kernel
theorem dX14_needs_66 : decode cX14_needs 66 = .ok (.baload, 1) := by decide +kernel
theorem dX14_needs_67 : decode cX14_needs 67 = .ok (.ifCond .eq 26, 3) := by decide +kernel
theorem dX14_needs_70 : decode cX14_needs 70 = .ok (.aload_n 0, 1) := by decide +kernel
theorem dX14_needs_71 : decode cX14_needs 71 = .ok (.getfield 155, 3) := by decide +kernel
theorem dX14_needs_74 : decode cX14_needs 74 = .ok (.ifCond .le 34, 3) := by decide +kernel
theorem dX14_needs_77 : decode cX14_needs 77 = .ok (.aload_n 0, 1) := by decide +kernel
theorem dX14_needs_78 : decode cX14_needs 78 = .ok (.getfield 42, 3) := by decide +kernel
theorem dX14_needs_81 : decode cX14_needs 81 = .ok (.iconst 4, 1) := by decide +kernel
theorem dX14_needs_82 : decode cX14_needs 82 = .ok (.aload_n 0, 1) := by decide +kernel
theorem dX14_needs_83 : decode cX14_needs 83 = .ok (.getfield 67, 3) := by decide +kernel
theorem dX14_needs_86 : decode cX14_needs 86 = .ok (.iload_n 1, 1) := by decide +kernel
theorem dX14_needs_87 : decode cX14_needs 87 = .ok (.iaload, 1) := by decide +kernel
theorem dX14_needs_88 : decode cX14_needs 88 = .ok (.iadd, 1) := by decide +kernel
theorem dX14_needs_89 : decode cX14_needs 89 = .ok (.baload, 1) := by decide +kernel
theorem dX14_needs_90 : decode cX14_needs 90 = .ok (.ifCond .ne 18, 3) := by decide +kernel
theorem dX14_needs_93 : decode cX14_needs 93 = .ok (.aload_n 0, 1) := by decide +kernel
theorem dX14_needs_94 : decode cX14_needs 94 = .ok (.bipush 8, 2) := by decide +kernel
theorem dX14_needs_96 : decode cX14_needs 96 = .ok (.aload_n 0, 1) := by decide +kernel
theorem dX14_needs_97 : decode cX14_needs 97 = .ok (.getfield 70, 3) := by decide +kernel
theorem dX14_needs_100 : decode cX14_needs 100 = .ok (.iload_n 1, 1) := by decide +kernel
theorem dX14_needs_101 : decode cX14_needs 101 = .ok (.iaload, 1) := by decide +kernel
theorem dX14_needs_102 : decode cX14_needs 102 = .ok (.iconst 1, 1) := by decide +kernel
theorem dX14_needs_103 : decode cX14_needs 103 = .ok (.iadd, 1) := by decide +kernel
theorem dX14_needs_104 : decode cX14_needs 104 = .ok (.invokevirtual 113, 3) := by decide +kernel
theorem dX14_needs_107 : decode cX14_needs 107 = .ok (.istore_n 3, 1) := by decide +kernel
theorem dX14_needs_108 : decode cX14_needs 108 = .ok (.return_, 1) := by decide +kernel
theorem flRX14_64 : px_f RX14 64 14 32 := ⟨_, rfl, by decide, Or.inl (tb6 (List.mem_of_getElem? (i := 150) rfl))⟩
theorem flRX14_67 : px_f RX14 67 14 33 := ⟨_, rfl, by decide, Or.inl (tb6 (List.mem_of_getElem? (i := 151) rfl))⟩
theorem kcX14_needs_113 : px_cV mX14_needs 113 mX14_wrong 2 := ⟨⟨mbX14_wrong, by decide, by decide⟩, Or.inl (tb8 (List.mem_of_getElem? (i := 139) rfl)), vbX14_wrong⟩
set_option maxRecDepth 100000 in
set_option maxHeartbeats 4000000 in
theorem eX14_needs_93 {X : px_X}  : ∀ (a0 : Nat) (a1 : Int32) (w : px_W) (q : px_W), fX14_needs_93 X  a0 a1 w = some q → EV X mX14_needs 93 [(0, .ref a0), (1, .int a1)] [] w none q := by
  intro a0 a1 w q h
  unfold fX14_needs_93 at h
  refine EV.aload_n 0 dX14_needs_93 rfl rfl ?_
  refine EV.bipush (8) dX14_needs_94 (by decide) ?_
  refine EV.aload_n 0 dX14_needs_96 rfl rfl ?_
  obtain ⟨v26, gv26, h⟩ := px_bs h
  refine ev_gR dX14_needs_97 flRX14_70 gv26 ?_
  refine EV.iload_n 1 dX14_needs_100 rfl rfl ?_
  obtain ⟨v27, gv27, h⟩ := px_bs h
  refine ev_aI dX14_needs_101 gv27 ?_
  refine EV.iconst (1) dX14_needs_102 (by decide) ?_
  refine EV.iadd dX14_needs_103 ?_
  obtain ⟨o28, go28, h⟩ := px_bs h
  obtain ⟨q29, gq29, h⟩ := px_bs h
  refine EV.callV (As := [.int 8, .int (v27 + 1)]) (rest := []) dX14_needs_104 kcX14_needs_113 (gO_ok go28) rfl rfl rfl (Nat.le_of_ble_eq_true rfl) (Nat.le_of_ble_eq_true rfl) (eX14_wrong gq29) ?_
  refine EV.istore_n [(3, .int q29.1), (0, .ref a0), (1, .int a1)] dX14_needs_107 rfl (by decide) rfl ?_
  cases h
  exact EV.ret0 dX14_needs_108 trivial
set_option maxRecDepth 100000 in
set_option maxHeartbeats 4000000 in
theorem eX14_needs_70 {X : px_X}  : ∀ (a0 : Nat) (a1 : Int32) (w : px_W) (q : px_W), fX14_needs_70 X  a0 a1 w = some q → EV X mX14_needs 70 [(0, .ref a0), (1, .int a1)] [] w none q := by
  intro a0 a1 w q h
  unfold fX14_needs_70 at h
  refine EV.aload_n 0 dX14_needs_70 rfl rfl ?_
  obtain ⟨v30, gv30, h⟩ := px_bs h
  refine ev_gI dX14_needs_71 flRX14_155 gv30 ?_
  refine EV.if_le 108 dX14_needs_74 (by decide) (fun c31 => ?_) (fun c31 => ?_)
  · rw [if_pos c31] at h
    cases h
    exact EV.ret0 dX14_needs_108 trivial
  · rw [if_neg c31] at h
    refine EV.aload_n 0 dX14_needs_77 rfl rfl ?_
    obtain ⟨v32, gv32, h⟩ := px_bs h
    refine ev_gR dX14_needs_78 flRX14_42 gv32 ?_
    refine EV.iconst (4) dX14_needs_81 (by decide) ?_
    refine EV.aload_n 0 dX14_needs_82 rfl rfl ?_
    obtain ⟨v33, gv33, h⟩ := px_bs h
    refine ev_gR dX14_needs_83 flRX14_67 gv33 ?_
    refine EV.iload_n 1 dX14_needs_86 rfl rfl ?_
    obtain ⟨v34, gv34, h⟩ := px_bs h
    refine ev_aI dX14_needs_87 gv34 ?_
    refine EV.iadd dX14_needs_88 ?_
    obtain ⟨v35, gv35, h⟩ := px_bs h
    refine ev_aZ dX14_needs_89 gv35 ?_
    refine EV.if_ne 108 dX14_needs_90 (by decide) (fun c36 => ?_) (fun c36 => ?_)
    · rw [if_neg c36] at h
      cases h
      exact EV.ret0 dX14_needs_108 trivial
    · rw [if_pos c36] at h
      refine EV.sub [0, 1] rfl ?_
      exact eX14_needs_93  _ _ _ _ h
set_option maxRecDepth 100000 in
set_option maxHeartbeats 4000000 in
theorem eX14_needs_51 {X : px_X}  : ∀ (a0 : Nat) (a1 : Int32) (s0 : Int32) (w : px_W) (q : px_W), fX14_needs_51 X  a0 a1 s0 w = some q → EV X mX14_needs 51 [(0, .ref a0), (1, .int a1)] [.int s0] w none q := by
  intro a0 a1 s0 w q h
  unfold fX14_needs_51 at h
  refine EV.istore_n [(2, .int s0), (0, .ref a0), (1, .int a1)] dX14_needs_51 rfl (by decide) rfl ?_
  refine EV.iload_n 0 dX14_needs_52 rfl rfl ?_
  refine EV.if_eq 70 dX14_needs_53 (by decide) (fun c37 => ?_) (fun c37 => ?_)
  · rw [if_pos c37] at h
    refine EV.sub [1, 2] rfl ?_
    exact eX14_needs_70  _ _ _ _ h
  · rw [if_neg c37] at h
    refine EV.aload_n 1 dX14_needs_56 rfl rfl ?_
    obtain ⟨v38, gv38, h⟩ := px_bs h
    refine ev_gR dX14_needs_57 flRX14_42 gv38 ?_
    refine EV.aload_n 1 dX14_needs_60 rfl rfl ?_
    obtain ⟨v39, gv39, h⟩ := px_bs h
    refine ev_gR dX14_needs_61 flRX14_64 gv39 ?_
    refine EV.iload_n 2 dX14_needs_64 rfl rfl ?_
    obtain ⟨v40, gv40, h⟩ := px_bs h
    refine ev_aI dX14_needs_65 gv40 ?_
    obtain ⟨v41, gv41, h⟩ := px_bs h
    refine ev_aZ dX14_needs_66 gv41 ?_
    refine EV.if_eq 93 dX14_needs_67 (by decide) (fun c42 => ?_) (fun c42 => ?_)
    · rw [if_pos c42] at h
      refine EV.sub [1, 2] rfl ?_
      exact eX14_needs_93  _ _ _ _ h
    · rw [if_neg c42] at h
      refine EV.sub [1, 2] rfl ?_
      exact eX14_needs_70  _ _ _ _ h
set_option maxRecDepth 100000 in
set_option maxHeartbeats 4000000 in
theorem eX14_needs_50 {X : px_X}  : ∀ (a0 : Nat) (a1 : Int32) (w : px_W) (q : px_W), fX14_needs_50 X  a0 a1 w = some q → EV X mX14_needs 50 [(0, .ref a0), (1, .int a1)] [] w none q := by
  intro a0 a1 w q h
  unfold fX14_needs_50 at h
  refine EV.iconst (0) dX14_needs_50 (by decide) ?_
  refine EV.sub [0, 1] rfl ?_
  exact eX14_needs_51  _ _ _ _ _ h
set_option maxRecDepth 100000 in
set_option maxHeartbeats 4000000 in
theorem eX14_needs_32 {X : px_X}  : ∀ (a0 : Nat) (a1 : Int32) (w : px_W) (q : px_W), fX14_needs_32 X  a0 a1 w = some q → EV X mX14_needs 32 [(0, .ref a0), (1, .int a1)] [] w none q := by
  intro a0 a1 w q h
  unfold fX14_needs_32 at h
  refine EV.aload_n 0 dX14_needs_32 rfl rfl ?_
  obtain ⟨v43, gv43, h⟩ := px_bs h
  refine ev_gI dX14_needs_33 flRX14_152 gv43 ?_
  refine EV.if_ne 50 dX14_needs_36 (by decide) (fun c44 => ?_) (fun c44 => ?_)
  · rw [if_neg c44] at h
    refine EV.sub [0, 1] rfl ?_
    exact eX14_needs_50  _ _ _ _ h
  · rw [if_pos c44] at h
    refine EV.aload_n 0 dX14_needs_39 rfl rfl ?_
    obtain ⟨v45, gv45, h⟩ := px_bs h
    refine ev_gI dX14_needs_40 flRX14_158 gv45 ?_
    refine EV.if_ne 50 dX14_needs_43 (by decide) (fun c46 => ?_) (fun c46 => ?_)
    · rw [if_neg c46] at h
      refine EV.sub [0, 1] rfl ?_
      exact eX14_needs_50  _ _ _ _ h
    · rw [if_pos c46] at h
      refine EV.iconst (1) dX14_needs_46 (by decide) ?_
      refine EV.goto 51 dX14_needs_47 (by decide) ?_
      refine EV.sub [0, 1] rfl ?_
      exact eX14_needs_51  _ _ _ _ _ h
set_option maxRecDepth 100000 in
set_option maxHeartbeats 4000000 in
theorem eX14_needs {X : px_X} {w : px_W} {a0 : Nat} {a1 : Int32} {q : px_W} (h : fX14_needs X w a0 a1 = some q) : EV X mX14_needs 0 (lv_args 0 [.ref a0, .int a1]) [] w none q := by
  unfold fX14_needs at h
  show EV X mX14_needs 0 [(0, .ref a0), (1, .int a1)] [] w none q
  refine EV.aload_n 0 dX14_needs_0 rfl rfl ?_
  obtain ⟨v47, gv47, h⟩ := px_bs h
  refine ev_gR dX14_needs_1 flRX14_35 gv47 ?_
  refine EV.aload_n 0 dX14_needs_4 rfl rfl ?_
  obtain ⟨v48, gv48, h⟩ := px_bs h
  refine ev_gR dX14_needs_5 flRX14_32 gv48 ?_
  refine EV.aload_n 0 dX14_needs_8 rfl rfl ?_
  obtain ⟨v49, gv49, h⟩ := px_bs h
  refine ev_gR dX14_needs_9 flRX14_61 gv49 ?_
  refine EV.iload_n 1 dX14_needs_12 rfl rfl ?_
  obtain ⟨v50, gv50, h⟩ := px_bs h
  refine ev_aI dX14_needs_13 gv50 ?_
  obtain ⟨v51, gv51, h⟩ := px_bs h
  refine ev_aI dX14_needs_14 gv51 ?_
  obtain ⟨v52, gv52, h⟩ := px_bs h
  refine ev_aZ dX14_needs_15 gv52 ?_
  refine EV.if_ne 32 dX14_needs_16 (by decide) (fun c53 => ?_) (fun c53 => ?_)
  · rw [if_neg c53] at h
    refine EV.sub [0, 1] rfl ?_
    exact eX14_needs_32  _ _ _ _ h
  · rw [if_pos c53] at h
    refine EV.aload_n 0 dX14_needs_19 rfl rfl ?_
    refine EV.bipush (8) dX14_needs_20 (by decide) ?_
    refine EV.aload_n 0 dX14_needs_22 rfl rfl ?_
    obtain ⟨v54, gv54, h⟩ := px_bs h
    refine ev_gR dX14_needs_23 flRX14_70 gv54 ?_
    refine EV.iload_n 1 dX14_needs_26 rfl rfl ?_
    obtain ⟨v55, gv55, h⟩ := px_bs h
    refine ev_aI dX14_needs_27 gv55 ?_
    obtain ⟨o56, go56, h⟩ := px_bs h
    obtain ⟨q57, gq57, h⟩ := px_bs h
    refine EV.callV (As := [.int 8, .int v55]) (rest := []) dX14_needs_28 kcX14_needs_113 (gO_ok go56) rfl rfl rfl (Nat.le_of_ble_eq_true rfl) (Nat.le_of_ble_eq_true rfl) (eX14_wrong gq57) ?_
    refine EV.istore_n [(2, .int q57.1), (0, .ref a0), (1, .int a1)] dX14_needs_31 rfl (by decide) rfl ?_
    refine EV.sub [1, 2] rfl ?_
    exact eX14_needs_32  _ _ _ _ h
/-! WavePicturesModel$Segments.readScan()V -/
theorem dX14_readScan_0 : decode cX14_readScan 0 = .ok (.aload_n 0, 1) := by decide +kernel
theorem dX14_readScan_1 : decode cX14_readScan 1 = .ok (.aload_n 0, 1) := by decide +kernel
theorem dX14_readScan_2 : decode cX14_readScan 2 = .ok (.invokevirtual 124, 3) := by decide +kernel
theorem dX14_readScan_5 : decode cX14_readScan 5 = .ok (.putfield 146, 3) := by decide +kernel
theorem dX14_readScan_8 : decode cX14_readScan 8 = .ok (.aload_n 0, 1) := by decide +kernel
theorem dX14_readScan_9 : decode cX14_readScan 9 = .ok (.aload_n 0, 1) := by decide +kernel
theorem dX14_readScan_10 : decode cX14_readScan 10 = .ok (.getfield 100, 3) := by decide +kernel
theorem dX14_readScan_13 : decode cX14_readScan 13 = .ok (.ifCond .gt 18, 3) := by decide +kernel
theorem dX14_readScan_16 : decode cX14_readScan 16 = .ok (.aload_n 0, 1) := by decide +kernel
theorem dX14_readScan_17 : decode cX14_readScan 17 = .ok (.getfield 146, 3) := by decide +kernel
theorem dX14_readScan_20 : decode cX14_readScan 20 = .ok (.ifCond .le 15, 3) := by decide +kernel
theorem dX14_readScan_23 : decode cX14_readScan 23 = .ok (.aload_n 0, 1) := by decide +kernel
theorem dX14_readScan_24 : decode cX14_readScan 24 = .ok (.getfield 146, 3) := by decide +kernel
theorem dX14_readScan_27 : decode cX14_readScan 27 = .ok (.iconst 5, 1) := by decide +kernel
theorem dX14_readScan_28 : decode cX14_readScan 28 = .ok (.if_icmp .ge 7, 3) := by decide +kernel
theorem dX14_readScan_31 : decode cX14_readScan 31 = .ok (.iconst 1, 1) := by decide +kernel
theorem dX14_readScan_32 : decode cX14_readScan 32 = .ok (.goto 4, 3) := by decide +kernel
theorem dX14_readScan_35 : decode cX14_readScan 35 = .ok (.iconst 0, 1) := by decide +kernel
theorem dX14_readScan_36 : decode cX14_readScan 36 = .ok (.invokevirtual 136, 3) := by decide +kernel
theorem dX14_readScan_39 : decode cX14_readScan 39 = .ok (.iconst 0, 1) := by decide +kernel
theorem dX14_readScan_40 : decode cX14_readScan 40 = .ok (.istore_n 1, 1) := by decide +kernel
theorem dX14_readScan_41 : decode cX14_readScan 41 = .ok (.iconst (-1), 1) := by decide +kernel
theorem dX14_readScan_42 : decode cX14_readScan 42 = .ok (.istore_n 2, 1) := by decide +kernel
theorem dX14_readScan_43 : decode cX14_readScan 43 = .ok (.iconst 0, 1) := by decide +kernel
theorem dX14_readScan_44 : decode cX14_readScan 44 = .ok (.istore_n 3, 1) := by decide +kernel
theorem dX14_readScan_45 : decode cX14_readScan 45 = .ok (.iload_n 3, 1) := by decide +kernel
theorem dX14_readScan_46 : decode cX14_readScan 46 = .ok (.aload_n 0, 1) := by decide +kernel
theorem dX14_readScan_47 : decode cX14_readScan 47 = .ok (.getfield 146, 3) := by decide +kernel
theorem dX14_readScan_50 : decode cX14_readScan 50 = .ok (.if_icmp .ge 186, 3) := by decide +kernel
theorem dX14_readScan_53 : decode cX14_readScan 53 = .ok (.aload_n 0, 1) := by decide +kernel
theorem dX14_readScan_54 : decode cX14_readScan 54 = .ok (.getfield 100, 3) := by decide +kernel
theorem dX14_readScan_57 : decode cX14_readScan 57 = .ok (.ifCond .ne 179, 3) := by decide +kernel
theorem dX14_readScan_60 : decode cX14_readScan 60 = .ok (.aload_n 0, 1) := by decide +kernel
theorem dX14_readScan_61 : decode cX14_readScan 61 = .ok (.getfield 70, 3) := by decide +kernel
theorem dX14_readScan_64 : decode cX14_readScan 64 = .ok (.iload_n 3, 1) := by decide +kernel
theorem dX14_readScan_65 : decode cX14_readScan 65 = .ok (.aload_n 0, 1) := by decide +kernel
theorem dX14_readScan_66 : decode cX14_readScan 66 = .ok (.getfield 106, 3) := by decide +kernel
theorem dX14_readScan_69 : decode cX14_readScan 69 = .ok (.iastore, 1) := by decide +kernel
theorem dX14_readScan_70 : decode cX14_readScan 70 = .ok (.aload_n 0, 1) := by decide +kernel
theorem dX14_readScan_71 : decode cX14_readScan 71 = .ok (.aload_n 0, 1) := by decide +kernel
theorem dX14_readScan_72 : decode cX14_readScan 72 = .ok (.invokevirtual 124, 3) := by decide +kernel
theorem dX14_readScan_75 : decode cX14_readScan 75 = .ok (.invokevirtual 149, 3) := by decide +kernel
theorem dX14_readScan_78 : decode cX14_readScan 78 = .ok (.istore 4, 2) := by decide +kernel
theorem dX14_readScan_80 : decode cX14_readScan 80 = .ok (.aload_n 0, 1) := by decide +kernel
theorem dX14_readScan_81 : decode cX14_readScan 81 = .ok (.getfield 100, 3) := by decide +kernel
theorem dX14_readScan_84 : decode cX14_readScan 84 = .ok (.ifCond .ne 23, 3) := by decide +kernel
theorem dX14_readScan_87 : decode cX14_readScan 87 = .ok (.iload 4, 2) := by decide +kernel
theorem dX14_readScan_89 : decode cX14_readScan 89 = .ok (.iload_n 2, 1) := by decide +kernel
theorem dX14_readScan_90 : decode cX14_readScan 90 = .ok (.if_icmp .gt 17, 3) := by decide +kernel
theorem dX14_readScan_93 : decode cX14_readScan 93 = .ok (.aload_n 0, 1) := by decide +kernel
theorem dX14_readScan_94 : decode cX14_readScan 94 = .ok (.bipush 7, 2) := by decide +kernel
theorem dX14_readScan_96 : decode cX14_readScan 96 = .ok (.aload_n 0, 1) := by decide +kernel
theorem dX14_readScan_97 : decode cX14_readScan 97 = .ok (.getfield 70, 3) := by decide +kernel
theorem dX14_readScan_100 : decode cX14_readScan 100 = .ok (.iload_n 3, 1) := by decide +kernel
theorem dX14_readScan_101 : decode cX14_readScan 101 = .ok (.iaload, 1) := by decide +kernel
theorem dX14_readScan_102 : decode cX14_readScan 102 = .ok (.invokevirtual 113, 3) := by decide +kernel
theorem dX14_readScan_105 : decode cX14_readScan 105 = .ok (.istore 5, 2) := by decide +kernel
theorem dX14_readScan_107 : decode cX14_readScan 107 = .ok (.aload_n 0, 1) := by decide +kernel
theorem dX14_readScan_108 : decode cX14_readScan 108 = .ok (.getfield 100, 3) := by decide +kernel
theorem dX14_readScan_111 : decode cX14_readScan 111 = .ok (.ifCond .ne 55, 3) := by decide +kernel
theorem dX14_readScan_114 : decode cX14_readScan 114 = .ok (.aload_n 0, 1) := by decide +kernel
theorem dX14_readScan_115 : decode cX14_readScan 115 = .ok (.getfield 61, 3) := by decide +kernel
theorem dX14_readScan_118 : decode cX14_readScan 118 = .ok (.iload_n 3, 1) := by decide +kernel
theorem dX14_readScan_119 : decode cX14_readScan 119 = .ok (.iload 4, 2) := by decide +kernel
theorem dX14_readScan_121 : decode cX14_readScan 121 = .ok (.iastore, 1) := by decide +kernel
theorem dX14_readScan_122 : decode cX14_readScan 122 = .ok (.iload 4, 2) := by decide +kernel
theorem dX14_readScan_124 : decode cX14_readScan 124 = .ok (.istore_n 2, 1) := by decide +kernel
theorem dX14_readScan_125 : decode cX14_readScan 125 = .ok (.iload_n 1, 1) := by decide +kernel
theorem dX14_readScan_126 : decode cX14_readScan 126 = .ok (.aload_n 0, 1) := by decide +kernel
theorem dX14_readScan_127 : decode cX14_readScan 127 = .ok (.getfield 26, 3) := by decide +kernel
theorem dX14_readScan_130 : decode cX14_readScan 130 = .ok (.iload 4, 2) := by decide +kernel
theorem dX14_readScan_132 : decode cX14_readScan 132 = .ok (.iaload, 1) := by decide +kernel
theorem dX14_readScan_133 : decode cX14_readScan 133 = .ok (.aload_n 0, 1) := by decide +kernel
theorem dX14_readScan_134 : decode cX14_readScan 134 = .ok (.getfield 29, 3) := by decide +kernel
theorem dX14_readScan_137 : decode cX14_readScan 137 = .ok (.iload 4, 2) := by decide +kernel
theorem dX14_readScan_139 : decode cX14_readScan 139 = .ok (.iaload, 1) := by decide +kernel
theorem dX14_readScan_140 : decode cX14_readScan 140 = .ok (.imul, 1) := by decide +kernel
theorem dX14_readScan_141 : decode cX14_readScan 141 = .ok (.iadd, 1) := by decide +kernel
theorem dX14_readScan_142 : decode cX14_readScan 142 = .ok (.istore_n 1, 1) := by decide +kernel
theorem dX14_readScan_143 : decode cX14_readScan 143 = .ok (.aload_n 0, 1) := by decide +kernel
theorem dX14_readScan_144 : decode cX14_readScan 144 = .ok (.aload_n 0, 1) := by decide +kernel
theorem dX14_readScan_145 : decode cX14_readScan 145 = .ok (.getfield 146, 3) := by decide +kernel
theorem dX14_readScan_148 : decode cX14_readScan 148 = .ok (.iconst 1, 1) := by decide +kernel
theorem dX14_readScan_149 : decode cX14_readScan 149 = .ok (.if_icmp .eq 9, 3) := by decide +kernel
theorem dX14_readScan_152 : decode cX14_readScan 152 = .ok (.iload_n 1, 1) := by decide +kernel
theorem dX14_readScan_153 : decode cX14_readScan 153 = .ok (.bipush 10, 2) := by decide +kernel
theorem dX14_readScan_155 : decode cX14_readScan 155 = .ok (.if_icmp .gt 7, 3) := by decide +kernel
theorem dX14_readScan_158 : decode cX14_readScan 158 = .ok (.iconst 1, 1) := by decide +kernel
theorem dX14_readScan_159 : decode cX14_readScan 159 = .ok (.goto 4, 3) := by decide +kernel
theorem dX14_readScan_162 : decode cX14_readScan 162 = .ok (.iconst 0, 1) := by decide +kernel
theorem dX14_readScan_163 : decode cX14_readScan 163 = .ok (.invokevirtual 136, 3) := by decide +kernel
theorem dX14_readScan_166 : decode cX14_readScan 166 = .ok (.aload_n 0, 1) := by decide +kernel
theorem dX14_readScan_167 : decode cX14_readScan 167 = .ok (.invokevirtual 124, 3) := by decide +kernel
theorem dX14_readScan_170 : decode cX14_readScan 170 = .ok (.istore 5, 2) := by decide +kernel
theorem dX14_readScan_172 : decode cX14_readScan 172 = .ok (.aload_n 0, 1) := by decide +kernel
theorem dX14_readScan_173 : decode cX14_readScan 173 = .ok (.getfield 64, 3) := by decide +kernel
theorem dX14_readScan_176 : decode cX14_readScan 176 = .ok (.iload_n 3, 1) := by decide +kernel
theorem dX14_readScan_177 : decode cX14_readScan 177 = .ok (.iload 5, 2) := by decide +kernel
theorem dX14_readScan_179 : decode cX14_readScan 179 = .ok (.bipush 16, 2) := by decide +kernel
theorem dX14_readScan_181 : decode cX14_readScan 181 = .ok (.idiv, 1) := by decide +kernel
theorem dX14_readScan_182 : decode cX14_readScan 182 = .ok (.iastore, 1) := by decide +kernel
theorem dX14_readScan_183 : decode cX14_readScan 183 = .ok (.aload_n 0, 1) := by decide +kernel
theorem dX14_readScan_184 : decode cX14_readScan 184 = .ok (.getfield 67, 3) := by decide +kernel
theorem dX14_readScan_187 : decode cX14_readScan 187 = .ok (.iload_n 3, 1) := by decide +kernel
theorem dX14_readScan_188 : decode cX14_readScan 188 = .ok (.iload 5, 2) := by decide +kernel
theorem dX14_readScan_190 : decode cX14_readScan 190 = .ok (.bipush 16, 2) := by decide +kernel
theorem dX14_readScan_192 : decode cX14_readScan 192 = .ok (.irem, 1) := by decide +kernel
theorem dX14_readScan_193 : decode cX14_readScan 193 = .ok (.iastore, 1) := by decide +kernel
theorem dX14_readScan_194 : decode cX14_readScan 194 = .ok (.aload_n 0, 1) := by decide +kernel
theorem dX14_readScan_195 : decode cX14_readScan 195 = .ok (.aload_n 0, 1) := by decide +kernel
theorem dX14_readScan_196 : decode cX14_readScan 196 = .ok (.getfield 100, 3) := by decide +kernel
theorem dX14_readScan_199 : decode cX14_readScan 199 = .ok (.ifCond .gt 23, 3) := by decide +kernel
theorem dX14_readScan_202 : decode cX14_readScan 202 = .ok (.aload_n 0, 1) := by decide +kernel
theorem dX14_readScan_203 : decode cX14_readScan 203 = .ok (.getfield 64, 3) := by decide +kernel
theorem dX14_readScan_206 : decode cX14_readScan 206 = .ok (.iload_n 3, 1) := by decide +kernel
theorem dX14_readScan_207 : decode cX14_readScan 207 = .ok (.iaload, 1) := by decide +kernel
theorem dX14_readScan_208 : decode cX14_readScan 208 = .ok (.iconst 4, 1) := by decide +kernel
theorem dX14_readScan_209 : decode cX14_readScan 209 = .ok (.if_icmp .ge 17, 3) := by decide +kernel
theorem dX14_readScan_212 : decode cX14_readScan 212 = .ok (.aload_n 0, 1) := by decide +kernel
theorem dX14_readScan_213 : decode cX14_readScan 213 = .ok (.getfield 67, 3) := by decide +kernel
theorem dX14_readScan_216 : decode cX14_readScan 216 = .ok (.iload_n 3, 1) := by decide +kernel
theorem dX14_readScan_217 : decode cX14_readScan 217 = .ok (.iaload, 1) := by decide +kernel
theorem dX14_readScan_218 : decode cX14_readScan 218 = .ok (.iconst 4, 1) := by decide +kernel
theorem dX14_readScan_219 : decode cX14_readScan 219 = .ok (.if_icmp .ge 7, 3) := by decide +kernel
theorem dX14_readScan_222 : decode cX14_readScan 222 = .ok (.iconst 1, 1) := by decide +kernel
theorem dX14_readScan_223 : decode cX14_readScan 223 = .ok (.goto 4, 3) := by decide +kernel
theorem dX14_readScan_226 : decode cX14_readScan 226 = .ok (.iconst 0, 1) := by decide +kernel
theorem dX14_readScan_227 : decode cX14_readScan 227 = .ok (.invokevirtual 136, 3) := by decide +kernel
theorem dX14_readScan_230 : decode cX14_readScan 230 = .ok (.iinc 3 1, 3) := by decide +kernel
theorem dX14_readScan_233 : decode cX14_readScan 233 = .ok (.goto (-188), 3) := by decide +kernel
theorem dX14_readScan_236 : decode cX14_readScan 236 = .ok (.aload_n 0, 1) := by decide +kernel
theorem dX14_readScan_237 : decode cX14_readScan 237 = .ok (.getfield 82, 3) := by decide +kernel
theorem dX14_readScan_240 : decode cX14_readScan 240 = .ok (.sipush 194, 3) := by decide +kernel
theorem dX14_readScan_243 : decode cX14_readScan 243 = .ok (.if_icmp .ne 7, 3) := by decide +kernel
theorem dX14_readScan_246 : decode cX14_readScan 246 = .ok (.iconst 1, 1) := by decide +kernel
theorem dX14_readScan_247 : decode cX14_readScan 247 = .ok (.goto 4, 3) := by decide +kernel
theorem dX14_readScan_250 : decode cX14_readScan 250 = .ok (.iconst 0, 1) := by decide +kernel
theorem dX14_readScan_251 : decode cX14_readScan 251 = .ok (.istore_n 3, 1) := by decide +kernel
theorem dX14_readScan_252 : decode cX14_readScan 252 = .ok (.aload_n 0, 1) := by decide +kernel
theorem dX14_readScan_253 : decode cX14_readScan 253 = .ok (.aload_n 0, 1) := by decide +kernel
theorem dX14_readScan_254 : decode cX14_readScan 254 = .ok (.invokevirtual 124, 3) := by decide +kernel
theorem dX14_readScan_257 : decode cX14_readScan 257 = .ok (.putfield 152, 3) := by decide +kernel
theorem dX14_readScan_260 : decode cX14_readScan 260 = .ok (.aload_n 0, 1) := by decide +kernel
theorem dX14_readScan_261 : decode cX14_readScan 261 = .ok (.aload_n 0, 1) := by decide +kernel
theorem dX14_readScan_262 : decode cX14_readScan 262 = .ok (.getfield 100, 3) := by decide +kernel
theorem dX14_readScan_265 : decode cX14_readScan 265 = .ok (.ifCond .gt 41, 3) := by decide +kernel
theorem dX14_readScan_268 : decode cX14_readScan 268 = .ok (.iload_n 3, 1) := by decide +kernel
theorem dX14_readScan_269 : decode cX14_readScan 269 = .ok (.ifCond .eq 30, 3) := by decide +kernel
theorem dX14_readScan_272 : decode cX14_readScan 272 = .ok (.aload_n 0, 1) := by decide +kernel
theorem dX14_readScan_273 : decode cX14_readScan 273 = .ok (.getfield 152, 3) := by decide +kernel
theorem dX14_readScan_276 : decode cX14_readScan 276 = .ok (.bipush 64, 2) := by decide +kernel
theorem dX14_readScan_278 : decode cX14_readScan 278 = .ok (.if_icmp .ge 32, 3) := by decide +kernel
theorem dX14_readScan_281 : decode cX14_readScan 281 = .ok (.aload_n 0, 1) := by decide +kernel
theorem dX14_readScan_282 : decode cX14_readScan 282 = .ok (.getfield 152, 3) := by decide +kernel
theorem dX14_readScan_285 : decode cX14_readScan 285 = .ok (.ifCond .eq 21, 3) := by decide +kernel
theorem dX14_readScan_288 : decode cX14_readScan 288 = .ok (.aload_n 0, 1) := by decide +kernel
theorem dX14_readScan_289 : decode cX14_readScan 289 = .ok (.getfield 146, 3) := by decide +kernel
theorem dX14_readScan_292 : decode cX14_readScan 292 = .ok (.iconst 1, 1) := by decide +kernel
theorem dX14_readScan_293 : decode cX14_readScan 293 = .ok (.if_icmp .ne 17, 3) := by decide +kernel
theorem dX14_readScan_296 : decode cX14_readScan 296 = .ok (.goto 10, 3) := by decide +kernel
theorem dX14_readScan_299 : decode cX14_readScan 299 = .ok (.aload_n 0, 1) := by decide +kernel
theorem dX14_readScan_300 : decode cX14_readScan 300 = .ok (.getfield 152, 3) := by decide +kernel
theorem dX14_readScan_303 : decode cX14_readScan 303 = .ok (.ifCond .ne 7, 3) := by decide +kernel
theorem dX14_readScan_306 : decode cX14_readScan 306 = .ok (.iconst 1, 1) := by decide +kernel
theorem dX14_readScan_307 : decode cX14_readScan 307 = .ok (.goto 4, 3) := by decide +kernel
theorem dX14_readScan_310 : decode cX14_readScan 310 = .ok (.iconst 0, 1) := by decide +kernel
theorem dX14_readScan_311 : decode cX14_readScan 311 = .ok (.invokevirtual 136, 3) := by decide +kernel
theorem dX14_readScan_314 : decode cX14_readScan 314 = .ok (.aload_n 0, 1) := by decide +kernel
theorem dX14_readScan_315 : decode cX14_readScan 315 = .ok (.aload_n 0, 1) := by decide +kernel
theorem dX14_readScan_316 : decode cX14_readScan 316 = .ok (.invokevirtual 124, 3) := by decide +kernel
theorem dX14_readScan_319 : decode cX14_readScan 319 = .ok (.putfield 155, 3) := by decide +kernel
theorem dX14_readScan_322 : decode cX14_readScan 322 = .ok (.aload_n 0, 1) := by decide +kernel
theorem dX14_readScan_323 : decode cX14_readScan 323 = .ok (.aload_n 0, 1) := by decide +kernel
theorem dX14_readScan_324 : decode cX14_readScan 324 = .ok (.getfield 100, 3) := by decide +kernel
theorem dX14_readScan_327 : decode cX14_readScan 327 = .ok (.ifCond .gt 56, 3) := by decide +kernel
theorem dX14_readScan_330 : decode cX14_readScan 330 = .ok (.iload_n 3, 1) := by decide +kernel
theorem dX14_readScan_331 : decode cX14_readScan 331 = .ok (.ifCond .ne 15, 3) := by decide +kernel
theorem dX14_readScan_334 : decode cX14_readScan 334 = .ok (.aload_n 0, 1) := by decide +kernel
theorem dX14_readScan_335 : decode cX14_readScan 335 = .ok (.getfield 155, 3) := by decide +kernel
theorem dX14_readScan_338 : decode cX14_readScan 338 = .ok (.bipush 63, 2) := by decide +kernel
theorem dX14_readScan_340 : decode cX14_readScan 340 = .ok (.if_icmp .ne 47, 3) := by decide +kernel
theorem dX14_readScan_343 : decode cX14_readScan 343 = .ok (.goto 40, 3) := by decide +kernel
theorem dX14_readScan_346 : decode cX14_readScan 346 = .ok (.aload_n 0, 1) := by decide +kernel
theorem dX14_readScan_347 : decode cX14_readScan 347 = .ok (.getfield 152, 3) := by decide +kernel
theorem dX14_readScan_350 : decode cX14_readScan 350 = .ok (.ifCond .ne 13, 3) := by decide +kernel
theorem dX14_readScan_353 : decode cX14_readScan 353 = .ok (.aload_n 0, 1) := by decide +kernel
theorem dX14_readScan_354 : decode cX14_readScan 354 = .ok (.getfield 155, 3) := by decide +kernel
theorem dX14_readScan_357 : decode cX14_readScan 357 = .ok (.ifCond .ne 30, 3) := by decide +kernel
theorem dX14_readScan_360 : decode cX14_readScan 360 = .ok (.goto 23, 3) := by decide +kernel
theorem dX14_readScan_363 : decode cX14_readScan 363 = .ok (.aload_n 0, 1) := by decide +kernel
theorem dX14_readScan_364 : decode cX14_readScan 364 = .ok (.getfield 155, 3) := by decide +kernel
theorem dX14_readScan_367 : decode cX14_readScan 367 = .ok (.aload_n 0, 1) := by decide +kernel
theorem dX14_readScan_368 : decode cX14_readScan 368 = .ok (.getfield 152, 3) := by decide +kernel
theorem dX14_readScan_371 : decode cX14_readScan 371 = .ok (.if_icmp .lt 16, 3) := by decide +kernel
theorem dX14_readScan_374 : decode cX14_readScan 374 = .ok (.aload_n 0, 1) := by decide +kernel
theorem dX14_readScan_375 : decode cX14_readScan 375 = .ok (.getfield 155, 3) := by decide +kernel
theorem dX14_readScan_378 : decode cX14_readScan 378 = .ok (.bipush 64, 2) := by decide +kernel
theorem dX14_readScan_380 : decode cX14_readScan 380 = .ok (.if_icmp .ge 7, 3) := by decide +kernel
theorem dX14_readScan_383 : decode cX14_readScan 383 = .ok (.iconst 1, 1) := by decide +kernel
theorem dX14_readScan_384 : decode cX14_readScan 384 = .ok (.goto 4, 3) := by decide +kernel
theorem dX14_readScan_387 : decode cX14_readScan 387 = .ok (.iconst 0, 1) := by decide +kernel
theorem dX14_readScan_388 : decode cX14_readScan 388 = .ok (.invokevirtual 136, 3) := by decide +kernel
theorem dX14_readScan_391 : decode cX14_readScan 391 = .ok (.aload_n 0, 1) := by decide +kernel
theorem dX14_readScan_392 : decode cX14_readScan 392 = .ok (.invokevirtual 124, 3) := by decide +kernel
theorem dX14_readScan_395 : decode cX14_readScan 395 = .ok (.istore 4, 2) := by decide +kernel
theorem dX14_readScan_397 : decode cX14_readScan 397 = .ok (.aload_n 0, 1) := by decide +kernel
theorem dX14_readScan_398 : decode cX14_readScan 398 = .ok (.iload 4, 2) := by decide +kernel
theorem dX14_readScan_400 : decode cX14_readScan 400 = .ok (.bipush 16, 2) := by decide +kernel
theorem dX14_readScan_402 : decode cX14_readScan 402 = .ok (.idiv, 1) := by decide +kernel
theorem dX14_readScan_403 : decode cX14_readScan 403 = .ok (.putfield 158, 3) := by decide +kernel
theorem dX14_readScan_406 : decode cX14_readScan 406 = .ok (.aload_n 0, 1) := by decide +kernel
theorem dX14_readScan_407 : decode cX14_readScan 407 = .ok (.iload 4, 2) := by decide +kernel
theorem dX14_readScan_409 : decode cX14_readScan 409 = .ok (.bipush 16, 2) := by decide +kernel
theorem dX14_readScan_411 : decode cX14_readScan 411 = .ok (.irem, 1) := by decide +kernel
theorem dX14_readScan_412 : decode cX14_readScan 412 = .ok (.putfield 161, 3) := by decide +kernel
theorem dX14_readScan_415 : decode cX14_readScan 415 = .ok (.aload_n 0, 1) := by decide +kernel
theorem dX14_readScan_416 : decode cX14_readScan 416 = .ok (.aload_n 0, 1) := by decide +kernel
theorem dX14_readScan_417 : decode cX14_readScan 417 = .ok (.getfield 100, 3) := by decide +kernel
theorem dX14_readScan_420 : decode cX14_readScan 420 = .ok (.ifCond .gt 44, 3) := by decide +kernel
theorem dX14_readScan_423 : decode cX14_readScan 423 = .ok (.iload_n 3, 1) := by decide +kernel
theorem dX14_readScan_424 : decode cX14_readScan 424 = .ok (.ifCond .eq 35, 3) := by decide +kernel
theorem dX14_readScan_427 : decode cX14_readScan 427 = .ok (.aload_n 0, 1) := by decide +kernel
theorem dX14_readScan_428 : decode cX14_readScan 428 = .ok (.getfield 161, 3) := by decide +kernel
theorem dX14_readScan_431 : decode cX14_readScan 431 = .ok (.bipush 13, 2) := by decide +kernel
theorem dX14_readScan_433 : decode cX14_readScan 433 = .ok (.if_icmp .gt 35, 3) := by decide +kernel
theorem dX14_readScan_436 : decode cX14_readScan 436 = .ok (.aload_n 0, 1) := by decide +kernel
theorem dX14_readScan_437 : decode cX14_readScan 437 = .ok (.getfield 158, 3) := by decide +kernel
theorem dX14_readScan_440 : decode cX14_readScan 440 = .ok (.ifCond .eq 24, 3) := by decide +kernel
theorem dX14_readScan_443 : decode cX14_readScan 443 = .ok (.aload_n 0, 1) := by decide +kernel
theorem dX14_readScan_444 : decode cX14_readScan 444 = .ok (.getfield 158, 3) := by decide +kernel
theorem dX14_readScan_447 : decode cX14_readScan 447 = .ok (.aload_n 0, 1) := by decide +kernel
theorem dX14_readScan_448 : decode cX14_readScan 448 = .ok (.getfield 161, 3) := by decide +kernel
theorem dX14_readScan_451 : decode cX14_readScan 451 = .ok (.iconst 1, 1) := by decide +kernel
theorem dX14_readScan_452 : decode cX14_readScan 452 = .ok (.iadd, 1) := by decide +kernel
theorem dX14_readScan_453 : decode cX14_readScan 453 = .ok (.if_icmp .ne 15, 3) := by decide +kernel
theorem dX14_readScan_456 : decode cX14_readScan 456 = .ok (.goto 8, 3) := by decide +kernel
theorem dX14_readScan_459 : decode cX14_readScan 459 = .ok (.iload 4, 2) := by decide +kernel
theorem dX14_readScan_461 : decode cX14_readScan 461 = .ok (.ifCond .ne 7, 3) := by decide +kernel
theorem dX14_readScan_464 : decode cX14_readScan 464 = .ok (.iconst 1, 1) := by decide +kernel
theorem dX14_readScan_465 : decode cX14_readScan 465 = .ok (.goto 4, 3) := by decide +kernel
theorem dX14_readScan_468 : decode cX14_readScan 468 = .ok (.iconst 0, 1) := by decide +kernel
theorem dX14_readScan_469 : decode cX14_readScan 469 = .ok (.invokevirtual 136, 3) := by decide +kernel
theorem dX14_readScan_472 : decode cX14_readScan 472 = .ok (.iconst 0, 1) := by decide +kernel
theorem dX14_readScan_473 : decode cX14_readScan 473 = .ok (.istore 5, 2) := by decide +kernel
theorem dX14_readScan_475 : decode cX14_readScan 475 = .ok (.iload 5, 2) := by decide +kernel
theorem dX14_readScan_477 : decode cX14_readScan 477 = .ok (.aload_n 0, 1) := by decide +kernel
theorem dX14_readScan_478 : decode cX14_readScan 478 = .ok (.getfield 146, 3) := by decide +kernel
theorem dX14_readScan_481 : decode cX14_readScan 481 = .ok (.if_icmp .ge 23, 3) := by decide +kernel
theorem dX14_readScan_484 : decode cX14_readScan 484 = .ok (.aload_n 0, 1) := by decide +kernel
theorem dX14_readScan_485 : decode cX14_readScan 485 = .ok (.getfield 100, 3) := by decide +kernel
theorem dX14_readScan_488 : decode cX14_readScan 488 = .ok (.ifCond .ne 16, 3) := by decide +kernel
theorem dX14_readScan_491 : decode cX14_readScan 491 = .ok (.aload_n 0, 1) := by decide +kernel
theorem dX14_readScan_492 : decode cX14_readScan 492 = .ok (.iload 5, 2) := by decide +kernel
theorem dX14_readScan_494 : decode cX14_readScan 494 = .ok (.iload_n 3, 1) := by decide +kernel
theorem dX14_readScan_495 : decode cX14_readScan 495 = .ok (.invokevirtual 164, 3) := by decide +kernel
theorem dX14_readScan_498 : decode cX14_readScan 498 = .ok (.iinc 5 1, 3) := by decide +kernel
theorem dX14_readScan_501 : decode cX14_readScan 501 = .ok (.goto (-26), 3) := by decide +kernel
theorem dX14_readScan_504 : decode cX14_readScan 504 = .ok (.iconst 0, 1) := by decide +kernel
theorem dX14_readScan_505 : decode cX14_readScan 505 = .ok (.istore 5, 2) := by decide +kernel
theorem dX14_readScan_507 : decode cX14_readScan 507 = .ok (.iload 5, 2) := by decide +kernel
theorem dX14_readScan_509 : decode cX14_readScan 509 = .ok (.aload_n 0, 1) := by decide +kernel
theorem dX14_readScan_510 : decode cX14_readScan 510 = .ok (.getfield 146, 3) := by decide +kernel
theorem dX14_readScan_513 : decode cX14_readScan 513 = .ok (.if_icmp .ge 22, 3) := by decide +kernel
theorem dX14_readScan_516 : decode cX14_readScan 516 = .ok (.aload_n 0, 1) := by decide +kernel
theorem dX14_readScan_517 : decode cX14_readScan 517 = .ok (.getfield 100, 3) := by decide +kernel
theorem dX14_readScan_520 : decode cX14_readScan 520 = .ok (.ifCond .ne 15, 3) := by decide +kernel
theorem dX14_readScan_523 : decode cX14_readScan 523 = .ok (.aload_n 0, 1) := by decide +kernel
theorem dX14_readScan_524 : decode cX14_readScan 524 = .ok (.iload 5, 2) := by decide +kernel
theorem dX14_readScan_526 : decode cX14_readScan 526 = .ok (.invokevirtual 168, 3) := by decide +kernel
theorem dX14_readScan_529 : decode cX14_readScan 529 = .ok (.iinc 5 1, 3) := by decide +kernel
theorem dX14_readScan_532 : decode cX14_readScan 532 = .ok (.goto (-25), 3) := by decide +kernel
theorem dX14_readScan_535 : decode cX14_readScan 535 = .ok (.return_, 1) := by decide +kernel
theorem flRX14_146 : px_f RX14 146 14 30 := ⟨_, rfl, by decide, Or.inl (tb6 (List.mem_of_getElem? (i := 148) rfl))⟩
theorem kcX14_readScan_113 : px_cV mX14_readScan 113 mX14_wrong 2 := ⟨⟨mbX14_wrong, by decide, by decide⟩, Or.inl (tb8 (List.mem_of_getElem? (i := 139) rfl)), vbX14_wrong⟩
theorem kcX14_readScan_124 : px_cV mX14_readScan 124 mX14_next 0 := ⟨⟨mbX14_next, by decide, by decide⟩, Or.inl (tb8 (List.mem_of_getElem? (i := 131) rfl)), vbX14_next⟩
theorem kcX14_readScan_136 : px_cV mX14_readScan 136 mX14_must 1 := ⟨⟨mbX14_must, by decide, by decide⟩, Or.inl (tb8 (List.mem_of_getElem? (i := 171) rfl)), vbX14_must⟩
theorem mbX14_named : px_mB mX14_named 1 := ⟨tb8 (List.mem_of_getElem? (i := 195) rfl), by decide +kernel, tb1 (List.mem_of_getElem? (i := 14) rfl), by decide +kernel, by decide +kernel⟩
theorem vbX14_named : px_vB mX14_named := ⟨tb8 (List.mem_of_getElem? (i := 194) rfl), List.mem_append_left _ (List.mem_of_getElem? (i := 102) (by decide +kernel))⟩
theorem kcX14_readScan_149 : px_cV mX14_readScan 149 mX14_named 1 := ⟨⟨mbX14_named, by decide, by decide⟩, Or.inl (tb8 (List.mem_of_getElem? (i := 192) rfl)), vbX14_named⟩
theorem mbX14_order : px_mB mX14_order 2 := ⟨tb8 (List.mem_of_getElem? (i := 199) rfl), by decide +kernel, tb1 (List.mem_of_getElem? (i := 14) rfl), by decide +kernel, by decide +kernel⟩
theorem vbX14_order : px_vB mX14_order := ⟨tb8 (List.mem_of_getElem? (i := 198) rfl), List.mem_append_left _ (List.mem_of_getElem? (i := 103) (by decide +kernel))⟩
theorem kcX14_readScan_164 : px_cV mX14_readScan 164 mX14_order 2 := ⟨⟨mbX14_order, by decide, by decide⟩, Or.inl (tb8 (List.mem_of_getElem? (i := 196) rfl)), vbX14_order⟩
theorem mbX14_needs : px_mB mX14_needs 1 := ⟨tb8 (List.mem_of_getElem? (i := 203) rfl), by decide +kernel, tb1 (List.mem_of_getElem? (i := 14) rfl), by decide +kernel, by decide +kernel⟩
theorem vbX14_needs : px_vB mX14_needs := ⟨tb8 (List.mem_of_getElem? (i := 202) rfl), List.mem_append_left _ (List.mem_of_getElem? (i := 104) (by decide +kernel))⟩
theorem kcX14_readScan_168 : px_cV mX14_readScan 168 mX14_needs 1 := ⟨⟨mbX14_needs, by decide, by decide⟩, Or.inl (tb8 (List.mem_of_getElem? (i := 200) rfl)), vbX14_needs⟩
set_option maxRecDepth 100000 in
set_option maxHeartbeats 4000000 in
theorem eX14_readScan_227 {X : px_X} {k45 : Nat → Int32 → Int32 → Int32 → px_W → Option (px_W)} (hk45 : ∀ (a0 : Nat) (a1 : Int32) (a2 : Int32) (a3 : Int32) (w : px_W) (q : px_W), k45 a0 a1 a2 a3 w = some q → EV X mX14_readScan 45 [(0, .ref a0), (1, .int a1), (2, .int a2), (3, .int a3)] [] w none q) : ∀ (a0 : Nat) (a1 : Int32) (a2 : Int32) (a3 : Int32) (s0 : Int32) (s1 : Nat) (w : px_W) (q : px_W), fX14_readScan_227 X k45 a0 a1 a2 a3 s0 s1 w = some q → EV X mX14_readScan 227 [(0, .ref a0), (1, .int a1), (2, .int a2), (3, .int a3)] [.int s0, .ref s1] w none q := by
  intro a0 a1 a2 a3 s0 s1 w q h
  unfold fX14_readScan_227 at h
  obtain ⟨o92, go92, h⟩ := px_bs h
  obtain ⟨q93, gq93, h⟩ := px_bs h
  refine EV.callV (As := [.int s0]) (rest := []) dX14_readScan_227 kcX14_readScan_136 (gO_ok go92) rfl rfl rfl (Nat.le_of_ble_eq_true rfl) (Nat.le_of_ble_eq_true rfl) (eX14_must gq93) ?_
  refine EV.iinc 3 (a3 + 1) [(3, .int (a3 + 1)), (0, .ref a0), (1, .int a1), (2, .int a2)] dX14_readScan_230 rfl rfl (by decide) rfl ?_
  refine EV.goto 45 dX14_readScan_233 (by decide) ?_
  refine EV.sub [1, 2, 3, 0] rfl ?_
  exact hk45 _ _ _ _ _ _ h
set_option maxRecDepth 100000 in
set_option maxHeartbeats 4000000 in
theorem eX14_readScan_226 {X : px_X} {k45 : Nat → Int32 → Int32 → Int32 → px_W → Option (px_W)} (hk45 : ∀ (a0 : Nat) (a1 : Int32) (a2 : Int32) (a3 : Int32) (w : px_W) (q : px_W), k45 a0 a1 a2 a3 w = some q → EV X mX14_readScan 45 [(0, .ref a0), (1, .int a1), (2, .int a2), (3, .int a3)] [] w none q) : ∀ (a0 : Nat) (a1 : Int32) (a2 : Int32) (a3 : Int32) (s0 : Nat) (w : px_W) (q : px_W), fX14_readScan_226 X k45 a0 a1 a2 a3 s0 w = some q → EV X mX14_readScan 226 [(0, .ref a0), (1, .int a1), (2, .int a2), (3, .int a3)] [.ref s0] w none q := by
  intro a0 a1 a2 a3 s0 w q h
  unfold fX14_readScan_226 at h
  refine EV.iconst (0) dX14_readScan_226 (by decide) ?_
  refine EV.sub [0, 1, 2, 3] rfl ?_
  exact eX14_readScan_227 hk45 _ _ _ _ _ _ _ _ h
set_option maxRecDepth 100000 in
set_option maxHeartbeats 4000000 in
theorem eX14_readScan_222 {X : px_X} {k45 : Nat → Int32 → Int32 → Int32 → px_W → Option (px_W)} (hk45 : ∀ (a0 : Nat) (a1 : Int32) (a2 : Int32) (a3 : Int32) (w : px_W) (q : px_W), k45 a0 a1 a2 a3 w = some q → EV X mX14_readScan 45 [(0, .ref a0), (1, .int a1), (2, .int a2), (3, .int a3)] [] w none q) : ∀ (a0 : Nat) (a1 : Int32) (a2 : Int32) (a3 : Int32) (s0 : Nat) (w : px_W) (q : px_W), fX14_readScan_222 X k45 a0 a1 a2 a3 s0 w = some q → EV X mX14_readScan 222 [(0, .ref a0), (1, .int a1), (2, .int a2), (3, .int a3)] [.ref s0] w none q := by
  intro a0 a1 a2 a3 s0 w q h
  unfold fX14_readScan_222 at h
  refine EV.iconst (1) dX14_readScan_222 (by decide) ?_
  refine EV.goto 227 dX14_readScan_223 (by decide) ?_
  refine EV.sub [0, 1, 2, 3] rfl ?_
  exact eX14_readScan_227 hk45 _ _ _ _ _ _ _ _ h
set_option maxRecDepth 100000 in
set_option maxHeartbeats 4000000 in
theorem eX14_readScan_166 {X : px_X} {k45 : Nat → Int32 → Int32 → Int32 → px_W → Option (px_W)} (hk45 : ∀ (a0 : Nat) (a1 : Int32) (a2 : Int32) (a3 : Int32) (w : px_W) (q : px_W), k45 a0 a1 a2 a3 w = some q → EV X mX14_readScan 45 [(0, .ref a0), (1, .int a1), (2, .int a2), (3, .int a3)] [] w none q) : ∀ (a0 : Nat) (a1 : Int32) (a2 : Int32) (a3 : Int32) (w : px_W) (q : px_W), fX14_readScan_166 X k45 a0 a1 a2 a3 w = some q → EV X mX14_readScan 166 [(0, .ref a0), (1, .int a1), (2, .int a2), (3, .int a3)] [] w none q := by
  intro a0 a1 a2 a3 w q h
  unfold fX14_readScan_166 at h
  refine EV.aload_n 0 dX14_readScan_166 rfl rfl ?_
  obtain ⟨o94, go94, h⟩ := px_bs h
  obtain ⟨q95, gq95, h⟩ := px_bs h
  refine EV.callV (As := []) (rest := []) dX14_readScan_167 kcX14_readScan_124 (gO_ok go94) rfl rfl rfl (Nat.le_of_ble_eq_true rfl) (Nat.le_of_ble_eq_true rfl) (eX14_next gq95) ?_
  refine EV.istore [(5, .int q95.1), (0, .ref a0), (1, .int a1), (2, .int a2), (3, .int a3)] dX14_readScan_170 (by decide) rfl ?_
  refine EV.aload_n 1 dX14_readScan_172 rfl rfl ?_
  obtain ⟨v96, gv96, h⟩ := px_bs h
  refine ev_gR dX14_readScan_173 flRX14_64 gv96 ?_
  refine EV.iload_n 4 dX14_readScan_176 rfl rfl ?_
  refine EV.iload 0 dX14_readScan_177 rfl ?_
  refine EV.bipush (16) dX14_readScan_179 (by decide) ?_
  obtain ⟨v97, gv97, h⟩ := px_bs h
  refine ev_dI dX14_readScan_181 gv97 ?_
  obtain ⟨w98, gw98, h⟩ := px_bs h
  refine ev_sI dX14_readScan_182 gw98 ?_
  refine EV.aload_n 1 dX14_readScan_183 rfl rfl ?_
  obtain ⟨v99, gv99, h⟩ := px_bs h
  refine ev_gR dX14_readScan_184 flRX14_67 gv99 ?_
  refine EV.iload_n 4 dX14_readScan_187 rfl rfl ?_
  refine EV.iload 0 dX14_readScan_188 rfl ?_
  refine EV.bipush (16) dX14_readScan_190 (by decide) ?_
  obtain ⟨v100, gv100, h⟩ := px_bs h
  refine ev_rI dX14_readScan_192 gv100 ?_
  obtain ⟨w101, gw101, h⟩ := px_bs h
  refine ev_sI dX14_readScan_193 gw101 ?_
  refine EV.aload_n 1 dX14_readScan_194 rfl rfl ?_
  refine EV.aload_n 1 dX14_readScan_195 rfl rfl ?_
  obtain ⟨v102, gv102, h⟩ := px_bs h
  refine ev_gI dX14_readScan_196 flRX14_100 gv102 ?_
  refine EV.if_gt 222 dX14_readScan_199 (by decide) (fun c103 => ?_) (fun c103 => ?_)
  · rw [if_pos c103] at h
    refine EV.sub [1, 2, 3, 4] rfl ?_
    exact eX14_readScan_222 hk45 _ _ _ _ _ _ _ h
  · rw [if_neg c103] at h
    refine EV.aload_n 1 dX14_readScan_202 rfl rfl ?_
    obtain ⟨v104, gv104, h⟩ := px_bs h
    refine ev_gR dX14_readScan_203 flRX14_64 gv104 ?_
    refine EV.iload_n 4 dX14_readScan_206 rfl rfl ?_
    obtain ⟨v105, gv105, h⟩ := px_bs h
    refine ev_aI dX14_readScan_207 gv105 ?_
    refine EV.iconst (4) dX14_readScan_208 (by decide) ?_
    refine EV.icmp_ge 226 dX14_readScan_209 (by decide) (fun c106 => ?_) (fun c106 => ?_)
    · rw [if_pos c106] at h
      refine EV.sub [1, 2, 3, 4] rfl ?_
      exact eX14_readScan_226 hk45 _ _ _ _ _ _ _ h
    · rw [if_neg c106] at h
      refine EV.aload_n 1 dX14_readScan_212 rfl rfl ?_
      obtain ⟨v107, gv107, h⟩ := px_bs h
      refine ev_gR dX14_readScan_213 flRX14_67 gv107 ?_
      refine EV.iload_n 4 dX14_readScan_216 rfl rfl ?_
      obtain ⟨v108, gv108, h⟩ := px_bs h
      refine ev_aI dX14_readScan_217 gv108 ?_
      refine EV.iconst (4) dX14_readScan_218 (by decide) ?_
      refine EV.icmp_ge 226 dX14_readScan_219 (by decide) (fun c109 => ?_) (fun c109 => ?_)
      · rw [if_pos c109] at h
        refine EV.sub [1, 2, 3, 4] rfl ?_
        exact eX14_readScan_226 hk45 _ _ _ _ _ _ _ h
      · rw [if_neg c109] at h
        refine EV.sub [1, 2, 3, 4] rfl ?_
        exact eX14_readScan_222 hk45 _ _ _ _ _ _ _ h
set_option maxRecDepth 100000 in
set_option maxHeartbeats 4000000 in
theorem eX14_readScan_163 {X : px_X} {k45 : Nat → Int32 → Int32 → Int32 → px_W → Option (px_W)} (hk45 : ∀ (a0 : Nat) (a1 : Int32) (a2 : Int32) (a3 : Int32) (w : px_W) (q : px_W), k45 a0 a1 a2 a3 w = some q → EV X mX14_readScan 45 [(0, .ref a0), (1, .int a1), (2, .int a2), (3, .int a3)] [] w none q) : ∀ (a0 : Nat) (a1 : Int32) (a2 : Int32) (a3 : Int32) (s0 : Int32) (s1 : Nat) (w : px_W) (q : px_W), fX14_readScan_163 X k45 a0 a1 a2 a3 s0 s1 w = some q → EV X mX14_readScan 163 [(0, .ref a0), (1, .int a1), (2, .int a2), (3, .int a3)] [.int s0, .ref s1] w none q := by
  intro a0 a1 a2 a3 s0 s1 w q h
  unfold fX14_readScan_163 at h
  obtain ⟨o110, go110, h⟩ := px_bs h
  obtain ⟨q111, gq111, h⟩ := px_bs h
  refine EV.callV (As := [.int s0]) (rest := []) dX14_readScan_163 kcX14_readScan_136 (gO_ok go110) rfl rfl rfl (Nat.le_of_ble_eq_true rfl) (Nat.le_of_ble_eq_true rfl) (eX14_must gq111) ?_
  refine EV.sub [0, 1, 2, 3] rfl ?_
  exact eX14_readScan_166 hk45 _ _ _ _ _ _ h
set_option maxRecDepth 100000 in
set_option maxHeartbeats 4000000 in
theorem eX14_readScan_158 {X : px_X} {k45 : Nat → Int32 → Int32 → Int32 → px_W → Option (px_W)} (hk45 : ∀ (a0 : Nat) (a1 : Int32) (a2 : Int32) (a3 : Int32) (w : px_W) (q : px_W), k45 a0 a1 a2 a3 w = some q → EV X mX14_readScan 45 [(0, .ref a0), (1, .int a1), (2, .int a2), (3, .int a3)] [] w none q) : ∀ (a0 : Nat) (a1 : Int32) (a2 : Int32) (a3 : Int32) (s0 : Nat) (w : px_W) (q : px_W), fX14_readScan_158 X k45 a0 a1 a2 a3 s0 w = some q → EV X mX14_readScan 158 [(0, .ref a0), (1, .int a1), (2, .int a2), (3, .int a3)] [.ref s0] w none q := by
  intro a0 a1 a2 a3 s0 w q h
  unfold fX14_readScan_158 at h
  refine EV.iconst (1) dX14_readScan_158 (by decide) ?_
  refine EV.goto 163 dX14_readScan_159 (by decide) ?_
  refine EV.sub [0, 1, 2, 3] rfl ?_
  exact eX14_readScan_163 hk45 _ _ _ _ _ _ _ _ h
set_option maxRecDepth 100000 in
set_option maxHeartbeats 4000000 in
theorem eX14_readScan_107 {X : px_X} {k45 : Nat → Int32 → Int32 → Int32 → px_W → Option (px_W)} (hk45 : ∀ (a0 : Nat) (a1 : Int32) (a2 : Int32) (a3 : Int32) (w : px_W) (q : px_W), k45 a0 a1 a2 a3 w = some q → EV X mX14_readScan 45 [(0, .ref a0), (1, .int a1), (2, .int a2), (3, .int a3)] [] w none q) : ∀ (a0 : Nat) (a1 : Int32) (a2 : Int32) (a3 : Int32) (a4 : Int32) (w : px_W) (q : px_W), fX14_readScan_107 X k45 a0 a1 a2 a3 a4 w = some q → EV X mX14_readScan 107 [(0, .ref a0), (1, .int a1), (2, .int a2), (3, .int a3), (4, .int a4)] [] w none q := by
  intro a0 a1 a2 a3 a4 w q h
  unfold fX14_readScan_107 at h
  refine EV.aload_n 0 dX14_readScan_107 rfl rfl ?_
  obtain ⟨v112, gv112, h⟩ := px_bs h
  refine ev_gI dX14_readScan_108 flRX14_100 gv112 ?_
  refine EV.if_ne 166 dX14_readScan_111 (by decide) (fun c113 => ?_) (fun c113 => ?_)
  · rw [if_neg c113] at h
    refine EV.sub [0, 1, 2, 3] rfl ?_
    exact eX14_readScan_166 hk45 _ _ _ _ _ _ h
  · rw [if_pos c113] at h
    refine EV.aload_n 0 dX14_readScan_114 rfl rfl ?_
    obtain ⟨v114, gv114, h⟩ := px_bs h
    refine ev_gR dX14_readScan_115 flRX14_61 gv114 ?_
    refine EV.iload_n 3 dX14_readScan_118 rfl rfl ?_
    refine EV.iload 4 dX14_readScan_119 rfl ?_
    obtain ⟨w115, gw115, h⟩ := px_bs h
    refine ev_sI dX14_readScan_121 gw115 ?_
    refine EV.iload 4 dX14_readScan_122 rfl ?_
    refine EV.istore_n [(2, .int a4), (0, .ref a0), (1, .int a1), (3, .int a3), (4, .int a4)] dX14_readScan_124 rfl (by decide) rfl ?_
    refine EV.iload_n 2 dX14_readScan_125 rfl rfl ?_
    refine EV.aload_n 1 dX14_readScan_126 rfl rfl ?_
    obtain ⟨v116, gv116, h⟩ := px_bs h
    refine ev_gR dX14_readScan_127 flRX14_26 gv116 ?_
    refine EV.iload 4 dX14_readScan_130 rfl ?_
    obtain ⟨v117, gv117, h⟩ := px_bs h
    refine ev_aI dX14_readScan_132 gv117 ?_
    refine EV.aload_n 1 dX14_readScan_133 rfl rfl ?_
    obtain ⟨v118, gv118, h⟩ := px_bs h
    refine ev_gR dX14_readScan_134 flRX14_29 gv118 ?_
    refine EV.iload 4 dX14_readScan_137 rfl ?_
    obtain ⟨v119, gv119, h⟩ := px_bs h
    refine ev_aI dX14_readScan_139 gv119 ?_
    refine EV.imul dX14_readScan_140 ?_
    refine EV.iadd dX14_readScan_141 ?_
    refine EV.istore_n [(1, .int (a1 + (v117 * v119))), (2, .int a4), (0, .ref a0), (3, .int a3), (4, .int a4)] dX14_readScan_142 rfl (by decide) rfl ?_
    refine EV.aload_n 2 dX14_readScan_143 rfl rfl ?_
    refine EV.aload_n 2 dX14_readScan_144 rfl rfl ?_
    obtain ⟨v120, gv120, h⟩ := px_bs h
    refine ev_gI dX14_readScan_145 flRX14_146 gv120 ?_
    refine EV.iconst (1) dX14_readScan_148 (by decide) ?_
    refine EV.icmp_eq 158 dX14_readScan_149 (by decide) (fun c121 => ?_) (fun c121 => ?_)
    · rw [if_pos c121] at h
      refine EV.sub [2, 0, 1, 3] rfl ?_
      exact eX14_readScan_158 hk45 _ _ _ _ _ _ _ h
    · rw [if_neg c121] at h
      refine EV.iload_n 0 dX14_readScan_152 rfl rfl ?_
      refine EV.bipush (10) dX14_readScan_153 (by decide) ?_
      refine EV.icmp_gt 162 dX14_readScan_155 (by decide) (fun c122 => ?_) (fun c122 => ?_)
      · rw [if_pos c122] at h
        refine EV.iconst (0) dX14_readScan_162 (by decide) ?_
        refine EV.sub [2, 0, 1, 3] rfl ?_
        exact eX14_readScan_163 hk45 _ _ _ _ _ _ _ _ h
      · rw [if_neg c122] at h
        refine EV.sub [2, 0, 1, 3] rfl ?_
        exact eX14_readScan_158 hk45 _ _ _ _ _ _ _ h
set_option maxRecDepth 100000 in
set_option maxHeartbeats 4000000 in
theorem eX14_readScan_507 {X : px_X}  : ∀ (m : Nat) (a0 : Nat) (a5 : Int32) (w : px_W) (q : px_W), fX14_readScan_507 X  m a0 a5 w = some q → EV X mX14_readScan 507 [(0, .ref a0), (5, .int a5)] [] w none q := by
  intro m
  induction m with
  | zero => intro a0 a5 w q h; cases h
  | succ m ih =>
    intro a0 a5 w q h
    rw [fX14_readScan_507.eq_2] at h
    refine EV.iload 1 dX14_readScan_507 rfl ?_
    refine EV.aload_n 0 dX14_readScan_509 rfl rfl ?_
    obtain ⟨v123, gv123, h⟩ := px_bs h
    refine ev_gI dX14_readScan_510 flRX14_146 gv123 ?_
    refine EV.icmp_ge 535 dX14_readScan_513 (by decide) (fun c124 => ?_) (fun c124 => ?_)
    · rw [if_pos c124] at h
      cases h
      exact EV.ret0 dX14_readScan_535 trivial
    · rw [if_neg c124] at h
      refine EV.aload_n 0 dX14_readScan_516 rfl rfl ?_
      obtain ⟨v125, gv125, h⟩ := px_bs h
      refine ev_gI dX14_readScan_517 flRX14_100 gv125 ?_
      refine EV.if_ne 535 dX14_readScan_520 (by decide) (fun c126 => ?_) (fun c126 => ?_)
      · rw [if_neg c126] at h
        cases h
        exact EV.ret0 dX14_readScan_535 trivial
      · rw [if_pos c126] at h
        refine EV.aload_n 0 dX14_readScan_523 rfl rfl ?_
        refine EV.iload 1 dX14_readScan_524 rfl ?_
        obtain ⟨o127, go127, h⟩ := px_bs h
        obtain ⟨q128, gq128, h⟩ := px_bs h
        refine EV.callV (As := [.int a5]) (rest := []) dX14_readScan_526 kcX14_readScan_168 (gO_ok go127) rfl rfl rfl (Nat.le_of_ble_eq_true rfl) (Nat.le_of_ble_eq_true rfl) (eX14_needs gq128) ?_
        refine EV.iinc 1 (a5 + 1) [(5, .int (a5 + 1)), (0, .ref a0)] dX14_readScan_529 rfl rfl (by decide) rfl ?_
        refine EV.goto 507 dX14_readScan_532 (by decide) ?_
        refine EV.sub [1, 0] rfl ?_
        exact ih _ _ _ _ h
set_option maxRecDepth 100000 in
set_option maxHeartbeats 4000000 in
theorem eX14_readScan_504 {X : px_X}  : ∀ (a0 : Nat) (w : px_W) (q : px_W), fX14_readScan_504 X  a0 w = some q → EV X mX14_readScan 504 [(0, .ref a0)] [] w none q := by
  intro a0 w q h
  unfold fX14_readScan_504 at h
  refine EV.iconst (0) dX14_readScan_504 (by decide) ?_
  refine EV.istore [(5, .int 0), (0, .ref a0)] dX14_readScan_505 (by decide) rfl ?_
  refine EV.sub [1, 0] rfl ?_
  exact eX14_readScan_507  FU _ _ _ _ h
set_option maxRecDepth 100000 in
set_option maxHeartbeats 4000000 in
theorem eX14_readScan_475 {X : px_X}  : ∀ (m : Nat) (a0 : Nat) (a3 : Int32) (a5 : Int32) (w : px_W) (q : px_W), fX14_readScan_475 X  m a0 a3 a5 w = some q → EV X mX14_readScan 475 [(0, .ref a0), (3, .int a3), (5, .int a5)] [] w none q := by
  intro m
  induction m with
  | zero => intro a0 a3 a5 w q h; cases h
  | succ m ih =>
    intro a0 a3 a5 w q h
    rw [fX14_readScan_475.eq_2] at h
    refine EV.iload 2 dX14_readScan_475 rfl ?_
    refine EV.aload_n 0 dX14_readScan_477 rfl rfl ?_
    obtain ⟨v129, gv129, h⟩ := px_bs h
    refine ev_gI dX14_readScan_478 flRX14_146 gv129 ?_
    refine EV.icmp_ge 504 dX14_readScan_481 (by decide) (fun c130 => ?_) (fun c130 => ?_)
    · rw [if_pos c130] at h
      refine EV.sub [0] rfl ?_
      exact eX14_readScan_504  _ _ _ h
    · rw [if_neg c130] at h
      refine EV.aload_n 0 dX14_readScan_484 rfl rfl ?_
      obtain ⟨v131, gv131, h⟩ := px_bs h
      refine ev_gI dX14_readScan_485 flRX14_100 gv131 ?_
      refine EV.if_ne 504 dX14_readScan_488 (by decide) (fun c132 => ?_) (fun c132 => ?_)
      · rw [if_neg c132] at h
        refine EV.sub [0] rfl ?_
        exact eX14_readScan_504  _ _ _ h
      · rw [if_pos c132] at h
        refine EV.aload_n 0 dX14_readScan_491 rfl rfl ?_
        refine EV.iload 2 dX14_readScan_492 rfl ?_
        refine EV.iload_n 1 dX14_readScan_494 rfl rfl ?_
        obtain ⟨o133, go133, h⟩ := px_bs h
        obtain ⟨q134, gq134, h⟩ := px_bs h
        refine EV.callV (As := [.int a5, .int a3]) (rest := []) dX14_readScan_495 kcX14_readScan_164 (gO_ok go133) rfl rfl rfl (Nat.le_of_ble_eq_true rfl) (Nat.le_of_ble_eq_true rfl) (eX14_order gq134) ?_
        refine EV.iinc 2 (a5 + 1) [(5, .int (a5 + 1)), (0, .ref a0), (3, .int a3)] dX14_readScan_498 rfl rfl (by decide) rfl ?_
        refine EV.goto 475 dX14_readScan_501 (by decide) ?_
        refine EV.sub [1, 2, 0] rfl ?_
        exact ih _ _ _ _ _ h
set_option maxRecDepth 100000 in
set_option maxHeartbeats 4000000 in
theorem eX14_readScan_469 {X : px_X}  : ∀ (a0 : Nat) (a3 : Int32) (s0 : Int32) (s1 : Nat) (w : px_W) (q : px_W), fX14_readScan_469 X  a0 a3 s0 s1 w = some q → EV X mX14_readScan 469 [(0, .ref a0), (3, .int a3)] [.int s0, .ref s1] w none q := by
  intro a0 a3 s0 s1 w q h
  unfold fX14_readScan_469 at h
  obtain ⟨o135, go135, h⟩ := px_bs h
  obtain ⟨q136, gq136, h⟩ := px_bs h
  refine EV.callV (As := [.int s0]) (rest := []) dX14_readScan_469 kcX14_readScan_136 (gO_ok go135) rfl rfl rfl (Nat.le_of_ble_eq_true rfl) (Nat.le_of_ble_eq_true rfl) (eX14_must gq136) ?_
  refine EV.iconst (0) dX14_readScan_472 (by decide) ?_
  refine EV.istore [(5, .int 0), (0, .ref a0), (3, .int a3)] dX14_readScan_473 (by decide) rfl ?_
  refine EV.sub [1, 2, 0] rfl ?_
  exact eX14_readScan_475  FU _ _ _ _ _ h
set_option maxRecDepth 100000 in
set_option maxHeartbeats 4000000 in
theorem eX14_readScan_464 {X : px_X}  : ∀ (a0 : Nat) (a3 : Int32) (s0 : Nat) (w : px_W) (q : px_W), fX14_readScan_464 X  a0 a3 s0 w = some q → EV X mX14_readScan 464 [(0, .ref a0), (3, .int a3)] [.ref s0] w none q := by
  intro a0 a3 s0 w q h
  unfold fX14_readScan_464 at h
  refine EV.iconst (1) dX14_readScan_464 (by decide) ?_
  refine EV.goto 469 dX14_readScan_465 (by decide) ?_
  refine EV.sub [0, 1] rfl ?_
  exact eX14_readScan_469  _ _ _ _ _ _ h
set_option maxRecDepth 100000 in
set_option maxHeartbeats 4000000 in
theorem eX14_readScan_468 {X : px_X}  : ∀ (a0 : Nat) (a3 : Int32) (s0 : Nat) (w : px_W) (q : px_W), fX14_readScan_468 X  a0 a3 s0 w = some q → EV X mX14_readScan 468 [(0, .ref a0), (3, .int a3)] [.ref s0] w none q := by
  intro a0 a3 s0 w q h
  unfold fX14_readScan_468 at h
  refine EV.iconst (0) dX14_readScan_468 (by decide) ?_
  refine EV.sub [0, 1] rfl ?_
  exact eX14_readScan_469  _ _ _ _ _ _ h
set_option maxRecDepth 100000 in
set_option maxHeartbeats 4000000 in
theorem eX14_readScan_388 {X : px_X}  : ∀ (a0 : Nat) (a3 : Int32) (s0 : Int32) (s1 : Nat) (w : px_W) (q : px_W), fX14_readScan_388 X  a0 a3 s0 s1 w = some q → EV X mX14_readScan 388 [(0, .ref a0), (3, .int a3)] [.int s0, .ref s1] w none q := by
  intro a0 a3 s0 s1 w q h
  unfold fX14_readScan_388 at h
  obtain ⟨o137, go137, h⟩ := px_bs h
  obtain ⟨q138, gq138, h⟩ := px_bs h
  refine EV.callV (As := [.int s0]) (rest := []) dX14_readScan_388 kcX14_readScan_136 (gO_ok go137) rfl rfl rfl (Nat.le_of_ble_eq_true rfl) (Nat.le_of_ble_eq_true rfl) (eX14_must gq138) ?_
  refine EV.aload_n 0 dX14_readScan_391 rfl rfl ?_
  obtain ⟨o139, go139, h⟩ := px_bs h
  obtain ⟨q140, gq140, h⟩ := px_bs h
  refine EV.callV (As := []) (rest := []) dX14_readScan_392 kcX14_readScan_124 (gO_ok go139) rfl rfl rfl (Nat.le_of_ble_eq_true rfl) (Nat.le_of_ble_eq_true rfl) (eX14_next gq140) ?_
  refine EV.istore [(4, .int q140.1), (0, .ref a0), (3, .int a3)] dX14_readScan_395 (by decide) rfl ?_
  refine EV.aload_n 1 dX14_readScan_397 rfl rfl ?_
  refine EV.iload 0 dX14_readScan_398 rfl ?_
  refine EV.bipush (16) dX14_readScan_400 (by decide) ?_
  obtain ⟨v141, gv141, h⟩ := px_bs h
  refine ev_dI dX14_readScan_402 gv141 ?_
  obtain ⟨w142, gw142, h⟩ := px_bs h
  refine ev_pV dX14_readScan_403 flRX14_158 rfl rfl rfl rfl gw142 ?_
  refine EV.aload_n 1 dX14_readScan_406 rfl rfl ?_
  refine EV.iload 0 dX14_readScan_407 rfl ?_
  refine EV.bipush (16) dX14_readScan_409 (by decide) ?_
  obtain ⟨v143, gv143, h⟩ := px_bs h
  refine ev_rI dX14_readScan_411 gv143 ?_
  obtain ⟨w144, gw144, h⟩ := px_bs h
  refine ev_pV dX14_readScan_412 flRX14_161 rfl rfl rfl rfl gw144 ?_
  refine EV.aload_n 1 dX14_readScan_415 rfl rfl ?_
  refine EV.aload_n 1 dX14_readScan_416 rfl rfl ?_
  obtain ⟨v145, gv145, h⟩ := px_bs h
  refine ev_gI dX14_readScan_417 flRX14_100 gv145 ?_
  refine EV.if_gt 464 dX14_readScan_420 (by decide) (fun c146 => ?_) (fun c146 => ?_)
  · rw [if_pos c146] at h
    refine EV.sub [1, 2] rfl ?_
    exact eX14_readScan_464  _ _ _ _ _ h
  · rw [if_neg c146] at h
    refine EV.iload_n 2 dX14_readScan_423 rfl rfl ?_
    refine EV.if_eq 459 dX14_readScan_424 (by decide) (fun c147 => ?_) (fun c147 => ?_)
    · rw [if_pos c147] at h
      refine EV.iload 0 dX14_readScan_459 rfl ?_
      refine EV.if_ne 468 dX14_readScan_461 (by decide) (fun c148 => ?_) (fun c148 => ?_)
      · rw [if_neg c148] at h
        refine EV.sub [1, 2] rfl ?_
        exact eX14_readScan_468  _ _ _ _ _ h
      · rw [if_pos c148] at h
        refine EV.sub [1, 2] rfl ?_
        exact eX14_readScan_464  _ _ _ _ _ h
    · rw [if_neg c147] at h
      refine EV.aload_n 1 dX14_readScan_427 rfl rfl ?_
      obtain ⟨v149, gv149, h⟩ := px_bs h
      refine ev_gI dX14_readScan_428 flRX14_161 gv149 ?_
      refine EV.bipush (13) dX14_readScan_431 (by decide) ?_
      refine EV.icmp_gt 468 dX14_readScan_433 (by decide) (fun c150 => ?_) (fun c150 => ?_)
      · rw [if_pos c150] at h
        refine EV.sub [1, 2] rfl ?_
        exact eX14_readScan_468  _ _ _ _ _ h
      · rw [if_neg c150] at h
        refine EV.aload_n 1 dX14_readScan_436 rfl rfl ?_
        obtain ⟨v151, gv151, h⟩ := px_bs h
        refine ev_gI dX14_readScan_437 flRX14_158 gv151 ?_
        refine EV.if_eq 464 dX14_readScan_440 (by decide) (fun c152 => ?_) (fun c152 => ?_)
        · rw [if_pos c152] at h
          refine EV.sub [1, 2] rfl ?_
          exact eX14_readScan_464  _ _ _ _ _ h
        · rw [if_neg c152] at h
          refine EV.aload_n 1 dX14_readScan_443 rfl rfl ?_
          obtain ⟨v153, gv153, h⟩ := px_bs h
          refine ev_gI dX14_readScan_444 flRX14_158 gv153 ?_
          refine EV.aload_n 1 dX14_readScan_447 rfl rfl ?_
          obtain ⟨v154, gv154, h⟩ := px_bs h
          refine ev_gI dX14_readScan_448 flRX14_161 gv154 ?_
          refine EV.iconst (1) dX14_readScan_451 (by decide) ?_
          refine EV.iadd dX14_readScan_452 ?_
          refine EV.icmp_ne 468 dX14_readScan_453 (by decide) (fun c155 => ?_) (fun c155 => ?_)
          · rw [if_neg c155] at h
            refine EV.sub [1, 2] rfl ?_
            exact eX14_readScan_468  _ _ _ _ _ h
          · rw [if_pos c155] at h
            refine EV.goto 464 dX14_readScan_456 (by decide) ?_
            refine EV.sub [1, 2] rfl ?_
            exact eX14_readScan_464  _ _ _ _ _ h
set_option maxRecDepth 100000 in
set_option maxHeartbeats 4000000 in
theorem eX14_readScan_387 {X : px_X}  : ∀ (a0 : Nat) (a3 : Int32) (s0 : Nat) (w : px_W) (q : px_W), fX14_readScan_387 X  a0 a3 s0 w = some q → EV X mX14_readScan 387 [(0, .ref a0), (3, .int a3)] [.ref s0] w none q := by
  intro a0 a3 s0 w q h
  unfold fX14_readScan_387 at h
  refine EV.iconst (0) dX14_readScan_387 (by decide) ?_
  refine EV.sub [0, 1] rfl ?_
  exact eX14_readScan_388  _ _ _ _ _ _ h
set_option maxRecDepth 100000 in
set_option maxHeartbeats 4000000 in
theorem eX14_readScan_383 {X : px_X}  : ∀ (a0 : Nat) (a3 : Int32) (s0 : Nat) (w : px_W) (q : px_W), fX14_readScan_383 X  a0 a3 s0 w = some q → EV X mX14_readScan 383 [(0, .ref a0), (3, .int a3)] [.ref s0] w none q := by
  intro a0 a3 s0 w q h
  unfold fX14_readScan_383 at h
  refine EV.iconst (1) dX14_readScan_383 (by decide) ?_
  refine EV.goto 388 dX14_readScan_384 (by decide) ?_
  refine EV.sub [0, 1] rfl ?_
  exact eX14_readScan_388  _ _ _ _ _ _ h
set_option maxRecDepth 100000 in
set_option maxHeartbeats 4000000 in
theorem eX14_readScan_311 {X : px_X}  : ∀ (a0 : Nat) (a3 : Int32) (s0 : Int32) (s1 : Nat) (w : px_W) (q : px_W), fX14_readScan_311 X  a0 a3 s0 s1 w = some q → EV X mX14_readScan 311 [(0, .ref a0), (3, .int a3)] [.int s0, .ref s1] w none q := by
  intro a0 a3 s0 s1 w q h
  unfold fX14_readScan_311 at h
  obtain ⟨o156, go156, h⟩ := px_bs h
  obtain ⟨q157, gq157, h⟩ := px_bs h
  refine EV.callV (As := [.int s0]) (rest := []) dX14_readScan_311 kcX14_readScan_136 (gO_ok go156) rfl rfl rfl (Nat.le_of_ble_eq_true rfl) (Nat.le_of_ble_eq_true rfl) (eX14_must gq157) ?_
  refine EV.aload_n 0 dX14_readScan_314 rfl rfl ?_
  refine EV.aload_n 0 dX14_readScan_315 rfl rfl ?_
  obtain ⟨o158, go158, h⟩ := px_bs h
  obtain ⟨q159, gq159, h⟩ := px_bs h
  refine EV.callV (As := []) (rest := [.ref a0]) dX14_readScan_316 kcX14_readScan_124 (gO_ok go158) rfl rfl rfl (Nat.le_of_ble_eq_true rfl) (Nat.le_of_ble_eq_true rfl) (eX14_next gq159) ?_
  obtain ⟨w160, gw160, h⟩ := px_bs h
  refine ev_pV dX14_readScan_319 flRX14_155 rfl rfl rfl rfl gw160 ?_
  refine EV.aload_n 0 dX14_readScan_322 rfl rfl ?_
  refine EV.aload_n 0 dX14_readScan_323 rfl rfl ?_
  obtain ⟨v161, gv161, h⟩ := px_bs h
  refine ev_gI dX14_readScan_324 flRX14_100 gv161 ?_
  refine EV.if_gt 383 dX14_readScan_327 (by decide) (fun c162 => ?_) (fun c162 => ?_)
  · rw [if_pos c162] at h
    refine EV.sub [0, 1] rfl ?_
    exact eX14_readScan_383  _ _ _ _ _ h
  · rw [if_neg c162] at h
    refine EV.iload_n 1 dX14_readScan_330 rfl rfl ?_
    refine EV.if_ne 346 dX14_readScan_331 (by decide) (fun c163 => ?_) (fun c163 => ?_)
    · rw [if_neg c163] at h
      refine EV.aload_n 0 dX14_readScan_346 rfl rfl ?_
      obtain ⟨v164, gv164, h⟩ := px_bs h
      refine ev_gI dX14_readScan_347 flRX14_152 gv164 ?_
      refine EV.if_ne 363 dX14_readScan_350 (by decide) (fun c165 => ?_) (fun c165 => ?_)
      · rw [if_neg c165] at h
        refine EV.aload_n 0 dX14_readScan_363 rfl rfl ?_
        obtain ⟨v166, gv166, h⟩ := px_bs h
        refine ev_gI dX14_readScan_364 flRX14_155 gv166 ?_
        refine EV.aload_n 0 dX14_readScan_367 rfl rfl ?_
        obtain ⟨v167, gv167, h⟩ := px_bs h
        refine ev_gI dX14_readScan_368 flRX14_152 gv167 ?_
        refine EV.icmp_lt 387 dX14_readScan_371 (by decide) (fun c168 => ?_) (fun c168 => ?_)
        · rw [if_pos c168] at h
          refine EV.sub [0, 1] rfl ?_
          exact eX14_readScan_387  _ _ _ _ _ h
        · rw [if_neg c168] at h
          refine EV.aload_n 0 dX14_readScan_374 rfl rfl ?_
          obtain ⟨v169, gv169, h⟩ := px_bs h
          refine ev_gI dX14_readScan_375 flRX14_155 gv169 ?_
          refine EV.bipush (64) dX14_readScan_378 (by decide) ?_
          refine EV.icmp_ge 387 dX14_readScan_380 (by decide) (fun c170 => ?_) (fun c170 => ?_)
          · rw [if_pos c170] at h
            refine EV.sub [0, 1] rfl ?_
            exact eX14_readScan_387  _ _ _ _ _ h
          · rw [if_neg c170] at h
            refine EV.sub [0, 1] rfl ?_
            exact eX14_readScan_383  _ _ _ _ _ h
      · rw [if_pos c165] at h
        refine EV.aload_n 0 dX14_readScan_353 rfl rfl ?_
        obtain ⟨v171, gv171, h⟩ := px_bs h
        refine ev_gI dX14_readScan_354 flRX14_155 gv171 ?_
        refine EV.if_ne 387 dX14_readScan_357 (by decide) (fun c172 => ?_) (fun c172 => ?_)
        · rw [if_neg c172] at h
          refine EV.sub [0, 1] rfl ?_
          exact eX14_readScan_387  _ _ _ _ _ h
        · rw [if_pos c172] at h
          refine EV.goto 383 dX14_readScan_360 (by decide) ?_
          refine EV.sub [0, 1] rfl ?_
          exact eX14_readScan_383  _ _ _ _ _ h
    · rw [if_pos c163] at h
      refine EV.aload_n 0 dX14_readScan_334 rfl rfl ?_
      obtain ⟨v173, gv173, h⟩ := px_bs h
      refine ev_gI dX14_readScan_335 flRX14_155 gv173 ?_
      refine EV.bipush (63) dX14_readScan_338 (by decide) ?_
      refine EV.icmp_ne 387 dX14_readScan_340 (by decide) (fun c174 => ?_) (fun c174 => ?_)
      · rw [if_neg c174] at h
        refine EV.sub [0, 1] rfl ?_
        exact eX14_readScan_387  _ _ _ _ _ h
      · rw [if_pos c174] at h
        refine EV.goto 383 dX14_readScan_343 (by decide) ?_
        refine EV.sub [0, 1] rfl ?_
        exact eX14_readScan_383  _ _ _ _ _ h
set_option maxRecDepth 100000 in
set_option maxHeartbeats 4000000 in
theorem eX14_readScan_306 {X : px_X}  : ∀ (a0 : Nat) (a3 : Int32) (s0 : Nat) (w : px_W) (q : px_W), fX14_readScan_306 X  a0 a3 s0 w = some q → EV X mX14_readScan 306 [(0, .ref a0), (3, .int a3)] [.ref s0] w none q := by
  intro a0 a3 s0 w q h
  unfold fX14_readScan_306 at h
  refine EV.iconst (1) dX14_readScan_306 (by decide) ?_
  refine EV.goto 311 dX14_readScan_307 (by decide) ?_
  refine EV.sub [0, 1] rfl ?_
  exact eX14_readScan_311  _ _ _ _ _ _ h
set_option maxRecDepth 100000 in
set_option maxHeartbeats 4000000 in
theorem eX14_readScan_310 {X : px_X}  : ∀ (a0 : Nat) (a3 : Int32) (s0 : Nat) (w : px_W) (q : px_W), fX14_readScan_310 X  a0 a3 s0 w = some q → EV X mX14_readScan 310 [(0, .ref a0), (3, .int a3)] [.ref s0] w none q := by
  intro a0 a3 s0 w q h
  unfold fX14_readScan_310 at h
  refine EV.iconst (0) dX14_readScan_310 (by decide) ?_
  refine EV.sub [0, 1] rfl ?_
  exact eX14_readScan_311  _ _ _ _ _ _ h
set_option maxRecDepth 100000 in
set_option maxHeartbeats 4000000 in
theorem eX14_readScan_251 {X : px_X}  : ∀ (a0 : Nat) (s0 : Int32) (w : px_W) (q : px_W), fX14_readScan_251 X  a0 s0 w = some q → EV X mX14_readScan 251 [(0, .ref a0)] [.int s0] w none q := by
  intro a0 s0 w q h
  unfold fX14_readScan_251 at h
  refine EV.istore_n [(3, .int s0), (0, .ref a0)] dX14_readScan_251 rfl (by decide) rfl ?_
  refine EV.aload_n 1 dX14_readScan_252 rfl rfl ?_
  refine EV.aload_n 1 dX14_readScan_253 rfl rfl ?_
  obtain ⟨o175, go175, h⟩ := px_bs h
  obtain ⟨q176, gq176, h⟩ := px_bs h
  refine EV.callV (As := []) (rest := [.ref a0]) dX14_readScan_254 kcX14_readScan_124 (gO_ok go175) rfl rfl rfl (Nat.le_of_ble_eq_true rfl) (Nat.le_of_ble_eq_true rfl) (eX14_next gq176) ?_
  obtain ⟨w177, gw177, h⟩ := px_bs h
  refine ev_pV dX14_readScan_257 flRX14_152 rfl rfl rfl rfl gw177 ?_
  refine EV.aload_n 1 dX14_readScan_260 rfl rfl ?_
  refine EV.aload_n 1 dX14_readScan_261 rfl rfl ?_
  obtain ⟨v178, gv178, h⟩ := px_bs h
  refine ev_gI dX14_readScan_262 flRX14_100 gv178 ?_
  refine EV.if_gt 306 dX14_readScan_265 (by decide) (fun c179 => ?_) (fun c179 => ?_)
  · rw [if_pos c179] at h
    refine EV.sub [1, 0] rfl ?_
    exact eX14_readScan_306  _ _ _ _ _ h
  · rw [if_neg c179] at h
    refine EV.iload_n 0 dX14_readScan_268 rfl rfl ?_
    refine EV.if_eq 299 dX14_readScan_269 (by decide) (fun c180 => ?_) (fun c180 => ?_)
    · rw [if_pos c180] at h
      refine EV.aload_n 1 dX14_readScan_299 rfl rfl ?_
      obtain ⟨v181, gv181, h⟩ := px_bs h
      refine ev_gI dX14_readScan_300 flRX14_152 gv181 ?_
      refine EV.if_ne 310 dX14_readScan_303 (by decide) (fun c182 => ?_) (fun c182 => ?_)
      · rw [if_neg c182] at h
        refine EV.sub [1, 0] rfl ?_
        exact eX14_readScan_310  _ _ _ _ _ h
      · rw [if_pos c182] at h
        refine EV.sub [1, 0] rfl ?_
        exact eX14_readScan_306  _ _ _ _ _ h
    · rw [if_neg c180] at h
      refine EV.aload_n 1 dX14_readScan_272 rfl rfl ?_
      obtain ⟨v183, gv183, h⟩ := px_bs h
      refine ev_gI dX14_readScan_273 flRX14_152 gv183 ?_
      refine EV.bipush (64) dX14_readScan_276 (by decide) ?_
      refine EV.icmp_ge 310 dX14_readScan_278 (by decide) (fun c184 => ?_) (fun c184 => ?_)
      · rw [if_pos c184] at h
        refine EV.sub [1, 0] rfl ?_
        exact eX14_readScan_310  _ _ _ _ _ h
      · rw [if_neg c184] at h
        refine EV.aload_n 1 dX14_readScan_281 rfl rfl ?_
        obtain ⟨v185, gv185, h⟩ := px_bs h
        refine ev_gI dX14_readScan_282 flRX14_152 gv185 ?_
        refine EV.if_eq 306 dX14_readScan_285 (by decide) (fun c186 => ?_) (fun c186 => ?_)
        · rw [if_pos c186] at h
          refine EV.sub [1, 0] rfl ?_
          exact eX14_readScan_306  _ _ _ _ _ h
        · rw [if_neg c186] at h
          refine EV.aload_n 1 dX14_readScan_288 rfl rfl ?_
          obtain ⟨v187, gv187, h⟩ := px_bs h
          refine ev_gI dX14_readScan_289 flRX14_146 gv187 ?_
          refine EV.iconst (1) dX14_readScan_292 (by decide) ?_
          refine EV.icmp_ne 310 dX14_readScan_293 (by decide) (fun c188 => ?_) (fun c188 => ?_)
          · rw [if_neg c188] at h
            refine EV.sub [1, 0] rfl ?_
            exact eX14_readScan_310  _ _ _ _ _ h
          · rw [if_pos c188] at h
            refine EV.goto 306 dX14_readScan_296 (by decide) ?_
            refine EV.sub [1, 0] rfl ?_
            exact eX14_readScan_306  _ _ _ _ _ h
set_option maxRecDepth 100000 in
set_option maxHeartbeats 4000000 in
theorem eX14_readScan_236 {X : px_X}  : ∀ (a0 : Nat) (w : px_W) (q : px_W), fX14_readScan_236 X  a0 w = some q → EV X mX14_readScan 236 [(0, .ref a0)] [] w none q := by
  intro a0 w q h
  unfold fX14_readScan_236 at h
  refine EV.aload_n 0 dX14_readScan_236 rfl rfl ?_
  obtain ⟨v189, gv189, h⟩ := px_bs h
  refine ev_gI dX14_readScan_237 flRX14_82 gv189 ?_
  refine EV.sipush (194) dX14_readScan_240 (by decide) ?_
  refine EV.icmp_ne 250 dX14_readScan_243 (by decide) (fun c190 => ?_) (fun c190 => ?_)
  · rw [if_neg c190] at h
    refine EV.iconst (0) dX14_readScan_250 (by decide) ?_
    refine EV.sub [0] rfl ?_
    exact eX14_readScan_251  _ _ _ _ h
  · rw [if_pos c190] at h
    refine EV.iconst (1) dX14_readScan_246 (by decide) ?_
    refine EV.goto 251 dX14_readScan_247 (by decide) ?_
    refine EV.sub [0] rfl ?_
    exact eX14_readScan_251  _ _ _ _ h
set_option maxRecDepth 100000 in
set_option maxHeartbeats 4000000 in
theorem eX14_readScan_45 {X : px_X}  : ∀ (m : Nat) (a0 : Nat) (a1 : Int32) (a2 : Int32) (a3 : Int32) (w : px_W) (q : px_W), fX14_readScan_45 X  m a0 a1 a2 a3 w = some q → EV X mX14_readScan 45 [(0, .ref a0), (1, .int a1), (2, .int a2), (3, .int a3)] [] w none q := by
  intro m
  induction m with
  | zero => intro a0 a1 a2 a3 w q h; cases h
  | succ m ih =>
    intro a0 a1 a2 a3 w q h
    rw [fX14_readScan_45.eq_2] at h
    refine EV.iload_n 3 dX14_readScan_45 rfl rfl ?_
    refine EV.aload_n 0 dX14_readScan_46 rfl rfl ?_
    obtain ⟨v191, gv191, h⟩ := px_bs h
    refine ev_gI dX14_readScan_47 flRX14_146 gv191 ?_
    refine EV.icmp_ge 236 dX14_readScan_50 (by decide) (fun c192 => ?_) (fun c192 => ?_)
    · rw [if_pos c192] at h
      refine EV.sub [0] rfl ?_
      exact eX14_readScan_236  _ _ _ h
    · rw [if_neg c192] at h
      refine EV.aload_n 0 dX14_readScan_53 rfl rfl ?_
      obtain ⟨v193, gv193, h⟩ := px_bs h
      refine ev_gI dX14_readScan_54 flRX14_100 gv193 ?_
      refine EV.if_ne 236 dX14_readScan_57 (by decide) (fun c194 => ?_) (fun c194 => ?_)
      · rw [if_neg c194] at h
        refine EV.sub [0] rfl ?_
        exact eX14_readScan_236  _ _ _ h
      · rw [if_pos c194] at h
        refine EV.aload_n 0 dX14_readScan_60 rfl rfl ?_
        obtain ⟨v195, gv195, h⟩ := px_bs h
        refine ev_gR dX14_readScan_61 flRX14_70 gv195 ?_
        refine EV.iload_n 3 dX14_readScan_64 rfl rfl ?_
        refine EV.aload_n 0 dX14_readScan_65 rfl rfl ?_
        obtain ⟨v196, gv196, h⟩ := px_bs h
        refine ev_gI dX14_readScan_66 flRX14_106 gv196 ?_
        obtain ⟨w197, gw197, h⟩ := px_bs h
        refine ev_sI dX14_readScan_69 gw197 ?_
        refine EV.aload_n 0 dX14_readScan_70 rfl rfl ?_
        refine EV.aload_n 0 dX14_readScan_71 rfl rfl ?_
        obtain ⟨o198, go198, h⟩ := px_bs h
        obtain ⟨q199, gq199, h⟩ := px_bs h
        refine EV.callV (As := []) (rest := [.ref a0]) dX14_readScan_72 kcX14_readScan_124 (gO_ok go198) rfl rfl rfl (Nat.le_of_ble_eq_true rfl) (Nat.le_of_ble_eq_true rfl) (eX14_next gq199) ?_
        obtain ⟨o200, go200, h⟩ := px_bs h
        obtain ⟨q201, gq201, h⟩ := px_bs h
        refine EV.callV (As := [.int q199.1]) (rest := []) dX14_readScan_75 kcX14_readScan_149 (gO_ok go200) rfl rfl rfl (Nat.le_of_ble_eq_true rfl) (Nat.le_of_ble_eq_true rfl) (eX14_named gq201) ?_
        refine EV.istore [(4, .int q201.1), (0, .ref a0), (1, .int a1), (2, .int a2), (3, .int a3)] dX14_readScan_78 (by decide) rfl ?_
        refine EV.aload_n 1 dX14_readScan_80 rfl rfl ?_
        obtain ⟨v202, gv202, h⟩ := px_bs h
        refine ev_gI dX14_readScan_81 flRX14_100 gv202 ?_
        refine EV.if_ne 107 dX14_readScan_84 (by decide) (fun c203 => ?_) (fun c203 => ?_)
        · rw [if_neg c203] at h
          refine EV.sub [1, 2, 3, 4, 0] rfl ?_
          exact eX14_readScan_107 ih _ _ _ _ _ _ _ h
        · rw [if_pos c203] at h
          refine EV.iload 0 dX14_readScan_87 rfl ?_
          refine EV.iload_n 3 dX14_readScan_89 rfl rfl ?_
          refine EV.icmp_gt 107 dX14_readScan_90 (by decide) (fun c204 => ?_) (fun c204 => ?_)
          · rw [if_pos c204] at h
            refine EV.sub [1, 2, 3, 4, 0] rfl ?_
            exact eX14_readScan_107 ih _ _ _ _ _ _ _ h
          · rw [if_neg c204] at h
            refine EV.aload_n 1 dX14_readScan_93 rfl rfl ?_
            refine EV.bipush (7) dX14_readScan_94 (by decide) ?_
            refine EV.aload_n 1 dX14_readScan_96 rfl rfl ?_
            obtain ⟨v205, gv205, h⟩ := px_bs h
            refine ev_gR dX14_readScan_97 flRX14_70 gv205 ?_
            refine EV.iload_n 4 dX14_readScan_100 rfl rfl ?_
            obtain ⟨v206, gv206, h⟩ := px_bs h
            refine ev_aI dX14_readScan_101 gv206 ?_
            obtain ⟨o207, go207, h⟩ := px_bs h
            obtain ⟨q208, gq208, h⟩ := px_bs h
            refine EV.callV (As := [.int 7, .int v206]) (rest := []) dX14_readScan_102 kcX14_readScan_113 (gO_ok go207) rfl rfl rfl (Nat.le_of_ble_eq_true rfl) (Nat.le_of_ble_eq_true rfl) (eX14_wrong gq208) ?_
            refine EV.istore [(5, .int q208.1), (4, .int q201.1), (0, .ref a0), (1, .int a1), (2, .int a2), (3, .int a3)] dX14_readScan_105 (by decide) rfl ?_
            refine EV.sub [2, 3, 4, 5, 1] rfl ?_
            exact eX14_readScan_107 ih _ _ _ _ _ _ _ h
set_option maxRecDepth 100000 in
set_option maxHeartbeats 4000000 in
theorem eX14_readScan_36 {X : px_X}  : ∀ (a0 : Nat) (s0 : Int32) (s1 : Nat) (w : px_W) (q : px_W), fX14_readScan_36 X  a0 s0 s1 w = some q → EV X mX14_readScan 36 [(0, .ref a0)] [.int s0, .ref s1] w none q := by
  intro a0 s0 s1 w q h
  unfold fX14_readScan_36 at h
  obtain ⟨o209, go209, h⟩ := px_bs h
  obtain ⟨q210, gq210, h⟩ := px_bs h
  refine EV.callV (As := [.int s0]) (rest := []) dX14_readScan_36 kcX14_readScan_136 (gO_ok go209) rfl rfl rfl (Nat.le_of_ble_eq_true rfl) (Nat.le_of_ble_eq_true rfl) (eX14_must gq210) ?_
  refine EV.iconst (0) dX14_readScan_39 (by decide) ?_
  refine EV.istore_n [(1, .int 0), (0, .ref a0)] dX14_readScan_40 rfl (by decide) rfl ?_
  refine EV.iconst ((-1)) dX14_readScan_41 (by decide) ?_
  refine EV.istore_n [(2, .int ((-1))), (1, .int 0), (0, .ref a0)] dX14_readScan_42 rfl (by decide) rfl ?_
  refine EV.iconst (0) dX14_readScan_43 (by decide) ?_
  refine EV.istore_n [(3, .int 0), (2, .int ((-1))), (1, .int 0), (0, .ref a0)] dX14_readScan_44 rfl (by decide) rfl ?_
  refine EV.sub [3, 2, 1, 0] rfl ?_
  exact eX14_readScan_45  FU _ _ _ _ _ _ h
set_option maxRecDepth 100000 in
set_option maxHeartbeats 4000000 in
theorem eX14_readScan_31 {X : px_X}  : ∀ (a0 : Nat) (s0 : Nat) (w : px_W) (q : px_W), fX14_readScan_31 X  a0 s0 w = some q → EV X mX14_readScan 31 [(0, .ref a0)] [.ref s0] w none q := by
  intro a0 s0 w q h
  unfold fX14_readScan_31 at h
  refine EV.iconst (1) dX14_readScan_31 (by decide) ?_
  refine EV.goto 36 dX14_readScan_32 (by decide) ?_
  refine EV.sub [0] rfl ?_
  exact eX14_readScan_36  _ _ _ _ _ h
set_option maxRecDepth 100000 in
set_option maxHeartbeats 4000000 in
theorem eX14_readScan_35 {X : px_X}  : ∀ (a0 : Nat) (s0 : Nat) (w : px_W) (q : px_W), fX14_readScan_35 X  a0 s0 w = some q → EV X mX14_readScan 35 [(0, .ref a0)] [.ref s0] w none q := by
  intro a0 s0 w q h
  unfold fX14_readScan_35 at h
  refine EV.iconst (0) dX14_readScan_35 (by decide) ?_
  refine EV.sub [0] rfl ?_
  exact eX14_readScan_36  _ _ _ _ _ h
set_option maxRecDepth 100000 in
set_option maxHeartbeats 4000000 in
theorem eX14_readScan {X : px_X} {w : px_W} {a0 : Nat} {q : px_W} (h : fX14_readScan X w a0 = some q) : EV X mX14_readScan 0 (lv_args 0 [.ref a0]) [] w none q := by
  unfold fX14_readScan at h
  show EV X mX14_readScan 0 [(0, .ref a0)] [] w none q
  refine EV.aload_n 0 dX14_readScan_0 rfl rfl ?_
  refine EV.aload_n 0 dX14_readScan_1 rfl rfl ?_
  obtain ⟨o211, go211, h⟩ := px_bs h
  obtain ⟨q212, gq212, h⟩ := px_bs h
  refine EV.callV (As := []) (rest := [.ref a0]) dX14_readScan_2 kcX14_readScan_124 (gO_ok go211) rfl rfl rfl (Nat.le_of_ble_eq_true rfl) (Nat.le_of_ble_eq_true rfl) (eX14_next gq212) ?_
  obtain ⟨w213, gw213, h⟩ := px_bs h
  refine ev_pV dX14_readScan_5 flRX14_146 rfl rfl rfl rfl gw213 ?_
  refine EV.aload_n 0 dX14_readScan_8 rfl rfl ?_
  refine EV.aload_n 0 dX14_readScan_9 rfl rfl ?_
  obtain ⟨v214, gv214, h⟩ := px_bs h
  refine ev_gI dX14_readScan_10 flRX14_100 gv214 ?_
  refine EV.if_gt 31 dX14_readScan_13 (by decide) (fun c215 => ?_) (fun c215 => ?_)
  · rw [if_pos c215] at h
    refine EV.sub [0] rfl ?_
    exact eX14_readScan_31  _ _ _ _ h
  · rw [if_neg c215] at h
    refine EV.aload_n 0 dX14_readScan_16 rfl rfl ?_
    obtain ⟨v216, gv216, h⟩ := px_bs h
    refine ev_gI dX14_readScan_17 flRX14_146 gv216 ?_
    refine EV.if_le 35 dX14_readScan_20 (by decide) (fun c217 => ?_) (fun c217 => ?_)
    · rw [if_pos c217] at h
      refine EV.sub [0] rfl ?_
      exact eX14_readScan_35  _ _ _ _ h
    · rw [if_neg c217] at h
      refine EV.aload_n 0 dX14_readScan_23 rfl rfl ?_
      obtain ⟨v218, gv218, h⟩ := px_bs h
      refine ev_gI dX14_readScan_24 flRX14_146 gv218 ?_
      refine EV.iconst (5) dX14_readScan_27 (by decide) ?_
      refine EV.icmp_ge 35 dX14_readScan_28 (by decide) (fun c219 => ?_) (fun c219 => ?_)
      · rw [if_pos c219] at h
        refine EV.sub [0] rfl ?_
        exact eX14_readScan_35  _ _ _ _ h
      · rw [if_neg c219] at h
        refine EV.sub [0] rfl ?_
        exact eX14_readScan_31  _ _ _ _ h
