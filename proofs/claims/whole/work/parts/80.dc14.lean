/-! WavePicturesModel$Scans.lay(IIII)I -/
theorem dX13_lay_0 : decode cX13_lay 0 = .ok (.iconst 1, 1) := by decide +kernel
theorem dX13_lay_1 : decode cX13_lay 1 = .ok (.istore 5, 2) := by decide +kernel
theorem dX13_lay_3 : decode cX13_lay 3 = .ok (.iconst 1, 1) := by decide +kernel
theorem dX13_lay_4 : decode cX13_lay 4 = .ok (.istore 6, 2) := by decide +kernel
theorem dX13_lay_6 : decode cX13_lay 6 = .ok (.iconst 0, 1) := by decide +kernel
theorem dX13_lay_7 : decode cX13_lay 7 = .ok (.istore 7, 2) := by decide +kernel
theorem dX13_lay_9 : decode cX13_lay 9 = .ok (.iload 7, 2) := by decide +kernel
theorem dX13_lay_11 : decode cX13_lay 11 = .ok (.iload_n 3, 1) := by decide +kernel
theorem dX13_lay_12 : decode cX13_lay 12 = .ok (.if_icmp .ge 53, 3) := by decide +kernel
theorem dX13_lay_15 : decode cX13_lay 15 = .ok (.iload 4, 2) := by decide +kernel
theorem dX13_lay_17 : decode cX13_lay 17 = .ok (.iconst 2, 1) := by decide +kernel
theorem dX13_lay_18 : decode cX13_lay 18 = .ok (.iload 7, 2) := by decide +kernel
theorem dX13_lay_20 : decode cX13_lay 20 = .ok (.imul, 1) := by decide +kernel
theorem dX13_lay_21 : decode cX13_lay 21 = .ok (.ishr, 1) := by decide +kernel
theorem dX13_lay_22 : decode cX13_lay 22 = .ok (.iconst 1, 1) := by decide +kernel
theorem dX13_lay_23 : decode cX13_lay 23 = .ok (.iand, 1) := by decide +kernel
theorem dX13_lay_24 : decode cX13_lay 24 = .ok (.iconst 1, 1) := by decide +kernel
theorem dX13_lay_25 : decode cX13_lay 25 = .ok (.if_icmp .ne 7, 3) := by decide +kernel
theorem dX13_lay_28 : decode cX13_lay 28 = .ok (.iconst 2, 1) := by decide +kernel
theorem dX13_lay_29 : decode cX13_lay 29 = .ok (.goto 5, 3) := by decide +kernel
theorem dX13_lay_32 : decode cX13_lay 32 = .ok (.iload 5, 2) := by decide +kernel
theorem dX13_lay_34 : decode cX13_lay 34 = .ok (.istore 5, 2) := by decide +kernel
theorem dX13_lay_36 : decode cX13_lay 36 = .ok (.iload 4, 2) := by decide +kernel
theorem dX13_lay_38 : decode cX13_lay 38 = .ok (.iconst 2, 1) := by decide +kernel
theorem dX13_lay_39 : decode cX13_lay 39 = .ok (.iload 7, 2) := by decide +kernel
theorem dX13_lay_41 : decode cX13_lay 41 = .ok (.imul, 1) := by decide +kernel
theorem dX13_lay_42 : decode cX13_lay 42 = .ok (.iconst 1, 1) := by decide +kernel
theorem dX13_lay_43 : decode cX13_lay 43 = .ok (.iadd, 1) := by decide +kernel
theorem dX13_lay_44 : decode cX13_lay 44 = .ok (.ishr, 1) := by decide +kernel
theorem dX13_lay_45 : decode cX13_lay 45 = .ok (.iconst 1, 1) := by decide +kernel
theorem dX13_lay_46 : decode cX13_lay 46 = .ok (.iand, 1) := by decide +kernel
theorem dX13_lay_47 : decode cX13_lay 47 = .ok (.iconst 1, 1) := by decide +kernel
theorem dX13_lay_48 : decode cX13_lay 48 = .ok (.if_icmp .ne 7, 3) := by decide +kernel
theorem dX13_lay_51 : decode cX13_lay 51 = .ok (.iconst 2, 1) := by decide +kernel
theorem dX13_lay_52 : decode cX13_lay 52 = .ok (.goto 5, 3) := by decide +kernel
theorem dX13_lay_55 : decode cX13_lay 55 = .ok (.iload 6, 2) := by decide +kernel
theorem dX13_lay_57 : decode cX13_lay 57 = .ok (.istore 6, 2) := by decide +kernel
theorem dX13_lay_59 : decode cX13_lay 59 = .ok (.iinc 7 1, 3) := by decide +kernel
theorem dX13_lay_62 : decode cX13_lay 62 = .ok (.goto (-53), 3) := by decide +kernel
theorem dX13_lay_65 : decode cX13_lay 65 = .ok (.iconst 0, 1) := by decide +kernel
theorem dX13_lay_66 : decode cX13_lay 66 = .ok (.istore 7, 2) := by decide +kernel
theorem dX13_lay_68 : decode cX13_lay 68 = .ok (.iload_n 1, 1) := by decide +kernel
theorem dX13_lay_69 : decode cX13_lay 69 = .ok (.bipush 8, 2) := by decide +kernel
theorem dX13_lay_71 : decode cX13_lay 71 = .ok (.iload 5, 2) := by decide +kernel
theorem dX13_lay_73 : decode cX13_lay 73 = .ok (.imul, 1) := by decide +kernel
theorem dX13_lay_74 : decode cX13_lay 74 = .ok (.invokestatic 83, 3) := by decide +kernel
theorem dX13_lay_77 : decode cX13_lay 77 = .ok (.istore 8, 2) := by decide +kernel
theorem dX13_lay_79 : decode cX13_lay 79 = .ok (.iload_n 2, 1) := by decide +kernel
theorem dX13_lay_80 : decode cX13_lay 80 = .ok (.bipush 8, 2) := by decide +kernel
theorem dX13_lay_82 : decode cX13_lay 82 = .ok (.iload 6, 2) := by decide +kernel
theorem dX13_lay_84 : decode cX13_lay 84 = .ok (.imul, 1) := by decide +kernel
theorem dX13_lay_85 : decode cX13_lay 85 = .ok (.invokestatic 83, 3) := by decide +kernel
theorem dX13_lay_88 : decode cX13_lay 88 = .ok (.istore 9, 2) := by decide +kernel
theorem dX13_lay_90 : decode cX13_lay 90 = .ok (.iconst 0, 1) := by decide +kernel
theorem dX13_lay_91 : decode cX13_lay 91 = .ok (.istore 10, 2) := by decide +kernel
theorem dX13_lay_93 : decode cX13_lay 93 = .ok (.iload 10, 2) := by decide +kernel
theorem dX13_lay_95 : decode cX13_lay 95 = .ok (.iload_n 3, 1) := by decide +kernel
theorem dX13_lay_96 : decode cX13_lay 96 = .ok (.if_icmp .ge 45, 3) := by decide +kernel
theorem dX13_lay_99 : decode cX13_lay 99 = .ok (.iload 7, 2) := by decide +kernel
theorem dX13_lay_101 : decode cX13_lay 101 = .ok (.iload 8, 2) := by decide +kernel
theorem dX13_lay_103 : decode cX13_lay 103 = .ok (.iload 9, 2) := by decide +kernel
theorem dX13_lay_105 : decode cX13_lay 105 = .ok (.imul, 1) := by decide +kernel
theorem dX13_lay_106 : decode cX13_lay 106 = .ok (.iconst 1, 1) := by decide +kernel
theorem dX13_lay_107 : decode cX13_lay 107 = .ok (.iload 4, 2) := by decide +kernel
theorem dX13_lay_109 : decode cX13_lay 109 = .ok (.iconst 2, 1) := by decide +kernel
theorem dX13_lay_110 : decode cX13_lay 110 = .ok (.iload 10, 2) := by decide +kernel
theorem dX13_lay_112 : decode cX13_lay 112 = .ok (.imul, 1) := by decide +kernel
theorem dX13_lay_113 : decode cX13_lay 113 = .ok (.ishr, 1) := by decide +kernel
theorem dX13_lay_114 : decode cX13_lay 114 = .ok (.iconst 1, 1) := by decide +kernel
theorem dX13_lay_115 : decode cX13_lay 115 = .ok (.iand, 1) := by decide +kernel
theorem dX13_lay_116 : decode cX13_lay 116 = .ok (.iadd, 1) := by decide +kernel
theorem dX13_lay_117 : decode cX13_lay 117 = .ok (.imul, 1) := by decide +kernel
theorem dX13_lay_118 : decode cX13_lay 118 = .ok (.iconst 1, 1) := by decide +kernel
theorem dX13_lay_119 : decode cX13_lay 119 = .ok (.iload 4, 2) := by decide +kernel
theorem dX13_lay_121 : decode cX13_lay 121 = .ok (.iconst 2, 1) := by decide +kernel
theorem dX13_lay_122 : decode cX13_lay 122 = .ok (.iload 10, 2) := by decide +kernel
theorem dX13_lay_124 : decode cX13_lay 124 = .ok (.imul, 1) := by decide +kernel
theorem dX13_lay_125 : decode cX13_lay 125 = .ok (.iconst 1, 1) := by decide +kernel
theorem dX13_lay_126 : decode cX13_lay 126 = .ok (.iadd, 1) := by decide +kernel
theorem dX13_lay_127 : decode cX13_lay 127 = .ok (.ishr, 1) := by decide +kernel
theorem dX13_lay_128 : decode cX13_lay 128 = .ok (.iconst 1, 1) := by decide +kernel
theorem dX13_lay_129 : decode cX13_lay 129 = .ok (.iand, 1) := by decide +kernel
theorem dX13_lay_130 : decode cX13_lay 130 = .ok (.iadd, 1) := by decide +kernel
theorem dX13_lay_131 : decode cX13_lay 131 = .ok (.imul, 1) := by decide +kernel
theorem dX13_lay_132 : decode cX13_lay 132 = .ok (.iadd, 1) := by decide +kernel
theorem dX13_lay_133 : decode cX13_lay 133 = .ok (.istore 7, 2) := by decide +kernel
theorem dX13_lay_135 : decode cX13_lay 135 = .ok (.iinc 10 1, 3) := by decide +kernel
theorem dX13_lay_138 : decode cX13_lay 138 = .ok (.goto (-45), 3) := by decide +kernel
theorem dX13_lay_141 : decode cX13_lay 141 = .ok (.iload 7, 2) := by decide +kernel
theorem dX13_lay_143 : decode cX13_lay 143 = .ok (.sipush 192, 3) := by decide +kernel
theorem dX13_lay_146 : decode cX13_lay 146 = .ok (.if_icmp .le 6, 3) := by decide +kernel
theorem dX13_lay_149 : decode cX13_lay 149 = .ok (.iload 7, 2) := by decide +kernel
theorem dX13_lay_151 : decode cX13_lay 151 = .ok (.ireturn, 1) := by decide +kernel
theorem dX13_lay_152 : decode cX13_lay 152 = .ok (.aload_n 0, 1) := by decide +kernel
theorem dX13_lay_153 : decode cX13_lay 153 = .ok (.iload_n 1, 1) := by decide +kernel
theorem dX13_lay_154 : decode cX13_lay 154 = .ok (.putfield 87, 3) := by decide +kernel
theorem dX13_lay_157 : decode cX13_lay 157 = .ok (.aload_n 0, 1) := by decide +kernel
theorem dX13_lay_158 : decode cX13_lay 158 = .ok (.iload_n 2, 1) := by decide +kernel
theorem dX13_lay_159 : decode cX13_lay 159 = .ok (.putfield 91, 3) := by decide +kernel
theorem dX13_lay_162 : decode cX13_lay 162 = .ok (.aload_n 0, 1) := by decide +kernel
theorem dX13_lay_163 : decode cX13_lay 163 = .ok (.iload_n 3, 1) := by decide +kernel
theorem dX13_lay_164 : decode cX13_lay 164 = .ok (.putfield 94, 3) := by decide +kernel
theorem dX13_lay_167 : decode cX13_lay 167 = .ok (.aload_n 0, 1) := by decide +kernel
theorem dX13_lay_168 : decode cX13_lay 168 = .ok (.iload 8, 2) := by decide +kernel
theorem dX13_lay_170 : decode cX13_lay 170 = .ok (.putfield 97, 3) := by decide +kernel
theorem dX13_lay_173 : decode cX13_lay 173 = .ok (.aload_n 0, 1) := by decide +kernel
theorem dX13_lay_174 : decode cX13_lay 174 = .ok (.iload 9, 2) := by decide +kernel
theorem dX13_lay_176 : decode cX13_lay 176 = .ok (.putfield 100, 3) := by decide +kernel
theorem dX13_lay_179 : decode cX13_lay 179 = .ok (.iconst 0, 1) := by decide +kernel
theorem dX13_lay_180 : decode cX13_lay 180 = .ok (.istore 10, 2) := by decide +kernel
theorem dX13_lay_182 : decode cX13_lay 182 = .ok (.iconst 0, 1) := by decide +kernel
theorem dX13_lay_183 : decode cX13_lay 183 = .ok (.istore 11, 2) := by decide +kernel
theorem dX13_lay_185 : decode cX13_lay 185 = .ok (.iload 11, 2) := by decide +kernel
theorem dX13_lay_187 : decode cX13_lay 187 = .ok (.iload_n 3, 1) := by decide +kernel
theorem dX13_lay_188 : decode cX13_lay 188 = .ok (.if_icmp .ge 162, 3) := by decide +kernel
theorem dX13_lay_191 : decode cX13_lay 191 = .ok (.aload_n 0, 1) := by decide +kernel
theorem dX13_lay_192 : decode cX13_lay 192 = .ok (.getfield 9, 3) := by decide +kernel
theorem dX13_lay_195 : decode cX13_lay 195 = .ok (.iload 11, 2) := by decide +kernel
theorem dX13_lay_197 : decode cX13_lay 197 = .ok (.iconst 1, 1) := by decide +kernel
theorem dX13_lay_198 : decode cX13_lay 198 = .ok (.iload 4, 2) := by decide +kernel
theorem dX13_lay_200 : decode cX13_lay 200 = .ok (.iconst 2, 1) := by decide +kernel
theorem dX13_lay_201 : decode cX13_lay 201 = .ok (.iload 11, 2) := by decide +kernel
theorem dX13_lay_203 : decode cX13_lay 203 = .ok (.imul, 1) := by decide +kernel
theorem dX13_lay_204 : decode cX13_lay 204 = .ok (.ishr, 1) := by decide +kernel
theorem dX13_lay_205 : decode cX13_lay 205 = .ok (.iconst 1, 1) := by decide +kernel
theorem dX13_lay_206 : decode cX13_lay 206 = .ok (.iand, 1) := by decide +kernel
theorem dX13_lay_207 : decode cX13_lay 207 = .ok (.iadd, 1) := by decide +kernel
theorem dX13_lay_208 : decode cX13_lay 208 = .ok (.iastore, 1) := by decide +kernel
theorem dX13_lay_209 : decode cX13_lay 209 = .ok (.aload_n 0, 1) := by decide +kernel
theorem dX13_lay_210 : decode cX13_lay 210 = .ok (.getfield 15, 3) := by decide +kernel
theorem dX13_lay_213 : decode cX13_lay 213 = .ok (.iload 11, 2) := by decide +kernel
theorem dX13_lay_215 : decode cX13_lay 215 = .ok (.iconst 1, 1) := by decide +kernel
theorem dX13_lay_216 : decode cX13_lay 216 = .ok (.iload 4, 2) := by decide +kernel
theorem dX13_lay_218 : decode cX13_lay 218 = .ok (.iconst 2, 1) := by decide +kernel
theorem dX13_lay_219 : decode cX13_lay 219 = .ok (.iload 11, 2) := by decide +kernel
theorem dX13_lay_221 : decode cX13_lay 221 = .ok (.imul, 1) := by decide +kernel
theorem dX13_lay_222 : decode cX13_lay 222 = .ok (.iconst 1, 1) := by decide +kernel
theorem dX13_lay_223 : decode cX13_lay 223 = .ok (.iadd, 1) := by decide +kernel
theorem dX13_lay_224 : decode cX13_lay 224 = .ok (.ishr, 1) := by decide +kernel
theorem dX13_lay_225 : decode cX13_lay 225 = .ok (.iconst 1, 1) := by decide +kernel
theorem dX13_lay_226 : decode cX13_lay 226 = .ok (.iand, 1) := by decide +kernel
theorem dX13_lay_227 : decode cX13_lay 227 = .ok (.iadd, 1) := by decide +kernel
theorem dX13_lay_228 : decode cX13_lay 228 = .ok (.iastore, 1) := by decide +kernel
theorem dX13_lay_229 : decode cX13_lay 229 = .ok (.aload_n 0, 1) := by decide +kernel
theorem dX13_lay_230 : decode cX13_lay 230 = .ok (.getfield 18, 3) := by decide +kernel
theorem dX13_lay_233 : decode cX13_lay 233 = .ok (.iload 11, 2) := by decide +kernel
theorem dX13_lay_235 : decode cX13_lay 235 = .ok (.iload 8, 2) := by decide +kernel
theorem dX13_lay_237 : decode cX13_lay 237 = .ok (.aload_n 0, 1) := by decide +kernel
theorem dX13_lay_238 : decode cX13_lay 238 = .ok (.getfield 9, 3) := by decide +kernel
theorem dX13_lay_241 : decode cX13_lay 241 = .ok (.iload 11, 2) := by decide +kernel
theorem dX13_lay_243 : decode cX13_lay 243 = .ok (.iaload, 1) := by decide +kernel
theorem dX13_lay_244 : decode cX13_lay 244 = .ok (.imul, 1) := by decide +kernel
theorem dX13_lay_245 : decode cX13_lay 245 = .ok (.iastore, 1) := by decide +kernel
theorem dX13_lay_246 : decode cX13_lay 246 = .ok (.aload_n 0, 1) := by decide +kernel
theorem dX13_lay_247 : decode cX13_lay 247 = .ok (.getfield 21, 3) := by decide +kernel
theorem dX13_lay_250 : decode cX13_lay 250 = .ok (.iload 11, 2) := by decide +kernel
theorem dX13_lay_252 : decode cX13_lay 252 = .ok (.iload 9, 2) := by decide +kernel
theorem dX13_lay_254 : decode cX13_lay 254 = .ok (.aload_n 0, 1) := by decide +kernel
theorem dX13_lay_255 : decode cX13_lay 255 = .ok (.getfield 15, 3) := by decide +kernel
theorem dX13_lay_258 : decode cX13_lay 258 = .ok (.iload 11, 2) := by decide +kernel
theorem dX13_lay_260 : decode cX13_lay 260 = .ok (.iaload, 1) := by decide +kernel
theorem dX13_lay_261 : decode cX13_lay 261 = .ok (.imul, 1) := by decide +kernel
theorem dX13_lay_262 : decode cX13_lay 262 = .ok (.iastore, 1) := by decide +kernel
theorem dX13_lay_263 : decode cX13_lay 263 = .ok (.aload_n 0, 1) := by decide +kernel
theorem dX13_lay_264 : decode cX13_lay 264 = .ok (.getfield 24, 3) := by decide +kernel
theorem dX13_lay_267 : decode cX13_lay 267 = .ok (.iload 11, 2) := by decide +kernel
theorem dX13_lay_269 : decode cX13_lay 269 = .ok (.iload_n 1, 1) := by decide +kernel
theorem dX13_lay_270 : decode cX13_lay 270 = .ok (.aload_n 0, 1) := by decide +kernel
theorem dX13_lay_271 : decode cX13_lay 271 = .ok (.getfield 9, 3) := by decide +kernel
theorem dX13_lay_274 : decode cX13_lay 274 = .ok (.iload 11, 2) := by decide +kernel
theorem dX13_lay_276 : decode cX13_lay 276 = .ok (.iaload, 1) := by decide +kernel
theorem dX13_lay_277 : decode cX13_lay 277 = .ok (.imul, 1) := by decide +kernel
theorem dX13_lay_278 : decode cX13_lay 278 = .ok (.iload 5, 2) := by decide +kernel
theorem dX13_lay_280 : decode cX13_lay 280 = .ok (.invokestatic 83, 3) := by decide +kernel
theorem dX13_lay_283 : decode cX13_lay 283 = .ok (.bipush 8, 2) := by decide +kernel
theorem dX13_lay_285 : decode cX13_lay 285 = .ok (.invokestatic 83, 3) := by decide +kernel
theorem dX13_lay_288 : decode cX13_lay 288 = .ok (.iastore, 1) := by decide +kernel
theorem dX13_lay_289 : decode cX13_lay 289 = .ok (.aload_n 0, 1) := by decide +kernel
theorem dX13_lay_290 : decode cX13_lay 290 = .ok (.getfield 27, 3) := by decide +kernel
theorem dX13_lay_293 : decode cX13_lay 293 = .ok (.iload 11, 2) := by decide +kernel
theorem dX13_lay_295 : decode cX13_lay 295 = .ok (.iload_n 2, 1) := by decide +kernel
theorem dX13_lay_296 : decode cX13_lay 296 = .ok (.aload_n 0, 1) := by decide +kernel
theorem dX13_lay_297 : decode cX13_lay 297 = .ok (.getfield 15, 3) := by decide +kernel
theorem dX13_lay_300 : decode cX13_lay 300 = .ok (.iload 11, 2) := by decide +kernel
theorem dX13_lay_302 : decode cX13_lay 302 = .ok (.iaload, 1) := by decide +kernel
theorem dX13_lay_303 : decode cX13_lay 303 = .ok (.imul, 1) := by decide +kernel
theorem dX13_lay_304 : decode cX13_lay 304 = .ok (.iload 6, 2) := by decide +kernel
theorem dX13_lay_306 : decode cX13_lay 306 = .ok (.invokestatic 83, 3) := by decide +kernel
theorem dX13_lay_309 : decode cX13_lay 309 = .ok (.bipush 8, 2) := by decide +kernel
theorem dX13_lay_311 : decode cX13_lay 311 = .ok (.invokestatic 83, 3) := by decide +kernel
theorem dX13_lay_314 : decode cX13_lay 314 = .ok (.iastore, 1) := by decide +kernel
theorem dX13_lay_315 : decode cX13_lay 315 = .ok (.aload_n 0, 1) := by decide +kernel
theorem dX13_lay_316 : decode cX13_lay 316 = .ok (.getfield 30, 3) := by decide +kernel
theorem dX13_lay_319 : decode cX13_lay 319 = .ok (.iload 11, 2) := by decide +kernel
theorem dX13_lay_321 : decode cX13_lay 321 = .ok (.iload 10, 2) := by decide +kernel
theorem dX13_lay_323 : decode cX13_lay 323 = .ok (.iastore, 1) := by decide +kernel
theorem dX13_lay_324 : decode cX13_lay 324 = .ok (.iload 10, 2) := by decide +kernel
theorem dX13_lay_326 : decode cX13_lay 326 = .ok (.aload_n 0, 1) := by decide +kernel
theorem dX13_lay_327 : decode cX13_lay 327 = .ok (.getfield 18, 3) := by decide +kernel
theorem dX13_lay_330 : decode cX13_lay 330 = .ok (.iload 11, 2) := by decide +kernel
theorem dX13_lay_332 : decode cX13_lay 332 = .ok (.iaload, 1) := by decide +kernel
theorem dX13_lay_333 : decode cX13_lay 333 = .ok (.aload_n 0, 1) := by decide +kernel
theorem dX13_lay_334 : decode cX13_lay 334 = .ok (.getfield 21, 3) := by decide +kernel
theorem dX13_lay_337 : decode cX13_lay 337 = .ok (.iload 11, 2) := by decide +kernel
theorem dX13_lay_339 : decode cX13_lay 339 = .ok (.iaload, 1) := by decide +kernel
theorem dX13_lay_340 : decode cX13_lay 340 = .ok (.imul, 1) := by decide +kernel
theorem dX13_lay_341 : decode cX13_lay 341 = .ok (.iadd, 1) := by decide +kernel
theorem dX13_lay_342 : decode cX13_lay 342 = .ok (.istore 10, 2) := by decide +kernel
theorem dX13_lay_344 : decode cX13_lay 344 = .ok (.iinc 11 1, 3) := by decide +kernel
theorem dX13_lay_347 : decode cX13_lay 347 = .ok (.goto (-162), 3) := by decide +kernel
theorem dX13_lay_350 : decode cX13_lay 350 = .ok (.iload 7, 2) := by decide +kernel
theorem dX13_lay_352 : decode cX13_lay 352 = .ok (.ireturn, 1) := by decide +kernel
theorem flRX13_9 : px_f RX13 9 13 3 := ⟨_, rfl, by decide, Or.inl (tb7 (List.mem_of_getElem? (i := 12) rfl))⟩
theorem flRX13_15 : px_f RX13 15 13 4 := ⟨_, rfl, by decide, Or.inl (tb7 (List.mem_of_getElem? (i := 13) rfl))⟩
theorem flRX13_18 : px_f RX13 18 13 5 := ⟨_, rfl, by decide, Or.inl (tb7 (List.mem_of_getElem? (i := 14) rfl))⟩
theorem flRX13_21 : px_f RX13 21 13 6 := ⟨_, rfl, by decide, Or.inl (tb7 (List.mem_of_getElem? (i := 15) rfl))⟩
theorem flRX13_24 : px_f RX13 24 13 7 := ⟨_, rfl, by decide, Or.inl (tb7 (List.mem_of_getElem? (i := 16) rfl))⟩
theorem flRX13_27 : px_f RX13 27 13 8 := ⟨_, rfl, by decide, Or.inl (tb7 (List.mem_of_getElem? (i := 17) rfl))⟩
theorem flRX13_30 : px_f RX13 30 13 9 := ⟨_, rfl, by decide, Or.inl (tb7 (List.mem_of_getElem? (i := 18) rfl))⟩
theorem flRX13_87 : px_f RX13 87 13 0 := ⟨_, rfl, by decide, Or.inl (tb7 (List.mem_of_getElem? (i := 9) rfl))⟩
theorem flRX13_91 : px_f RX13 91 13 1 := ⟨_, rfl, by decide, Or.inl (tb7 (List.mem_of_getElem? (i := 10) rfl))⟩
theorem flRX13_94 : px_f RX13 94 13 2 := ⟨_, rfl, by decide, Or.inl (tb7 (List.mem_of_getElem? (i := 11) rfl))⟩
theorem flRX13_97 : px_f RX13 97 13 10 := ⟨_, rfl, by decide, Or.inl (tb7 (List.mem_of_getElem? (i := 19) rfl))⟩
theorem flRX13_100 : px_f RX13 100 13 11 := ⟨_, rfl, by decide, Or.inl (tb7 (List.mem_of_getElem? (i := 20) rfl))⟩
theorem mbX13_up : px_mB mX13_up 2 := ⟨tb9 (List.mem_of_getElem? (i := 106) rfl), by decide +kernel, tb1 (List.mem_of_getElem? (i := 15) rfl), by decide +kernel, by decide +kernel⟩
theorem kcX13_lay_83 : px_cS mX13_lay 83 mX13_up 2 := ⟨⟨mbX13_up, by decide, by decide⟩, Or.inl (tb9 (List.mem_of_getElem? (i := 104) rfl)), tb9 (List.mem_of_getElem? (i := 105) rfl)⟩
set_option maxRecDepth 100000 in
set_option maxHeartbeats 4000000 in
theorem eX13_lay_185 {X : px_X}  : ∀ (m : Nat) (a0 : Nat) (a1 : Int32) (a2 : Int32) (a3 : Int32) (a4 : Int32) (a5 : Int32) (a6 : Int32) (a7 : Int32) (a8 : Int32) (a9 : Int32) (a10 : Int32) (a11 : Int32) (w : px_W) (q : Int32 × px_W), fX13_lay_185 X  m a0 a1 a2 a3 a4 a5 a6 a7 a8 a9 a10 a11 w = some q → EV X mX13_lay 185 [(0, .ref a0), (1, .int a1), (2, .int a2), (3, .int a3), (4, .int a4), (5, .int a5), (6, .int a6), (7, .int a7), (8, .int a8), (9, .int a9), (10, .int a10), (11, .int a11)] [] w (some (.int q.1)) q.2 := by
  intro m
  induction m with
  | zero => intro a0 a1 a2 a3 a4 a5 a6 a7 a8 a9 a10 a11 w q h; cases h
  | succ m ih =>
    intro a0 a1 a2 a3 a4 a5 a6 a7 a8 a9 a10 a11 w q h
    rw [fX13_lay_185.eq_2] at h
    refine EV.iload 11 dX13_lay_185 rfl ?_
    refine EV.iload_n 3 dX13_lay_187 rfl rfl ?_
    refine EV.icmp_ge 350 dX13_lay_188 (by decide) (fun c38 => ?_) (fun c38 => ?_)
    · rw [if_pos c38] at h
      refine EV.iload 7 dX13_lay_350 rfl ?_
      cases h
      exact EV.reti dX13_lay_352 rfl
    · rw [if_neg c38] at h
      refine EV.aload_n 0 dX13_lay_191 rfl rfl ?_
      obtain ⟨v39, gv39, h⟩ := px_bs h
      refine ev_gR dX13_lay_192 flRX13_9 gv39 ?_
      refine EV.iload 11 dX13_lay_195 rfl ?_
      refine EV.iconst (1) dX13_lay_197 (by decide) ?_
      refine EV.iload 4 dX13_lay_198 rfl ?_
      refine EV.iconst (2) dX13_lay_200 (by decide) ?_
      refine EV.iload 11 dX13_lay_201 rfl ?_
      refine EV.imul dX13_lay_203 ?_
      refine EV.ishr dX13_lay_204 ?_
      refine EV.iconst (1) dX13_lay_205 (by decide) ?_
      refine EV.iand dX13_lay_206 ?_
      refine EV.iadd dX13_lay_207 ?_
      obtain ⟨w40, gw40, h⟩ := px_bs h
      refine ev_sI dX13_lay_208 gw40 ?_
      refine EV.aload_n 0 dX13_lay_209 rfl rfl ?_
      obtain ⟨v41, gv41, h⟩ := px_bs h
      refine ev_gR dX13_lay_210 flRX13_15 gv41 ?_
      refine EV.iload 11 dX13_lay_213 rfl ?_
      refine EV.iconst (1) dX13_lay_215 (by decide) ?_
      refine EV.iload 4 dX13_lay_216 rfl ?_
      refine EV.iconst (2) dX13_lay_218 (by decide) ?_
      refine EV.iload 11 dX13_lay_219 rfl ?_
      refine EV.imul dX13_lay_221 ?_
      refine EV.iconst (1) dX13_lay_222 (by decide) ?_
      refine EV.iadd dX13_lay_223 ?_
      refine EV.ishr dX13_lay_224 ?_
      refine EV.iconst (1) dX13_lay_225 (by decide) ?_
      refine EV.iand dX13_lay_226 ?_
      refine EV.iadd dX13_lay_227 ?_
      obtain ⟨w42, gw42, h⟩ := px_bs h
      refine ev_sI dX13_lay_228 gw42 ?_
      refine EV.aload_n 0 dX13_lay_229 rfl rfl ?_
      obtain ⟨v43, gv43, h⟩ := px_bs h
      refine ev_gR dX13_lay_230 flRX13_18 gv43 ?_
      refine EV.iload 11 dX13_lay_233 rfl ?_
      refine EV.iload 8 dX13_lay_235 rfl ?_
      refine EV.aload_n 0 dX13_lay_237 rfl rfl ?_
      obtain ⟨v44, gv44, h⟩ := px_bs h
      refine ev_gR dX13_lay_238 flRX13_9 gv44 ?_
      refine EV.iload 11 dX13_lay_241 rfl ?_
      obtain ⟨v45, gv45, h⟩ := px_bs h
      refine ev_aI dX13_lay_243 gv45 ?_
      refine EV.imul dX13_lay_244 ?_
      obtain ⟨w46, gw46, h⟩ := px_bs h
      refine ev_sI dX13_lay_245 gw46 ?_
      refine EV.aload_n 0 dX13_lay_246 rfl rfl ?_
      obtain ⟨v47, gv47, h⟩ := px_bs h
      refine ev_gR dX13_lay_247 flRX13_21 gv47 ?_
      refine EV.iload 11 dX13_lay_250 rfl ?_
      refine EV.iload 9 dX13_lay_252 rfl ?_
      refine EV.aload_n 0 dX13_lay_254 rfl rfl ?_
      obtain ⟨v48, gv48, h⟩ := px_bs h
      refine ev_gR dX13_lay_255 flRX13_15 gv48 ?_
      refine EV.iload 11 dX13_lay_258 rfl ?_
      obtain ⟨v49, gv49, h⟩ := px_bs h
      refine ev_aI dX13_lay_260 gv49 ?_
      refine EV.imul dX13_lay_261 ?_
      obtain ⟨w50, gw50, h⟩ := px_bs h
      refine ev_sI dX13_lay_262 gw50 ?_
      refine EV.aload_n 0 dX13_lay_263 rfl rfl ?_
      obtain ⟨v51, gv51, h⟩ := px_bs h
      refine ev_gR dX13_lay_264 flRX13_24 gv51 ?_
      refine EV.iload 11 dX13_lay_267 rfl ?_
      refine EV.iload_n 1 dX13_lay_269 rfl rfl ?_
      refine EV.aload_n 0 dX13_lay_270 rfl rfl ?_
      obtain ⟨v52, gv52, h⟩ := px_bs h
      refine ev_gR dX13_lay_271 flRX13_9 gv52 ?_
      refine EV.iload 11 dX13_lay_274 rfl ?_
      obtain ⟨v53, gv53, h⟩ := px_bs h
      refine ev_aI dX13_lay_276 gv53 ?_
      refine EV.imul dX13_lay_277 ?_
      refine EV.iload 5 dX13_lay_278 rfl ?_
      obtain ⟨q54, gq54, h⟩ := px_bs h
      refine EV.callS (As := [.int (a1 * v53), .int a5]) (rest := [.int a11, .ref v51]) dX13_lay_280 kcX13_lay_83 rfl (Nat.le_of_ble_eq_true rfl) (Nat.le_of_ble_eq_true rfl) (eX13_up gq54) ?_
      refine EV.bipush (8) dX13_lay_283 (by decide) ?_
      obtain ⟨q55, gq55, h⟩ := px_bs h
      refine EV.callS (As := [.int q54.1, .int 8]) (rest := [.int a11, .ref v51]) dX13_lay_285 kcX13_lay_83 rfl (Nat.le_of_ble_eq_true rfl) (Nat.le_of_ble_eq_true rfl) (eX13_up gq55) ?_
      obtain ⟨w56, gw56, h⟩ := px_bs h
      refine ev_sI dX13_lay_288 gw56 ?_
      refine EV.aload_n 0 dX13_lay_289 rfl rfl ?_
      obtain ⟨v57, gv57, h⟩ := px_bs h
      refine ev_gR dX13_lay_290 flRX13_27 gv57 ?_
      refine EV.iload 11 dX13_lay_293 rfl ?_
      refine EV.iload_n 2 dX13_lay_295 rfl rfl ?_
      refine EV.aload_n 0 dX13_lay_296 rfl rfl ?_
      obtain ⟨v58, gv58, h⟩ := px_bs h
      refine ev_gR dX13_lay_297 flRX13_15 gv58 ?_
      refine EV.iload 11 dX13_lay_300 rfl ?_
      obtain ⟨v59, gv59, h⟩ := px_bs h
      refine ev_aI dX13_lay_302 gv59 ?_
      refine EV.imul dX13_lay_303 ?_
      refine EV.iload 6 dX13_lay_304 rfl ?_
      obtain ⟨q60, gq60, h⟩ := px_bs h
      refine EV.callS (As := [.int (a2 * v59), .int a6]) (rest := [.int a11, .ref v57]) dX13_lay_306 kcX13_lay_83 rfl (Nat.le_of_ble_eq_true rfl) (Nat.le_of_ble_eq_true rfl) (eX13_up gq60) ?_
      refine EV.bipush (8) dX13_lay_309 (by decide) ?_
      obtain ⟨q61, gq61, h⟩ := px_bs h
      refine EV.callS (As := [.int q60.1, .int 8]) (rest := [.int a11, .ref v57]) dX13_lay_311 kcX13_lay_83 rfl (Nat.le_of_ble_eq_true rfl) (Nat.le_of_ble_eq_true rfl) (eX13_up gq61) ?_
      obtain ⟨w62, gw62, h⟩ := px_bs h
      refine ev_sI dX13_lay_314 gw62 ?_
      refine EV.aload_n 0 dX13_lay_315 rfl rfl ?_
      obtain ⟨v63, gv63, h⟩ := px_bs h
      refine ev_gR dX13_lay_316 flRX13_30 gv63 ?_
      refine EV.iload 11 dX13_lay_319 rfl ?_
      refine EV.iload 10 dX13_lay_321 rfl ?_
      obtain ⟨w64, gw64, h⟩ := px_bs h
      refine ev_sI dX13_lay_323 gw64 ?_
      refine EV.iload 10 dX13_lay_324 rfl ?_
      refine EV.aload_n 0 dX13_lay_326 rfl rfl ?_
      obtain ⟨v65, gv65, h⟩ := px_bs h
      refine ev_gR dX13_lay_327 flRX13_18 gv65 ?_
      refine EV.iload 11 dX13_lay_330 rfl ?_
      obtain ⟨v66, gv66, h⟩ := px_bs h
      refine ev_aI dX13_lay_332 gv66 ?_
      refine EV.aload_n 0 dX13_lay_333 rfl rfl ?_
      obtain ⟨v67, gv67, h⟩ := px_bs h
      refine ev_gR dX13_lay_334 flRX13_21 gv67 ?_
      refine EV.iload 11 dX13_lay_337 rfl ?_
      obtain ⟨v68, gv68, h⟩ := px_bs h
      refine ev_aI dX13_lay_339 gv68 ?_
      refine EV.imul dX13_lay_340 ?_
      refine EV.iadd dX13_lay_341 ?_
      refine EV.istore [(10, .int (a10 + (v66 * v68))), (0, .ref a0), (1, .int a1), (2, .int a2), (3, .int a3), (4, .int a4), (5, .int a5), (6, .int a6), (7, .int a7), (8, .int a8), (9, .int a9), (11, .int a11)] dX13_lay_342 (by decide) rfl ?_
      refine EV.iinc 11 (a11 + 1) [(11, .int (a11 + 1)), (10, .int (a10 + (v66 * v68))), (0, .ref a0), (1, .int a1), (2, .int a2), (3, .int a3), (4, .int a4), (5, .int a5), (6, .int a6), (7, .int a7), (8, .int a8), (9, .int a9)] dX13_lay_344 rfl rfl (by decide) rfl ?_
      refine EV.goto 185 dX13_lay_347 (by decide) ?_
      refine EV.sub [2, 3, 4, 5, 6, 7, 8, 9, 10, 11, 1, 0] rfl ?_
      exact ih _ _ _ _ _ _ _ _ _ _ _ _ _ _ h
set_option maxRecDepth 100000 in
set_option maxHeartbeats 4000000 in
theorem eX13_lay_141 {X : px_X}  : ∀ (a0 : Nat) (a1 : Int32) (a2 : Int32) (a3 : Int32) (a4 : Int32) (a5 : Int32) (a6 : Int32) (a7 : Int32) (a8 : Int32) (a9 : Int32) (w : px_W) (q : Int32 × px_W), fX13_lay_141 X  a0 a1 a2 a3 a4 a5 a6 a7 a8 a9 w = some q → EV X mX13_lay 141 [(0, .ref a0), (1, .int a1), (2, .int a2), (3, .int a3), (4, .int a4), (5, .int a5), (6, .int a6), (7, .int a7), (8, .int a8), (9, .int a9)] [] w (some (.int q.1)) q.2 := by
  intro a0 a1 a2 a3 a4 a5 a6 a7 a8 a9 w q h
  unfold fX13_lay_141 at h
  refine EV.iload 7 dX13_lay_141 rfl ?_
  refine EV.sipush (192) dX13_lay_143 (by decide) ?_
  refine EV.icmp_le 152 dX13_lay_146 (by decide) (fun c69 => ?_) (fun c69 => ?_)
  · rw [if_pos c69] at h
    refine EV.aload_n 0 dX13_lay_152 rfl rfl ?_
    refine EV.iload_n 1 dX13_lay_153 rfl rfl ?_
    obtain ⟨w70, gw70, h⟩ := px_bs h
    refine ev_pV dX13_lay_154 flRX13_87 rfl rfl rfl rfl gw70 ?_
    refine EV.aload_n 0 dX13_lay_157 rfl rfl ?_
    refine EV.iload_n 2 dX13_lay_158 rfl rfl ?_
    obtain ⟨w71, gw71, h⟩ := px_bs h
    refine ev_pV dX13_lay_159 flRX13_91 rfl rfl rfl rfl gw71 ?_
    refine EV.aload_n 0 dX13_lay_162 rfl rfl ?_
    refine EV.iload_n 3 dX13_lay_163 rfl rfl ?_
    obtain ⟨w72, gw72, h⟩ := px_bs h
    refine ev_pV dX13_lay_164 flRX13_94 rfl rfl rfl rfl gw72 ?_
    refine EV.aload_n 0 dX13_lay_167 rfl rfl ?_
    refine EV.iload 8 dX13_lay_168 rfl ?_
    obtain ⟨w73, gw73, h⟩ := px_bs h
    refine ev_pV dX13_lay_170 flRX13_97 rfl rfl rfl rfl gw73 ?_
    refine EV.aload_n 0 dX13_lay_173 rfl rfl ?_
    refine EV.iload 9 dX13_lay_174 rfl ?_
    obtain ⟨w74, gw74, h⟩ := px_bs h
    refine ev_pV dX13_lay_176 flRX13_100 rfl rfl rfl rfl gw74 ?_
    refine EV.iconst (0) dX13_lay_179 (by decide) ?_
    refine EV.istore [(10, .int 0), (0, .ref a0), (1, .int a1), (2, .int a2), (3, .int a3), (4, .int a4), (5, .int a5), (6, .int a6), (7, .int a7), (8, .int a8), (9, .int a9)] dX13_lay_180 (by decide) rfl ?_
    refine EV.iconst (0) dX13_lay_182 (by decide) ?_
    refine EV.istore [(11, .int 0), (10, .int 0), (0, .ref a0), (1, .int a1), (2, .int a2), (3, .int a3), (4, .int a4), (5, .int a5), (6, .int a6), (7, .int a7), (8, .int a8), (9, .int a9)] dX13_lay_183 (by decide) rfl ?_
    refine EV.sub [2, 3, 4, 5, 6, 7, 8, 9, 10, 11, 1, 0] rfl ?_
    exact eX13_lay_185  FU _ _ _ _ _ _ _ _ _ _ _ _ _ _ h
  · rw [if_neg c69] at h
    refine EV.iload 7 dX13_lay_149 rfl ?_
    cases h
    exact EV.reti dX13_lay_151 rfl
set_option maxRecDepth 100000 in
set_option maxHeartbeats 4000000 in
theorem eX13_lay_93 {X : px_X}  : ∀ (m : Nat) (a0 : Nat) (a1 : Int32) (a2 : Int32) (a3 : Int32) (a4 : Int32) (a5 : Int32) (a6 : Int32) (a7 : Int32) (a8 : Int32) (a9 : Int32) (a10 : Int32) (w : px_W) (q : Int32 × px_W), fX13_lay_93 X  m a0 a1 a2 a3 a4 a5 a6 a7 a8 a9 a10 w = some q → EV X mX13_lay 93 [(0, .ref a0), (1, .int a1), (2, .int a2), (3, .int a3), (4, .int a4), (5, .int a5), (6, .int a6), (7, .int a7), (8, .int a8), (9, .int a9), (10, .int a10)] [] w (some (.int q.1)) q.2 := by
  intro m
  induction m with
  | zero => intro a0 a1 a2 a3 a4 a5 a6 a7 a8 a9 a10 w q h; cases h
  | succ m ih =>
    intro a0 a1 a2 a3 a4 a5 a6 a7 a8 a9 a10 w q h
    rw [fX13_lay_93.eq_2] at h
    refine EV.iload 10 dX13_lay_93 rfl ?_
    refine EV.iload_n 3 dX13_lay_95 rfl rfl ?_
    refine EV.icmp_ge 141 dX13_lay_96 (by decide) (fun c75 => ?_) (fun c75 => ?_)
    · rw [if_pos c75] at h
      refine EV.sub [0, 1, 2, 3, 4, 5, 6, 7, 8, 9] rfl ?_
      exact eX13_lay_141  _ _ _ _ _ _ _ _ _ _ _ _ h
    · rw [if_neg c75] at h
      refine EV.iload 7 dX13_lay_99 rfl ?_
      refine EV.iload 8 dX13_lay_101 rfl ?_
      refine EV.iload 9 dX13_lay_103 rfl ?_
      refine EV.imul dX13_lay_105 ?_
      refine EV.iconst (1) dX13_lay_106 (by decide) ?_
      refine EV.iload 4 dX13_lay_107 rfl ?_
      refine EV.iconst (2) dX13_lay_109 (by decide) ?_
      refine EV.iload 10 dX13_lay_110 rfl ?_
      refine EV.imul dX13_lay_112 ?_
      refine EV.ishr dX13_lay_113 ?_
      refine EV.iconst (1) dX13_lay_114 (by decide) ?_
      refine EV.iand dX13_lay_115 ?_
      refine EV.iadd dX13_lay_116 ?_
      refine EV.imul dX13_lay_117 ?_
      refine EV.iconst (1) dX13_lay_118 (by decide) ?_
      refine EV.iload 4 dX13_lay_119 rfl ?_
      refine EV.iconst (2) dX13_lay_121 (by decide) ?_
      refine EV.iload 10 dX13_lay_122 rfl ?_
      refine EV.imul dX13_lay_124 ?_
      refine EV.iconst (1) dX13_lay_125 (by decide) ?_
      refine EV.iadd dX13_lay_126 ?_
      refine EV.ishr dX13_lay_127 ?_
      refine EV.iconst (1) dX13_lay_128 (by decide) ?_
      refine EV.iand dX13_lay_129 ?_
      refine EV.iadd dX13_lay_130 ?_
      refine EV.imul dX13_lay_131 ?_
      refine EV.iadd dX13_lay_132 ?_
      refine EV.istore [(7, .int (a7 + (((a8 * a9) * (1 + ((a4 >>> ((2 * a10) &&& 31)) &&& 1))) * (1 + ((a4 >>> (((2 * a10) + 1) &&& 31)) &&& 1))))), (0, .ref a0), (1, .int a1), (2, .int a2), (3, .int a3), (4, .int a4), (5, .int a5), (6, .int a6), (8, .int a8), (9, .int a9), (10, .int a10)] dX13_lay_133 (by decide) rfl ?_
      refine EV.iinc 10 (a10 + 1) [(10, .int (a10 + 1)), (7, .int (a7 + (((a8 * a9) * (1 + ((a4 >>> ((2 * a10) &&& 31)) &&& 1))) * (1 + ((a4 >>> (((2 * a10) + 1) &&& 31)) &&& 1))))), (0, .ref a0), (1, .int a1), (2, .int a2), (3, .int a3), (4, .int a4), (5, .int a5), (6, .int a6), (8, .int a8), (9, .int a9)] dX13_lay_135 rfl rfl (by decide) rfl ?_
      refine EV.goto 93 dX13_lay_138 (by decide) ?_
      refine EV.sub [2, 3, 4, 5, 6, 7, 8, 1, 9, 10, 0] rfl ?_
      exact ih _ _ _ _ _ _ _ _ _ _ _ _ _ h
set_option maxRecDepth 100000 in
set_option maxHeartbeats 4000000 in
theorem eX13_lay_65 {X : px_X}  : ∀ (a0 : Nat) (a1 : Int32) (a2 : Int32) (a3 : Int32) (a4 : Int32) (a5 : Int32) (a6 : Int32) (w : px_W) (q : Int32 × px_W), fX13_lay_65 X  a0 a1 a2 a3 a4 a5 a6 w = some q → EV X mX13_lay 65 [(0, .ref a0), (1, .int a1), (2, .int a2), (3, .int a3), (4, .int a4), (5, .int a5), (6, .int a6)] [] w (some (.int q.1)) q.2 := by
  intro a0 a1 a2 a3 a4 a5 a6 w q h
  unfold fX13_lay_65 at h
  refine EV.iconst (0) dX13_lay_65 (by decide) ?_
  refine EV.istore [(7, .int 0), (0, .ref a0), (1, .int a1), (2, .int a2), (3, .int a3), (4, .int a4), (5, .int a5), (6, .int a6)] dX13_lay_66 (by decide) rfl ?_
  refine EV.iload_n 2 dX13_lay_68 rfl rfl ?_
  refine EV.bipush (8) dX13_lay_69 (by decide) ?_
  refine EV.iload 6 dX13_lay_71 rfl ?_
  refine EV.imul dX13_lay_73 ?_
  obtain ⟨q76, gq76, h⟩ := px_bs h
  refine EV.callS (As := [.int a1, .int (8 * a5)]) (rest := []) dX13_lay_74 kcX13_lay_83 rfl (Nat.le_of_ble_eq_true rfl) (Nat.le_of_ble_eq_true rfl) (eX13_up gq76) ?_
  refine EV.istore [(8, .int q76.1), (7, .int 0), (0, .ref a0), (1, .int a1), (2, .int a2), (3, .int a3), (4, .int a4), (5, .int a5), (6, .int a6)] dX13_lay_77 (by decide) rfl ?_
  refine EV.iload_n 4 dX13_lay_79 rfl rfl ?_
  refine EV.bipush (8) dX13_lay_80 (by decide) ?_
  refine EV.iload 8 dX13_lay_82 rfl ?_
  refine EV.imul dX13_lay_84 ?_
  obtain ⟨q77, gq77, h⟩ := px_bs h
  refine EV.callS (As := [.int a2, .int (8 * a6)]) (rest := []) dX13_lay_85 kcX13_lay_83 rfl (Nat.le_of_ble_eq_true rfl) (Nat.le_of_ble_eq_true rfl) (eX13_up gq77) ?_
  refine EV.istore [(9, .int q77.1), (8, .int q76.1), (7, .int 0), (0, .ref a0), (1, .int a1), (2, .int a2), (3, .int a3), (4, .int a4), (5, .int a5), (6, .int a6)] dX13_lay_88 (by decide) rfl ?_
  refine EV.iconst (0) dX13_lay_90 (by decide) ?_
  refine EV.istore [(10, .int 0), (9, .int q77.1), (8, .int q76.1), (7, .int 0), (0, .ref a0), (1, .int a1), (2, .int a2), (3, .int a3), (4, .int a4), (5, .int a5), (6, .int a6)] dX13_lay_91 (by decide) rfl ?_
  refine EV.sub [4, 5, 6, 7, 8, 9, 10, 3, 2, 1, 0] rfl ?_
  exact eX13_lay_93  FU _ _ _ _ _ _ _ _ _ _ _ _ _ h
set_option maxRecDepth 100000 in
set_option maxHeartbeats 4000000 in
theorem eX13_lay_57 {X : px_X} {k9 : Nat → Int32 → Int32 → Int32 → Int32 → Int32 → Int32 → Int32 → px_W → Option (Int32 × px_W)} (hk9 : ∀ (a0 : Nat) (a1 : Int32) (a2 : Int32) (a3 : Int32) (a4 : Int32) (a5 : Int32) (a6 : Int32) (a7 : Int32) (w : px_W) (q : Int32 × px_W), k9 a0 a1 a2 a3 a4 a5 a6 a7 w = some q → EV X mX13_lay 9 [(0, .ref a0), (1, .int a1), (2, .int a2), (3, .int a3), (4, .int a4), (5, .int a5), (6, .int a6), (7, .int a7)] [] w (some (.int q.1)) q.2) : ∀ (a0 : Nat) (a1 : Int32) (a2 : Int32) (a3 : Int32) (a4 : Int32) (a5 : Int32) (a7 : Int32) (s0 : Int32) (w : px_W) (q : Int32 × px_W), fX13_lay_57 X k9 a0 a1 a2 a3 a4 a5 a7 s0 w = some q → EV X mX13_lay 57 [(0, .ref a0), (1, .int a1), (2, .int a2), (3, .int a3), (4, .int a4), (5, .int a5), (7, .int a7)] [.int s0] w (some (.int q.1)) q.2 := by
  intro a0 a1 a2 a3 a4 a5 a7 s0 w q h
  unfold fX13_lay_57 at h
  refine EV.istore [(6, .int s0), (0, .ref a0), (1, .int a1), (2, .int a2), (3, .int a3), (4, .int a4), (5, .int a5), (7, .int a7)] dX13_lay_57 (by decide) rfl ?_
  refine EV.iinc 7 (a7 + 1) [(7, .int (a7 + 1)), (6, .int s0), (0, .ref a0), (1, .int a1), (2, .int a2), (3, .int a3), (4, .int a4), (5, .int a5)] dX13_lay_59 rfl rfl (by decide) rfl ?_
  refine EV.goto 9 dX13_lay_62 (by decide) ?_
  refine EV.sub [2, 3, 4, 5, 6, 7, 1, 0] rfl ?_
  exact hk9 _ _ _ _ _ _ _ _ _ _ h
set_option maxRecDepth 100000 in
set_option maxHeartbeats 4000000 in
theorem eX13_lay_34 {X : px_X} {k9 : Nat → Int32 → Int32 → Int32 → Int32 → Int32 → Int32 → Int32 → px_W → Option (Int32 × px_W)} (hk9 : ∀ (a0 : Nat) (a1 : Int32) (a2 : Int32) (a3 : Int32) (a4 : Int32) (a5 : Int32) (a6 : Int32) (a7 : Int32) (w : px_W) (q : Int32 × px_W), k9 a0 a1 a2 a3 a4 a5 a6 a7 w = some q → EV X mX13_lay 9 [(0, .ref a0), (1, .int a1), (2, .int a2), (3, .int a3), (4, .int a4), (5, .int a5), (6, .int a6), (7, .int a7)] [] w (some (.int q.1)) q.2) : ∀ (a0 : Nat) (a1 : Int32) (a2 : Int32) (a3 : Int32) (a4 : Int32) (a6 : Int32) (a7 : Int32) (s0 : Int32) (w : px_W) (q : Int32 × px_W), fX13_lay_34 X k9 a0 a1 a2 a3 a4 a6 a7 s0 w = some q → EV X mX13_lay 34 [(0, .ref a0), (1, .int a1), (2, .int a2), (3, .int a3), (4, .int a4), (6, .int a6), (7, .int a7)] [.int s0] w (some (.int q.1)) q.2 := by
  intro a0 a1 a2 a3 a4 a6 a7 s0 w q h
  unfold fX13_lay_34 at h
  refine EV.istore [(5, .int s0), (0, .ref a0), (1, .int a1), (2, .int a2), (3, .int a3), (4, .int a4), (6, .int a6), (7, .int a7)] dX13_lay_34 (by decide) rfl ?_
  refine EV.iload 5 dX13_lay_36 rfl ?_
  refine EV.iconst (2) dX13_lay_38 (by decide) ?_
  refine EV.iload 7 dX13_lay_39 rfl ?_
  refine EV.imul dX13_lay_41 ?_
  refine EV.iconst (1) dX13_lay_42 (by decide) ?_
  refine EV.iadd dX13_lay_43 ?_
  refine EV.ishr dX13_lay_44 ?_
  refine EV.iconst (1) dX13_lay_45 (by decide) ?_
  refine EV.iand dX13_lay_46 ?_
  refine EV.iconst (1) dX13_lay_47 (by decide) ?_
  refine EV.icmp_ne 55 dX13_lay_48 (by decide) (fun c78 => ?_) (fun c78 => ?_)
  · rw [if_neg c78] at h
    refine EV.iload 6 dX13_lay_55 rfl ?_
    refine EV.sub [1, 2, 3, 4, 5, 0, 7] rfl ?_
    exact eX13_lay_57 hk9 _ _ _ _ _ _ _ _ _ _ h
  · rw [if_pos c78] at h
    refine EV.iconst (2) dX13_lay_51 (by decide) ?_
    refine EV.goto 57 dX13_lay_52 (by decide) ?_
    refine EV.sub [1, 2, 3, 4, 5, 0, 7] rfl ?_
    exact eX13_lay_57 hk9 _ _ _ _ _ _ _ _ _ _ h
set_option maxRecDepth 100000 in
set_option maxHeartbeats 4000000 in
theorem eX13_lay_9 {X : px_X}  : ∀ (m : Nat) (a0 : Nat) (a1 : Int32) (a2 : Int32) (a3 : Int32) (a4 : Int32) (a5 : Int32) (a6 : Int32) (a7 : Int32) (w : px_W) (q : Int32 × px_W), fX13_lay_9 X  m a0 a1 a2 a3 a4 a5 a6 a7 w = some q → EV X mX13_lay 9 [(0, .ref a0), (1, .int a1), (2, .int a2), (3, .int a3), (4, .int a4), (5, .int a5), (6, .int a6), (7, .int a7)] [] w (some (.int q.1)) q.2 := by
  intro m
  induction m with
  | zero => intro a0 a1 a2 a3 a4 a5 a6 a7 w q h; cases h
  | succ m ih =>
    intro a0 a1 a2 a3 a4 a5 a6 a7 w q h
    rw [fX13_lay_9.eq_2] at h
    refine EV.iload 7 dX13_lay_9 rfl ?_
    refine EV.iload_n 3 dX13_lay_11 rfl rfl ?_
    refine EV.icmp_ge 65 dX13_lay_12 (by decide) (fun c79 => ?_) (fun c79 => ?_)
    · rw [if_pos c79] at h
      refine EV.sub [0, 1, 2, 3, 4, 5, 6] rfl ?_
      exact eX13_lay_65  _ _ _ _ _ _ _ _ _ h
    · rw [if_neg c79] at h
      refine EV.iload 4 dX13_lay_15 rfl ?_
      refine EV.iconst (2) dX13_lay_17 (by decide) ?_
      refine EV.iload 7 dX13_lay_18 rfl ?_
      refine EV.imul dX13_lay_20 ?_
      refine EV.ishr dX13_lay_21 ?_
      refine EV.iconst (1) dX13_lay_22 (by decide) ?_
      refine EV.iand dX13_lay_23 ?_
      refine EV.iconst (1) dX13_lay_24 (by decide) ?_
      refine EV.icmp_ne 32 dX13_lay_25 (by decide) (fun c80 => ?_) (fun c80 => ?_)
      · rw [if_neg c80] at h
        refine EV.iload 5 dX13_lay_32 rfl ?_
        refine EV.sub [0, 1, 2, 3, 4, 6, 7] rfl ?_
        exact eX13_lay_34 ih _ _ _ _ _ _ _ _ _ _ h
      · rw [if_pos c80] at h
        refine EV.iconst (2) dX13_lay_28 (by decide) ?_
        refine EV.goto 34 dX13_lay_29 (by decide) ?_
        refine EV.sub [0, 1, 2, 3, 4, 6, 7] rfl ?_
        exact eX13_lay_34 ih _ _ _ _ _ _ _ _ _ _ h
set_option maxRecDepth 100000 in
set_option maxHeartbeats 4000000 in
theorem eX13_lay {X : px_X} {w : px_W} {a0 : Nat} {a1 : Int32} {a2 : Int32} {a3 : Int32} {a4 : Int32} {q : Int32 × px_W} (h : fX13_lay X w a0 a1 a2 a3 a4 = some q) : EV X mX13_lay 0 (lv_args 0 [.ref a0, .int a1, .int a2, .int a3, .int a4]) [] w (some (.int q.1)) q.2 := by
  unfold fX13_lay at h
  show EV X mX13_lay 0 [(0, .ref a0), (1, .int a1), (2, .int a2), (3, .int a3), (4, .int a4)] [] w (some (.int q.1)) q.2
  refine EV.iconst (1) dX13_lay_0 (by decide) ?_
  refine EV.istore [(5, .int 1), (0, .ref a0), (1, .int a1), (2, .int a2), (3, .int a3), (4, .int a4)] dX13_lay_1 (by decide) rfl ?_
  refine EV.iconst (1) dX13_lay_3 (by decide) ?_
  refine EV.istore [(6, .int 1), (5, .int 1), (0, .ref a0), (1, .int a1), (2, .int a2), (3, .int a3), (4, .int a4)] dX13_lay_4 (by decide) rfl ?_
  refine EV.iconst (0) dX13_lay_6 (by decide) ?_
  refine EV.istore [(7, .int 0), (6, .int 1), (5, .int 1), (0, .ref a0), (1, .int a1), (2, .int a2), (3, .int a3), (4, .int a4)] dX13_lay_7 (by decide) rfl ?_
  refine EV.sub [3, 4, 5, 6, 7, 2, 1, 0] rfl ?_
  exact eX13_lay_9  FU _ _ _ _ _ _ _ _ _ _ h
/-! WavePicturesModel$Scans.base()V -/
theorem dX13_base_0 : decode cX13_base 0 = .ok (.iconst 0, 1) := by decide +kernel
theorem dX13_base_1 : decode cX13_base 1 = .ok (.istore_n 1, 1) := by decide +kernel
theorem dX13_base_2 : decode cX13_base 2 = .ok (.iload_n 1, 1) := by decide +kernel
theorem dX13_base_3 : decode cX13_base 3 = .ok (.sipush 12288, 3) := by decide +kernel
theorem dX13_base_6 : decode cX13_base 6 = .ok (.if_icmp .ge 16, 3) := by decide +kernel
theorem dX13_base_9 : decode cX13_base 9 = .ok (.aload_n 0, 1) := by decide +kernel
theorem dX13_base_10 : decode cX13_base 10 = .ok (.getfield 33, 3) := by decide +kernel
theorem dX13_base_13 : decode cX13_base 13 = .ok (.iload_n 1, 1) := by decide +kernel
theorem dX13_base_14 : decode cX13_base 14 = .ok (.iconst 0, 1) := by decide +kernel
theorem dX13_base_15 : decode cX13_base 15 = .ok (.sastore, 1) := by decide +kernel
theorem dX13_base_16 : decode cX13_base 16 = .ok (.iinc 1 1, 3) := by decide +kernel
theorem dX13_base_19 : decode cX13_base 19 = .ok (.goto (-17), 3) := by decide +kernel
theorem dX13_base_22 : decode cX13_base 22 = .ok (.aload_n 0, 1) := by decide +kernel
theorem dX13_base_23 : decode cX13_base 23 = .ok (.iconst 1, 1) := by decide +kernel
theorem dX13_base_24 : decode cX13_base 24 = .ok (.putfield 103, 3) := by decide +kernel
theorem dX13_base_27 : decode cX13_base 27 = .ok (.aload_n 0, 1) := by decide +kernel
theorem dX13_base_28 : decode cX13_base 28 = .ok (.iconst 0, 1) := by decide +kernel
theorem dX13_base_29 : decode cX13_base 29 = .ok (.putfield 106, 3) := by decide +kernel
theorem dX13_base_32 : decode cX13_base 32 = .ok (.aload_n 0, 1) := by decide +kernel
theorem dX13_base_33 : decode cX13_base 33 = .ok (.bipush 63, 2) := by decide +kernel
theorem dX13_base_35 : decode cX13_base 35 = .ok (.putfield 109, 3) := by decide +kernel
theorem dX13_base_38 : decode cX13_base 38 = .ok (.aload_n 0, 1) := by decide +kernel
theorem dX13_base_39 : decode cX13_base 39 = .ok (.iconst 0, 1) := by decide +kernel
theorem dX13_base_40 : decode cX13_base 40 = .ok (.putfield 112, 3) := by decide +kernel
theorem dX13_base_43 : decode cX13_base 43 = .ok (.aload_n 0, 1) := by decide +kernel
theorem dX13_base_44 : decode cX13_base 44 = .ok (.iconst 0, 1) := by decide +kernel
theorem dX13_base_45 : decode cX13_base 45 = .ok (.putfield 115, 3) := by decide +kernel
theorem dX13_base_48 : decode cX13_base 48 = .ok (.aload_n 0, 1) := by decide +kernel
theorem dX13_base_49 : decode cX13_base 49 = .ok (.iconst 0, 1) := by decide +kernel
theorem dX13_base_50 : decode cX13_base 50 = .ok (.putfield 118, 3) := by decide +kernel
theorem dX13_base_53 : decode cX13_base 53 = .ok (.iconst 0, 1) := by decide +kernel
theorem dX13_base_54 : decode cX13_base 54 = .ok (.istore_n 1, 1) := by decide +kernel
theorem dX13_base_55 : decode cX13_base 55 = .ok (.iload_n 1, 1) := by decide +kernel
theorem dX13_base_56 : decode cX13_base 56 = .ok (.iconst 4, 1) := by decide +kernel
theorem dX13_base_57 : decode cX13_base 57 = .ok (.if_icmp .ge 23, 3) := by decide +kernel
theorem dX13_base_60 : decode cX13_base 60 = .ok (.aload_n 0, 1) := by decide +kernel
theorem dX13_base_61 : decode cX13_base 61 = .ok (.getfield 55, 3) := by decide +kernel
theorem dX13_base_64 : decode cX13_base 64 = .ok (.iload_n 1, 1) := by decide +kernel
theorem dX13_base_65 : decode cX13_base 65 = .ok (.iconst 0, 1) := by decide +kernel
theorem dX13_base_66 : decode cX13_base 66 = .ok (.iastore, 1) := by decide +kernel
theorem dX13_base_67 : decode cX13_base 67 = .ok (.aload_n 0, 1) := by decide +kernel
theorem dX13_base_68 : decode cX13_base 68 = .ok (.getfield 58, 3) := by decide +kernel
theorem dX13_base_71 : decode cX13_base 71 = .ok (.iload_n 1, 1) := by decide +kernel
theorem dX13_base_72 : decode cX13_base 72 = .ok (.iconst 4, 1) := by decide +kernel
theorem dX13_base_73 : decode cX13_base 73 = .ok (.iastore, 1) := by decide +kernel
theorem dX13_base_74 : decode cX13_base 74 = .ok (.iinc 1 1, 3) := by decide +kernel
theorem dX13_base_77 : decode cX13_base 77 = .ok (.goto (-22), 3) := by decide +kernel
theorem dX13_base_80 : decode cX13_base 80 = .ok (.return_, 1) := by decide +kernel
theorem flRX13_33 : px_f RX13 33 13 12 := ⟨_, rfl, by decide, Or.inl (tb7 (List.mem_of_getElem? (i := 21) rfl))⟩
theorem flRX13_55 : px_f RX13 55 13 20 := ⟨_, rfl, by decide, Or.inl (tb7 (List.mem_of_getElem? (i := 33) rfl))⟩
theorem flRX13_58 : px_f RX13 58 13 21 := ⟨_, rfl, by decide, Or.inl (tb7 (List.mem_of_getElem? (i := 34) rfl))⟩
theorem flRX13_103 : px_f RX13 103 13 22 := ⟨_, rfl, by decide, Or.inl (tb7 (List.mem_of_getElem? (i := 35) rfl))⟩
theorem flRX13_106 : px_f RX13 106 13 23 := ⟨_, rfl, by decide, Or.inl (tb7 (List.mem_of_getElem? (i := 36) rfl))⟩
theorem flRX13_109 : px_f RX13 109 13 24 := ⟨_, rfl, by decide, Or.inl (tb7 (List.mem_of_getElem? (i := 37) rfl))⟩
theorem flRX13_112 : px_f RX13 112 13 25 := ⟨_, rfl, by decide, Or.inl (tb7 (List.mem_of_getElem? (i := 38) rfl))⟩
theorem flRX13_115 : px_f RX13 115 13 26 := ⟨_, rfl, by decide, Or.inl (tb7 (List.mem_of_getElem? (i := 39) rfl))⟩
theorem flRX13_118 : px_f RX13 118 13 27 := ⟨_, rfl, by decide, Or.inl (tb7 (List.mem_of_getElem? (i := 40) rfl))⟩
set_option maxRecDepth 100000 in
set_option maxHeartbeats 4000000 in
theorem eX13_base_55 {X : px_X}  : ∀ (m : Nat) (a0 : Nat) (a1 : Int32) (w : px_W) (q : px_W), fX13_base_55 X  m a0 a1 w = some q → EV X mX13_base 55 [(0, .ref a0), (1, .int a1)] [] w none q := by
  intro m
  induction m with
  | zero => intro a0 a1 w q h; cases h
  | succ m ih =>
    intro a0 a1 w q h
    rw [fX13_base_55.eq_2] at h
    refine EV.iload_n 1 dX13_base_55 rfl rfl ?_
    refine EV.iconst (4) dX13_base_56 (by decide) ?_
    refine EV.icmp_ge 80 dX13_base_57 (by decide) (fun c13 => ?_) (fun c13 => ?_)
    · rw [if_pos c13] at h
      cases h
      exact EV.ret0 dX13_base_80 trivial
    · rw [if_neg c13] at h
      refine EV.aload_n 0 dX13_base_60 rfl rfl ?_
      obtain ⟨v14, gv14, h⟩ := px_bs h
      refine ev_gR dX13_base_61 flRX13_55 gv14 ?_
      refine EV.iload_n 1 dX13_base_64 rfl rfl ?_
      refine EV.iconst (0) dX13_base_65 (by decide) ?_
      obtain ⟨w15, gw15, h⟩ := px_bs h
      refine ev_sI dX13_base_66 gw15 ?_
      refine EV.aload_n 0 dX13_base_67 rfl rfl ?_
      obtain ⟨v16, gv16, h⟩ := px_bs h
      refine ev_gR dX13_base_68 flRX13_58 gv16 ?_
      refine EV.iload_n 1 dX13_base_71 rfl rfl ?_
      refine EV.iconst (4) dX13_base_72 (by decide) ?_
      obtain ⟨w17, gw17, h⟩ := px_bs h
      refine ev_sI dX13_base_73 gw17 ?_
      refine EV.iinc 1 (a1 + 1) [(1, .int (a1 + 1)), (0, .ref a0)] dX13_base_74 rfl rfl (by decide) rfl ?_
      refine EV.goto 55 dX13_base_77 (by decide) ?_
      refine EV.sub [1, 0] rfl ?_
      exact ih _ _ _ _ h
set_option maxRecDepth 100000 in
set_option maxHeartbeats 4000000 in
theorem eX13_base_22 {X : px_X}  : ∀ (a0 : Nat) (w : px_W) (q : px_W), fX13_base_22 X  a0 w = some q → EV X mX13_base 22 [(0, .ref a0)] [] w none q := by
  intro a0 w q h
  unfold fX13_base_22 at h
  refine EV.aload_n 0 dX13_base_22 rfl rfl ?_
  refine EV.iconst (1) dX13_base_23 (by decide) ?_
  obtain ⟨w18, gw18, h⟩ := px_bs h
  refine ev_pV dX13_base_24 flRX13_103 rfl rfl rfl rfl gw18 ?_
  refine EV.aload_n 0 dX13_base_27 rfl rfl ?_
  refine EV.iconst (0) dX13_base_28 (by decide) ?_
  obtain ⟨w19, gw19, h⟩ := px_bs h
  refine ev_pV dX13_base_29 flRX13_106 rfl rfl rfl rfl gw19 ?_
  refine EV.aload_n 0 dX13_base_32 rfl rfl ?_
  refine EV.bipush (63) dX13_base_33 (by decide) ?_
  obtain ⟨w20, gw20, h⟩ := px_bs h
  refine ev_pV dX13_base_35 flRX13_109 rfl rfl rfl rfl gw20 ?_
  refine EV.aload_n 0 dX13_base_38 rfl rfl ?_
  refine EV.iconst (0) dX13_base_39 (by decide) ?_
  obtain ⟨w21, gw21, h⟩ := px_bs h
  refine ev_pV dX13_base_40 flRX13_112 rfl rfl rfl rfl gw21 ?_
  refine EV.aload_n 0 dX13_base_43 rfl rfl ?_
  refine EV.iconst (0) dX13_base_44 (by decide) ?_
  obtain ⟨w22, gw22, h⟩ := px_bs h
  refine ev_pV dX13_base_45 flRX13_115 rfl rfl rfl rfl gw22 ?_
  refine EV.aload_n 0 dX13_base_48 rfl rfl ?_
  refine EV.iconst (0) dX13_base_49 (by decide) ?_
  obtain ⟨w23, gw23, h⟩ := px_bs h
  refine ev_pV dX13_base_50 flRX13_118 rfl rfl rfl rfl gw23 ?_
  refine EV.iconst (0) dX13_base_53 (by decide) ?_
  refine EV.istore_n [(1, .int 0), (0, .ref a0)] dX13_base_54 rfl (by decide) rfl ?_
  refine EV.sub [1, 0] rfl ?_
  exact eX13_base_55  FU _ _ _ _ h
set_option maxRecDepth 100000 in
set_option maxHeartbeats 4000000 in
theorem eX13_base_2 {X : px_X}  : ∀ (m : Nat) (a0 : Nat) (a1 : Int32) (w : px_W) (q : px_W), fX13_base_2 X  m a0 a1 w = some q → EV X mX13_base 2 [(0, .ref a0), (1, .int a1)] [] w none q := by
  intro m
  induction m with
  | zero => intro a0 a1 w q h; cases h
  | succ m ih =>
    intro a0 a1 w q h
    rw [fX13_base_2.eq_2] at h
    refine EV.iload_n 1 dX13_base_2 rfl rfl ?_
    refine EV.sipush (12288) dX13_base_3 (by decide) ?_
    refine EV.icmp_ge 22 dX13_base_6 (by decide) (fun c24 => ?_) (fun c24 => ?_)
    · rw [if_pos c24] at h
      refine EV.sub [0] rfl ?_
      exact eX13_base_22  _ _ _ h
    · rw [if_neg c24] at h
      refine EV.aload_n 0 dX13_base_9 rfl rfl ?_
      obtain ⟨v25, gv25, h⟩ := px_bs h
      refine ev_gR dX13_base_10 flRX13_33 gv25 ?_
      refine EV.iload_n 1 dX13_base_13 rfl rfl ?_
      refine EV.iconst (0) dX13_base_14 (by decide) ?_
      obtain ⟨w26, gw26, h⟩ := px_bs h
      refine ev_sS dX13_base_15 gw26 ?_
      refine EV.iinc 1 (a1 + 1) [(1, .int (a1 + 1)), (0, .ref a0)] dX13_base_16 rfl rfl (by decide) rfl ?_
      refine EV.goto 2 dX13_base_19 (by decide) ?_
      refine EV.sub [1, 0] rfl ?_
      exact ih _ _ _ _ h
set_option maxRecDepth 100000 in
set_option maxHeartbeats 4000000 in
theorem eX13_base {X : px_X} {w : px_W} {a0 : Nat} {q : px_W} (h : fX13_base X w a0 = some q) : EV X mX13_base 0 (lv_args 0 [.ref a0]) [] w none q := by
  unfold fX13_base at h
  show EV X mX13_base 0 [(0, .ref a0)] [] w none q
  refine EV.iconst (0) dX13_base_0 (by decide) ?_
  refine EV.istore_n [(1, .int 0), (0, .ref a0)] dX13_base_1 rfl (by decide) rfl ?_
  refine EV.sub [1, 0] rfl ?_
  exact eX13_base_2  FU _ _ _ _ h
/-! WavePicturesModel$Scans.frame(IIII)Z -/
theorem dX13_frame_0 : decode cX13_frame 0 = .ok (.iload_n 1, 1) := by decide +kernel
theorem dX13_frame_1 : decode cX13_frame 1 = .ok (.iconst 1, 1) := by decide +kernel
theorem dX13_frame_2 : decode cX13_frame 2 = .ok (.if_icmp .lt 60, 3) := by decide +kernel
theorem dX13_frame_5 : decode cX13_frame 5 = .ok (.iload_n 1, 1) := by decide +kernel
theorem dX13_frame_6 : decode cX13_frame 6 = .ok (.bipush 64, 2) := by decide +kernel
theorem dX13_frame_8 : decode cX13_frame 8 = .ok (.if_icmp .gt 54, 3) := by decide +kernel
theorem dX13_frame_11 : decode cX13_frame 11 = .ok (.iload_n 2, 1) := by decide +kernel
theorem dX13_frame_12 : decode cX13_frame 12 = .ok (.iconst 1, 1) := by decide +kernel
theorem dX13_frame_13 : decode cX13_frame 13 = .ok (.if_icmp .lt 49, 3) := by decide +kernel
theorem dX13_frame_16 : decode cX13_frame 16 = .ok (.iload_n 2, 1) := by decide +kernel
theorem dX13_frame_17 : decode cX13_frame 17 = .ok (.bipush 64, 2) := by decide +kernel
theorem dX13_frame_19 : decode cX13_frame 19 = .ok (.if_icmp .gt 43, 3) := by decide +kernel
theorem dX13_frame_22 : decode cX13_frame 22 = .ok (.iload_n 3, 1) := by decide +kernel
theorem dX13_frame_23 : decode cX13_frame 23 = .ok (.iconst 1, 1) := by decide +kernel
theorem dX13_frame_24 : decode cX13_frame 24 = .ok (.if_icmp .lt 38, 3) := by decide +kernel
theorem dX13_frame_27 : decode cX13_frame 27 = .ok (.iload_n 3, 1) := by decide +kernel
theorem dX13_frame_28 : decode cX13_frame 28 = .ok (.iconst 4, 1) := by decide +kernel
theorem dX13_frame_29 : decode cX13_frame 29 = .ok (.if_icmp .gt 33, 3) := by decide +kernel
theorem dX13_frame_32 : decode cX13_frame 32 = .ok (.iload 4, 2) := by decide +kernel
theorem dX13_frame_34 : decode cX13_frame 34 = .ok (.ifCond .lt 28, 3) := by decide +kernel
theorem dX13_frame_37 : decode cX13_frame 37 = .ok (.iload 4, 2) := by decide +kernel
theorem dX13_frame_39 : decode cX13_frame 39 = .ok (.iconst 1, 1) := by decide +kernel
theorem dX13_frame_40 : decode cX13_frame 40 = .ok (.iconst 2, 1) := by decide +kernel
theorem dX13_frame_41 : decode cX13_frame 41 = .ok (.iload_n 3, 1) := by decide +kernel
theorem dX13_frame_42 : decode cX13_frame 42 = .ok (.imul, 1) := by decide +kernel
theorem dX13_frame_43 : decode cX13_frame 43 = .ok (.ishl, 1) := by decide +kernel
theorem dX13_frame_44 : decode cX13_frame 44 = .ok (.if_icmp .ge 18, 3) := by decide +kernel
theorem dX13_frame_47 : decode cX13_frame 47 = .ok (.aload_n 0, 1) := by decide +kernel
theorem dX13_frame_48 : decode cX13_frame 48 = .ok (.iload_n 1, 1) := by decide +kernel
theorem dX13_frame_49 : decode cX13_frame 49 = .ok (.iload_n 2, 1) := by decide +kernel
theorem dX13_frame_50 : decode cX13_frame 50 = .ok (.iload_n 3, 1) := by decide +kernel
theorem dX13_frame_51 : decode cX13_frame 51 = .ok (.iload 4, 2) := by decide +kernel
theorem dX13_frame_53 : decode cX13_frame 53 = .ok (.invokevirtual 121, 3) := by decide +kernel
theorem dX13_frame_56 : decode cX13_frame 56 = .ok (.sipush 192, 3) := by decide +kernel
theorem dX13_frame_59 : decode cX13_frame 59 = .ok (.if_icmp .le 5, 3) := by decide +kernel
theorem dX13_frame_62 : decode cX13_frame 62 = .ok (.iconst 0, 1) := by decide +kernel
theorem dX13_frame_63 : decode cX13_frame 63 = .ok (.ireturn, 1) := by decide +kernel
theorem dX13_frame_64 : decode cX13_frame 64 = .ok (.aload_n 0, 1) := by decide +kernel
theorem dX13_frame_65 : decode cX13_frame 65 = .ok (.invokevirtual 125, 3) := by decide +kernel
theorem dX13_frame_68 : decode cX13_frame 68 = .ok (.iconst 1, 1) := by decide +kernel
theorem dX13_frame_69 : decode cX13_frame 69 = .ok (.ireturn, 1) := by decide +kernel
theorem mbX13_lay : px_mB mX13_lay 4 := ⟨tb9 (List.mem_of_getElem? (i := 103) rfl), by decide +kernel, tb1 (List.mem_of_getElem? (i := 15) rfl), by decide +kernel, by decide +kernel⟩
theorem vbX13_lay : px_vB mX13_lay := ⟨tb9 (List.mem_of_getElem? (i := 102) rfl), List.mem_append_left _ (List.mem_of_getElem? (i := 131) (by decide +kernel))⟩
theorem kcX13_frame_121 : px_cV mX13_frame 121 mX13_lay 4 := ⟨⟨mbX13_lay, by decide, by decide⟩, Or.inl (tb9 (List.mem_of_getElem? (i := 100) rfl)), vbX13_lay⟩
theorem mbX13_base : px_mB mX13_base 0 := ⟨tb9 (List.mem_of_getElem? (i := 110) rfl), by decide +kernel, tb1 (List.mem_of_getElem? (i := 15) rfl), by decide +kernel, by decide +kernel⟩
theorem vbX13_base : px_vB mX13_base := ⟨tb9 (List.mem_of_getElem? (i := 109) rfl), List.mem_append_left _ (List.mem_of_getElem? (i := 132) (by decide +kernel))⟩
theorem kcX13_frame_125 : px_cV mX13_frame 125 mX13_base 0 := ⟨⟨mbX13_base, by decide, by decide⟩, Or.inl (tb9 (List.mem_of_getElem? (i := 107) rfl)), vbX13_base⟩
set_option maxRecDepth 100000 in
set_option maxHeartbeats 4000000 in
theorem eX13_frame {X : px_X} {w : px_W} {a0 : Nat} {a1 : Int32} {a2 : Int32} {a3 : Int32} {a4 : Int32} {q : Int32 × px_W} (h : fX13_frame X w a0 a1 a2 a3 a4 = some q) : EV X mX13_frame 0 (lv_args 0 [.ref a0, .int a1, .int a2, .int a3, .int a4]) [] w (some (.int q.1)) q.2 := by
  unfold fX13_frame at h
  show EV X mX13_frame 0 [(0, .ref a0), (1, .int a1), (2, .int a2), (3, .int a3), (4, .int a4)] [] w (some (.int q.1)) q.2
  refine EV.iload_n 1 dX13_frame_0 rfl rfl ?_
  refine EV.iconst (1) dX13_frame_1 (by decide) ?_
  refine EV.icmp_lt 62 dX13_frame_2 (by decide) (fun c5 => ?_) (fun c5 => ?_)
  · rw [if_pos c5] at h
    refine EV.iconst (0) dX13_frame_62 (by decide) ?_
    cases h
    exact EV.reti dX13_frame_63 rfl
  · rw [if_neg c5] at h
    refine EV.iload_n 1 dX13_frame_5 rfl rfl ?_
    refine EV.bipush (64) dX13_frame_6 (by decide) ?_
    refine EV.icmp_gt 62 dX13_frame_8 (by decide) (fun c6 => ?_) (fun c6 => ?_)
    · rw [if_pos c6] at h
      refine EV.iconst (0) dX13_frame_62 (by decide) ?_
      cases h
      exact EV.reti dX13_frame_63 rfl
    · rw [if_neg c6] at h
      refine EV.iload_n 2 dX13_frame_11 rfl rfl ?_
      refine EV.iconst (1) dX13_frame_12 (by decide) ?_
      refine EV.icmp_lt 62 dX13_frame_13 (by decide) (fun c7 => ?_) (fun c7 => ?_)
      · rw [if_pos c7] at h
        refine EV.iconst (0) dX13_frame_62 (by decide) ?_
        cases h
        exact EV.reti dX13_frame_63 rfl
      · rw [if_neg c7] at h
        refine EV.iload_n 2 dX13_frame_16 rfl rfl ?_
        refine EV.bipush (64) dX13_frame_17 (by decide) ?_
        refine EV.icmp_gt 62 dX13_frame_19 (by decide) (fun c8 => ?_) (fun c8 => ?_)
        · rw [if_pos c8] at h
          refine EV.iconst (0) dX13_frame_62 (by decide) ?_
          cases h
          exact EV.reti dX13_frame_63 rfl
        · rw [if_neg c8] at h
          refine EV.iload_n 3 dX13_frame_22 rfl rfl ?_
          refine EV.iconst (1) dX13_frame_23 (by decide) ?_
          refine EV.icmp_lt 62 dX13_frame_24 (by decide) (fun c9 => ?_) (fun c9 => ?_)
          · rw [if_pos c9] at h
            refine EV.iconst (0) dX13_frame_62 (by decide) ?_
            cases h
            exact EV.reti dX13_frame_63 rfl
          · rw [if_neg c9] at h
            refine EV.iload_n 3 dX13_frame_27 rfl rfl ?_
            refine EV.iconst (4) dX13_frame_28 (by decide) ?_
            refine EV.icmp_gt 62 dX13_frame_29 (by decide) (fun c10 => ?_) (fun c10 => ?_)
            · rw [if_pos c10] at h
              refine EV.iconst (0) dX13_frame_62 (by decide) ?_
              cases h
              exact EV.reti dX13_frame_63 rfl
            · rw [if_neg c10] at h
              refine EV.iload 4 dX13_frame_32 rfl ?_
              refine EV.if_lt 62 dX13_frame_34 (by decide) (fun c11 => ?_) (fun c11 => ?_)
              · rw [if_pos c11] at h
                refine EV.iconst (0) dX13_frame_62 (by decide) ?_
                cases h
                exact EV.reti dX13_frame_63 rfl
              · rw [if_neg c11] at h
                refine EV.iload 4 dX13_frame_37 rfl ?_
                refine EV.iconst (1) dX13_frame_39 (by decide) ?_
                refine EV.iconst (2) dX13_frame_40 (by decide) ?_
                refine EV.iload_n 3 dX13_frame_41 rfl rfl ?_
                refine EV.imul dX13_frame_42 ?_
                refine EV.ishl dX13_frame_43 ?_
                refine EV.icmp_ge 62 dX13_frame_44 (by decide) (fun c12 => ?_) (fun c12 => ?_)
                · rw [if_pos c12] at h
                  refine EV.iconst (0) dX13_frame_62 (by decide) ?_
                  cases h
                  exact EV.reti dX13_frame_63 rfl
                · rw [if_neg c12] at h
                  refine EV.aload_n 0 dX13_frame_47 rfl rfl ?_
                  refine EV.iload_n 1 dX13_frame_48 rfl rfl ?_
                  refine EV.iload_n 2 dX13_frame_49 rfl rfl ?_
                  refine EV.iload_n 3 dX13_frame_50 rfl rfl ?_
                  refine EV.iload 4 dX13_frame_51 rfl ?_
                  obtain ⟨o13, go13, h⟩ := px_bs h
                  obtain ⟨q14, gq14, h⟩ := px_bs h
                  refine EV.callV (As := [.int a1, .int a2, .int a3, .int a4]) (rest := []) dX13_frame_53 kcX13_frame_121 (gO_ok go13) rfl rfl rfl (Nat.le_of_ble_eq_true rfl) (Nat.le_of_ble_eq_true rfl) (eX13_lay gq14) ?_
                  refine EV.sipush (192) dX13_frame_56 (by decide) ?_
                  refine EV.icmp_le 64 dX13_frame_59 (by decide) (fun c15 => ?_) (fun c15 => ?_)
                  · rw [if_pos c15] at h
                    refine EV.aload_n 0 dX13_frame_64 rfl rfl ?_
                    obtain ⟨o16, go16, h⟩ := px_bs h
                    obtain ⟨q17, gq17, h⟩ := px_bs h
                    refine EV.callV (As := []) (rest := []) dX13_frame_65 kcX13_frame_125 (gO_ok go16) rfl rfl rfl (Nat.le_of_ble_eq_true rfl) (Nat.le_of_ble_eq_true rfl) (eX13_base gq17) ?_
                    refine EV.iconst (1) dX13_frame_68 (by decide) ?_
                    cases h
                    exact EV.reti dX13_frame_69 rfl
                  · rw [if_neg c15] at h
                    refine EV.iconst (0) dX13_frame_62 (by decide) ?_
                    cases h
                    exact EV.reti dX13_frame_63 rfl
/-! WavePicturesModel$Scans.isTable()Z -/
theorem dX13_isTable_0 : decode cX13_isTable 0 = .ok (.iconst 0, 1) := by decide +kernel
theorem dX13_isTable_1 : decode cX13_isTable 1 = .ok (.istore_n 1, 1) := by decide +kernel
theorem dX13_isTable_2 : decode cX13_isTable 2 = .ok (.lconst 0, 1) := by decide +kernel
theorem dX13_isTable_3 : decode cX13_isTable 3 = .ok (.lstore_n 2, 1) := by decide +kernel
theorem dX13_isTable_4 : decode cX13_isTable 4 = .ok (.iconst 1, 1) := by decide +kernel
theorem dX13_isTable_5 : decode cX13_isTable 5 = .ok (.istore 4, 2) := by decide +kernel
theorem dX13_isTable_7 : decode cX13_isTable 7 = .ok (.iconst 1, 1) := by decide +kernel
theorem dX13_isTable_8 : decode cX13_isTable 8 = .ok (.istore 5, 2) := by decide +kernel
theorem dX13_isTable_10 : decode cX13_isTable 10 = .ok (.iload 5, 2) := by decide +kernel
theorem dX13_isTable_12 : decode cX13_isTable 12 = .ok (.bipush 16, 2) := by decide +kernel
theorem dX13_isTable_14 : decode cX13_isTable 14 = .ok (.if_icmp .gt 55, 3) := by decide +kernel
theorem dX13_isTable_17 : decode cX13_isTable 17 = .ok (.iload_n 1, 1) := by decide +kernel
theorem dX13_isTable_18 : decode cX13_isTable 18 = .ok (.aload_n 0, 1) := by decide +kernel
theorem dX13_isTable_19 : decode cX13_isTable 19 = .ok (.getfield 40, 3) := by decide +kernel
theorem dX13_isTable_22 : decode cX13_isTable 22 = .ok (.iload 5, 2) := by decide +kernel
theorem dX13_isTable_24 : decode cX13_isTable 24 = .ok (.iaload, 1) := by decide +kernel
theorem dX13_isTable_25 : decode cX13_isTable 25 = .ok (.iadd, 1) := by decide +kernel
theorem dX13_isTable_26 : decode cX13_isTable 26 = .ok (.istore_n 1, 1) := by decide +kernel
theorem dX13_isTable_27 : decode cX13_isTable 27 = .ok (.ldc2_w 132, 3) := by decide +kernel
theorem dX13_isTable_30 : decode cX13_isTable 30 = .ok (.lload_n 2, 1) := by decide +kernel
theorem dX13_isTable_31 : decode cX13_isTable 31 = .ok (.lmul, 1) := by decide +kernel
theorem dX13_isTable_32 : decode cX13_isTable 32 = .ok (.aload_n 0, 1) := by decide +kernel
theorem dX13_isTable_33 : decode cX13_isTable 33 = .ok (.getfield 40, 3) := by decide +kernel
theorem dX13_isTable_36 : decode cX13_isTable 36 = .ok (.iload 5, 2) := by decide +kernel
theorem dX13_isTable_38 : decode cX13_isTable 38 = .ok (.iaload, 1) := by decide +kernel
theorem dX13_isTable_39 : decode cX13_isTable 39 = .ok (.i2l, 1) := by decide +kernel
theorem dX13_isTable_40 : decode cX13_isTable 40 = .ok (.ladd, 1) := by decide +kernel
theorem dX13_isTable_41 : decode cX13_isTable 41 = .ok (.lstore_n 2, 1) := by decide +kernel
theorem dX13_isTable_42 : decode cX13_isTable 42 = .ok (.iload 4, 2) := by decide +kernel
theorem dX13_isTable_44 : decode cX13_isTable 44 = .ok (.ifCond .eq 16, 3) := by decide +kernel
theorem dX13_isTable_47 : decode cX13_isTable 47 = .ok (.lload_n 2, 1) := by decide +kernel
theorem dX13_isTable_48 : decode cX13_isTable 48 = .ok (.lconst 1, 1) := by decide +kernel
theorem dX13_isTable_49 : decode cX13_isTable 49 = .ok (.iload 5, 2) := by decide +kernel
theorem dX13_isTable_51 : decode cX13_isTable 51 = .ok (.lshl, 1) := by decide +kernel
theorem dX13_isTable_52 : decode cX13_isTable 52 = .ok (.lcmp, 1) := by decide +kernel
theorem dX13_isTable_53 : decode cX13_isTable 53 = .ok (.ifCond .ge 7, 3) := by decide +kernel
theorem dX13_isTable_56 : decode cX13_isTable 56 = .ok (.iconst 1, 1) := by decide +kernel
theorem dX13_isTable_57 : decode cX13_isTable 57 = .ok (.goto 4, 3) := by decide +kernel
theorem dX13_isTable_60 : decode cX13_isTable 60 = .ok (.iconst 0, 1) := by decide +kernel
theorem dX13_isTable_61 : decode cX13_isTable 61 = .ok (.istore 4, 2) := by decide +kernel
theorem dX13_isTable_63 : decode cX13_isTable 63 = .ok (.iinc 5 1, 3) := by decide +kernel
theorem dX13_isTable_66 : decode cX13_isTable 66 = .ok (.goto (-56), 3) := by decide +kernel
theorem dX13_isTable_69 : decode cX13_isTable 69 = .ok (.iconst 0, 1) := by decide +kernel
theorem dX13_isTable_70 : decode cX13_isTable 70 = .ok (.istore 5, 2) := by decide +kernel
theorem dX13_isTable_72 : decode cX13_isTable 72 = .ok (.iload 5, 2) := by decide +kernel
theorem dX13_isTable_74 : decode cX13_isTable 74 = .ok (.aload_n 0, 1) := by decide +kernel
theorem dX13_isTable_75 : decode cX13_isTable 75 = .ok (.getfield 129, 3) := by decide +kernel
theorem dX13_isTable_78 : decode cX13_isTable 78 = .ok (.if_icmp .ge 54, 3) := by decide +kernel
theorem dX13_isTable_81 : decode cX13_isTable 81 = .ok (.iconst 0, 1) := by decide +kernel
theorem dX13_isTable_82 : decode cX13_isTable 82 = .ok (.istore 6, 2) := by decide +kernel
theorem dX13_isTable_84 : decode cX13_isTable 84 = .ok (.iload 6, 2) := by decide +kernel
theorem dX13_isTable_86 : decode cX13_isTable 86 = .ok (.iload 5, 2) := by decide +kernel
theorem dX13_isTable_88 : decode cX13_isTable 88 = .ok (.if_icmp .ge 38, 3) := by decide +kernel
theorem dX13_isTable_91 : decode cX13_isTable 91 = .ok (.iload 4, 2) := by decide +kernel
theorem dX13_isTable_93 : decode cX13_isTable 93 = .ok (.ifCond .eq 24, 3) := by decide +kernel
theorem dX13_isTable_96 : decode cX13_isTable 96 = .ok (.aload_n 0, 1) := by decide +kernel
theorem dX13_isTable_97 : decode cX13_isTable 97 = .ok (.getfield 43, 3) := by decide +kernel
theorem dX13_isTable_100 : decode cX13_isTable 100 = .ok (.iload 5, 2) := by decide +kernel
theorem dX13_isTable_102 : decode cX13_isTable 102 = .ok (.iaload, 1) := by decide +kernel
theorem dX13_isTable_103 : decode cX13_isTable 103 = .ok (.aload_n 0, 1) := by decide +kernel
theorem dX13_isTable_104 : decode cX13_isTable 104 = .ok (.getfield 43, 3) := by decide +kernel
theorem dX13_isTable_107 : decode cX13_isTable 107 = .ok (.iload 6, 2) := by decide +kernel
theorem dX13_isTable_109 : decode cX13_isTable 109 = .ok (.iaload, 1) := by decide +kernel
theorem dX13_isTable_110 : decode cX13_isTable 110 = .ok (.if_icmp .eq 7, 3) := by decide +kernel
theorem dX13_isTable_113 : decode cX13_isTable 113 = .ok (.iconst 1, 1) := by decide +kernel
theorem dX13_isTable_114 : decode cX13_isTable 114 = .ok (.goto 4, 3) := by decide +kernel
theorem dX13_isTable_117 : decode cX13_isTable 117 = .ok (.iconst 0, 1) := by decide +kernel
theorem dX13_isTable_118 : decode cX13_isTable 118 = .ok (.istore 4, 2) := by decide +kernel
theorem dX13_isTable_120 : decode cX13_isTable 120 = .ok (.iinc 6 1, 3) := by decide +kernel
theorem dX13_isTable_123 : decode cX13_isTable 123 = .ok (.goto (-39), 3) := by decide +kernel
theorem dX13_isTable_126 : decode cX13_isTable 126 = .ok (.iinc 5 1, 3) := by decide +kernel
theorem dX13_isTable_129 : decode cX13_isTable 129 = .ok (.goto (-57), 3) := by decide +kernel
theorem dX13_isTable_132 : decode cX13_isTable 132 = .ok (.iload 4, 2) := by decide +kernel
theorem dX13_isTable_134 : decode cX13_isTable 134 = .ok (.ifCond .eq 15, 3) := by decide +kernel
theorem dX13_isTable_137 : decode cX13_isTable 137 = .ok (.iload_n 1, 1) := by decide +kernel
theorem dX13_isTable_138 : decode cX13_isTable 138 = .ok (.aload_n 0, 1) := by decide +kernel
theorem dX13_isTable_139 : decode cX13_isTable 139 = .ok (.getfield 129, 3) := by decide +kernel
theorem dX13_isTable_142 : decode cX13_isTable 142 = .ok (.if_icmp .ne 7, 3) := by decide +kernel
theorem dX13_isTable_145 : decode cX13_isTable 145 = .ok (.iconst 1, 1) := by decide +kernel
theorem dX13_isTable_146 : decode cX13_isTable 146 = .ok (.goto 4, 3) := by decide +kernel
theorem dX13_isTable_149 : decode cX13_isTable 149 = .ok (.iconst 0, 1) := by decide +kernel
theorem dX13_isTable_150 : decode cX13_isTable 150 = .ok (.ireturn, 1) := by decide +kernel
theorem flRX13_40 : px_f RX13 40 13 14 := ⟨_, rfl, by decide, Or.inl (tb7 (List.mem_of_getElem? (i := 24) rfl))⟩
theorem flRX13_43 : px_f RX13 43 13 15 := ⟨_, rfl, by decide, Or.inl (tb7 (List.mem_of_getElem? (i := 26) rfl))⟩
theorem flRX13_129 : px_f RX13 129 13 16 := ⟨_, rfl, by decide, Or.inl (tb7 (List.mem_of_getElem? (i := 28) rfl))⟩
set_option maxRecDepth 100000 in
set_option maxHeartbeats 4000000 in
theorem eX13_isTable_61 {X : px_X} {k10 : Nat → Int32 → Int64 → Int32 → Int32 → px_W → Option (Int32 × px_W)} (hk10 : ∀ (a0 : Nat) (a1 : Int32) (a2 : Int64) (a4 : Int32) (a5 : Int32) (w : px_W) (q : Int32 × px_W), k10 a0 a1 a2 a4 a5 w = some q → EV X mX13_isTable 10 [(0, .ref a0), (1, .int a1), (2, .long a2), (4, .int a4), (5, .int a5)] [] w (some (.int q.1)) q.2) : ∀ (a0 : Nat) (a1 : Int32) (a2 : Int64) (a5 : Int32) (s0 : Int32) (w : px_W) (q : Int32 × px_W), fX13_isTable_61 X k10 a0 a1 a2 a5 s0 w = some q → EV X mX13_isTable 61 [(0, .ref a0), (1, .int a1), (2, .long a2), (5, .int a5)] [.int s0] w (some (.int q.1)) q.2 := by
  intro a0 a1 a2 a5 s0 w q h
  unfold fX13_isTable_61 at h
  refine EV.istore [(4, .int s0), (0, .ref a0), (1, .int a1), (2, .long a2), (5, .int a5)] dX13_isTable_61 (by decide) rfl ?_
  refine EV.iinc 4 (a5 + 1) [(5, .int (a5 + 1)), (4, .int s0), (0, .ref a0), (1, .int a1), (2, .long a2)] dX13_isTable_63 rfl rfl (by decide) rfl ?_
  refine EV.goto 10 dX13_isTable_66 (by decide) ?_
  refine EV.sub [2, 3, 4, 1, 0] rfl ?_
  exact hk10 _ _ _ _ _ _ _ h
set_option maxRecDepth 100000 in
set_option maxHeartbeats 4000000 in
theorem eX13_isTable_60 {X : px_X} {k10 : Nat → Int32 → Int64 → Int32 → Int32 → px_W → Option (Int32 × px_W)} (hk10 : ∀ (a0 : Nat) (a1 : Int32) (a2 : Int64) (a4 : Int32) (a5 : Int32) (w : px_W) (q : Int32 × px_W), k10 a0 a1 a2 a4 a5 w = some q → EV X mX13_isTable 10 [(0, .ref a0), (1, .int a1), (2, .long a2), (4, .int a4), (5, .int a5)] [] w (some (.int q.1)) q.2) : ∀ (a0 : Nat) (a1 : Int32) (a2 : Int64) (a5 : Int32) (w : px_W) (q : Int32 × px_W), fX13_isTable_60 X k10 a0 a1 a2 a5 w = some q → EV X mX13_isTable 60 [(0, .ref a0), (1, .int a1), (2, .long a2), (5, .int a5)] [] w (some (.int q.1)) q.2 := by
  intro a0 a1 a2 a5 w q h
  unfold fX13_isTable_60 at h
  refine EV.iconst (0) dX13_isTable_60 (by decide) ?_
  refine EV.sub [0, 1, 2, 3] rfl ?_
  exact eX13_isTable_61 hk10 _ _ _ _ _ _ _ h
set_option maxRecDepth 100000 in
set_option maxHeartbeats 4000000 in
theorem eX13_isTable_132 {X : px_X}  : ∀ (a0 : Nat) (a1 : Int32) (a4 : Int32) (w : px_W) (q : Int32 × px_W), fX13_isTable_132 X  a0 a1 a4 w = some q → EV X mX13_isTable 132 [(0, .ref a0), (1, .int a1), (4, .int a4)] [] w (some (.int q.1)) q.2 := by
  intro a0 a1 a4 w q h
  unfold fX13_isTable_132 at h
  refine EV.iload 2 dX13_isTable_132 rfl ?_
  refine EV.if_eq 149 dX13_isTable_134 (by decide) (fun c11 => ?_) (fun c11 => ?_)
  · rw [if_pos c11] at h
    refine EV.iconst (0) dX13_isTable_149 (by decide) ?_
    cases h
    exact EV.reti dX13_isTable_150 rfl
  · rw [if_neg c11] at h
    refine EV.iload_n 1 dX13_isTable_137 rfl rfl ?_
    refine EV.aload_n 0 dX13_isTable_138 rfl rfl ?_
    obtain ⟨v12, gv12, h⟩ := px_bs h
    refine ev_gI dX13_isTable_139 flRX13_129 gv12 ?_
    refine EV.icmp_ne 149 dX13_isTable_142 (by decide) (fun c13 => ?_) (fun c13 => ?_)
    · rw [if_neg c13] at h
      refine EV.iconst (0) dX13_isTable_149 (by decide) ?_
      cases h
      exact EV.reti dX13_isTable_150 rfl
    · rw [if_pos c13] at h
      refine EV.iconst (1) dX13_isTable_145 (by decide) ?_
      refine EV.goto 150 dX13_isTable_146 (by decide) ?_
      cases h
      exact EV.reti dX13_isTable_150 rfl
set_option maxRecDepth 100000 in
set_option maxHeartbeats 4000000 in
theorem eX13_isTable_118 {X : px_X} {k72 : Nat → Int32 → Int32 → Int32 → px_W → Option (Int32 × px_W)} (hk72 : ∀ (a0 : Nat) (a1 : Int32) (a4 : Int32) (a5 : Int32) (w : px_W) (q : Int32 × px_W), k72 a0 a1 a4 a5 w = some q → EV X mX13_isTable 72 [(0, .ref a0), (1, .int a1), (4, .int a4), (5, .int a5)] [] w (some (.int q.1)) q.2) {k84 : Nat → Int32 → Int32 → Int32 → Int32 → px_W → Option (Int32 × px_W)} (hk84 : ∀ (a0 : Nat) (a1 : Int32) (a4 : Int32) (a5 : Int32) (a6 : Int32) (w : px_W) (q : Int32 × px_W), k84 a0 a1 a4 a5 a6 w = some q → EV X mX13_isTable 84 [(0, .ref a0), (1, .int a1), (4, .int a4), (5, .int a5), (6, .int a6)] [] w (some (.int q.1)) q.2) : ∀ (a0 : Nat) (a1 : Int32) (a5 : Int32) (a6 : Int32) (s0 : Int32) (w : px_W) (q : Int32 × px_W), fX13_isTable_118 X k72 k84 a0 a1 a5 a6 s0 w = some q → EV X mX13_isTable 118 [(0, .ref a0), (1, .int a1), (5, .int a5), (6, .int a6)] [.int s0] w (some (.int q.1)) q.2 := by
  intro a0 a1 a5 a6 s0 w q h
  unfold fX13_isTable_118 at h
  refine EV.istore [(4, .int s0), (0, .ref a0), (1, .int a1), (5, .int a5), (6, .int a6)] dX13_isTable_118 (by decide) rfl ?_
  refine EV.iinc 4 (a6 + 1) [(6, .int (a6 + 1)), (4, .int s0), (0, .ref a0), (1, .int a1), (5, .int a5)] dX13_isTable_120 rfl rfl (by decide) rfl ?_
  refine EV.goto 84 dX13_isTable_123 (by decide) ?_
  refine EV.sub [2, 3, 1, 4, 0] rfl ?_
  exact hk84 _ _ _ _ _ _ _ h
set_option maxRecDepth 100000 in
set_option maxHeartbeats 4000000 in
theorem eX13_isTable_117 {X : px_X} {k72 : Nat → Int32 → Int32 → Int32 → px_W → Option (Int32 × px_W)} (hk72 : ∀ (a0 : Nat) (a1 : Int32) (a4 : Int32) (a5 : Int32) (w : px_W) (q : Int32 × px_W), k72 a0 a1 a4 a5 w = some q → EV X mX13_isTable 72 [(0, .ref a0), (1, .int a1), (4, .int a4), (5, .int a5)] [] w (some (.int q.1)) q.2) {k84 : Nat → Int32 → Int32 → Int32 → Int32 → px_W → Option (Int32 × px_W)} (hk84 : ∀ (a0 : Nat) (a1 : Int32) (a4 : Int32) (a5 : Int32) (a6 : Int32) (w : px_W) (q : Int32 × px_W), k84 a0 a1 a4 a5 a6 w = some q → EV X mX13_isTable 84 [(0, .ref a0), (1, .int a1), (4, .int a4), (5, .int a5), (6, .int a6)] [] w (some (.int q.1)) q.2) : ∀ (a0 : Nat) (a1 : Int32) (a5 : Int32) (a6 : Int32) (w : px_W) (q : Int32 × px_W), fX13_isTable_117 X k72 k84 a0 a1 a5 a6 w = some q → EV X mX13_isTable 117 [(0, .ref a0), (1, .int a1), (5, .int a5), (6, .int a6)] [] w (some (.int q.1)) q.2 := by
  intro a0 a1 a5 a6 w q h
  unfold fX13_isTable_117 at h
  refine EV.iconst (0) dX13_isTable_117 (by decide) ?_
  refine EV.sub [0, 1, 2, 3] rfl ?_
  exact eX13_isTable_118 hk72 hk84 _ _ _ _ _ _ _ h
set_option maxRecDepth 100000 in
set_option maxHeartbeats 4000000 in
theorem eX13_isTable_126 {X : px_X} {k72 : Nat → Int32 → Int32 → Int32 → px_W → Option (Int32 × px_W)} (hk72 : ∀ (a0 : Nat) (a1 : Int32) (a4 : Int32) (a5 : Int32) (w : px_W) (q : Int32 × px_W), k72 a0 a1 a4 a5 w = some q → EV X mX13_isTable 72 [(0, .ref a0), (1, .int a1), (4, .int a4), (5, .int a5)] [] w (some (.int q.1)) q.2) : ∀ (a0 : Nat) (a1 : Int32) (a4 : Int32) (a5 : Int32) (w : px_W) (q : Int32 × px_W), fX13_isTable_126 X k72 a0 a1 a4 a5 w = some q → EV X mX13_isTable 126 [(0, .ref a0), (1, .int a1), (4, .int a4), (5, .int a5)] [] w (some (.int q.1)) q.2 := by
  intro a0 a1 a4 a5 w q h
  unfold fX13_isTable_126 at h
  refine EV.iinc 3 (a5 + 1) [(5, .int (a5 + 1)), (0, .ref a0), (1, .int a1), (4, .int a4)] dX13_isTable_126 rfl rfl (by decide) rfl ?_
  refine EV.goto 72 dX13_isTable_129 (by decide) ?_
  refine EV.sub [1, 2, 3, 0] rfl ?_
  exact hk72 _ _ _ _ _ _ h
set_option maxRecDepth 100000 in
set_option maxHeartbeats 4000000 in
theorem eX13_isTable_84 {X : px_X} {k72 : Nat → Int32 → Int32 → Int32 → px_W → Option (Int32 × px_W)} (hk72 : ∀ (a0 : Nat) (a1 : Int32) (a4 : Int32) (a5 : Int32) (w : px_W) (q : Int32 × px_W), k72 a0 a1 a4 a5 w = some q → EV X mX13_isTable 72 [(0, .ref a0), (1, .int a1), (4, .int a4), (5, .int a5)] [] w (some (.int q.1)) q.2) : ∀ (m : Nat) (a0 : Nat) (a1 : Int32) (a4 : Int32) (a5 : Int32) (a6 : Int32) (w : px_W) (q : Int32 × px_W), fX13_isTable_84 X k72 m a0 a1 a4 a5 a6 w = some q → EV X mX13_isTable 84 [(0, .ref a0), (1, .int a1), (4, .int a4), (5, .int a5), (6, .int a6)] [] w (some (.int q.1)) q.2 := by
  intro m
  induction m with
  | zero => intro a0 a1 a4 a5 a6 w q h; cases h
  | succ m ih =>
    intro a0 a1 a4 a5 a6 w q h
    rw [fX13_isTable_84.eq_2] at h
    refine EV.iload 4 dX13_isTable_84 rfl ?_
    refine EV.iload 3 dX13_isTable_86 rfl ?_
    refine EV.icmp_ge 126 dX13_isTable_88 (by decide) (fun c14 => ?_) (fun c14 => ?_)
    · rw [if_pos c14] at h
      refine EV.sub [0, 1, 2, 3] rfl ?_
      exact eX13_isTable_126 hk72 _ _ _ _ _ _ h
    · rw [if_neg c14] at h
      refine EV.iload 2 dX13_isTable_91 rfl ?_
      refine EV.if_eq 117 dX13_isTable_93 (by decide) (fun c15 => ?_) (fun c15 => ?_)
      · rw [if_pos c15] at h
        refine EV.sub [0, 1, 3, 4] rfl ?_
        exact eX13_isTable_117 hk72 ih _ _ _ _ _ _ h
      · rw [if_neg c15] at h
        refine EV.aload_n 0 dX13_isTable_96 rfl rfl ?_
        obtain ⟨v16, gv16, h⟩ := px_bs h
        refine ev_gR dX13_isTable_97 flRX13_43 gv16 ?_
        refine EV.iload 3 dX13_isTable_100 rfl ?_
        obtain ⟨v17, gv17, h⟩ := px_bs h
        refine ev_aI dX13_isTable_102 gv17 ?_
        refine EV.aload_n 0 dX13_isTable_103 rfl rfl ?_
        obtain ⟨v18, gv18, h⟩ := px_bs h
        refine ev_gR dX13_isTable_104 flRX13_43 gv18 ?_
        refine EV.iload 4 dX13_isTable_107 rfl ?_
        obtain ⟨v19, gv19, h⟩ := px_bs h
        refine ev_aI dX13_isTable_109 gv19 ?_
        refine EV.icmp_eq 117 dX13_isTable_110 (by decide) (fun c20 => ?_) (fun c20 => ?_)
        · rw [if_pos c20] at h
          refine EV.sub [0, 1, 3, 4] rfl ?_
          exact eX13_isTable_117 hk72 ih _ _ _ _ _ _ h
        · rw [if_neg c20] at h
          refine EV.iconst (1) dX13_isTable_113 (by decide) ?_
          refine EV.goto 118 dX13_isTable_114 (by decide) ?_
          refine EV.sub [0, 1, 3, 4] rfl ?_
          exact eX13_isTable_118 hk72 ih _ _ _ _ _ _ _ h
set_option maxRecDepth 100000 in
set_option maxHeartbeats 4000000 in
theorem eX13_isTable_72 {X : px_X}  : ∀ (m : Nat) (a0 : Nat) (a1 : Int32) (a4 : Int32) (a5 : Int32) (w : px_W) (q : Int32 × px_W), fX13_isTable_72 X  m a0 a1 a4 a5 w = some q → EV X mX13_isTable 72 [(0, .ref a0), (1, .int a1), (4, .int a4), (5, .int a5)] [] w (some (.int q.1)) q.2 := by
  intro m
  induction m with
  | zero => intro a0 a1 a4 a5 w q h; cases h
  | succ m ih =>
    intro a0 a1 a4 a5 w q h
    rw [fX13_isTable_72.eq_2] at h
    refine EV.iload 3 dX13_isTable_72 rfl ?_
    refine EV.aload_n 0 dX13_isTable_74 rfl rfl ?_
    obtain ⟨v21, gv21, h⟩ := px_bs h
    refine ev_gI dX13_isTable_75 flRX13_129 gv21 ?_
    refine EV.icmp_ge 132 dX13_isTable_78 (by decide) (fun c22 => ?_) (fun c22 => ?_)
    · rw [if_pos c22] at h
      refine EV.sub [0, 1, 2] rfl ?_
      exact eX13_isTable_132  _ _ _ _ _ h
    · rw [if_neg c22] at h
      refine EV.iconst (0) dX13_isTable_81 (by decide) ?_
      refine EV.istore [(6, .int 0), (0, .ref a0), (1, .int a1), (4, .int a4), (5, .int a5)] dX13_isTable_82 (by decide) rfl ?_
      refine EV.sub [1, 2, 3, 4, 0] rfl ?_
      exact eX13_isTable_84 ih FU _ _ _ _ _ _ _ h
set_option maxRecDepth 100000 in
set_option maxHeartbeats 4000000 in
theorem eX13_isTable_69 {X : px_X}  : ∀ (a0 : Nat) (a1 : Int32) (a4 : Int32) (w : px_W) (q : Int32 × px_W), fX13_isTable_69 X  a0 a1 a4 w = some q → EV X mX13_isTable 69 [(0, .ref a0), (1, .int a1), (4, .int a4)] [] w (some (.int q.1)) q.2 := by
  intro a0 a1 a4 w q h
  unfold fX13_isTable_69 at h
  refine EV.iconst (0) dX13_isTable_69 (by decide) ?_
  refine EV.istore [(5, .int 0), (0, .ref a0), (1, .int a1), (4, .int a4)] dX13_isTable_70 (by decide) rfl ?_
  refine EV.sub [1, 2, 3, 0] rfl ?_
  exact eX13_isTable_72  FU _ _ _ _ _ _ h
set_option maxRecDepth 100000 in
set_option maxHeartbeats 4000000 in
theorem eX13_isTable_10 {X : px_X}  : ∀ (m : Nat) (a0 : Nat) (a1 : Int32) (a2 : Int64) (a4 : Int32) (a5 : Int32) (w : px_W) (q : Int32 × px_W), fX13_isTable_10 X  m a0 a1 a2 a4 a5 w = some q → EV X mX13_isTable 10 [(0, .ref a0), (1, .int a1), (2, .long a2), (4, .int a4), (5, .int a5)] [] w (some (.int q.1)) q.2 := by
  intro m
  induction m with
  | zero => intro a0 a1 a2 a4 a5 w q h; cases h
  | succ m ih =>
    intro a0 a1 a2 a4 a5 w q h
    rw [fX13_isTable_10.eq_2] at h
    refine EV.iload 4 dX13_isTable_10 rfl ?_
    refine EV.bipush (16) dX13_isTable_12 (by decide) ?_
    refine EV.icmp_gt 69 dX13_isTable_14 (by decide) (fun c23 => ?_) (fun c23 => ?_)
    · rw [if_pos c23] at h
      refine EV.sub [0, 1, 3] rfl ?_
      exact eX13_isTable_69  _ _ _ _ _ h
    · rw [if_neg c23] at h
      refine EV.iload_n 1 dX13_isTable_17 rfl rfl ?_
      refine EV.aload_n 0 dX13_isTable_18 rfl rfl ?_
      obtain ⟨v24, gv24, h⟩ := px_bs h
      refine ev_gR dX13_isTable_19 flRX13_40 gv24 ?_
      refine EV.iload 4 dX13_isTable_22 rfl ?_
      obtain ⟨v25, gv25, h⟩ := px_bs h
      refine ev_aI dX13_isTable_24 gv25 ?_
      refine EV.iadd dX13_isTable_25 ?_
      refine EV.istore_n [(1, .int (a1 + v25)), (0, .ref a0), (2, .long a2), (4, .int a4), (5, .int a5)] dX13_isTable_26 rfl (by decide) rfl ?_
      refine EV.ldc2 (v := 2) dX13_isTable_27 (tb8 (List.mem_of_getElem? (i := 236) rfl)) ?_
      refine EV.lload_n 2 dX13_isTable_30 rfl rfl ?_
      refine EV.lmul dX13_isTable_31 ?_
      refine EV.aload_n 1 dX13_isTable_32 rfl rfl ?_
      obtain ⟨v26, gv26, h⟩ := px_bs h
      refine ev_gR dX13_isTable_33 flRX13_40 gv26 ?_
      refine EV.iload 4 dX13_isTable_36 rfl ?_
      obtain ⟨v27, gv27, h⟩ := px_bs h
      refine ev_aI dX13_isTable_38 gv27 ?_
      refine EV.i2l dX13_isTable_39 ?_
      refine EV.ladd dX13_isTable_40 ?_
      refine EV.lstore_n [(2, .long ((2 * a2) + v27.toInt64)), (1, .int (a1 + v25)), (0, .ref a0), (4, .int a4), (5, .int a5)] dX13_isTable_41 rfl (by decide) rfl ?_
      refine EV.iload 3 dX13_isTable_42 rfl ?_
      refine EV.if_eq 60 dX13_isTable_44 (by decide) (fun c28 => ?_) (fun c28 => ?_)
      · rw [if_pos c28] at h
        refine EV.sub [2, 1, 0, 4] rfl ?_
        exact eX13_isTable_60 ih _ _ _ _ _ _ h
      · rw [if_neg c28] at h
        refine EV.lload_n 0 dX13_isTable_47 rfl rfl ?_
        refine EV.lconst (1) dX13_isTable_48 (by decide) ?_
        refine EV.iload 4 dX13_isTable_49 rfl ?_
        refine EV.lshl dX13_isTable_51 ?_
        refine EV.lcmp dX13_isTable_52 ?_
        refine EV.if_ge 60 dX13_isTable_53 (by decide) (fun c29 => ?_) (fun c29 => ?_)
        · rw [if_pos c29] at h
          refine EV.sub [2, 1, 0, 4] rfl ?_
          exact eX13_isTable_60 ih _ _ _ _ _ _ h
        · rw [if_neg c29] at h
          refine EV.iconst (1) dX13_isTable_56 (by decide) ?_
          refine EV.goto 61 dX13_isTable_57 (by decide) ?_
          refine EV.sub [2, 1, 0, 4] rfl ?_
          exact eX13_isTable_61 ih _ _ _ _ _ _ _ h
set_option maxRecDepth 100000 in
set_option maxHeartbeats 4000000 in
theorem eX13_isTable {X : px_X} {w : px_W} {a0 : Nat} {q : Int32 × px_W} (h : fX13_isTable X w a0 = some q) : EV X mX13_isTable 0 (lv_args 0 [.ref a0]) [] w (some (.int q.1)) q.2 := by
  unfold fX13_isTable at h
  show EV X mX13_isTable 0 [(0, .ref a0)] [] w (some (.int q.1)) q.2
  refine EV.iconst (0) dX13_isTable_0 (by decide) ?_
  refine EV.istore_n [(1, .int 0), (0, .ref a0)] dX13_isTable_1 rfl (by decide) rfl ?_
  refine EV.lconst (0) dX13_isTable_2 (by decide) ?_
  refine EV.lstore_n [(2, .long 0), (1, .int 0), (0, .ref a0)] dX13_isTable_3 rfl (by decide) rfl ?_
  refine EV.iconst (1) dX13_isTable_4 (by decide) ?_
  refine EV.istore [(4, .int 1), (2, .long 0), (1, .int 0), (0, .ref a0)] dX13_isTable_5 (by decide) rfl ?_
  refine EV.iconst (1) dX13_isTable_7 (by decide) ?_
  refine EV.istore [(5, .int 1), (4, .int 1), (2, .long 0), (1, .int 0), (0, .ref a0)] dX13_isTable_8 (by decide) rfl ?_
  refine EV.sub [4, 3, 2, 1, 0] rfl ?_
  exact eX13_isTable_10  FU _ _ _ _ _ _ _ h
/-! WavePicturesModel$Scans.make(I)Z -/
theorem dX13_make_0 : decode cX13_make 0 = .ok (.iload_n 1, 1) := by decide +kernel
theorem dX13_make_1 : decode cX13_make 1 = .ok (.ifCond .lt 16, 3) := by decide +kernel
theorem dX13_make_4 : decode cX13_make 4 = .ok (.iload_n 1, 1) := by decide +kernel
theorem dX13_make_5 : decode cX13_make 5 = .ok (.bipush 7, 2) := by decide +kernel
theorem dX13_make_7 : decode cX13_make 7 = .ok (.if_icmp .gt 10, 3) := by decide +kernel
theorem dX13_make_10 : decode cX13_make 10 = .ok (.aload_n 0, 1) := by decide +kernel
theorem dX13_make_11 : decode cX13_make 11 = .ok (.invokevirtual 134, 3) := by decide +kernel
theorem dX13_make_14 : decode cX13_make 14 = .ok (.ifCond .ne 5, 3) := by decide +kernel
theorem dX13_make_17 : decode cX13_make 17 = .ok (.iconst 0, 1) := by decide +kernel
theorem dX13_make_18 : decode cX13_make 18 = .ok (.ireturn, 1) := by decide +kernel
theorem dX13_make_19 : decode cX13_make 19 = .ok (.iconst 0, 1) := by decide +kernel
theorem dX13_make_20 : decode cX13_make 20 = .ok (.istore_n 2, 1) := by decide +kernel
theorem dX13_make_21 : decode cX13_make 21 = .ok (.iload_n 2, 1) := by decide +kernel
theorem dX13_make_22 : decode cX13_make 22 = .ok (.sipush 256, 3) := by decide +kernel
theorem dX13_make_25 : decode cX13_make 25 = .ok (.if_icmp .ge 22, 3) := by decide +kernel
theorem dX13_make_28 : decode cX13_make 28 = .ok (.aload_n 0, 1) := by decide +kernel
theorem dX13_make_29 : decode cX13_make 29 = .ok (.getfield 49, 3) := by decide +kernel
theorem dX13_make_32 : decode cX13_make 32 = .ok (.sipush 256, 3) := by decide +kernel
theorem dX13_make_35 : decode cX13_make 35 = .ok (.iload_n 1, 1) := by decide +kernel
theorem dX13_make_36 : decode cX13_make 36 = .ok (.imul, 1) := by decide +kernel
theorem dX13_make_37 : decode cX13_make 37 = .ok (.iload_n 2, 1) := by decide +kernel
theorem dX13_make_38 : decode cX13_make 38 = .ok (.iadd, 1) := by decide +kernel
theorem dX13_make_39 : decode cX13_make 39 = .ok (.iconst 0, 1) := by decide +kernel
theorem dX13_make_40 : decode cX13_make 40 = .ok (.iastore, 1) := by decide +kernel
theorem dX13_make_41 : decode cX13_make 41 = .ok (.iinc 2 1, 3) := by decide +kernel
theorem dX13_make_44 : decode cX13_make 44 = .ok (.goto (-23), 3) := by decide +kernel
theorem dX13_make_47 : decode cX13_make 47 = .ok (.iconst 0, 1) := by decide +kernel
theorem dX13_make_48 : decode cX13_make 48 = .ok (.istore_n 2, 1) := by decide +kernel
theorem dX13_make_49 : decode cX13_make 49 = .ok (.iconst 0, 1) := by decide +kernel
theorem dX13_make_50 : decode cX13_make 50 = .ok (.istore_n 3, 1) := by decide +kernel
theorem dX13_make_51 : decode cX13_make 51 = .ok (.iconst 1, 1) := by decide +kernel
theorem dX13_make_52 : decode cX13_make 52 = .ok (.istore 4, 2) := by decide +kernel
theorem dX13_make_54 : decode cX13_make 54 = .ok (.iload 4, 2) := by decide +kernel
theorem dX13_make_56 : decode cX13_make 56 = .ok (.bipush 16, 2) := by decide +kernel
theorem dX13_make_58 : decode cX13_make 58 = .ok (.if_icmp .gt 77, 3) := by decide +kernel
theorem dX13_make_61 : decode cX13_make 61 = .ok (.iconst 2, 1) := by decide +kernel
theorem dX13_make_62 : decode cX13_make 62 = .ok (.iload_n 2, 1) := by decide +kernel
theorem dX13_make_63 : decode cX13_make 63 = .ok (.imul, 1) := by decide +kernel
theorem dX13_make_64 : decode cX13_make 64 = .ok (.istore_n 2, 1) := by decide +kernel
theorem dX13_make_65 : decode cX13_make 65 = .ok (.iconst 0, 1) := by decide +kernel
theorem dX13_make_66 : decode cX13_make 66 = .ok (.istore 5, 2) := by decide +kernel
theorem dX13_make_68 : decode cX13_make 68 = .ok (.iload 5, 2) := by decide +kernel
theorem dX13_make_70 : decode cX13_make 70 = .ok (.aload_n 0, 1) := by decide +kernel
theorem dX13_make_71 : decode cX13_make 71 = .ok (.getfield 40, 3) := by decide +kernel
theorem dX13_make_74 : decode cX13_make 74 = .ok (.iload 4, 2) := by decide +kernel
theorem dX13_make_76 : decode cX13_make 76 = .ok (.iaload, 1) := by decide +kernel
theorem dX13_make_77 : decode cX13_make 77 = .ok (.if_icmp .ge 52, 3) := by decide +kernel
theorem dX13_make_80 : decode cX13_make 80 = .ok (.aload_n 0, 1) := by decide +kernel
theorem dX13_make_81 : decode cX13_make 81 = .ok (.getfield 49, 3) := by decide +kernel
theorem dX13_make_84 : decode cX13_make 84 = .ok (.sipush 256, 3) := by decide +kernel
theorem dX13_make_87 : decode cX13_make 87 = .ok (.iload_n 1, 1) := by decide +kernel
theorem dX13_make_88 : decode cX13_make 88 = .ok (.imul, 1) := by decide +kernel
theorem dX13_make_89 : decode cX13_make 89 = .ok (.aload_n 0, 1) := by decide +kernel
theorem dX13_make_90 : decode cX13_make 90 = .ok (.getfield 43, 3) := by decide +kernel
theorem dX13_make_93 : decode cX13_make 93 = .ok (.iload_n 3, 1) := by decide +kernel
theorem dX13_make_94 : decode cX13_make 94 = .ok (.iaload, 1) := by decide +kernel
theorem dX13_make_95 : decode cX13_make 95 = .ok (.iadd, 1) := by decide +kernel
theorem dX13_make_96 : decode cX13_make 96 = .ok (.iload 4, 2) := by decide +kernel
theorem dX13_make_98 : decode cX13_make 98 = .ok (.iastore, 1) := by decide +kernel
theorem dX13_make_99 : decode cX13_make 99 = .ok (.aload_n 0, 1) := by decide +kernel
theorem dX13_make_100 : decode cX13_make 100 = .ok (.getfield 52, 3) := by decide +kernel
theorem dX13_make_103 : decode cX13_make 103 = .ok (.sipush 256, 3) := by decide +kernel
theorem dX13_make_106 : decode cX13_make 106 = .ok (.iload_n 1, 1) := by decide +kernel
theorem dX13_make_107 : decode cX13_make 107 = .ok (.imul, 1) := by decide +kernel
theorem dX13_make_108 : decode cX13_make 108 = .ok (.aload_n 0, 1) := by decide +kernel
theorem dX13_make_109 : decode cX13_make 109 = .ok (.getfield 43, 3) := by decide +kernel
theorem dX13_make_112 : decode cX13_make 112 = .ok (.iload_n 3, 1) := by decide +kernel
theorem dX13_make_113 : decode cX13_make 113 = .ok (.iaload, 1) := by decide +kernel
theorem dX13_make_114 : decode cX13_make 114 = .ok (.iadd, 1) := by decide +kernel
theorem dX13_make_115 : decode cX13_make 115 = .ok (.iload_n 2, 1) := by decide +kernel
theorem dX13_make_116 : decode cX13_make 116 = .ok (.iastore, 1) := by decide +kernel
theorem dX13_make_117 : decode cX13_make 117 = .ok (.iinc 2 1, 3) := by decide +kernel
theorem dX13_make_120 : decode cX13_make 120 = .ok (.iinc 3 1, 3) := by decide +kernel
theorem dX13_make_123 : decode cX13_make 123 = .ok (.iinc 5 1, 3) := by decide +kernel
theorem dX13_make_126 : decode cX13_make 126 = .ok (.goto (-58), 3) := by decide +kernel
theorem dX13_make_129 : decode cX13_make 129 = .ok (.iinc 4 1, 3) := by decide +kernel
theorem dX13_make_132 : decode cX13_make 132 = .ok (.goto (-78), 3) := by decide +kernel
theorem dX13_make_135 : decode cX13_make 135 = .ok (.aload_n 0, 1) := by decide +kernel
theorem dX13_make_136 : decode cX13_make 136 = .ok (.getfield 46, 3) := by decide +kernel
theorem dX13_make_139 : decode cX13_make 139 = .ok (.iload_n 1, 1) := by decide +kernel
theorem dX13_make_140 : decode cX13_make 140 = .ok (.aload_n 0, 1) := by decide +kernel
theorem dX13_make_141 : decode cX13_make 141 = .ok (.getfield 129, 3) := by decide +kernel
theorem dX13_make_144 : decode cX13_make 144 = .ok (.iastore, 1) := by decide +kernel
theorem dX13_make_145 : decode cX13_make 145 = .ok (.iconst 1, 1) := by decide +kernel
theorem dX13_make_146 : decode cX13_make 146 = .ok (.ireturn, 1) := by decide +kernel
theorem flRX13_46 : px_f RX13 46 13 17 := ⟨_, rfl, by decide, Or.inl (tb7 (List.mem_of_getElem? (i := 30) rfl))⟩
theorem flRX13_49 : px_f RX13 49 13 18 := ⟨_, rfl, by decide, Or.inl (tb7 (List.mem_of_getElem? (i := 31) rfl))⟩
theorem flRX13_52 : px_f RX13 52 13 19 := ⟨_, rfl, by decide, Or.inl (tb7 (List.mem_of_getElem? (i := 32) rfl))⟩
theorem mbX13_isTable : px_mB mX13_isTable 0 := ⟨tb8 (List.mem_of_getElem? (i := 235) rfl), by decide +kernel, tb1 (List.mem_of_getElem? (i := 15) rfl), by decide +kernel, by decide +kernel⟩
theorem vbX13_isTable : px_vB mX13_isTable := ⟨tb8 (List.mem_of_getElem? (i := 234) rfl), List.mem_append_left _ (List.mem_of_getElem? (i := 111) (by decide +kernel))⟩
theorem kcX13_make_134 : px_cV mX13_make 134 mX13_isTable 0 := ⟨⟨mbX13_isTable, by decide, by decide⟩, Or.inl (tb8 (List.mem_of_getElem? (i := 232) rfl)), vbX13_isTable⟩
set_option maxRecDepth 100000 in
set_option maxHeartbeats 4000000 in
theorem eX13_make_129 {X : px_X} {k54 : Nat → Int32 → Int32 → Int32 → Int32 → px_W → Option (Int32 × px_W)} (hk54 : ∀ (a0 : Nat) (a1 : Int32) (a2 : Int32) (a3 : Int32) (a4 : Int32) (w : px_W) (q : Int32 × px_W), k54 a0 a1 a2 a3 a4 w = some q → EV X mX13_make 54 [(0, .ref a0), (1, .int a1), (2, .int a2), (3, .int a3), (4, .int a4)] [] w (some (.int q.1)) q.2) : ∀ (a0 : Nat) (a1 : Int32) (a2 : Int32) (a3 : Int32) (a4 : Int32) (w : px_W) (q : Int32 × px_W), fX13_make_129 X k54 a0 a1 a2 a3 a4 w = some q → EV X mX13_make 129 [(0, .ref a0), (1, .int a1), (2, .int a2), (3, .int a3), (4, .int a4)] [] w (some (.int q.1)) q.2 := by
  intro a0 a1 a2 a3 a4 w q h
  unfold fX13_make_129 at h
  refine EV.iinc 4 (a4 + 1) [(4, .int (a4 + 1)), (0, .ref a0), (1, .int a1), (2, .int a2), (3, .int a3)] dX13_make_129 rfl rfl (by decide) rfl ?_
  refine EV.goto 54 dX13_make_132 (by decide) ?_
  refine EV.sub [1, 2, 3, 4, 0] rfl ?_
  exact hk54 _ _ _ _ _ _ _ h
set_option maxRecDepth 100000 in
set_option maxHeartbeats 4000000 in
theorem eX13_make_68 {X : px_X} {k54 : Nat → Int32 → Int32 → Int32 → Int32 → px_W → Option (Int32 × px_W)} (hk54 : ∀ (a0 : Nat) (a1 : Int32) (a2 : Int32) (a3 : Int32) (a4 : Int32) (w : px_W) (q : Int32 × px_W), k54 a0 a1 a2 a3 a4 w = some q → EV X mX13_make 54 [(0, .ref a0), (1, .int a1), (2, .int a2), (3, .int a3), (4, .int a4)] [] w (some (.int q.1)) q.2) : ∀ (m : Nat) (a0 : Nat) (a1 : Int32) (a2 : Int32) (a3 : Int32) (a4 : Int32) (a5 : Int32) (w : px_W) (q : Int32 × px_W), fX13_make_68 X k54 m a0 a1 a2 a3 a4 a5 w = some q → EV X mX13_make 68 [(0, .ref a0), (1, .int a1), (2, .int a2), (3, .int a3), (4, .int a4), (5, .int a5)] [] w (some (.int q.1)) q.2 := by
  intro m
  induction m with
  | zero => intro a0 a1 a2 a3 a4 a5 w q h; cases h
  | succ m ih =>
    intro a0 a1 a2 a3 a4 a5 w q h
    rw [fX13_make_68.eq_2] at h
    refine EV.iload 5 dX13_make_68 rfl ?_
    refine EV.aload_n 0 dX13_make_70 rfl rfl ?_
    obtain ⟨v18, gv18, h⟩ := px_bs h
    refine ev_gR dX13_make_71 flRX13_40 gv18 ?_
    refine EV.iload 4 dX13_make_74 rfl ?_
    obtain ⟨v19, gv19, h⟩ := px_bs h
    refine ev_aI dX13_make_76 gv19 ?_
    refine EV.icmp_ge 129 dX13_make_77 (by decide) (fun c20 => ?_) (fun c20 => ?_)
    · rw [if_pos c20] at h
      refine EV.sub [0, 1, 2, 3, 4] rfl ?_
      exact eX13_make_129 hk54 _ _ _ _ _ _ _ h
    · rw [if_neg c20] at h
      refine EV.aload_n 0 dX13_make_80 rfl rfl ?_
      obtain ⟨v21, gv21, h⟩ := px_bs h
      refine ev_gR dX13_make_81 flRX13_49 gv21 ?_
      refine EV.sipush (256) dX13_make_84 (by decide) ?_
      refine EV.iload_n 1 dX13_make_87 rfl rfl ?_
      refine EV.imul dX13_make_88 ?_
      refine EV.aload_n 0 dX13_make_89 rfl rfl ?_
      obtain ⟨v22, gv22, h⟩ := px_bs h
      refine ev_gR dX13_make_90 flRX13_43 gv22 ?_
      refine EV.iload_n 3 dX13_make_93 rfl rfl ?_
      obtain ⟨v23, gv23, h⟩ := px_bs h
      refine ev_aI dX13_make_94 gv23 ?_
      refine EV.iadd dX13_make_95 ?_
      refine EV.iload 4 dX13_make_96 rfl ?_
      obtain ⟨w24, gw24, h⟩ := px_bs h
      refine ev_sI dX13_make_98 gw24 ?_
      refine EV.aload_n 0 dX13_make_99 rfl rfl ?_
      obtain ⟨v25, gv25, h⟩ := px_bs h
      refine ev_gR dX13_make_100 flRX13_52 gv25 ?_
      refine EV.sipush (256) dX13_make_103 (by decide) ?_
      refine EV.iload_n 1 dX13_make_106 rfl rfl ?_
      refine EV.imul dX13_make_107 ?_
      refine EV.aload_n 0 dX13_make_108 rfl rfl ?_
      obtain ⟨v26, gv26, h⟩ := px_bs h
      refine ev_gR dX13_make_109 flRX13_43 gv26 ?_
      refine EV.iload_n 3 dX13_make_112 rfl rfl ?_
      obtain ⟨v27, gv27, h⟩ := px_bs h
      refine ev_aI dX13_make_113 gv27 ?_
      refine EV.iadd dX13_make_114 ?_
      refine EV.iload_n 2 dX13_make_115 rfl rfl ?_
      obtain ⟨w28, gw28, h⟩ := px_bs h
      refine ev_sI dX13_make_116 gw28 ?_
      refine EV.iinc 2 (a2 + 1) [(2, .int (a2 + 1)), (0, .ref a0), (1, .int a1), (3, .int a3), (4, .int a4), (5, .int a5)] dX13_make_117 rfl rfl (by decide) rfl ?_
      refine EV.iinc 3 (a3 + 1) [(3, .int (a3 + 1)), (2, .int (a2 + 1)), (0, .ref a0), (1, .int a1), (4, .int a4), (5, .int a5)] dX13_make_120 rfl rfl (by decide) rfl ?_
      refine EV.iinc 5 (a5 + 1) [(5, .int (a5 + 1)), (3, .int (a3 + 1)), (2, .int (a2 + 1)), (0, .ref a0), (1, .int a1), (4, .int a4)] dX13_make_123 rfl rfl (by decide) rfl ?_
      refine EV.goto 68 dX13_make_126 (by decide) ?_
      refine EV.sub [3, 4, 2, 1, 5, 0] rfl ?_
      exact ih _ _ _ _ _ _ _ _ h
set_option maxRecDepth 100000 in
set_option maxHeartbeats 4000000 in
theorem eX13_make_135 {X : px_X}  : ∀ (a0 : Nat) (a1 : Int32) (w : px_W) (q : Int32 × px_W), fX13_make_135 X  a0 a1 w = some q → EV X mX13_make 135 [(0, .ref a0), (1, .int a1)] [] w (some (.int q.1)) q.2 := by
  intro a0 a1 w q h
  unfold fX13_make_135 at h
  refine EV.aload_n 0 dX13_make_135 rfl rfl ?_
  obtain ⟨v29, gv29, h⟩ := px_bs h
  refine ev_gR dX13_make_136 flRX13_46 gv29 ?_
  refine EV.iload_n 1 dX13_make_139 rfl rfl ?_
  refine EV.aload_n 0 dX13_make_140 rfl rfl ?_
  obtain ⟨v30, gv30, h⟩ := px_bs h
  refine ev_gI dX13_make_141 flRX13_129 gv30 ?_
  obtain ⟨w31, gw31, h⟩ := px_bs h
  refine ev_sI dX13_make_144 gw31 ?_
  refine EV.iconst (1) dX13_make_145 (by decide) ?_
  cases h
  exact EV.reti dX13_make_146 rfl
set_option maxRecDepth 100000 in
set_option maxHeartbeats 4000000 in
theorem eX13_make_54 {X : px_X}  : ∀ (m : Nat) (a0 : Nat) (a1 : Int32) (a2 : Int32) (a3 : Int32) (a4 : Int32) (w : px_W) (q : Int32 × px_W), fX13_make_54 X  m a0 a1 a2 a3 a4 w = some q → EV X mX13_make 54 [(0, .ref a0), (1, .int a1), (2, .int a2), (3, .int a3), (4, .int a4)] [] w (some (.int q.1)) q.2 := by
  intro m
  induction m with
  | zero => intro a0 a1 a2 a3 a4 w q h; cases h
  | succ m ih =>
    intro a0 a1 a2 a3 a4 w q h
    rw [fX13_make_54.eq_2] at h
    refine EV.iload 4 dX13_make_54 rfl ?_
    refine EV.bipush (16) dX13_make_56 (by decide) ?_
    refine EV.icmp_gt 135 dX13_make_58 (by decide) (fun c32 => ?_) (fun c32 => ?_)
    · rw [if_pos c32] at h
      refine EV.sub [0, 1] rfl ?_
      exact eX13_make_135  _ _ _ _ h
    · rw [if_neg c32] at h
      refine EV.iconst (2) dX13_make_61 (by decide) ?_
      refine EV.iload_n 2 dX13_make_62 rfl rfl ?_
      refine EV.imul dX13_make_63 ?_
      refine EV.istore_n [(2, .int (2 * a2)), (0, .ref a0), (1, .int a1), (3, .int a3), (4, .int a4)] dX13_make_64 rfl (by decide) rfl ?_
      refine EV.iconst (0) dX13_make_65 (by decide) ?_
      refine EV.istore [(5, .int 0), (2, .int (2 * a2)), (0, .ref a0), (1, .int a1), (3, .int a3), (4, .int a4)] dX13_make_66 (by decide) rfl ?_
      refine EV.sub [2, 3, 1, 4, 5, 0] rfl ?_
      exact eX13_make_68 ih FU _ _ _ _ _ _ _ _ h
set_option maxRecDepth 100000 in
set_option maxHeartbeats 4000000 in
theorem eX13_make_47 {X : px_X}  : ∀ (a0 : Nat) (a1 : Int32) (w : px_W) (q : Int32 × px_W), fX13_make_47 X  a0 a1 w = some q → EV X mX13_make 47 [(0, .ref a0), (1, .int a1)] [] w (some (.int q.1)) q.2 := by
  intro a0 a1 w q h
  unfold fX13_make_47 at h
  refine EV.iconst (0) dX13_make_47 (by decide) ?_
  refine EV.istore_n [(2, .int 0), (0, .ref a0), (1, .int a1)] dX13_make_48 rfl (by decide) rfl ?_
  refine EV.iconst (0) dX13_make_49 (by decide) ?_
  refine EV.istore_n [(3, .int 0), (2, .int 0), (0, .ref a0), (1, .int a1)] dX13_make_50 rfl (by decide) rfl ?_
  refine EV.iconst (1) dX13_make_51 (by decide) ?_
  refine EV.istore [(4, .int 1), (3, .int 0), (2, .int 0), (0, .ref a0), (1, .int a1)] dX13_make_52 (by decide) rfl ?_
  refine EV.sub [3, 4, 2, 1, 0] rfl ?_
  exact eX13_make_54  FU _ _ _ _ _ _ _ h
set_option maxRecDepth 100000 in
set_option maxHeartbeats 4000000 in
theorem eX13_make_21 {X : px_X}  : ∀ (m : Nat) (a0 : Nat) (a1 : Int32) (a2 : Int32) (w : px_W) (q : Int32 × px_W), fX13_make_21 X  m a0 a1 a2 w = some q → EV X mX13_make 21 [(0, .ref a0), (1, .int a1), (2, .int a2)] [] w (some (.int q.1)) q.2 := by
  intro m
  induction m with
  | zero => intro a0 a1 a2 w q h; cases h
  | succ m ih =>
    intro a0 a1 a2 w q h
    rw [fX13_make_21.eq_2] at h
    refine EV.iload_n 2 dX13_make_21 rfl rfl ?_
    refine EV.sipush (256) dX13_make_22 (by decide) ?_
    refine EV.icmp_ge 47 dX13_make_25 (by decide) (fun c33 => ?_) (fun c33 => ?_)
    · rw [if_pos c33] at h
      refine EV.sub [0, 1] rfl ?_
      exact eX13_make_47  _ _ _ _ h
    · rw [if_neg c33] at h
      refine EV.aload_n 0 dX13_make_28 rfl rfl ?_
      obtain ⟨v34, gv34, h⟩ := px_bs h
      refine ev_gR dX13_make_29 flRX13_49 gv34 ?_
      refine EV.sipush (256) dX13_make_32 (by decide) ?_
      refine EV.iload_n 1 dX13_make_35 rfl rfl ?_
      refine EV.imul dX13_make_36 ?_
      refine EV.iload_n 2 dX13_make_37 rfl rfl ?_
      refine EV.iadd dX13_make_38 ?_
      refine EV.iconst (0) dX13_make_39 (by decide) ?_
      obtain ⟨w35, gw35, h⟩ := px_bs h
      refine ev_sI dX13_make_40 gw35 ?_
      refine EV.iinc 2 (a2 + 1) [(2, .int (a2 + 1)), (0, .ref a0), (1, .int a1)] dX13_make_41 rfl rfl (by decide) rfl ?_
      refine EV.goto 21 dX13_make_44 (by decide) ?_
      refine EV.sub [1, 2, 0] rfl ?_
      exact ih _ _ _ _ _ h
set_option maxRecDepth 100000 in
set_option maxHeartbeats 4000000 in
theorem eX13_make {X : px_X} {w : px_W} {a0 : Nat} {a1 : Int32} {q : Int32 × px_W} (h : fX13_make X w a0 a1 = some q) : EV X mX13_make 0 (lv_args 0 [.ref a0, .int a1]) [] w (some (.int q.1)) q.2 := by
  unfold fX13_make at h
  show EV X mX13_make 0 [(0, .ref a0), (1, .int a1)] [] w (some (.int q.1)) q.2
  refine EV.iload_n 1 dX13_make_0 rfl rfl ?_
  refine EV.if_lt 17 dX13_make_1 (by decide) (fun c36 => ?_) (fun c36 => ?_)
  · rw [if_pos c36] at h
    refine EV.iconst (0) dX13_make_17 (by decide) ?_
    cases h
    exact EV.reti dX13_make_18 rfl
  · rw [if_neg c36] at h
    refine EV.iload_n 1 dX13_make_4 rfl rfl ?_
    refine EV.bipush (7) dX13_make_5 (by decide) ?_
    refine EV.icmp_gt 17 dX13_make_7 (by decide) (fun c37 => ?_) (fun c37 => ?_)
    · rw [if_pos c37] at h
      refine EV.iconst (0) dX13_make_17 (by decide) ?_
      cases h
      exact EV.reti dX13_make_18 rfl
    · rw [if_neg c37] at h
      refine EV.aload_n 0 dX13_make_10 rfl rfl ?_
      obtain ⟨o38, go38, h⟩ := px_bs h
      obtain ⟨q39, gq39, h⟩ := px_bs h
      refine EV.callV (As := []) (rest := []) dX13_make_11 kcX13_make_134 (gO_ok go38) rfl rfl rfl (Nat.le_of_ble_eq_true rfl) (Nat.le_of_ble_eq_true rfl) (eX13_isTable gq39) ?_
      refine EV.if_ne 19 dX13_make_14 (by decide) (fun c40 => ?_) (fun c40 => ?_)
      · rw [if_neg c40] at h
        refine EV.iconst (0) dX13_make_19 (by decide) ?_
        refine EV.istore_n [(2, .int 0), (0, .ref a0), (1, .int a1)] dX13_make_20 rfl (by decide) rfl ?_
        refine EV.sub [1, 2, 0] rfl ?_
        exact eX13_make_21  FU _ _ _ _ _ h
      · rw [if_pos c40] at h
        refine EV.iconst (0) dX13_make_17 (by decide) ?_
        cases h
        exact EV.reti dX13_make_18 rfl
/-! WavePicturesModel$Scans.ones(I)I -/
theorem dX13_ones_0 : decode cX13_ones 0 = .ok (.iconst 0, 1) := by decide +kernel
theorem dX13_ones_1 : decode cX13_ones 1 = .ok (.istore_n 1, 1) := by decide +kernel
theorem dX13_ones_2 : decode cX13_ones 2 = .ok (.iconst 0, 1) := by decide +kernel
theorem dX13_ones_3 : decode cX13_ones 3 = .ok (.istore_n 2, 1) := by decide +kernel
theorem dX13_ones_4 : decode cX13_ones 4 = .ok (.iload_n 2, 1) := by decide +kernel
theorem dX13_ones_5 : decode cX13_ones 5 = .ok (.iconst 4, 1) := by decide +kernel
theorem dX13_ones_6 : decode cX13_ones 6 = .ok (.if_icmp .ge 17, 3) := by decide +kernel
theorem dX13_ones_9 : decode cX13_ones 9 = .ok (.iload_n 1, 1) := by decide +kernel
theorem dX13_ones_10 : decode cX13_ones 10 = .ok (.iload_n 0, 1) := by decide +kernel
theorem dX13_ones_11 : decode cX13_ones 11 = .ok (.iload_n 2, 1) := by decide +kernel
theorem dX13_ones_12 : decode cX13_ones 12 = .ok (.ishr, 1) := by decide +kernel
theorem dX13_ones_13 : decode cX13_ones 13 = .ok (.iconst 1, 1) := by decide +kernel
theorem dX13_ones_14 : decode cX13_ones 14 = .ok (.iand, 1) := by decide +kernel
theorem dX13_ones_15 : decode cX13_ones 15 = .ok (.iadd, 1) := by decide +kernel
theorem dX13_ones_16 : decode cX13_ones 16 = .ok (.istore_n 1, 1) := by decide +kernel
theorem dX13_ones_17 : decode cX13_ones 17 = .ok (.iinc 2 1, 3) := by decide +kernel
theorem dX13_ones_20 : decode cX13_ones 20 = .ok (.goto (-16), 3) := by decide +kernel
theorem dX13_ones_23 : decode cX13_ones 23 = .ok (.iload_n 1, 1) := by decide +kernel
theorem dX13_ones_24 : decode cX13_ones 24 = .ok (.ireturn, 1) := by decide +kernel
set_option maxRecDepth 100000 in
set_option maxHeartbeats 4000000 in
theorem eX13_ones_4 {X : px_X}  : ∀ (m : Nat) (a0 : Int32) (a1 : Int32) (a2 : Int32) (w : px_W) (q : Int32 × px_W), fX13_ones_4 X  m a0 a1 a2 w = some q → EV X mX13_ones 4 [(0, .int a0), (1, .int a1), (2, .int a2)] [] w (some (.int q.1)) q.2 := by
  intro m
  induction m with
  | zero => intro a0 a1 a2 w q h; cases h
  | succ m ih =>
    intro a0 a1 a2 w q h
    rw [fX13_ones_4.eq_2] at h
    refine EV.iload_n 2 dX13_ones_4 rfl rfl ?_
    refine EV.iconst (4) dX13_ones_5 (by decide) ?_
    refine EV.icmp_ge 23 dX13_ones_6 (by decide) (fun c1 => ?_) (fun c1 => ?_)
    · rw [if_pos c1] at h
      refine EV.iload_n 1 dX13_ones_23 rfl rfl ?_
      cases h
      exact EV.reti dX13_ones_24 rfl
    · rw [if_neg c1] at h
      refine EV.iload_n 1 dX13_ones_9 rfl rfl ?_
      refine EV.iload_n 0 dX13_ones_10 rfl rfl ?_
      refine EV.iload_n 2 dX13_ones_11 rfl rfl ?_
      refine EV.ishr dX13_ones_12 ?_
      refine EV.iconst (1) dX13_ones_13 (by decide) ?_
      refine EV.iand dX13_ones_14 ?_
      refine EV.iadd dX13_ones_15 ?_
      refine EV.istore_n [(1, .int (a1 + ((a0 >>> (a2 &&& 31)) &&& 1))), (0, .int a0), (2, .int a2)] dX13_ones_16 rfl (by decide) rfl ?_
      refine EV.iinc 2 (a2 + 1) [(2, .int (a2 + 1)), (1, .int (a1 + ((a0 >>> (a2 &&& 31)) &&& 1))), (0, .int a0)] dX13_ones_17 rfl rfl (by decide) rfl ?_
      refine EV.goto 4 dX13_ones_20 (by decide) ?_
      refine EV.sub [2, 1, 0] rfl ?_
      exact ih _ _ _ _ _ h
set_option maxRecDepth 100000 in
set_option maxHeartbeats 4000000 in
theorem eX13_ones {X : px_X} {w : px_W} {a0 : Int32} {q : Int32 × px_W} (h : fX13_ones X w a0 = some q) : EV X mX13_ones 0 (lv_args 0 [.int a0]) [] w (some (.int q.1)) q.2 := by
  unfold fX13_ones at h
  show EV X mX13_ones 0 [(0, .int a0)] [] w (some (.int q.1)) q.2
  refine EV.iconst (0) dX13_ones_0 (by decide) ?_
  refine EV.istore_n [(1, .int 0), (0, .int a0)] dX13_ones_1 rfl (by decide) rfl ?_
  refine EV.iconst (0) dX13_ones_2 (by decide) ?_
  refine EV.istore_n [(2, .int 0), (1, .int 0), (0, .int a0)] dX13_ones_3 rfl (by decide) rfl ?_
  refine EV.sub [2, 1, 0] rfl ?_
  exact eX13_ones_4  FU _ _ _ _ _ h
/-! WavePicturesModel$Scans.scan(IIIII)Z -/
theorem dX13_scan_0 : decode cX13_scan 0 = .ok (.iload_n 1, 1) := by decide +kernel
theorem dX13_scan_1 : decode cX13_scan 1 = .ok (.ifCond .le 43, 3) := by decide +kernel
theorem dX13_scan_4 : decode cX13_scan 4 = .ok (.iload_n 1, 1) := by decide +kernel
theorem dX13_scan_5 : decode cX13_scan 5 = .ok (.iconst 1, 1) := by decide +kernel
theorem dX13_scan_6 : decode cX13_scan 6 = .ok (.aload_n 0, 1) := by decide +kernel
theorem dX13_scan_7 : decode cX13_scan 7 = .ok (.getfield 94, 3) := by decide +kernel
theorem dX13_scan_10 : decode cX13_scan 10 = .ok (.ishl, 1) := by decide +kernel
theorem dX13_scan_11 : decode cX13_scan 11 = .ok (.if_icmp .ge 33, 3) := by decide +kernel
theorem dX13_scan_14 : decode cX13_scan 14 = .ok (.iload 5, 2) := by decide +kernel
theorem dX13_scan_16 : decode cX13_scan 16 = .ok (.ifCond .lt 28, 3) := by decide +kernel
theorem dX13_scan_19 : decode cX13_scan 19 = .ok (.iload 5, 2) := by decide +kernel
theorem dX13_scan_21 : decode cX13_scan 21 = .ok (.bipush 9, 2) := by decide +kernel
theorem dX13_scan_23 : decode cX13_scan 23 = .ok (.if_icmp .gt 21, 3) := by decide +kernel
theorem dX13_scan_26 : decode cX13_scan 26 = .ok (.iload 4, 2) := by decide +kernel
theorem dX13_scan_28 : decode cX13_scan 28 = .ok (.ifCond .eq 12, 3) := by decide +kernel
theorem dX13_scan_31 : decode cX13_scan 31 = .ok (.iload 4, 2) := by decide +kernel
theorem dX13_scan_33 : decode cX13_scan 33 = .ok (.iload 5, 2) := by decide +kernel
theorem dX13_scan_35 : decode cX13_scan 35 = .ok (.iconst 1, 1) := by decide +kernel
theorem dX13_scan_36 : decode cX13_scan 36 = .ok (.iadd, 1) := by decide +kernel
theorem dX13_scan_37 : decode cX13_scan 37 = .ok (.if_icmp .ne 7, 3) := by decide +kernel
theorem dX13_scan_40 : decode cX13_scan 40 = .ok (.iconst 1, 1) := by decide +kernel
theorem dX13_scan_41 : decode cX13_scan 41 = .ok (.goto 4, 3) := by decide +kernel
theorem dX13_scan_44 : decode cX13_scan 44 = .ok (.iconst 0, 1) := by decide +kernel
theorem dX13_scan_45 : decode cX13_scan 45 = .ok (.istore 6, 2) := by decide +kernel
theorem dX13_scan_47 : decode cX13_scan 47 = .ok (.iload_n 2, 1) := by decide +kernel
theorem dX13_scan_48 : decode cX13_scan 48 = .ok (.ifCond .ne 23, 3) := by decide +kernel
theorem dX13_scan_51 : decode cX13_scan 51 = .ok (.iload_n 3, 1) := by decide +kernel
theorem dX13_scan_52 : decode cX13_scan 52 = .ok (.bipush 63, 2) := by decide +kernel
theorem dX13_scan_54 : decode cX13_scan 54 = .ok (.if_icmp .ne 17, 3) := by decide +kernel
theorem dX13_scan_57 : decode cX13_scan 57 = .ok (.iload 4, 2) := by decide +kernel
theorem dX13_scan_59 : decode cX13_scan 59 = .ok (.ifCond .ne 12, 3) := by decide +kernel
theorem dX13_scan_62 : decode cX13_scan 62 = .ok (.iload 5, 2) := by decide +kernel
theorem dX13_scan_64 : decode cX13_scan 64 = .ok (.ifCond .ne 7, 3) := by decide +kernel
theorem dX13_scan_67 : decode cX13_scan 67 = .ok (.iconst 1, 1) := by decide +kernel
theorem dX13_scan_68 : decode cX13_scan 68 = .ok (.goto 4, 3) := by decide +kernel
theorem dX13_scan_71 : decode cX13_scan 71 = .ok (.iconst 0, 1) := by decide +kernel
theorem dX13_scan_72 : decode cX13_scan 72 = .ok (.istore 7, 2) := by decide +kernel
theorem dX13_scan_74 : decode cX13_scan 74 = .ok (.iload_n 2, 1) := by decide +kernel
theorem dX13_scan_75 : decode cX13_scan 75 = .ok (.ifCond .ne 11, 3) := by decide +kernel
theorem dX13_scan_78 : decode cX13_scan 78 = .ok (.iload_n 3, 1) := by decide +kernel
theorem dX13_scan_79 : decode cX13_scan 79 = .ok (.ifCond .ne 7, 3) := by decide +kernel
theorem dX13_scan_82 : decode cX13_scan 82 = .ok (.iconst 1, 1) := by decide +kernel
theorem dX13_scan_83 : decode cX13_scan 83 = .ok (.goto 4, 3) := by decide +kernel
theorem dX13_scan_86 : decode cX13_scan 86 = .ok (.iconst 0, 1) := by decide +kernel
theorem dX13_scan_87 : decode cX13_scan 87 = .ok (.istore 8, 2) := by decide +kernel
theorem dX13_scan_89 : decode cX13_scan 89 = .ok (.iload_n 2, 1) := by decide +kernel
theorem dX13_scan_90 : decode cX13_scan 90 = .ok (.iconst 1, 1) := by decide +kernel
theorem dX13_scan_91 : decode cX13_scan 91 = .ok (.if_icmp .lt 32, 3) := by decide +kernel
theorem dX13_scan_94 : decode cX13_scan 94 = .ok (.iload_n 2, 1) := by decide +kernel
theorem dX13_scan_95 : decode cX13_scan 95 = .ok (.bipush 63, 2) := by decide +kernel
theorem dX13_scan_97 : decode cX13_scan 97 = .ok (.if_icmp .gt 26, 3) := by decide +kernel
theorem dX13_scan_100 : decode cX13_scan 100 = .ok (.iload_n 3, 1) := by decide +kernel
theorem dX13_scan_101 : decode cX13_scan 101 = .ok (.iload_n 2, 1) := by decide +kernel
theorem dX13_scan_102 : decode cX13_scan 102 = .ok (.if_icmp .lt 21, 3) := by decide +kernel
theorem dX13_scan_105 : decode cX13_scan 105 = .ok (.iload_n 3, 1) := by decide +kernel
theorem dX13_scan_106 : decode cX13_scan 106 = .ok (.bipush 63, 2) := by decide +kernel
theorem dX13_scan_108 : decode cX13_scan 108 = .ok (.if_icmp .gt 15, 3) := by decide +kernel
theorem dX13_scan_111 : decode cX13_scan 111 = .ok (.iload_n 1, 1) := by decide +kernel
theorem dX13_scan_112 : decode cX13_scan 112 = .ok (.invokestatic 138, 3) := by decide +kernel
theorem dX13_scan_115 : decode cX13_scan 115 = .ok (.iconst 1, 1) := by decide +kernel
theorem dX13_scan_116 : decode cX13_scan 116 = .ok (.if_icmp .ne 7, 3) := by decide +kernel
theorem dX13_scan_119 : decode cX13_scan 119 = .ok (.iconst 1, 1) := by decide +kernel
theorem dX13_scan_120 : decode cX13_scan 120 = .ok (.goto 4, 3) := by decide +kernel
theorem dX13_scan_123 : decode cX13_scan 123 = .ok (.iconst 0, 1) := by decide +kernel
theorem dX13_scan_124 : decode cX13_scan 124 = .ok (.istore 9, 2) := by decide +kernel
theorem dX13_scan_126 : decode cX13_scan 126 = .ok (.iload 6, 2) := by decide +kernel
theorem dX13_scan_128 : decode cX13_scan 128 = .ok (.ifCond .eq 18, 3) := by decide +kernel
theorem dX13_scan_131 : decode cX13_scan 131 = .ok (.iload 7, 2) := by decide +kernel
theorem dX13_scan_133 : decode cX13_scan 133 = .ok (.ifCond .ne 15, 3) := by decide +kernel
theorem dX13_scan_136 : decode cX13_scan 136 = .ok (.iload 8, 2) := by decide +kernel
theorem dX13_scan_138 : decode cX13_scan 138 = .ok (.ifCond .ne 10, 3) := by decide +kernel
theorem dX13_scan_141 : decode cX13_scan 141 = .ok (.iload 9, 2) := by decide +kernel
theorem dX13_scan_143 : decode cX13_scan 143 = .ok (.ifCond .ne 5, 3) := by decide +kernel
theorem dX13_scan_146 : decode cX13_scan 146 = .ok (.iconst 0, 1) := by decide +kernel
theorem dX13_scan_147 : decode cX13_scan 147 = .ok (.ireturn, 1) := by decide +kernel
theorem dX13_scan_148 : decode cX13_scan 148 = .ok (.aload_n 0, 1) := by decide +kernel
theorem dX13_scan_149 : decode cX13_scan 149 = .ok (.iload_n 1, 1) := by decide +kernel
theorem dX13_scan_150 : decode cX13_scan 150 = .ok (.putfield 103, 3) := by decide +kernel
theorem dX13_scan_153 : decode cX13_scan 153 = .ok (.aload_n 0, 1) := by decide +kernel
theorem dX13_scan_154 : decode cX13_scan 154 = .ok (.iload_n 2, 1) := by decide +kernel
theorem dX13_scan_155 : decode cX13_scan 155 = .ok (.putfield 106, 3) := by decide +kernel
theorem dX13_scan_158 : decode cX13_scan 158 = .ok (.aload_n 0, 1) := by decide +kernel
theorem dX13_scan_159 : decode cX13_scan 159 = .ok (.iload_n 3, 1) := by decide +kernel
theorem dX13_scan_160 : decode cX13_scan 160 = .ok (.putfield 109, 3) := by decide +kernel
theorem dX13_scan_163 : decode cX13_scan 163 = .ok (.aload_n 0, 1) := by decide +kernel
theorem dX13_scan_164 : decode cX13_scan 164 = .ok (.iload 4, 2) := by decide +kernel
theorem dX13_scan_166 : decode cX13_scan 166 = .ok (.putfield 112, 3) := by decide +kernel
theorem dX13_scan_169 : decode cX13_scan 169 = .ok (.aload_n 0, 1) := by decide +kernel
theorem dX13_scan_170 : decode cX13_scan 170 = .ok (.iload 5, 2) := by decide +kernel
theorem dX13_scan_172 : decode cX13_scan 172 = .ok (.putfield 115, 3) := by decide +kernel
theorem dX13_scan_175 : decode cX13_scan 175 = .ok (.iconst 1, 1) := by decide +kernel
theorem dX13_scan_176 : decode cX13_scan 176 = .ok (.ireturn, 1) := by decide +kernel
theorem mbX13_ones : px_mB mX13_ones 1 := ⟨tb9 (List.mem_of_getElem? (i := 7) rfl), by decide +kernel, tb1 (List.mem_of_getElem? (i := 15) rfl), by decide +kernel, by decide +kernel⟩
theorem kcX13_scan_138 : px_cS mX13_scan 138 mX13_ones 1 := ⟨⟨mbX13_ones, by decide, by decide⟩, Or.inl (tb9 (List.mem_of_getElem? (i := 5) rfl)), tb9 (List.mem_of_getElem? (i := 6) rfl)⟩
set_option maxRecDepth 100000 in
set_option maxHeartbeats 4000000 in
theorem eX13_scan_148 {X : px_X}  : ∀ (a0 : Nat) (a1 : Int32) (a2 : Int32) (a3 : Int32) (a4 : Int32) (a5 : Int32) (w : px_W) (q : Int32 × px_W), fX13_scan_148 X  a0 a1 a2 a3 a4 a5 w = some q → EV X mX13_scan 148 [(0, .ref a0), (1, .int a1), (2, .int a2), (3, .int a3), (4, .int a4), (5, .int a5)] [] w (some (.int q.1)) q.2 := by
  intro a0 a1 a2 a3 a4 a5 w q h
  unfold fX13_scan_148 at h
  refine EV.aload_n 0 dX13_scan_148 rfl rfl ?_
  refine EV.iload_n 1 dX13_scan_149 rfl rfl ?_
  obtain ⟨w8, gw8, h⟩ := px_bs h
  refine ev_pV dX13_scan_150 flRX13_103 rfl rfl rfl rfl gw8 ?_
  refine EV.aload_n 0 dX13_scan_153 rfl rfl ?_
  refine EV.iload_n 2 dX13_scan_154 rfl rfl ?_
  obtain ⟨w9, gw9, h⟩ := px_bs h
  refine ev_pV dX13_scan_155 flRX13_106 rfl rfl rfl rfl gw9 ?_
  refine EV.aload_n 0 dX13_scan_158 rfl rfl ?_
  refine EV.iload_n 3 dX13_scan_159 rfl rfl ?_
  obtain ⟨w10, gw10, h⟩ := px_bs h
  refine ev_pV dX13_scan_160 flRX13_109 rfl rfl rfl rfl gw10 ?_
  refine EV.aload_n 0 dX13_scan_163 rfl rfl ?_
  refine EV.iload 4 dX13_scan_164 rfl ?_
  obtain ⟨w11, gw11, h⟩ := px_bs h
  refine ev_pV dX13_scan_166 flRX13_112 rfl rfl rfl rfl gw11 ?_
  refine EV.aload_n 0 dX13_scan_169 rfl rfl ?_
  refine EV.iload 5 dX13_scan_170 rfl ?_
  obtain ⟨w12, gw12, h⟩ := px_bs h
  refine ev_pV dX13_scan_172 flRX13_115 rfl rfl rfl rfl gw12 ?_
  refine EV.iconst (1) dX13_scan_175 (by decide) ?_
  cases h
  exact EV.reti dX13_scan_176 rfl
set_option maxRecDepth 100000 in
set_option maxHeartbeats 4000000 in
theorem eX13_scan_124 {X : px_X}  : ∀ (a0 : Nat) (a1 : Int32) (a2 : Int32) (a3 : Int32) (a4 : Int32) (a5 : Int32) (a6 : Int32) (a7 : Int32) (a8 : Int32) (s0 : Int32) (w : px_W) (q : Int32 × px_W), fX13_scan_124 X  a0 a1 a2 a3 a4 a5 a6 a7 a8 s0 w = some q → EV X mX13_scan 124 [(0, .ref a0), (1, .int a1), (2, .int a2), (3, .int a3), (4, .int a4), (5, .int a5), (6, .int a6), (7, .int a7), (8, .int a8)] [.int s0] w (some (.int q.1)) q.2 := by
  intro a0 a1 a2 a3 a4 a5 a6 a7 a8 s0 w q h
  unfold fX13_scan_124 at h
  refine EV.istore [(9, .int s0), (0, .ref a0), (1, .int a1), (2, .int a2), (3, .int a3), (4, .int a4), (5, .int a5), (6, .int a6), (7, .int a7), (8, .int a8)] dX13_scan_124 (by decide) rfl ?_
  refine EV.iload 7 dX13_scan_126 rfl ?_
  refine EV.if_eq 146 dX13_scan_128 (by decide) (fun c13 => ?_) (fun c13 => ?_)
  · rw [if_pos c13] at h
    refine EV.iconst (0) dX13_scan_146 (by decide) ?_
    cases h
    exact EV.reti dX13_scan_147 rfl
  · rw [if_neg c13] at h
    refine EV.iload 8 dX13_scan_131 rfl ?_
    refine EV.if_ne 148 dX13_scan_133 (by decide) (fun c14 => ?_) (fun c14 => ?_)
    · rw [if_neg c14] at h
      refine EV.sub [1, 2, 3, 4, 5, 6] rfl ?_
      exact eX13_scan_148  _ _ _ _ _ _ _ _ h
    · rw [if_pos c14] at h
      refine EV.iload 9 dX13_scan_136 rfl ?_
      refine EV.if_ne 148 dX13_scan_138 (by decide) (fun c15 => ?_) (fun c15 => ?_)
      · rw [if_neg c15] at h
        refine EV.sub [1, 2, 3, 4, 5, 6] rfl ?_
        exact eX13_scan_148  _ _ _ _ _ _ _ _ h
      · rw [if_pos c15] at h
        refine EV.iload 0 dX13_scan_141 rfl ?_
        refine EV.if_ne 148 dX13_scan_143 (by decide) (fun c16 => ?_) (fun c16 => ?_)
        · rw [if_neg c16] at h
          refine EV.sub [1, 2, 3, 4, 5, 6] rfl ?_
          exact eX13_scan_148  _ _ _ _ _ _ _ _ h
        · rw [if_pos c16] at h
          refine EV.iconst (0) dX13_scan_146 (by decide) ?_
          cases h
          exact EV.reti dX13_scan_147 rfl
set_option maxRecDepth 100000 in
set_option maxHeartbeats 4000000 in
theorem eX13_scan_123 {X : px_X}  : ∀ (a0 : Nat) (a1 : Int32) (a2 : Int32) (a3 : Int32) (a4 : Int32) (a5 : Int32) (a6 : Int32) (a7 : Int32) (a8 : Int32) (w : px_W) (q : Int32 × px_W), fX13_scan_123 X  a0 a1 a2 a3 a4 a5 a6 a7 a8 w = some q → EV X mX13_scan 123 [(0, .ref a0), (1, .int a1), (2, .int a2), (3, .int a3), (4, .int a4), (5, .int a5), (6, .int a6), (7, .int a7), (8, .int a8)] [] w (some (.int q.1)) q.2 := by
  intro a0 a1 a2 a3 a4 a5 a6 a7 a8 w q h
  unfold fX13_scan_123 at h
  refine EV.iconst (0) dX13_scan_123 (by decide) ?_
  refine EV.sub [0, 1, 2, 3, 4, 5, 6, 7, 8] rfl ?_
  exact eX13_scan_124  _ _ _ _ _ _ _ _ _ _ _ _ h
set_option maxRecDepth 100000 in
set_option maxHeartbeats 4000000 in
theorem eX13_scan_87 {X : px_X}  : ∀ (a0 : Nat) (a1 : Int32) (a2 : Int32) (a3 : Int32) (a4 : Int32) (a5 : Int32) (a6 : Int32) (a7 : Int32) (s0 : Int32) (w : px_W) (q : Int32 × px_W), fX13_scan_87 X  a0 a1 a2 a3 a4 a5 a6 a7 s0 w = some q → EV X mX13_scan 87 [(0, .ref a0), (1, .int a1), (2, .int a2), (3, .int a3), (4, .int a4), (5, .int a5), (6, .int a6), (7, .int a7)] [.int s0] w (some (.int q.1)) q.2 := by
  intro a0 a1 a2 a3 a4 a5 a6 a7 s0 w q h
  unfold fX13_scan_87 at h
  refine EV.istore [(8, .int s0), (0, .ref a0), (1, .int a1), (2, .int a2), (3, .int a3), (4, .int a4), (5, .int a5), (6, .int a6), (7, .int a7)] dX13_scan_87 (by decide) rfl ?_
  refine EV.iload_n 3 dX13_scan_89 rfl rfl ?_
  refine EV.iconst (1) dX13_scan_90 (by decide) ?_
  refine EV.icmp_lt 123 dX13_scan_91 (by decide) (fun c17 => ?_) (fun c17 => ?_)
  · rw [if_pos c17] at h
    refine EV.sub [1, 2, 3, 4, 5, 6, 7, 8, 0] rfl ?_
    exact eX13_scan_123  _ _ _ _ _ _ _ _ _ _ _ h
  · rw [if_neg c17] at h
    refine EV.iload_n 3 dX13_scan_94 rfl rfl ?_
    refine EV.bipush (63) dX13_scan_95 (by decide) ?_
    refine EV.icmp_gt 123 dX13_scan_97 (by decide) (fun c18 => ?_) (fun c18 => ?_)
    · rw [if_pos c18] at h
      refine EV.sub [1, 2, 3, 4, 5, 6, 7, 8, 0] rfl ?_
      exact eX13_scan_123  _ _ _ _ _ _ _ _ _ _ _ h
    · rw [if_neg c18] at h
      refine EV.iload_n 4 dX13_scan_100 rfl rfl ?_
      refine EV.iload_n 3 dX13_scan_101 rfl rfl ?_
      refine EV.icmp_lt 123 dX13_scan_102 (by decide) (fun c19 => ?_) (fun c19 => ?_)
      · rw [if_pos c19] at h
        refine EV.sub [1, 2, 3, 4, 5, 6, 7, 8, 0] rfl ?_
        exact eX13_scan_123  _ _ _ _ _ _ _ _ _ _ _ h
      · rw [if_neg c19] at h
        refine EV.iload_n 4 dX13_scan_105 rfl rfl ?_
        refine EV.bipush (63) dX13_scan_106 (by decide) ?_
        refine EV.icmp_gt 123 dX13_scan_108 (by decide) (fun c20 => ?_) (fun c20 => ?_)
        · rw [if_pos c20] at h
          refine EV.sub [1, 2, 3, 4, 5, 6, 7, 8, 0] rfl ?_
          exact eX13_scan_123  _ _ _ _ _ _ _ _ _ _ _ h
        · rw [if_neg c20] at h
          refine EV.iload_n 2 dX13_scan_111 rfl rfl ?_
          obtain ⟨q21, gq21, h⟩ := px_bs h
          refine EV.callS (As := [.int a1]) (rest := []) dX13_scan_112 kcX13_scan_138 rfl (Nat.le_of_ble_eq_true rfl) (Nat.le_of_ble_eq_true rfl) (eX13_ones gq21) ?_
          refine EV.iconst (1) dX13_scan_115 (by decide) ?_
          refine EV.icmp_ne 123 dX13_scan_116 (by decide) (fun c22 => ?_) (fun c22 => ?_)
          · rw [if_neg c22] at h
            refine EV.sub [1, 2, 3, 4, 5, 6, 7, 8, 0] rfl ?_
            exact eX13_scan_123  _ _ _ _ _ _ _ _ _ _ _ h
          · rw [if_pos c22] at h
            refine EV.iconst (1) dX13_scan_119 (by decide) ?_
            refine EV.goto 124 dX13_scan_120 (by decide) ?_
            refine EV.sub [1, 2, 3, 4, 5, 6, 7, 8, 0] rfl ?_
            exact eX13_scan_124  _ _ _ _ _ _ _ _ _ _ _ _ h
set_option maxRecDepth 100000 in
set_option maxHeartbeats 4000000 in
theorem eX13_scan_86 {X : px_X}  : ∀ (a0 : Nat) (a1 : Int32) (a2 : Int32) (a3 : Int32) (a4 : Int32) (a5 : Int32) (a6 : Int32) (a7 : Int32) (w : px_W) (q : Int32 × px_W), fX13_scan_86 X  a0 a1 a2 a3 a4 a5 a6 a7 w = some q → EV X mX13_scan 86 [(0, .ref a0), (1, .int a1), (2, .int a2), (3, .int a3), (4, .int a4), (5, .int a5), (6, .int a6), (7, .int a7)] [] w (some (.int q.1)) q.2 := by
  intro a0 a1 a2 a3 a4 a5 a6 a7 w q h
  unfold fX13_scan_86 at h
  refine EV.iconst (0) dX13_scan_86 (by decide) ?_
  refine EV.sub [0, 1, 2, 3, 4, 5, 6, 7] rfl ?_
  exact eX13_scan_87  _ _ _ _ _ _ _ _ _ _ _ h
set_option maxRecDepth 100000 in
set_option maxHeartbeats 4000000 in
theorem eX13_scan_72 {X : px_X}  : ∀ (a0 : Nat) (a1 : Int32) (a2 : Int32) (a3 : Int32) (a4 : Int32) (a5 : Int32) (a6 : Int32) (s0 : Int32) (w : px_W) (q : Int32 × px_W), fX13_scan_72 X  a0 a1 a2 a3 a4 a5 a6 s0 w = some q → EV X mX13_scan 72 [(0, .ref a0), (1, .int a1), (2, .int a2), (3, .int a3), (4, .int a4), (5, .int a5), (6, .int a6)] [.int s0] w (some (.int q.1)) q.2 := by
  intro a0 a1 a2 a3 a4 a5 a6 s0 w q h
  unfold fX13_scan_72 at h
  refine EV.istore [(7, .int s0), (0, .ref a0), (1, .int a1), (2, .int a2), (3, .int a3), (4, .int a4), (5, .int a5), (6, .int a6)] dX13_scan_72 (by decide) rfl ?_
  refine EV.iload_n 3 dX13_scan_74 rfl rfl ?_
  refine EV.if_ne 86 dX13_scan_75 (by decide) (fun c23 => ?_) (fun c23 => ?_)
  · rw [if_neg c23] at h
    refine EV.sub [1, 2, 3, 4, 5, 6, 7, 0] rfl ?_
    exact eX13_scan_86  _ _ _ _ _ _ _ _ _ _ h
  · rw [if_pos c23] at h
    refine EV.iload_n 4 dX13_scan_78 rfl rfl ?_
    refine EV.if_ne 86 dX13_scan_79 (by decide) (fun c24 => ?_) (fun c24 => ?_)
    · rw [if_neg c24] at h
      refine EV.sub [1, 2, 3, 4, 5, 6, 7, 0] rfl ?_
      exact eX13_scan_86  _ _ _ _ _ _ _ _ _ _ h
    · rw [if_pos c24] at h
      refine EV.iconst (1) dX13_scan_82 (by decide) ?_
      refine EV.goto 87 dX13_scan_83 (by decide) ?_
      refine EV.sub [1, 2, 3, 4, 5, 6, 7, 0] rfl ?_
      exact eX13_scan_87  _ _ _ _ _ _ _ _ _ _ _ h
set_option maxRecDepth 100000 in
set_option maxHeartbeats 4000000 in
theorem eX13_scan_71 {X : px_X}  : ∀ (a0 : Nat) (a1 : Int32) (a2 : Int32) (a3 : Int32) (a4 : Int32) (a5 : Int32) (a6 : Int32) (w : px_W) (q : Int32 × px_W), fX13_scan_71 X  a0 a1 a2 a3 a4 a5 a6 w = some q → EV X mX13_scan 71 [(0, .ref a0), (1, .int a1), (2, .int a2), (3, .int a3), (4, .int a4), (5, .int a5), (6, .int a6)] [] w (some (.int q.1)) q.2 := by
  intro a0 a1 a2 a3 a4 a5 a6 w q h
  unfold fX13_scan_71 at h
  refine EV.iconst (0) dX13_scan_71 (by decide) ?_
  refine EV.sub [0, 1, 2, 3, 4, 5, 6] rfl ?_
  exact eX13_scan_72  _ _ _ _ _ _ _ _ _ _ h
set_option maxRecDepth 100000 in
set_option maxHeartbeats 4000000 in
theorem eX13_scan_45 {X : px_X}  : ∀ (a0 : Nat) (a1 : Int32) (a2 : Int32) (a3 : Int32) (a4 : Int32) (a5 : Int32) (s0 : Int32) (w : px_W) (q : Int32 × px_W), fX13_scan_45 X  a0 a1 a2 a3 a4 a5 s0 w = some q → EV X mX13_scan 45 [(0, .ref a0), (1, .int a1), (2, .int a2), (3, .int a3), (4, .int a4), (5, .int a5)] [.int s0] w (some (.int q.1)) q.2 := by
  intro a0 a1 a2 a3 a4 a5 s0 w q h
  unfold fX13_scan_45 at h
  refine EV.istore [(6, .int s0), (0, .ref a0), (1, .int a1), (2, .int a2), (3, .int a3), (4, .int a4), (5, .int a5)] dX13_scan_45 (by decide) rfl ?_
  refine EV.iload_n 3 dX13_scan_47 rfl rfl ?_
  refine EV.if_ne 71 dX13_scan_48 (by decide) (fun c25 => ?_) (fun c25 => ?_)
  · rw [if_neg c25] at h
    refine EV.sub [1, 2, 3, 4, 5, 6, 0] rfl ?_
    exact eX13_scan_71  _ _ _ _ _ _ _ _ _ h
  · rw [if_pos c25] at h
    refine EV.iload_n 4 dX13_scan_51 rfl rfl ?_
    refine EV.bipush (63) dX13_scan_52 (by decide) ?_
    refine EV.icmp_ne 71 dX13_scan_54 (by decide) (fun c26 => ?_) (fun c26 => ?_)
    · rw [if_neg c26] at h
      refine EV.sub [1, 2, 3, 4, 5, 6, 0] rfl ?_
      exact eX13_scan_71  _ _ _ _ _ _ _ _ _ h
    · rw [if_pos c26] at h
      refine EV.iload 5 dX13_scan_57 rfl ?_
      refine EV.if_ne 71 dX13_scan_59 (by decide) (fun c27 => ?_) (fun c27 => ?_)
      · rw [if_neg c27] at h
        refine EV.sub [1, 2, 3, 4, 5, 6, 0] rfl ?_
        exact eX13_scan_71  _ _ _ _ _ _ _ _ _ h
      · rw [if_pos c27] at h
        refine EV.iload 6 dX13_scan_62 rfl ?_
        refine EV.if_ne 71 dX13_scan_64 (by decide) (fun c28 => ?_) (fun c28 => ?_)
        · rw [if_neg c28] at h
          refine EV.sub [1, 2, 3, 4, 5, 6, 0] rfl ?_
          exact eX13_scan_71  _ _ _ _ _ _ _ _ _ h
        · rw [if_pos c28] at h
          refine EV.iconst (1) dX13_scan_67 (by decide) ?_
          refine EV.goto 72 dX13_scan_68 (by decide) ?_
          refine EV.sub [1, 2, 3, 4, 5, 6, 0] rfl ?_
          exact eX13_scan_72  _ _ _ _ _ _ _ _ _ _ h
set_option maxRecDepth 100000 in
set_option maxHeartbeats 4000000 in
theorem eX13_scan_40 {X : px_X}  : ∀ (a0 : Nat) (a1 : Int32) (a2 : Int32) (a3 : Int32) (a4 : Int32) (a5 : Int32) (w : px_W) (q : Int32 × px_W), fX13_scan_40 X  a0 a1 a2 a3 a4 a5 w = some q → EV X mX13_scan 40 [(0, .ref a0), (1, .int a1), (2, .int a2), (3, .int a3), (4, .int a4), (5, .int a5)] [] w (some (.int q.1)) q.2 := by
  intro a0 a1 a2 a3 a4 a5 w q h
  unfold fX13_scan_40 at h
  refine EV.iconst (1) dX13_scan_40 (by decide) ?_
  refine EV.goto 45 dX13_scan_41 (by decide) ?_
  refine EV.sub [0, 1, 2, 3, 4, 5] rfl ?_
  exact eX13_scan_45  _ _ _ _ _ _ _ _ _ h
set_option maxRecDepth 100000 in
set_option maxHeartbeats 4000000 in
theorem eX13_scan_44 {X : px_X}  : ∀ (a0 : Nat) (a1 : Int32) (a2 : Int32) (a3 : Int32) (a4 : Int32) (a5 : Int32) (w : px_W) (q : Int32 × px_W), fX13_scan_44 X  a0 a1 a2 a3 a4 a5 w = some q → EV X mX13_scan 44 [(0, .ref a0), (1, .int a1), (2, .int a2), (3, .int a3), (4, .int a4), (5, .int a5)] [] w (some (.int q.1)) q.2 := by
  intro a0 a1 a2 a3 a4 a5 w q h
  unfold fX13_scan_44 at h
  refine EV.iconst (0) dX13_scan_44 (by decide) ?_
  refine EV.sub [0, 1, 2, 3, 4, 5] rfl ?_
  exact eX13_scan_45  _ _ _ _ _ _ _ _ _ h
set_option maxRecDepth 100000 in
set_option maxHeartbeats 4000000 in
theorem eX13_scan {X : px_X} {w : px_W} {a0 : Nat} {a1 : Int32} {a2 : Int32} {a3 : Int32} {a4 : Int32} {a5 : Int32} {q : Int32 × px_W} (h : fX13_scan X w a0 a1 a2 a3 a4 a5 = some q) : EV X mX13_scan 0 (lv_args 0 [.ref a0, .int a1, .int a2, .int a3, .int a4, .int a5]) [] w (some (.int q.1)) q.2 := by
  unfold fX13_scan at h
  show EV X mX13_scan 0 [(0, .ref a0), (1, .int a1), (2, .int a2), (3, .int a3), (4, .int a4), (5, .int a5)] [] w (some (.int q.1)) q.2
  refine EV.iload_n 1 dX13_scan_0 rfl rfl ?_
  refine EV.if_le 44 dX13_scan_1 (by decide) (fun c29 => ?_) (fun c29 => ?_)
  · rw [if_pos c29] at h
    refine EV.sub [0, 1, 2, 3, 4, 5] rfl ?_
    exact eX13_scan_44  _ _ _ _ _ _ _ _ h
  · rw [if_neg c29] at h
    refine EV.iload_n 1 dX13_scan_4 rfl rfl ?_
    refine EV.iconst (1) dX13_scan_5 (by decide) ?_
    refine EV.aload_n 0 dX13_scan_6 rfl rfl ?_
    obtain ⟨v30, gv30, h⟩ := px_bs h
    refine ev_gI dX13_scan_7 flRX13_94 gv30 ?_
    refine EV.ishl dX13_scan_10 ?_
    refine EV.icmp_ge 44 dX13_scan_11 (by decide) (fun c31 => ?_) (fun c31 => ?_)
    · rw [if_pos c31] at h
      refine EV.sub [0, 1, 2, 3, 4, 5] rfl ?_
      exact eX13_scan_44  _ _ _ _ _ _ _ _ h
    · rw [if_neg c31] at h
      refine EV.iload 5 dX13_scan_14 rfl ?_
      refine EV.if_lt 44 dX13_scan_16 (by decide) (fun c32 => ?_) (fun c32 => ?_)
      · rw [if_pos c32] at h
        refine EV.sub [0, 1, 2, 3, 4, 5] rfl ?_
        exact eX13_scan_44  _ _ _ _ _ _ _ _ h
      · rw [if_neg c32] at h
        refine EV.iload 5 dX13_scan_19 rfl ?_
        refine EV.bipush (9) dX13_scan_21 (by decide) ?_
        refine EV.icmp_gt 44 dX13_scan_23 (by decide) (fun c33 => ?_) (fun c33 => ?_)
        · rw [if_pos c33] at h
          refine EV.sub [0, 1, 2, 3, 4, 5] rfl ?_
          exact eX13_scan_44  _ _ _ _ _ _ _ _ h
        · rw [if_neg c33] at h
          refine EV.iload 4 dX13_scan_26 rfl ?_
          refine EV.if_eq 40 dX13_scan_28 (by decide) (fun c34 => ?_) (fun c34 => ?_)
          · rw [if_pos c34] at h
            refine EV.sub [0, 1, 2, 3, 4, 5] rfl ?_
            exact eX13_scan_40  _ _ _ _ _ _ _ _ h
          · rw [if_neg c34] at h
            refine EV.iload 4 dX13_scan_31 rfl ?_
            refine EV.iload 5 dX13_scan_33 rfl ?_
            refine EV.iconst (1) dX13_scan_35 (by decide) ?_
            refine EV.iadd dX13_scan_36 ?_
            refine EV.icmp_ne 44 dX13_scan_37 (by decide) (fun c35 => ?_) (fun c35 => ?_)
            · rw [if_neg c35] at h
              refine EV.sub [0, 1, 2, 3, 4, 5] rfl ?_
              exact eX13_scan_44  _ _ _ _ _ _ _ _ h
            · rw [if_pos c35] at h
              refine EV.sub [0, 1, 2, 3, 4, 5] rfl ?_
              exact eX13_scan_40  _ _ _ _ _ _ _ _ h
/-! WavePicturesModel$Scans.tables(III)Z -/
theorem dX13_tables_0 : decode cX13_tables 0 = .ok (.iload_n 1, 1) := by decide +kernel
theorem dX13_tables_1 : decode cX13_tables 1 = .ok (.ifCond .lt 31, 3) := by decide +kernel
theorem dX13_tables_4 : decode cX13_tables 4 = .ok (.iload_n 1, 1) := by decide +kernel
theorem dX13_tables_5 : decode cX13_tables 5 = .ok (.aload_n 0, 1) := by decide +kernel
theorem dX13_tables_6 : decode cX13_tables 6 = .ok (.getfield 94, 3) := by decide +kernel
theorem dX13_tables_9 : decode cX13_tables 9 = .ok (.if_icmp .ge 23, 3) := by decide +kernel
theorem dX13_tables_12 : decode cX13_tables 12 = .ok (.iload_n 2, 1) := by decide +kernel
theorem dX13_tables_13 : decode cX13_tables 13 = .ok (.ifCond .lt 19, 3) := by decide +kernel
theorem dX13_tables_16 : decode cX13_tables 16 = .ok (.iload_n 2, 1) := by decide +kernel
theorem dX13_tables_17 : decode cX13_tables 17 = .ok (.iconst 3, 1) := by decide +kernel
theorem dX13_tables_18 : decode cX13_tables 18 = .ok (.if_icmp .gt 14, 3) := by decide +kernel
theorem dX13_tables_21 : decode cX13_tables 21 = .ok (.iload_n 3, 1) := by decide +kernel
theorem dX13_tables_22 : decode cX13_tables 22 = .ok (.iconst 4, 1) := by decide +kernel
theorem dX13_tables_23 : decode cX13_tables 23 = .ok (.if_icmp .lt 9, 3) := by decide +kernel
theorem dX13_tables_26 : decode cX13_tables 26 = .ok (.iload_n 3, 1) := by decide +kernel
theorem dX13_tables_27 : decode cX13_tables 27 = .ok (.bipush 7, 2) := by decide +kernel
theorem dX13_tables_29 : decode cX13_tables 29 = .ok (.if_icmp .le 5, 3) := by decide +kernel
theorem dX13_tables_32 : decode cX13_tables 32 = .ok (.iconst 0, 1) := by decide +kernel
theorem dX13_tables_33 : decode cX13_tables 33 = .ok (.ireturn, 1) := by decide +kernel
theorem dX13_tables_34 : decode cX13_tables 34 = .ok (.aload_n 0, 1) := by decide +kernel
theorem dX13_tables_35 : decode cX13_tables 35 = .ok (.getfield 55, 3) := by decide +kernel
theorem dX13_tables_38 : decode cX13_tables 38 = .ok (.iload_n 1, 1) := by decide +kernel
theorem dX13_tables_39 : decode cX13_tables 39 = .ok (.iload_n 2, 1) := by decide +kernel
theorem dX13_tables_40 : decode cX13_tables 40 = .ok (.iastore, 1) := by decide +kernel
theorem dX13_tables_41 : decode cX13_tables 41 = .ok (.aload_n 0, 1) := by decide +kernel
theorem dX13_tables_42 : decode cX13_tables 42 = .ok (.getfield 58, 3) := by decide +kernel
theorem dX13_tables_45 : decode cX13_tables 45 = .ok (.iload_n 1, 1) := by decide +kernel
theorem dX13_tables_46 : decode cX13_tables 46 = .ok (.iload_n 3, 1) := by decide +kernel
theorem dX13_tables_47 : decode cX13_tables 47 = .ok (.iastore, 1) := by decide +kernel
theorem dX13_tables_48 : decode cX13_tables 48 = .ok (.iconst 1, 1) := by decide +kernel
theorem dX13_tables_49 : decode cX13_tables 49 = .ok (.ireturn, 1) := by decide +kernel
set_option maxRecDepth 100000 in
set_option maxHeartbeats 4000000 in
theorem eX13_tables {X : px_X} {w : px_W} {a0 : Nat} {a1 : Int32} {a2 : Int32} {a3 : Int32} {q : Int32 × px_W} (h : fX13_tables X w a0 a1 a2 a3 = some q) : EV X mX13_tables 0 (lv_args 0 [.ref a0, .int a1, .int a2, .int a3]) [] w (some (.int q.1)) q.2 := by
  unfold fX13_tables at h
  show EV X mX13_tables 0 [(0, .ref a0), (1, .int a1), (2, .int a2), (3, .int a3)] [] w (some (.int q.1)) q.2
  refine EV.iload_n 1 dX13_tables_0 rfl rfl ?_
  refine EV.if_lt 32 dX13_tables_1 (by decide) (fun c6 => ?_) (fun c6 => ?_)
  · rw [if_pos c6] at h
    refine EV.iconst (0) dX13_tables_32 (by decide) ?_
    cases h
    exact EV.reti dX13_tables_33 rfl
  · rw [if_neg c6] at h
    refine EV.iload_n 1 dX13_tables_4 rfl rfl ?_
    refine EV.aload_n 0 dX13_tables_5 rfl rfl ?_
    obtain ⟨v7, gv7, h⟩ := px_bs h
    refine ev_gI dX13_tables_6 flRX13_94 gv7 ?_
    refine EV.icmp_ge 32 dX13_tables_9 (by decide) (fun c8 => ?_) (fun c8 => ?_)
    · rw [if_pos c8] at h
      refine EV.iconst (0) dX13_tables_32 (by decide) ?_
      cases h
      exact EV.reti dX13_tables_33 rfl
    · rw [if_neg c8] at h
      refine EV.iload_n 2 dX13_tables_12 rfl rfl ?_
      refine EV.if_lt 32 dX13_tables_13 (by decide) (fun c9 => ?_) (fun c9 => ?_)
      · rw [if_pos c9] at h
        refine EV.iconst (0) dX13_tables_32 (by decide) ?_
        cases h
        exact EV.reti dX13_tables_33 rfl
      · rw [if_neg c9] at h
        refine EV.iload_n 2 dX13_tables_16 rfl rfl ?_
        refine EV.iconst (3) dX13_tables_17 (by decide) ?_
        refine EV.icmp_gt 32 dX13_tables_18 (by decide) (fun c10 => ?_) (fun c10 => ?_)
        · rw [if_pos c10] at h
          refine EV.iconst (0) dX13_tables_32 (by decide) ?_
          cases h
          exact EV.reti dX13_tables_33 rfl
        · rw [if_neg c10] at h
          refine EV.iload_n 3 dX13_tables_21 rfl rfl ?_
          refine EV.iconst (4) dX13_tables_22 (by decide) ?_
          refine EV.icmp_lt 32 dX13_tables_23 (by decide) (fun c11 => ?_) (fun c11 => ?_)
          · rw [if_pos c11] at h
            refine EV.iconst (0) dX13_tables_32 (by decide) ?_
            cases h
            exact EV.reti dX13_tables_33 rfl
          · rw [if_neg c11] at h
            refine EV.iload_n 3 dX13_tables_26 rfl rfl ?_
            refine EV.bipush (7) dX13_tables_27 (by decide) ?_
            refine EV.icmp_le 34 dX13_tables_29 (by decide) (fun c12 => ?_) (fun c12 => ?_)
            · rw [if_pos c12] at h
              refine EV.aload_n 0 dX13_tables_34 rfl rfl ?_
              obtain ⟨v13, gv13, h⟩ := px_bs h
              refine ev_gR dX13_tables_35 flRX13_55 gv13 ?_
              refine EV.iload_n 1 dX13_tables_38 rfl rfl ?_
              refine EV.iload_n 2 dX13_tables_39 rfl rfl ?_
              obtain ⟨w14, gw14, h⟩ := px_bs h
              refine ev_sI dX13_tables_40 gw14 ?_
              refine EV.aload_n 0 dX13_tables_41 rfl rfl ?_
              obtain ⟨v15, gv15, h⟩ := px_bs h
              refine ev_gR dX13_tables_42 flRX13_58 gv15 ?_
              refine EV.iload_n 1 dX13_tables_45 rfl rfl ?_
              refine EV.iload_n 3 dX13_tables_46 rfl rfl ?_
              obtain ⟨w16, gw16, h⟩ := px_bs h
              refine ev_sI dX13_tables_47 gw16 ?_
              refine EV.iconst (1) dX13_tables_48 (by decide) ?_
              cases h
              exact EV.reti dX13_tables_49 rfl
            · rw [if_neg c12] at h
              refine EV.iconst (0) dX13_tables_32 (by decide) ?_
              cases h
              exact EV.reti dX13_tables_33 rfl
/-! WavePicturesModel$Scans.restart(I)Z -/
theorem dX13_restart_0 : decode cX13_restart 0 = .ok (.iload_n 1, 1) := by decide +kernel
theorem dX13_restart_1 : decode cX13_restart 1 = .ok (.ifCond .lt 9, 3) := by decide +kernel
theorem dX13_restart_4 : decode cX13_restart 4 = .ok (.iload_n 1, 1) := by decide +kernel
theorem dX13_restart_5 : decode cX13_restart 5 = .ok (.ldc 142, 2) := by decide +kernel
theorem dX13_restart_7 : decode cX13_restart 7 = .ok (.if_icmp .le 5, 3) := by decide +kernel
theorem dX13_restart_10 : decode cX13_restart 10 = .ok (.iconst 0, 1) := by decide +kernel
theorem dX13_restart_11 : decode cX13_restart 11 = .ok (.ireturn, 1) := by decide +kernel
theorem dX13_restart_12 : decode cX13_restart 12 = .ok (.aload_n 0, 1) := by decide +kernel
theorem dX13_restart_13 : decode cX13_restart 13 = .ok (.iload_n 1, 1) := by decide +kernel
theorem dX13_restart_14 : decode cX13_restart 14 = .ok (.putfield 118, 3) := by decide +kernel
theorem dX13_restart_17 : decode cX13_restart 17 = .ok (.iconst 1, 1) := by decide +kernel
theorem dX13_restart_18 : decode cX13_restart 18 = .ok (.ireturn, 1) := by decide +kernel
set_option maxRecDepth 100000 in
set_option maxHeartbeats 4000000 in
theorem eX13_restart {X : px_X} {w : px_W} {a0 : Nat} {a1 : Int32} {q : Int32 × px_W} (h : fX13_restart X w a0 a1 = some q) : EV X mX13_restart 0 (lv_args 0 [.ref a0, .int a1]) [] w (some (.int q.1)) q.2 := by
  unfold fX13_restart at h
  show EV X mX13_restart 0 [(0, .ref a0), (1, .int a1)] [] w (some (.int q.1)) q.2
  refine EV.iload_n 1 dX13_restart_0 rfl rfl ?_
  refine EV.if_lt 10 dX13_restart_1 (by decide) (fun c2 => ?_) (fun c2 => ?_)
  · rw [if_pos c2] at h
    refine EV.iconst (0) dX13_restart_10 (by decide) ?_
    cases h
    exact EV.reti dX13_restart_11 rfl
  · rw [if_neg c2] at h
    refine EV.iload_n 1 dX13_restart_4 rfl rfl ?_
    refine EV.ldc (v := 65535) dX13_restart_5 (tb9 (List.mem_of_getElem? (i := 12) rfl)) ?_
    refine EV.icmp_le 12 dX13_restart_7 (by decide) (fun c3 => ?_) (fun c3 => ?_)
    · rw [if_pos c3] at h
      refine EV.aload_n 0 dX13_restart_12 rfl rfl ?_
      refine EV.iload_n 1 dX13_restart_13 rfl rfl ?_
      obtain ⟨w4, gw4, h⟩ := px_bs h
      refine ev_pV dX13_restart_14 flRX13_118 rfl rfl rfl rfl gw4 ?_
      refine EV.iconst (1) dX13_restart_17 (by decide) ?_
      cases h
      exact EV.reti dX13_restart_18 rfl
    · rw [if_neg c3] at h
      refine EV.iconst (0) dX13_restart_10 (by decide) ?_
      cases h
      exact EV.reti dX13_restart_11 rfl
/-! WavePicturesModel$Scans.canBe(II)Z -/
theorem dX13_canBe_0 : decode cX13_canBe 0 = .ok (.iload_n 1, 1) := by decide +kernel
theorem dX13_canBe_1 : decode cX13_canBe 1 = .ok (.iload_n 0, 1) := by decide +kernel
theorem dX13_canBe_2 : decode cX13_canBe 2 = .ok (.ifCond .ne 9, 3) := by decide +kernel
theorem dX13_canBe_5 : decode cX13_canBe 5 = .ok (.sipush (-1024), 3) := by decide +kernel
theorem dX13_canBe_8 : decode cX13_canBe 8 = .ok (.goto 6, 3) := by decide +kernel
theorem dX13_canBe_11 : decode cX13_canBe 11 = .ok (.sipush (-1023), 3) := by decide +kernel
theorem dX13_canBe_14 : decode cX13_canBe 14 = .ok (.if_icmp .lt 14, 3) := by decide +kernel
theorem dX13_canBe_17 : decode cX13_canBe 17 = .ok (.iload_n 1, 1) := by decide +kernel
theorem dX13_canBe_18 : decode cX13_canBe 18 = .ok (.sipush 1023, 3) := by decide +kernel
theorem dX13_canBe_21 : decode cX13_canBe 21 = .ok (.if_icmp .gt 7, 3) := by decide +kernel
theorem dX13_canBe_24 : decode cX13_canBe 24 = .ok (.iconst 1, 1) := by decide +kernel
theorem dX13_canBe_25 : decode cX13_canBe 25 = .ok (.goto 4, 3) := by decide +kernel
theorem dX13_canBe_28 : decode cX13_canBe 28 = .ok (.iconst 0, 1) := by decide +kernel
theorem dX13_canBe_29 : decode cX13_canBe 29 = .ok (.ireturn, 1) := by decide +kernel
set_option maxRecDepth 100000 in
set_option maxHeartbeats 4000000 in
theorem eX13_canBe_14 {X : px_X}  : ∀ (a1 : Int32) (s0 : Int32) (s1 : Int32) (w : px_W) (q : Int32 × px_W), fX13_canBe_14 X  a1 s0 s1 w = some q → EV X mX13_canBe 14 [(1, .int a1)] [.int s0, .int s1] w (some (.int q.1)) q.2 := by
  intro a1 s0 s1 w q h
  unfold fX13_canBe_14 at h
  refine EV.icmp_lt 28 dX13_canBe_14 (by decide) (fun c1 => ?_) (fun c1 => ?_)
  · rw [if_pos c1] at h
    refine EV.iconst (0) dX13_canBe_28 (by decide) ?_
    cases h
    exact EV.reti dX13_canBe_29 rfl
  · rw [if_neg c1] at h
    refine EV.iload_n 0 dX13_canBe_17 rfl rfl ?_
    refine EV.sipush (1023) dX13_canBe_18 (by decide) ?_
    refine EV.icmp_gt 28 dX13_canBe_21 (by decide) (fun c2 => ?_) (fun c2 => ?_)
    · rw [if_pos c2] at h
      refine EV.iconst (0) dX13_canBe_28 (by decide) ?_
      cases h
      exact EV.reti dX13_canBe_29 rfl
    · rw [if_neg c2] at h
      refine EV.iconst (1) dX13_canBe_24 (by decide) ?_
      refine EV.goto 29 dX13_canBe_25 (by decide) ?_
      cases h
      exact EV.reti dX13_canBe_29 rfl
set_option maxRecDepth 100000 in
set_option maxHeartbeats 4000000 in
theorem eX13_canBe {X : px_X} {w : px_W} {a0 : Int32} {a1 : Int32} {q : Int32 × px_W} (h : fX13_canBe X w a0 a1 = some q) : EV X mX13_canBe 0 (lv_args 0 [.int a0, .int a1]) [] w (some (.int q.1)) q.2 := by
  unfold fX13_canBe at h
  show EV X mX13_canBe 0 [(0, .int a0), (1, .int a1)] [] w (some (.int q.1)) q.2
  refine EV.iload_n 1 dX13_canBe_0 rfl rfl ?_
  refine EV.iload_n 0 dX13_canBe_1 rfl rfl ?_
  refine EV.if_ne 11 dX13_canBe_2 (by decide) (fun c3 => ?_) (fun c3 => ?_)
  · rw [if_neg c3] at h
    refine EV.sipush ((-1023)) dX13_canBe_11 (by decide) ?_
    refine EV.sub [1] rfl ?_
    exact eX13_canBe_14  _ _ _ _ _ h
  · rw [if_pos c3] at h
    refine EV.sipush ((-1024)) dX13_canBe_5 (by decide) ?_
    refine EV.goto 14 dX13_canBe_8 (by decide) ?_
    refine EV.sub [1] rfl ?_
    exact eX13_canBe_14  _ _ _ _ _ h
/-! WavePicturesModel$Scans.single()I -/
theorem dX13_single_0 : decode cX13_single 0 = .ok (.iconst 0, 1) := by decide +kernel
theorem dX13_single_1 : decode cX13_single 1 = .ok (.istore_n 1, 1) := by decide +kernel
theorem dX13_single_2 : decode cX13_single 2 = .ok (.aload_n 0, 1) := by decide +kernel
theorem dX13_single_3 : decode cX13_single 3 = .ok (.getfield 103, 3) := by decide +kernel
theorem dX13_single_6 : decode cX13_single 6 = .ok (.iload_n 1, 1) := by decide +kernel
theorem dX13_single_7 : decode cX13_single 7 = .ok (.ishr, 1) := by decide +kernel
theorem dX13_single_8 : decode cX13_single 8 = .ok (.iconst 1, 1) := by decide +kernel
theorem dX13_single_9 : decode cX13_single 9 = .ok (.iand, 1) := by decide +kernel
theorem dX13_single_10 : decode cX13_single 10 = .ok (.ifCond .ne 9, 3) := by decide +kernel
theorem dX13_single_13 : decode cX13_single 13 = .ok (.iinc 1 1, 3) := by decide +kernel
theorem dX13_single_16 : decode cX13_single 16 = .ok (.goto (-14), 3) := by decide +kernel
theorem dX13_single_19 : decode cX13_single 19 = .ok (.iload_n 1, 1) := by decide +kernel
theorem dX13_single_20 : decode cX13_single 20 = .ok (.ireturn, 1) := by decide +kernel
set_option maxRecDepth 100000 in
set_option maxHeartbeats 4000000 in
theorem eX13_single_2 {X : px_X}  : ∀ (m : Nat) (a0 : Nat) (a1 : Int32) (w : px_W) (q : Int32 × px_W), fX13_single_2 X  m a0 a1 w = some q → EV X mX13_single 2 [(0, .ref a0), (1, .int a1)] [] w (some (.int q.1)) q.2 := by
  intro m
  induction m with
  | zero => intro a0 a1 w q h; cases h
  | succ m ih =>
    intro a0 a1 w q h
    rw [fX13_single_2.eq_2] at h
    refine EV.aload_n 0 dX13_single_2 rfl rfl ?_
    obtain ⟨v2, gv2, h⟩ := px_bs h
    refine ev_gI dX13_single_3 flRX13_103 gv2 ?_
    refine EV.iload_n 1 dX13_single_6 rfl rfl ?_
    refine EV.ishr dX13_single_7 ?_
    refine EV.iconst (1) dX13_single_8 (by decide) ?_
    refine EV.iand dX13_single_9 ?_
    refine EV.if_ne 19 dX13_single_10 (by decide) (fun c3 => ?_) (fun c3 => ?_)
    · rw [if_neg c3] at h
      refine EV.iload_n 1 dX13_single_19 rfl rfl ?_
      cases h
      exact EV.reti dX13_single_20 rfl
    · rw [if_pos c3] at h
      refine EV.iinc 1 (a1 + 1) [(1, .int (a1 + 1)), (0, .ref a0)] dX13_single_13 rfl rfl (by decide) rfl ?_
      refine EV.goto 2 dX13_single_16 (by decide) ?_
      refine EV.sub [1, 0] rfl ?_
      exact ih _ _ _ _ h
set_option maxRecDepth 100000 in
set_option maxHeartbeats 4000000 in
theorem eX13_single {X : px_X} {w : px_W} {a0 : Nat} {q : Int32 × px_W} (h : fX13_single X w a0 = some q) : EV X mX13_single 0 (lv_args 0 [.ref a0]) [] w (some (.int q.1)) q.2 := by
  unfold fX13_single at h
  show EV X mX13_single 0 [(0, .ref a0)] [] w (some (.int q.1)) q.2
  refine EV.iconst (0) dX13_single_0 (by decide) ?_
  refine EV.istore_n [(1, .int 0), (0, .ref a0)] dX13_single_1 rfl (by decide) rfl ?_
  refine EV.sub [1, 0] rfl ?_
  exact eX13_single_2  FU _ _ _ _ h
/-! WavePicturesModel$Scans.units()I -/
theorem dX13_units_0 : decode cX13_units 0 = .ok (.aload_n 0, 1) := by decide +kernel
theorem dX13_units_1 : decode cX13_units 1 = .ok (.invokevirtual 143, 3) := by decide +kernel
theorem dX13_units_4 : decode cX13_units 4 = .ok (.istore_n 1, 1) := by decide +kernel
theorem dX13_units_5 : decode cX13_units 5 = .ok (.aload_n 0, 1) := by decide +kernel
theorem dX13_units_6 : decode cX13_units 6 = .ok (.getfield 103, 3) := by decide +kernel
theorem dX13_units_9 : decode cX13_units 9 = .ok (.invokestatic 138, 3) := by decide +kernel
theorem dX13_units_12 : decode cX13_units 12 = .ok (.iconst 1, 1) := by decide +kernel
theorem dX13_units_13 : decode cX13_units 13 = .ok (.if_icmp .ne 19, 3) := by decide +kernel
theorem dX13_units_16 : decode cX13_units 16 = .ok (.aload_n 0, 1) := by decide +kernel
theorem dX13_units_17 : decode cX13_units 17 = .ok (.getfield 24, 3) := by decide +kernel
theorem dX13_units_20 : decode cX13_units 20 = .ok (.iload_n 1, 1) := by decide +kernel
theorem dX13_units_21 : decode cX13_units 21 = .ok (.iaload, 1) := by decide +kernel
theorem dX13_units_22 : decode cX13_units 22 = .ok (.aload_n 0, 1) := by decide +kernel
theorem dX13_units_23 : decode cX13_units 23 = .ok (.getfield 27, 3) := by decide +kernel
theorem dX13_units_26 : decode cX13_units 26 = .ok (.iload_n 1, 1) := by decide +kernel
theorem dX13_units_27 : decode cX13_units 27 = .ok (.iaload, 1) := by decide +kernel
theorem dX13_units_28 : decode cX13_units 28 = .ok (.imul, 1) := by decide +kernel
theorem dX13_units_29 : decode cX13_units 29 = .ok (.goto 12, 3) := by decide +kernel
theorem dX13_units_32 : decode cX13_units 32 = .ok (.aload_n 0, 1) := by decide +kernel
theorem dX13_units_33 : decode cX13_units 33 = .ok (.getfield 97, 3) := by decide +kernel
theorem dX13_units_36 : decode cX13_units 36 = .ok (.aload_n 0, 1) := by decide +kernel
theorem dX13_units_37 : decode cX13_units 37 = .ok (.getfield 100, 3) := by decide +kernel
theorem dX13_units_40 : decode cX13_units 40 = .ok (.imul, 1) := by decide +kernel
theorem dX13_units_41 : decode cX13_units 41 = .ok (.ireturn, 1) := by decide +kernel
theorem kcX13_units_138 : px_cS mX13_units 138 mX13_ones 1 := ⟨⟨mbX13_ones, by decide, by decide⟩, Or.inl (tb9 (List.mem_of_getElem? (i := 5) rfl)), tb9 (List.mem_of_getElem? (i := 6) rfl)⟩
theorem mbX13_single : px_mB mX13_single 0 := ⟨tb9 (List.mem_of_getElem? (i := 28) rfl), by decide +kernel, tb1 (List.mem_of_getElem? (i := 15) rfl), by decide +kernel, by decide +kernel⟩
theorem vbX13_single : px_vB mX13_single := ⟨tb9 (List.mem_of_getElem? (i := 27) rfl), List.mem_append_left _ (List.mem_of_getElem? (i := 114) (by decide +kernel))⟩
theorem kcX13_units_143 : px_cV mX13_units 143 mX13_single 0 := ⟨⟨mbX13_single, by decide, by decide⟩, Or.inl (tb9 (List.mem_of_getElem? (i := 25) rfl)), vbX13_single⟩
set_option maxRecDepth 100000 in
set_option maxHeartbeats 4000000 in
theorem eX13_units {X : px_X} {w : px_W} {a0 : Nat} {q : Int32 × px_W} (h : fX13_units X w a0 = some q) : EV X mX13_units 0 (lv_args 0 [.ref a0]) [] w (some (.int q.1)) q.2 := by
  unfold fX13_units at h
  show EV X mX13_units 0 [(0, .ref a0)] [] w (some (.int q.1)) q.2
  refine EV.aload_n 0 dX13_units_0 rfl rfl ?_
  obtain ⟨o11, go11, h⟩ := px_bs h
  obtain ⟨q12, gq12, h⟩ := px_bs h
  refine EV.callV (As := []) (rest := []) dX13_units_1 kcX13_units_143 (gO_ok go11) rfl rfl rfl (Nat.le_of_ble_eq_true rfl) (Nat.le_of_ble_eq_true rfl) (eX13_single gq12) ?_
  refine EV.istore_n [(1, .int q12.1), (0, .ref a0)] dX13_units_4 rfl (by decide) rfl ?_
  refine EV.aload_n 1 dX13_units_5 rfl rfl ?_
  obtain ⟨v13, gv13, h⟩ := px_bs h
  refine ev_gI dX13_units_6 flRX13_103 gv13 ?_
  obtain ⟨q14, gq14, h⟩ := px_bs h
  refine EV.callS (As := [.int v13]) (rest := []) dX13_units_9 kcX13_units_138 rfl (Nat.le_of_ble_eq_true rfl) (Nat.le_of_ble_eq_true rfl) (eX13_ones gq14) ?_
  refine EV.iconst (1) dX13_units_12 (by decide) ?_
  refine EV.icmp_ne 32 dX13_units_13 (by decide) (fun c15 => ?_) (fun c15 => ?_)
  · rw [if_neg c15] at h
    refine EV.aload_n 1 dX13_units_32 rfl rfl ?_
    obtain ⟨v16, gv16, h⟩ := px_bs h
    refine ev_gI dX13_units_33 flRX13_97 gv16 ?_
    refine EV.aload_n 1 dX13_units_36 rfl rfl ?_
    obtain ⟨v17, gv17, h⟩ := px_bs h
    refine ev_gI dX13_units_37 flRX13_100 gv17 ?_
    refine EV.imul dX13_units_40 ?_
    cases h
    exact EV.reti dX13_units_41 rfl
  · rw [if_pos c15] at h
    refine EV.aload_n 1 dX13_units_16 rfl rfl ?_
    obtain ⟨v18, gv18, h⟩ := px_bs h
    refine ev_gR dX13_units_17 flRX13_24 gv18 ?_
    refine EV.iload_n 0 dX13_units_20 rfl rfl ?_
    obtain ⟨v19, gv19, h⟩ := px_bs h
    refine ev_aI dX13_units_21 gv19 ?_
    refine EV.aload_n 1 dX13_units_22 rfl rfl ?_
    obtain ⟨v20, gv20, h⟩ := px_bs h
    refine ev_gR dX13_units_23 flRX13_27 gv20 ?_
    refine EV.iload_n 0 dX13_units_26 rfl rfl ?_
    obtain ⟨v21, gv21, h⟩ := px_bs h
    refine ev_aI dX13_units_27 gv21 ?_
    refine EV.imul dX13_units_28 ?_
    refine EV.goto 41 dX13_units_29 (by decide) ?_
    cases h
    exact EV.reti dX13_units_41 rfl
/-! WavePicturesModel$Scans.sizeOf(I)I -/
theorem dX13_sizeOf_0 : decode cX13_sizeOf 0 = .ok (.iconst 0, 1) := by decide +kernel
theorem dX13_sizeOf_1 : decode cX13_sizeOf 1 = .ok (.istore_n 1, 1) := by decide +kernel
theorem dX13_sizeOf_2 : decode cX13_sizeOf 2 = .ok (.iload_n 0, 1) := by decide +kernel
theorem dX13_sizeOf_3 : decode cX13_sizeOf 3 = .ok (.ifCond .ge 8, 3) := by decide +kernel
theorem dX13_sizeOf_6 : decode cX13_sizeOf 6 = .ok (.iload_n 0, 1) := by decide +kernel
theorem dX13_sizeOf_7 : decode cX13_sizeOf 7 = .ok (.ineg, 1) := by decide +kernel
theorem dX13_sizeOf_8 : decode cX13_sizeOf 8 = .ok (.goto 4, 3) := by decide +kernel
theorem dX13_sizeOf_11 : decode cX13_sizeOf 11 = .ok (.iload_n 0, 1) := by decide +kernel
theorem dX13_sizeOf_12 : decode cX13_sizeOf 12 = .ok (.istore_n 2, 1) := by decide +kernel
theorem dX13_sizeOf_13 : decode cX13_sizeOf 13 = .ok (.iload_n 2, 1) := by decide +kernel
theorem dX13_sizeOf_14 : decode cX13_sizeOf 14 = .ok (.ifCond .le 13, 3) := by decide +kernel
theorem dX13_sizeOf_17 : decode cX13_sizeOf 17 = .ok (.iinc 1 1, 3) := by decide +kernel
theorem dX13_sizeOf_20 : decode cX13_sizeOf 20 = .ok (.iload_n 2, 1) := by decide +kernel
theorem dX13_sizeOf_21 : decode cX13_sizeOf 21 = .ok (.iconst 2, 1) := by decide +kernel
theorem dX13_sizeOf_22 : decode cX13_sizeOf 22 = .ok (.idiv, 1) := by decide +kernel
theorem dX13_sizeOf_23 : decode cX13_sizeOf 23 = .ok (.istore_n 2, 1) := by decide +kernel
theorem dX13_sizeOf_24 : decode cX13_sizeOf 24 = .ok (.goto (-11), 3) := by decide +kernel
theorem dX13_sizeOf_27 : decode cX13_sizeOf 27 = .ok (.iload_n 1, 1) := by decide +kernel
theorem dX13_sizeOf_28 : decode cX13_sizeOf 28 = .ok (.ireturn, 1) := by decide +kernel
set_option maxRecDepth 100000 in
set_option maxHeartbeats 4000000 in
theorem eX13_sizeOf_13 {X : px_X}  : ∀ (m : Nat) (a1 : Int32) (a2 : Int32) (w : px_W) (q : Int32 × px_W), fX13_sizeOf_13 X  m a1 a2 w = some q → EV X mX13_sizeOf 13 [(1, .int a1), (2, .int a2)] [] w (some (.int q.1)) q.2 := by
  intro m
  induction m with
  | zero => intro a1 a2 w q h; cases h
  | succ m ih =>
    intro a1 a2 w q h
    rw [fX13_sizeOf_13.eq_2] at h
    refine EV.iload_n 1 dX13_sizeOf_13 rfl rfl ?_
    refine EV.if_le 27 dX13_sizeOf_14 (by decide) (fun c2 => ?_) (fun c2 => ?_)
    · rw [if_pos c2] at h
      refine EV.iload_n 0 dX13_sizeOf_27 rfl rfl ?_
      cases h
      exact EV.reti dX13_sizeOf_28 rfl
    · rw [if_neg c2] at h
      refine EV.iinc 0 (a1 + 1) [(1, .int (a1 + 1)), (2, .int a2)] dX13_sizeOf_17 rfl rfl (by decide) rfl ?_
      refine EV.iload_n 1 dX13_sizeOf_20 rfl rfl ?_
      refine EV.iconst (2) dX13_sizeOf_21 (by decide) ?_
      obtain ⟨v3, gv3, h⟩ := px_bs h
      refine ev_dI dX13_sizeOf_22 gv3 ?_
      refine EV.istore_n [(2, .int v3), (1, .int (a1 + 1))] dX13_sizeOf_23 rfl (by decide) rfl ?_
      refine EV.goto 13 dX13_sizeOf_24 (by decide) ?_
      refine EV.sub [1, 0] rfl ?_
      exact ih _ _ _ _ h
set_option maxRecDepth 100000 in
set_option maxHeartbeats 4000000 in
theorem eX13_sizeOf_12 {X : px_X}  : ∀ (a1 : Int32) (s0 : Int32) (w : px_W) (q : Int32 × px_W), fX13_sizeOf_12 X  a1 s0 w = some q → EV X mX13_sizeOf 12 [(1, .int a1)] [.int s0] w (some (.int q.1)) q.2 := by
  intro a1 s0 w q h
  unfold fX13_sizeOf_12 at h
  refine EV.istore_n [(2, .int s0), (1, .int a1)] dX13_sizeOf_12 rfl (by decide) rfl ?_
  refine EV.sub [1, 0] rfl ?_
  exact eX13_sizeOf_13  FU _ _ _ _ h
set_option maxRecDepth 100000 in
set_option maxHeartbeats 4000000 in
theorem eX13_sizeOf {X : px_X} {w : px_W} {a0 : Int32} {q : Int32 × px_W} (h : fX13_sizeOf X w a0 = some q) : EV X mX13_sizeOf 0 (lv_args 0 [.int a0]) [] w (some (.int q.1)) q.2 := by
  unfold fX13_sizeOf at h
  show EV X mX13_sizeOf 0 [(0, .int a0)] [] w (some (.int q.1)) q.2
  refine EV.iconst (0) dX13_sizeOf_0 (by decide) ?_
  refine EV.istore_n [(1, .int 0), (0, .int a0)] dX13_sizeOf_1 rfl (by decide) rfl ?_
  refine EV.iload_n 1 dX13_sizeOf_2 rfl rfl ?_
  refine EV.if_ge 11 dX13_sizeOf_3 (by decide) (fun c4 => ?_) (fun c4 => ?_)
  · rw [if_pos c4] at h
    refine EV.iload_n 1 dX13_sizeOf_11 rfl rfl ?_
    refine EV.sub [0] rfl ?_
    exact eX13_sizeOf_12  _ _ _ _ h
  · rw [if_neg c4] at h
    refine EV.iload_n 1 dX13_sizeOf_6 rfl rfl ?_
    refine EV.ineg dX13_sizeOf_7 ?_
    refine EV.goto 12 dX13_sizeOf_8 (by decide) ?_
    refine EV.sub [0] rfl ?_
    exact eX13_sizeOf_12  _ _ _ _ h
