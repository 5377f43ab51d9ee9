/-! WavePicturesModel.showAt(IZ)Z -/
theorem dX15_showAt_0 : decode cX15_showAt 0 = .ok (.aload_n 0, 1) := by decide +kernel
theorem dX15_showAt_1 : decode cX15_showAt 1 = .ok (.getfield 235, 3) := by decide +kernel
theorem dX15_showAt_4 : decode cX15_showAt 4 = .ok (.ifCond .eq 24, 3) := by decide +kernel
theorem dX15_showAt_7 : decode cX15_showAt 7 = .ok (.iload_n 1, 1) := by decide +kernel
theorem dX15_showAt_8 : decode cX15_showAt 8 = .ok (.iconst 1, 1) := by decide +kernel
theorem dX15_showAt_9 : decode cX15_showAt 9 = .ok (.if_icmp .eq 21, 3) := by decide +kernel
theorem dX15_showAt_12 : decode cX15_showAt 12 = .ok (.iload_n 1, 1) := by decide +kernel
theorem dX15_showAt_13 : decode cX15_showAt 13 = .ok (.iconst 2, 1) := by decide +kernel
theorem dX15_showAt_14 : decode cX15_showAt 14 = .ok (.if_icmp .eq 16, 3) := by decide +kernel
theorem dX15_showAt_17 : decode cX15_showAt 17 = .ok (.iload_n 1, 1) := by decide +kernel
theorem dX15_showAt_18 : decode cX15_showAt 18 = .ok (.iconst 4, 1) := by decide +kernel
theorem dX15_showAt_19 : decode cX15_showAt 19 = .ok (.if_icmp .eq 11, 3) := by decide +kernel
theorem dX15_showAt_22 : decode cX15_showAt 22 = .ok (.iload_n 1, 1) := by decide +kernel
theorem dX15_showAt_23 : decode cX15_showAt 23 = .ok (.bipush 8, 2) := by decide +kernel
theorem dX15_showAt_25 : decode cX15_showAt 25 = .ok (.if_icmp .eq 5, 3) := by decide +kernel
theorem dX15_showAt_28 : decode cX15_showAt 28 = .ok (.iconst 0, 1) := by decide +kernel
theorem dX15_showAt_29 : decode cX15_showAt 29 = .ok (.ireturn, 1) := by decide +kernel
theorem dX15_showAt_30 : decode cX15_showAt 30 = .ok (.aload_n 0, 1) := by decide +kernel
theorem dX15_showAt_31 : decode cX15_showAt 31 = .ok (.getfield 129, 3) := by decide +kernel
theorem dX15_showAt_34 : decode cX15_showAt 34 = .ok (.iload_n 1, 1) := by decide +kernel
theorem dX15_showAt_35 : decode cX15_showAt 35 = .ok (.imul, 1) := by decide +kernel
theorem dX15_showAt_36 : decode cX15_showAt 36 = .ok (.bipush 8, 2) := by decide +kernel
theorem dX15_showAt_38 : decode cX15_showAt 38 = .ok (.invokestatic 132, 3) := by decide +kernel
theorem dX15_showAt_41 : decode cX15_showAt 41 = .ok (.istore_n 3, 1) := by decide +kernel
theorem dX15_showAt_42 : decode cX15_showAt 42 = .ok (.aload_n 0, 1) := by decide +kernel
theorem dX15_showAt_43 : decode cX15_showAt 43 = .ok (.getfield 139, 3) := by decide +kernel
theorem dX15_showAt_46 : decode cX15_showAt 46 = .ok (.iload_n 1, 1) := by decide +kernel
theorem dX15_showAt_47 : decode cX15_showAt 47 = .ok (.imul, 1) := by decide +kernel
theorem dX15_showAt_48 : decode cX15_showAt 48 = .ok (.bipush 8, 2) := by decide +kernel
theorem dX15_showAt_50 : decode cX15_showAt 50 = .ok (.invokestatic 132, 3) := by decide +kernel
theorem dX15_showAt_53 : decode cX15_showAt 53 = .ok (.istore 4, 2) := by decide +kernel
theorem dX15_showAt_55 : decode cX15_showAt 55 = .ok (.iload_n 3, 1) := by decide +kernel
theorem dX15_showAt_56 : decode cX15_showAt 56 = .ok (.bipush 32, 2) := by decide +kernel
theorem dX15_showAt_58 : decode cX15_showAt 58 = .ok (.if_icmp .gt 10, 3) := by decide +kernel
theorem dX15_showAt_61 : decode cX15_showAt 61 = .ok (.iload 4, 2) := by decide +kernel
theorem dX15_showAt_63 : decode cX15_showAt 63 = .ok (.bipush 32, 2) := by decide +kernel
theorem dX15_showAt_65 : decode cX15_showAt 65 = .ok (.if_icmp .le 5, 3) := by decide +kernel
theorem dX15_showAt_68 : decode cX15_showAt 68 = .ok (.iconst 0, 1) := by decide +kernel
theorem dX15_showAt_69 : decode cX15_showAt 69 = .ok (.ireturn, 1) := by decide +kernel
theorem dX15_showAt_70 : decode cX15_showAt 70 = .ok (.iconst 0, 1) := by decide +kernel
theorem dX15_showAt_71 : decode cX15_showAt 71 = .ok (.istore 5, 2) := by decide +kernel
theorem dX15_showAt_73 : decode cX15_showAt 73 = .ok (.iload 5, 2) := by decide +kernel
theorem dX15_showAt_75 : decode cX15_showAt 75 = .ok (.aload_n 0, 1) := by decide +kernel
theorem dX15_showAt_76 : decode cX15_showAt 76 = .ok (.getfield 126, 3) := by decide +kernel
theorem dX15_showAt_79 : decode cX15_showAt 79 = .ok (.if_icmp .ge 275, 3) := by decide +kernel
theorem dX15_showAt_82 : decode cX15_showAt 82 = .ok (.aload_n 0, 1) := by decide +kernel
theorem dX15_showAt_83 : decode cX15_showAt 83 = .ok (.iload_n 1, 1) := by decide +kernel
theorem dX15_showAt_84 : decode cX15_showAt 84 = .ok (.aload_n 0, 1) := by decide +kernel
theorem dX15_showAt_85 : decode cX15_showAt 85 = .ok (.getfield 58, 3) := by decide +kernel
theorem dX15_showAt_88 : decode cX15_showAt 88 = .ok (.iload 5, 2) := by decide +kernel
theorem dX15_showAt_90 : decode cX15_showAt 90 = .ok (.iaload, 1) := by decide +kernel
theorem dX15_showAt_91 : decode cX15_showAt 91 = .ok (.imul, 1) := by decide +kernel
theorem dX15_showAt_92 : decode cX15_showAt 92 = .ok (.putfield 333, 3) := by decide +kernel
theorem dX15_showAt_95 : decode cX15_showAt 95 = .ok (.aload_n 0, 1) := by decide +kernel
theorem dX15_showAt_96 : decode cX15_showAt 96 = .ok (.iload_n 1, 1) := by decide +kernel
theorem dX15_showAt_97 : decode cX15_showAt 97 = .ok (.aload_n 0, 1) := by decide +kernel
theorem dX15_showAt_98 : decode cX15_showAt 98 = .ok (.getfield 61, 3) := by decide +kernel
theorem dX15_showAt_101 : decode cX15_showAt 101 = .ok (.iload 5, 2) := by decide +kernel
theorem dX15_showAt_103 : decode cX15_showAt 103 = .ok (.iaload, 1) := by decide +kernel
theorem dX15_showAt_104 : decode cX15_showAt 104 = .ok (.imul, 1) := by decide +kernel
theorem dX15_showAt_105 : decode cX15_showAt 105 = .ok (.putfield 350, 3) := by decide +kernel
theorem dX15_showAt_108 : decode cX15_showAt 108 = .ok (.iconst 0, 1) := by decide +kernel
theorem dX15_showAt_109 : decode cX15_showAt 109 = .ok (.istore 6, 2) := by decide +kernel
theorem dX15_showAt_111 : decode cX15_showAt 111 = .ok (.iload 6, 2) := by decide +kernel
theorem dX15_showAt_113 : decode cX15_showAt 113 = .ok (.aload_n 0, 1) := by decide +kernel
theorem dX15_showAt_114 : decode cX15_showAt 114 = .ok (.getfield 58, 3) := by decide +kernel
theorem dX15_showAt_117 : decode cX15_showAt 117 = .ok (.iload 5, 2) := by decide +kernel
theorem dX15_showAt_119 : decode cX15_showAt 119 = .ok (.iaload, 1) := by decide +kernel
theorem dX15_showAt_120 : decode cX15_showAt 120 = .ok (.aload_n 0, 1) := by decide +kernel
theorem dX15_showAt_121 : decode cX15_showAt 121 = .ok (.getfield 61, 3) := by decide +kernel
theorem dX15_showAt_124 : decode cX15_showAt 124 = .ok (.iload 5, 2) := by decide +kernel
theorem dX15_showAt_126 : decode cX15_showAt 126 = .ok (.iaload, 1) := by decide +kernel
theorem dX15_showAt_127 : decode cX15_showAt 127 = .ok (.imul, 1) := by decide +kernel
theorem dX15_showAt_128 : decode cX15_showAt 128 = .ok (.if_icmp .ge 42, 3) := by decide +kernel
theorem dX15_showAt_131 : decode cX15_showAt 131 = .ok (.aload_n 0, 1) := by decide +kernel
theorem dX15_showAt_132 : decode cX15_showAt 132 = .ok (.iload 5, 2) := by decide +kernel
theorem dX15_showAt_134 : decode cX15_showAt 134 = .ok (.iload 6, 2) := by decide +kernel
theorem dX15_showAt_136 : decode cX15_showAt 136 = .ok (.iload_n 1, 1) := by decide +kernel
theorem dX15_showAt_137 : decode cX15_showAt 137 = .ok (.iload_n 1, 1) := by decide +kernel
theorem dX15_showAt_138 : decode cX15_showAt 138 = .ok (.iload 6, 2) := by decide +kernel
theorem dX15_showAt_140 : decode cX15_showAt 140 = .ok (.aload_n 0, 1) := by decide +kernel
theorem dX15_showAt_141 : decode cX15_showAt 141 = .ok (.getfield 58, 3) := by decide +kernel
theorem dX15_showAt_144 : decode cX15_showAt 144 = .ok (.iload 5, 2) := by decide +kernel
theorem dX15_showAt_146 : decode cX15_showAt 146 = .ok (.iaload, 1) := by decide +kernel
theorem dX15_showAt_147 : decode cX15_showAt 147 = .ok (.irem, 1) := by decide +kernel
theorem dX15_showAt_148 : decode cX15_showAt 148 = .ok (.imul, 1) := by decide +kernel
theorem dX15_showAt_149 : decode cX15_showAt 149 = .ok (.iload_n 1, 1) := by decide +kernel
theorem dX15_showAt_150 : decode cX15_showAt 150 = .ok (.iload 6, 2) := by decide +kernel
theorem dX15_showAt_152 : decode cX15_showAt 152 = .ok (.aload_n 0, 1) := by decide +kernel
theorem dX15_showAt_153 : decode cX15_showAt 153 = .ok (.getfield 58, 3) := by decide +kernel
theorem dX15_showAt_156 : decode cX15_showAt 156 = .ok (.iload 5, 2) := by decide +kernel
theorem dX15_showAt_158 : decode cX15_showAt 158 = .ok (.iaload, 1) := by decide +kernel
theorem dX15_showAt_159 : decode cX15_showAt 159 = .ok (.idiv, 1) := by decide +kernel
theorem dX15_showAt_160 : decode cX15_showAt 160 = .ok (.imul, 1) := by decide +kernel
theorem dX15_showAt_161 : decode cX15_showAt 161 = .ok (.invokevirtual 371, 3) := by decide +kernel
theorem dX15_showAt_164 : decode cX15_showAt 164 = .ok (.iinc 6 1, 3) := by decide +kernel
theorem dX15_showAt_167 : decode cX15_showAt 167 = .ok (.goto (-56), 3) := by decide +kernel
theorem dX15_showAt_170 : decode cX15_showAt 170 = .ok (.aload_n 0, 1) := by decide +kernel
theorem dX15_showAt_171 : decode cX15_showAt 171 = .ok (.aload_n 0, 1) := by decide +kernel
theorem dX15_showAt_172 : decode cX15_showAt 172 = .ok (.getfield 129, 3) := by decide +kernel
theorem dX15_showAt_175 : decode cX15_showAt 175 = .ok (.aload_n 0, 1) := by decide +kernel
theorem dX15_showAt_176 : decode cX15_showAt 176 = .ok (.getfield 52, 3) := by decide +kernel
theorem dX15_showAt_179 : decode cX15_showAt 179 = .ok (.iload 5, 2) := by decide +kernel
theorem dX15_showAt_181 : decode cX15_showAt 181 = .ok (.iaload, 1) := by decide +kernel
theorem dX15_showAt_182 : decode cX15_showAt 182 = .ok (.imul, 1) := by decide +kernel
theorem dX15_showAt_183 : decode cX15_showAt 183 = .ok (.aload_n 0, 1) := by decide +kernel
theorem dX15_showAt_184 : decode cX15_showAt 184 = .ok (.getfield 120, 3) := by decide +kernel
theorem dX15_showAt_187 : decode cX15_showAt 187 = .ok (.invokestatic 132, 3) := by decide +kernel
theorem dX15_showAt_190 : decode cX15_showAt 190 = .ok (.iload_n 1, 1) := by decide +kernel
theorem dX15_showAt_191 : decode cX15_showAt 191 = .ok (.imul, 1) := by decide +kernel
theorem dX15_showAt_192 : decode cX15_showAt 192 = .ok (.bipush 8, 2) := by decide +kernel
theorem dX15_showAt_194 : decode cX15_showAt 194 = .ok (.invokestatic 132, 3) := by decide +kernel
theorem dX15_showAt_197 : decode cX15_showAt 197 = .ok (.aload_n 0, 1) := by decide +kernel
theorem dX15_showAt_198 : decode cX15_showAt 198 = .ok (.getfield 139, 3) := by decide +kernel
theorem dX15_showAt_201 : decode cX15_showAt 201 = .ok (.aload_n 0, 1) := by decide +kernel
theorem dX15_showAt_202 : decode cX15_showAt 202 = .ok (.getfield 55, 3) := by decide +kernel
theorem dX15_showAt_205 : decode cX15_showAt 205 = .ok (.iload 5, 2) := by decide +kernel
theorem dX15_showAt_207 : decode cX15_showAt 207 = .ok (.iaload, 1) := by decide +kernel
theorem dX15_showAt_208 : decode cX15_showAt 208 = .ok (.imul, 1) := by decide +kernel
theorem dX15_showAt_209 : decode cX15_showAt 209 = .ok (.aload_n 0, 1) := by decide +kernel
theorem dX15_showAt_210 : decode cX15_showAt 210 = .ok (.getfield 123, 3) := by decide +kernel
theorem dX15_showAt_213 : decode cX15_showAt 213 = .ok (.invokestatic 132, 3) := by decide +kernel
theorem dX15_showAt_216 : decode cX15_showAt 216 = .ok (.iload_n 1, 1) := by decide +kernel
theorem dX15_showAt_217 : decode cX15_showAt 217 = .ok (.imul, 1) := by decide +kernel
theorem dX15_showAt_218 : decode cX15_showAt 218 = .ok (.bipush 8, 2) := by decide +kernel
theorem dX15_showAt_220 : decode cX15_showAt 220 = .ok (.invokestatic 132, 3) := by decide +kernel
theorem dX15_showAt_223 : decode cX15_showAt 223 = .ok (.invokevirtual 365, 3) := by decide +kernel
theorem dX15_showAt_226 : decode cX15_showAt 226 = .ok (.aload_n 0, 1) := by decide +kernel
theorem dX15_showAt_227 : decode cX15_showAt 227 = .ok (.getfield 52, 3) := by decide +kernel
theorem dX15_showAt_230 : decode cX15_showAt 230 = .ok (.iload 5, 2) := by decide +kernel
theorem dX15_showAt_232 : decode cX15_showAt 232 = .ok (.iaload, 1) := by decide +kernel
theorem dX15_showAt_233 : decode cX15_showAt 233 = .ok (.aload_n 0, 1) := by decide +kernel
theorem dX15_showAt_234 : decode cX15_showAt 234 = .ok (.getfield 120, 3) := by decide +kernel
theorem dX15_showAt_237 : decode cX15_showAt 237 = .ok (.if_icmp .ge 9, 3) := by decide +kernel
theorem dX15_showAt_240 : decode cX15_showAt 240 = .ok (.aload_n 0, 1) := by decide +kernel
theorem dX15_showAt_241 : decode cX15_showAt 241 = .ok (.iconst 1, 1) := by decide +kernel
theorem dX15_showAt_242 : decode cX15_showAt 242 = .ok (.iload_n 2, 1) := by decide +kernel
theorem dX15_showAt_243 : decode cX15_showAt 243 = .ok (.invokevirtual 374, 3) := by decide +kernel
theorem dX15_showAt_246 : decode cX15_showAt 246 = .ok (.aload_n 0, 1) := by decide +kernel
theorem dX15_showAt_247 : decode cX15_showAt 247 = .ok (.getfield 55, 3) := by decide +kernel
theorem dX15_showAt_250 : decode cX15_showAt 250 = .ok (.iload 5, 2) := by decide +kernel
theorem dX15_showAt_252 : decode cX15_showAt 252 = .ok (.iaload, 1) := by decide +kernel
theorem dX15_showAt_253 : decode cX15_showAt 253 = .ok (.aload_n 0, 1) := by decide +kernel
theorem dX15_showAt_254 : decode cX15_showAt 254 = .ok (.getfield 123, 3) := by decide +kernel
theorem dX15_showAt_257 : decode cX15_showAt 257 = .ok (.if_icmp .ge 9, 3) := by decide +kernel
theorem dX15_showAt_260 : decode cX15_showAt 260 = .ok (.aload_n 0, 1) := by decide +kernel
theorem dX15_showAt_261 : decode cX15_showAt 261 = .ok (.iconst 0, 1) := by decide +kernel
theorem dX15_showAt_262 : decode cX15_showAt 262 = .ok (.iload_n 2, 1) := by decide +kernel
theorem dX15_showAt_263 : decode cX15_showAt 263 = .ok (.invokevirtual 374, 3) := by decide +kernel
theorem dX15_showAt_266 : decode cX15_showAt 266 = .ok (.aload_n 0, 1) := by decide +kernel
theorem dX15_showAt_267 : decode cX15_showAt 267 = .ok (.getfield 98, 3) := by decide +kernel
theorem dX15_showAt_270 : decode cX15_showAt 270 = .ok (.iload 5, 2) := by decide +kernel
theorem dX15_showAt_272 : decode cX15_showAt 272 = .ok (.iload_n 3, 1) := by decide +kernel
theorem dX15_showAt_273 : decode cX15_showAt 273 = .ok (.iastore, 1) := by decide +kernel
theorem dX15_showAt_274 : decode cX15_showAt 274 = .ok (.aload_n 0, 1) := by decide +kernel
theorem dX15_showAt_275 : decode cX15_showAt 275 = .ok (.getfield 101, 3) := by decide +kernel
theorem dX15_showAt_278 : decode cX15_showAt 278 = .ok (.iload 5, 2) := by decide +kernel
theorem dX15_showAt_280 : decode cX15_showAt 280 = .ok (.iload 4, 2) := by decide +kernel
theorem dX15_showAt_282 : decode cX15_showAt 282 = .ok (.iastore, 1) := by decide +kernel
theorem dX15_showAt_283 : decode cX15_showAt 283 = .ok (.iconst 0, 1) := by decide +kernel
theorem dX15_showAt_284 : decode cX15_showAt 284 = .ok (.istore 6, 2) := by decide +kernel
theorem dX15_showAt_286 : decode cX15_showAt 286 = .ok (.iload 6, 2) := by decide +kernel
theorem dX15_showAt_288 : decode cX15_showAt 288 = .ok (.iload 4, 2) := by decide +kernel
theorem dX15_showAt_290 : decode cX15_showAt 290 = .ok (.if_icmp .ge 58, 3) := by decide +kernel
theorem dX15_showAt_293 : decode cX15_showAt 293 = .ok (.iconst 0, 1) := by decide +kernel
theorem dX15_showAt_294 : decode cX15_showAt 294 = .ok (.istore 7, 2) := by decide +kernel
theorem dX15_showAt_296 : decode cX15_showAt 296 = .ok (.iload 7, 2) := by decide +kernel
theorem dX15_showAt_298 : decode cX15_showAt 298 = .ok (.iload_n 3, 1) := by decide +kernel
theorem dX15_showAt_299 : decode cX15_showAt 299 = .ok (.if_icmp .ge 43, 3) := by decide +kernel
theorem dX15_showAt_302 : decode cX15_showAt 302 = .ok (.aload_n 0, 1) := by decide +kernel
theorem dX15_showAt_303 : decode cX15_showAt 303 = .ok (.getfield 95, 3) := by decide +kernel
theorem dX15_showAt_306 : decode cX15_showAt 306 = .ok (.sipush 1024, 3) := by decide +kernel
theorem dX15_showAt_309 : decode cX15_showAt 309 = .ok (.iload 5, 2) := by decide +kernel
theorem dX15_showAt_311 : decode cX15_showAt 311 = .ok (.imul, 1) := by decide +kernel
theorem dX15_showAt_312 : decode cX15_showAt 312 = .ok (.iload_n 3, 1) := by decide +kernel
theorem dX15_showAt_313 : decode cX15_showAt 313 = .ok (.iload 6, 2) := by decide +kernel
theorem dX15_showAt_315 : decode cX15_showAt 315 = .ok (.imul, 1) := by decide +kernel
theorem dX15_showAt_316 : decode cX15_showAt 316 = .ok (.iadd, 1) := by decide +kernel
theorem dX15_showAt_317 : decode cX15_showAt 317 = .ok (.iload 7, 2) := by decide +kernel
theorem dX15_showAt_319 : decode cX15_showAt 319 = .ok (.iadd, 1) := by decide +kernel
theorem dX15_showAt_320 : decode cX15_showAt 320 = .ok (.aload_n 0, 1) := by decide +kernel
theorem dX15_showAt_321 : decode cX15_showAt 321 = .ok (.getfield 104, 3) := by decide +kernel
theorem dX15_showAt_324 : decode cX15_showAt 324 = .ok (.aload_n 0, 1) := by decide +kernel
theorem dX15_showAt_325 : decode cX15_showAt 325 = .ok (.getfield 333, 3) := by decide +kernel
theorem dX15_showAt_328 : decode cX15_showAt 328 = .ok (.iload 6, 2) := by decide +kernel
theorem dX15_showAt_330 : decode cX15_showAt 330 = .ok (.imul, 1) := by decide +kernel
theorem dX15_showAt_331 : decode cX15_showAt 331 = .ok (.iload 7, 2) := by decide +kernel
theorem dX15_showAt_333 : decode cX15_showAt 333 = .ok (.iadd, 1) := by decide +kernel
theorem dX15_showAt_334 : decode cX15_showAt 334 = .ok (.iaload, 1) := by decide +kernel
theorem dX15_showAt_335 : decode cX15_showAt 335 = .ok (.iastore, 1) := by decide +kernel
theorem dX15_showAt_336 : decode cX15_showAt 336 = .ok (.iinc 7 1, 3) := by decide +kernel
theorem dX15_showAt_339 : decode cX15_showAt 339 = .ok (.goto (-43), 3) := by decide +kernel
theorem dX15_showAt_342 : decode cX15_showAt 342 = .ok (.iinc 6 1, 3) := by decide +kernel
theorem dX15_showAt_345 : decode cX15_showAt 345 = .ok (.goto (-59), 3) := by decide +kernel
theorem dX15_showAt_348 : decode cX15_showAt 348 = .ok (.iinc 5 1, 3) := by decide +kernel
theorem dX15_showAt_351 : decode cX15_showAt 351 = .ok (.goto (-278), 3) := by decide +kernel
theorem dX15_showAt_354 : decode cX15_showAt 354 = .ok (.iconst 1, 1) := by decide +kernel
theorem dX15_showAt_355 : decode cX15_showAt 355 = .ok (.ireturn, 1) := by decide +kernel
theorem kcX15_showAt_132 : px_cS mX15_showAt 132 mX15_up 2 := ⟨⟨mbX15_up, by decide, by decide⟩, Or.inl (tb9 (List.mem_of_getElem? (i := 115) rfl)), tb9 (List.mem_of_getElem? (i := 116) rfl)⟩
theorem kcX15_showAt_365 : px_cV mX15_showAt 365 mX15_fit 2 := ⟨⟨mbX15_fit, by decide, by decide⟩, Or.inl (tb10 (List.mem_of_getElem? (i := 33) rfl)), vbX15_fit⟩
theorem mbX15_back : px_mB mX15_back 5 := ⟨tb10 (List.mem_of_getElem? (i := 61) rfl), by decide +kernel, tb1 (List.mem_of_getElem? (i := 13) rfl), by decide +kernel, by decide +kernel⟩
theorem vbX15_back : px_vB mX15_back := ⟨tb10 (List.mem_of_getElem? (i := 60) rfl), List.mem_append_left _ (List.mem_of_getElem? (i := 168) (by decide +kernel))⟩
theorem kcX15_showAt_371 : px_cV mX15_showAt 371 mX15_back 5 := ⟨⟨mbX15_back, by decide, by decide⟩, Or.inl (tb10 (List.mem_of_getElem? (i := 58) rfl)), vbX15_back⟩
theorem mbX15_grow : px_mB mX15_grow 2 := ⟨tb10 (List.mem_of_getElem? (i := 70) rfl), by decide +kernel, tb1 (List.mem_of_getElem? (i := 13) rfl), by decide +kernel, by decide +kernel⟩
theorem vbX15_grow : px_vB mX15_grow := ⟨tb10 (List.mem_of_getElem? (i := 69) rfl), List.mem_append_left _ (List.mem_of_getElem? (i := 169) (by decide +kernel))⟩
theorem kcX15_showAt_374 : px_cV mX15_showAt 374 mX15_grow 2 := ⟨⟨mbX15_grow, by decide, by decide⟩, Or.inl (tb10 (List.mem_of_getElem? (i := 67) rfl)), vbX15_grow⟩
set_option maxRecDepth 100000 in
set_option maxHeartbeats 4000000 in
theorem eX15_showAt_342 {X : px_X} {k73 : Nat → Int32 → Int32 → Int32 → Int32 → Int32 → px_W → Option (Int32 × px_W)} (hk73 : ∀ (a0 : Nat) (a1 : Int32) (a2 : Int32) (a3 : Int32) (a4 : Int32) (a5 : Int32) (w : px_W) (q : Int32 × px_W), k73 a0 a1 a2 a3 a4 a5 w = some q → EV X mX15_showAt 73 [(0, .ref a0), (1, .int a1), (2, .int a2), (3, .int a3), (4, .int a4), (5, .int a5)] [] w (some (.int q.1)) q.2) {k286 : Nat → Int32 → Int32 → Int32 → Int32 → Int32 → Int32 → px_W → Option (Int32 × px_W)} (hk286 : ∀ (a0 : Nat) (a1 : Int32) (a2 : Int32) (a3 : Int32) (a4 : Int32) (a5 : Int32) (a6 : Int32) (w : px_W) (q : Int32 × px_W), k286 a0 a1 a2 a3 a4 a5 a6 w = some q → EV X mX15_showAt 286 [(0, .ref a0), (1, .int a1), (2, .int a2), (3, .int a3), (4, .int a4), (5, .int a5), (6, .int a6)] [] w (some (.int q.1)) q.2) : ∀ (a0 : Nat) (a1 : Int32) (a2 : Int32) (a3 : Int32) (a4 : Int32) (a5 : Int32) (a6 : Int32) (w : px_W) (q : Int32 × px_W), fX15_showAt_342 X k73 k286 a0 a1 a2 a3 a4 a5 a6 w = some q → EV X mX15_showAt 342 [(0, .ref a0), (1, .int a1), (2, .int a2), (3, .int a3), (4, .int a4), (5, .int a5), (6, .int a6)] [] w (some (.int q.1)) q.2 := by
  intro a0 a1 a2 a3 a4 a5 a6 w q h
  unfold fX15_showAt_342 at h
  refine EV.iinc 6 (a6 + 1) [(6, .int (a6 + 1)), (0, .ref a0), (1, .int a1), (2, .int a2), (3, .int a3), (4, .int a4), (5, .int a5)] dX15_showAt_342 rfl rfl (by decide) rfl ?_
  refine EV.goto 286 dX15_showAt_345 (by decide) ?_
  refine EV.sub [1, 2, 3, 4, 5, 6, 0] rfl ?_
  exact hk286 _ _ _ _ _ _ _ _ _ h
set_option maxRecDepth 100000 in
set_option maxHeartbeats 4000000 in
theorem eX15_showAt_296 {X : px_X} {k73 : Nat → Int32 → Int32 → Int32 → Int32 → Int32 → px_W → Option (Int32 × px_W)} (hk73 : ∀ (a0 : Nat) (a1 : Int32) (a2 : Int32) (a3 : Int32) (a4 : Int32) (a5 : Int32) (w : px_W) (q : Int32 × px_W), k73 a0 a1 a2 a3 a4 a5 w = some q → EV X mX15_showAt 73 [(0, .ref a0), (1, .int a1), (2, .int a2), (3, .int a3), (4, .int a4), (5, .int a5)] [] w (some (.int q.1)) q.2) {k286 : Nat → Int32 → Int32 → Int32 → Int32 → Int32 → Int32 → px_W → Option (Int32 × px_W)} (hk286 : ∀ (a0 : Nat) (a1 : Int32) (a2 : Int32) (a3 : Int32) (a4 : Int32) (a5 : Int32) (a6 : Int32) (w : px_W) (q : Int32 × px_W), k286 a0 a1 a2 a3 a4 a5 a6 w = some q → EV X mX15_showAt 286 [(0, .ref a0), (1, .int a1), (2, .int a2), (3, .int a3), (4, .int a4), (5, .int a5), (6, .int a6)] [] w (some (.int q.1)) q.2) : ∀ (m : Nat) (a0 : Nat) (a1 : Int32) (a2 : Int32) (a3 : Int32) (a4 : Int32) (a5 : Int32) (a6 : Int32) (a7 : Int32) (w : px_W) (q : Int32 × px_W), fX15_showAt_296 X k73 k286 m a0 a1 a2 a3 a4 a5 a6 a7 w = some q → EV X mX15_showAt 296 [(0, .ref a0), (1, .int a1), (2, .int a2), (3, .int a3), (4, .int a4), (5, .int a5), (6, .int a6), (7, .int a7)] [] w (some (.int q.1)) q.2 := by
  intro m
  induction m with
  | zero => intro a0 a1 a2 a3 a4 a5 a6 a7 w q h; cases h
  | succ m ih =>
    intro a0 a1 a2 a3 a4 a5 a6 a7 w q h
    rw [fX15_showAt_296.eq_2] at h
    refine EV.iload 7 dX15_showAt_296 rfl ?_
    refine EV.iload_n 3 dX15_showAt_298 rfl rfl ?_
    refine EV.icmp_ge 342 dX15_showAt_299 (by decide) (fun c58 => ?_) (fun c58 => ?_)
    · rw [if_pos c58] at h
      refine EV.sub [0, 1, 2, 3, 4, 5, 6] rfl ?_
      exact eX15_showAt_342 hk73 hk286 _ _ _ _ _ _ _ _ _ h
    · rw [if_neg c58] at h
      refine EV.aload_n 0 dX15_showAt_302 rfl rfl ?_
      obtain ⟨v59, gv59, h⟩ := px_bs h
      refine ev_gR dX15_showAt_303 flRX15_95 gv59 ?_
      refine EV.sipush (1024) dX15_showAt_306 (by decide) ?_
      refine EV.iload 5 dX15_showAt_309 rfl ?_
      refine EV.imul dX15_showAt_311 ?_
      refine EV.iload_n 3 dX15_showAt_312 rfl rfl ?_
      refine EV.iload 6 dX15_showAt_313 rfl ?_
      refine EV.imul dX15_showAt_315 ?_
      refine EV.iadd dX15_showAt_316 ?_
      refine EV.iload 7 dX15_showAt_317 rfl ?_
      refine EV.iadd dX15_showAt_319 ?_
      refine EV.aload_n 0 dX15_showAt_320 rfl rfl ?_
      obtain ⟨v60, gv60, h⟩ := px_bs h
      refine ev_gR dX15_showAt_321 flRX15_104 gv60 ?_
      refine EV.aload_n 0 dX15_showAt_324 rfl rfl ?_
      obtain ⟨v61, gv61, h⟩ := px_bs h
      refine ev_gI dX15_showAt_325 flRX15_333 gv61 ?_
      refine EV.iload 6 dX15_showAt_328 rfl ?_
      refine EV.imul dX15_showAt_330 ?_
      refine EV.iload 7 dX15_showAt_331 rfl ?_
      refine EV.iadd dX15_showAt_333 ?_
      obtain ⟨v62, gv62, h⟩ := px_bs h
      refine ev_aI dX15_showAt_334 gv62 ?_
      obtain ⟨w63, gw63, h⟩ := px_bs h
      refine ev_sI dX15_showAt_335 gw63 ?_
      refine EV.iinc 7 (a7 + 1) [(7, .int (a7 + 1)), (0, .ref a0), (1, .int a1), (2, .int a2), (3, .int a3), (4, .int a4), (5, .int a5), (6, .int a6)] dX15_showAt_336 rfl rfl (by decide) rfl ?_
      refine EV.goto 296 dX15_showAt_339 (by decide) ?_
      refine EV.sub [1, 2, 3, 4, 5, 6, 7, 0] rfl ?_
      exact ih _ _ _ _ _ _ _ _ _ _ h
set_option maxRecDepth 100000 in
set_option maxHeartbeats 4000000 in
theorem eX15_showAt_348 {X : px_X} {k73 : Nat → Int32 → Int32 → Int32 → Int32 → Int32 → px_W → Option (Int32 × px_W)} (hk73 : ∀ (a0 : Nat) (a1 : Int32) (a2 : Int32) (a3 : Int32) (a4 : Int32) (a5 : Int32) (w : px_W) (q : Int32 × px_W), k73 a0 a1 a2 a3 a4 a5 w = some q → EV X mX15_showAt 73 [(0, .ref a0), (1, .int a1), (2, .int a2), (3, .int a3), (4, .int a4), (5, .int a5)] [] w (some (.int q.1)) q.2) : ∀ (a0 : Nat) (a1 : Int32) (a2 : Int32) (a3 : Int32) (a4 : Int32) (a5 : Int32) (w : px_W) (q : Int32 × px_W), fX15_showAt_348 X k73 a0 a1 a2 a3 a4 a5 w = some q → EV X mX15_showAt 348 [(0, .ref a0), (1, .int a1), (2, .int a2), (3, .int a3), (4, .int a4), (5, .int a5)] [] w (some (.int q.1)) q.2 := by
  intro a0 a1 a2 a3 a4 a5 w q h
  unfold fX15_showAt_348 at h
  refine EV.iinc 5 (a5 + 1) [(5, .int (a5 + 1)), (0, .ref a0), (1, .int a1), (2, .int a2), (3, .int a3), (4, .int a4)] dX15_showAt_348 rfl rfl (by decide) rfl ?_
  refine EV.goto 73 dX15_showAt_351 (by decide) ?_
  refine EV.sub [1, 2, 3, 4, 5, 0] rfl ?_
  exact hk73 _ _ _ _ _ _ _ _ h
set_option maxRecDepth 100000 in
set_option maxHeartbeats 4000000 in
theorem eX15_showAt_286 {X : px_X} {k73 : Nat → Int32 → Int32 → Int32 → Int32 → Int32 → px_W → Option (Int32 × px_W)} (hk73 : ∀ (a0 : Nat) (a1 : Int32) (a2 : Int32) (a3 : Int32) (a4 : Int32) (a5 : Int32) (w : px_W) (q : Int32 × px_W), k73 a0 a1 a2 a3 a4 a5 w = some q → EV X mX15_showAt 73 [(0, .ref a0), (1, .int a1), (2, .int a2), (3, .int a3), (4, .int a4), (5, .int a5)] [] w (some (.int q.1)) q.2) : ∀ (m : Nat) (a0 : Nat) (a1 : Int32) (a2 : Int32) (a3 : Int32) (a4 : Int32) (a5 : Int32) (a6 : Int32) (w : px_W) (q : Int32 × px_W), fX15_showAt_286 X k73 m a0 a1 a2 a3 a4 a5 a6 w = some q → EV X mX15_showAt 286 [(0, .ref a0), (1, .int a1), (2, .int a2), (3, .int a3), (4, .int a4), (5, .int a5), (6, .int a6)] [] w (some (.int q.1)) q.2 := by
  intro m
  induction m with
  | zero => intro a0 a1 a2 a3 a4 a5 a6 w q h; cases h
  | succ m ih =>
    intro a0 a1 a2 a3 a4 a5 a6 w q h
    rw [fX15_showAt_286.eq_2] at h
    refine EV.iload 6 dX15_showAt_286 rfl ?_
    refine EV.iload 4 dX15_showAt_288 rfl ?_
    refine EV.icmp_ge 348 dX15_showAt_290 (by decide) (fun c64 => ?_) (fun c64 => ?_)
    · rw [if_pos c64] at h
      refine EV.sub [0, 1, 2, 3, 4, 5] rfl ?_
      exact eX15_showAt_348 hk73 _ _ _ _ _ _ _ _ h
    · rw [if_neg c64] at h
      refine EV.iconst (0) dX15_showAt_293 (by decide) ?_
      refine EV.istore [(7, .int 0), (0, .ref a0), (1, .int a1), (2, .int a2), (3, .int a3), (4, .int a4), (5, .int a5), (6, .int a6)] dX15_showAt_294 (by decide) rfl ?_
      refine EV.sub [1, 2, 3, 4, 5, 6, 7, 0] rfl ?_
      exact eX15_showAt_296 hk73 ih FU _ _ _ _ _ _ _ _ _ _ h
set_option maxRecDepth 100000 in
set_option maxHeartbeats 4000000 in
theorem eX15_showAt_266 {X : px_X} {k73 : Nat → Int32 → Int32 → Int32 → Int32 → Int32 → px_W → Option (Int32 × px_W)} (hk73 : ∀ (a0 : Nat) (a1 : Int32) (a2 : Int32) (a3 : Int32) (a4 : Int32) (a5 : Int32) (w : px_W) (q : Int32 × px_W), k73 a0 a1 a2 a3 a4 a5 w = some q → EV X mX15_showAt 73 [(0, .ref a0), (1, .int a1), (2, .int a2), (3, .int a3), (4, .int a4), (5, .int a5)] [] w (some (.int q.1)) q.2) : ∀ (a0 : Nat) (a1 : Int32) (a2 : Int32) (a3 : Int32) (a4 : Int32) (a5 : Int32) (w : px_W) (q : Int32 × px_W), fX15_showAt_266 X k73 a0 a1 a2 a3 a4 a5 w = some q → EV X mX15_showAt 266 [(0, .ref a0), (1, .int a1), (2, .int a2), (3, .int a3), (4, .int a4), (5, .int a5)] [] w (some (.int q.1)) q.2 := by
  intro a0 a1 a2 a3 a4 a5 w q h
  unfold fX15_showAt_266 at h
  refine EV.aload_n 0 dX15_showAt_266 rfl rfl ?_
  obtain ⟨v65, gv65, h⟩ := px_bs h
  refine ev_gR dX15_showAt_267 flRX15_98 gv65 ?_
  refine EV.iload 5 dX15_showAt_270 rfl ?_
  refine EV.iload_n 3 dX15_showAt_272 rfl rfl ?_
  obtain ⟨w66, gw66, h⟩ := px_bs h
  refine ev_sI dX15_showAt_273 gw66 ?_
  refine EV.aload_n 0 dX15_showAt_274 rfl rfl ?_
  obtain ⟨v67, gv67, h⟩ := px_bs h
  refine ev_gR dX15_showAt_275 flRX15_101 gv67 ?_
  refine EV.iload 5 dX15_showAt_278 rfl ?_
  refine EV.iload 4 dX15_showAt_280 rfl ?_
  obtain ⟨w68, gw68, h⟩ := px_bs h
  refine ev_sI dX15_showAt_282 gw68 ?_
  refine EV.iconst (0) dX15_showAt_283 (by decide) ?_
  refine EV.istore [(6, .int 0), (0, .ref a0), (1, .int a1), (2, .int a2), (3, .int a3), (4, .int a4), (5, .int a5)] dX15_showAt_284 (by decide) rfl ?_
  refine EV.sub [1, 2, 3, 4, 5, 6, 0] rfl ?_
  exact eX15_showAt_286 hk73 FU _ _ _ _ _ _ _ _ _ h
set_option maxRecDepth 100000 in
set_option maxHeartbeats 4000000 in
theorem eX15_showAt_246 {X : px_X} {k73 : Nat → Int32 → Int32 → Int32 → Int32 → Int32 → px_W → Option (Int32 × px_W)} (hk73 : ∀ (a0 : Nat) (a1 : Int32) (a2 : Int32) (a3 : Int32) (a4 : Int32) (a5 : Int32) (w : px_W) (q : Int32 × px_W), k73 a0 a1 a2 a3 a4 a5 w = some q → EV X mX15_showAt 73 [(0, .ref a0), (1, .int a1), (2, .int a2), (3, .int a3), (4, .int a4), (5, .int a5)] [] w (some (.int q.1)) q.2) : ∀ (a0 : Nat) (a1 : Int32) (a2 : Int32) (a3 : Int32) (a4 : Int32) (a5 : Int32) (w : px_W) (q : Int32 × px_W), fX15_showAt_246 X k73 a0 a1 a2 a3 a4 a5 w = some q → EV X mX15_showAt 246 [(0, .ref a0), (1, .int a1), (2, .int a2), (3, .int a3), (4, .int a4), (5, .int a5)] [] w (some (.int q.1)) q.2 := by
  intro a0 a1 a2 a3 a4 a5 w q h
  unfold fX15_showAt_246 at h
  refine EV.aload_n 0 dX15_showAt_246 rfl rfl ?_
  obtain ⟨v69, gv69, h⟩ := px_bs h
  refine ev_gR dX15_showAt_247 flRX15_55 gv69 ?_
  refine EV.iload 5 dX15_showAt_250 rfl ?_
  obtain ⟨v70, gv70, h⟩ := px_bs h
  refine ev_aI dX15_showAt_252 gv70 ?_
  refine EV.aload_n 0 dX15_showAt_253 rfl rfl ?_
  obtain ⟨v71, gv71, h⟩ := px_bs h
  refine ev_gI dX15_showAt_254 flRX15_123 gv71 ?_
  refine EV.icmp_ge 266 dX15_showAt_257 (by decide) (fun c72 => ?_) (fun c72 => ?_)
  · rw [if_pos c72] at h
    refine EV.sub [0, 1, 2, 3, 4, 5] rfl ?_
    exact eX15_showAt_266 hk73 _ _ _ _ _ _ _ _ h
  · rw [if_neg c72] at h
    refine EV.aload_n 0 dX15_showAt_260 rfl rfl ?_
    refine EV.iconst (0) dX15_showAt_261 (by decide) ?_
    refine EV.iload_n 2 dX15_showAt_262 rfl rfl ?_
    obtain ⟨o73, go73, h⟩ := px_bs h
    obtain ⟨q74, gq74, h⟩ := px_bs h
    refine EV.callV (As := [.int 0, .int a2]) (rest := []) dX15_showAt_263 kcX15_showAt_374 (gO_ok go73) rfl rfl rfl (Nat.le_of_ble_eq_true rfl) (Nat.le_of_ble_eq_true rfl) (eX15_grow gq74) ?_
    refine EV.sub [0, 1, 2, 3, 4, 5] rfl ?_
    exact eX15_showAt_266 hk73 _ _ _ _ _ _ _ _ h
set_option maxRecDepth 100000 in
set_option maxHeartbeats 4000000 in
theorem eX15_showAt_170 {X : px_X} {k73 : Nat → Int32 → Int32 → Int32 → Int32 → Int32 → px_W → Option (Int32 × px_W)} (hk73 : ∀ (a0 : Nat) (a1 : Int32) (a2 : Int32) (a3 : Int32) (a4 : Int32) (a5 : Int32) (w : px_W) (q : Int32 × px_W), k73 a0 a1 a2 a3 a4 a5 w = some q → EV X mX15_showAt 73 [(0, .ref a0), (1, .int a1), (2, .int a2), (3, .int a3), (4, .int a4), (5, .int a5)] [] w (some (.int q.1)) q.2) : ∀ (a0 : Nat) (a1 : Int32) (a2 : Int32) (a3 : Int32) (a4 : Int32) (a5 : Int32) (w : px_W) (q : Int32 × px_W), fX15_showAt_170 X k73 a0 a1 a2 a3 a4 a5 w = some q → EV X mX15_showAt 170 [(0, .ref a0), (1, .int a1), (2, .int a2), (3, .int a3), (4, .int a4), (5, .int a5)] [] w (some (.int q.1)) q.2 := by
  intro a0 a1 a2 a3 a4 a5 w q h
  unfold fX15_showAt_170 at h
  refine EV.aload_n 0 dX15_showAt_170 rfl rfl ?_
  refine EV.aload_n 0 dX15_showAt_171 rfl rfl ?_
  obtain ⟨v75, gv75, h⟩ := px_bs h
  refine ev_gI dX15_showAt_172 flRX15_129 gv75 ?_
  refine EV.aload_n 0 dX15_showAt_175 rfl rfl ?_
  obtain ⟨v76, gv76, h⟩ := px_bs h
  refine ev_gR dX15_showAt_176 flRX15_52 gv76 ?_
  refine EV.iload 5 dX15_showAt_179 rfl ?_
  obtain ⟨v77, gv77, h⟩ := px_bs h
  refine ev_aI dX15_showAt_181 gv77 ?_
  refine EV.imul dX15_showAt_182 ?_
  refine EV.aload_n 0 dX15_showAt_183 rfl rfl ?_
  obtain ⟨v78, gv78, h⟩ := px_bs h
  refine ev_gI dX15_showAt_184 flRX15_120 gv78 ?_
  obtain ⟨q79, gq79, h⟩ := px_bs h
  refine EV.callS (As := [.int (v75 * v77), .int v78]) (rest := [.ref a0]) dX15_showAt_187 kcX15_showAt_132 rfl (Nat.le_of_ble_eq_true rfl) (Nat.le_of_ble_eq_true rfl) (eX15_up gq79) ?_
  refine EV.iload_n 1 dX15_showAt_190 rfl rfl ?_
  refine EV.imul dX15_showAt_191 ?_
  refine EV.bipush (8) dX15_showAt_192 (by decide) ?_
  obtain ⟨q80, gq80, h⟩ := px_bs h
  refine EV.callS (As := [.int (q79.1 * a1), .int 8]) (rest := [.ref a0]) dX15_showAt_194 kcX15_showAt_132 rfl (Nat.le_of_ble_eq_true rfl) (Nat.le_of_ble_eq_true rfl) (eX15_up gq80) ?_
  refine EV.aload_n 0 dX15_showAt_197 rfl rfl ?_
  obtain ⟨v81, gv81, h⟩ := px_bs h
  refine ev_gI dX15_showAt_198 flRX15_139 gv81 ?_
  refine EV.aload_n 0 dX15_showAt_201 rfl rfl ?_
  obtain ⟨v82, gv82, h⟩ := px_bs h
  refine ev_gR dX15_showAt_202 flRX15_55 gv82 ?_
  refine EV.iload 5 dX15_showAt_205 rfl ?_
  obtain ⟨v83, gv83, h⟩ := px_bs h
  refine ev_aI dX15_showAt_207 gv83 ?_
  refine EV.imul dX15_showAt_208 ?_
  refine EV.aload_n 0 dX15_showAt_209 rfl rfl ?_
  obtain ⟨v84, gv84, h⟩ := px_bs h
  refine ev_gI dX15_showAt_210 flRX15_123 gv84 ?_
  obtain ⟨q85, gq85, h⟩ := px_bs h
  refine EV.callS (As := [.int (v81 * v83), .int v84]) (rest := [.int q80.1, .ref a0]) dX15_showAt_213 kcX15_showAt_132 rfl (Nat.le_of_ble_eq_true rfl) (Nat.le_of_ble_eq_true rfl) (eX15_up gq85) ?_
  refine EV.iload_n 1 dX15_showAt_216 rfl rfl ?_
  refine EV.imul dX15_showAt_217 ?_
  refine EV.bipush (8) dX15_showAt_218 (by decide) ?_
  obtain ⟨q86, gq86, h⟩ := px_bs h
  refine EV.callS (As := [.int (q85.1 * a1), .int 8]) (rest := [.int q80.1, .ref a0]) dX15_showAt_220 kcX15_showAt_132 rfl (Nat.le_of_ble_eq_true rfl) (Nat.le_of_ble_eq_true rfl) (eX15_up gq86) ?_
  obtain ⟨o87, go87, h⟩ := px_bs h
  obtain ⟨q88, gq88, h⟩ := px_bs h
  refine EV.callV (As := [.int q80.1, .int q86.1]) (rest := []) dX15_showAt_223 kcX15_showAt_365 (gO_ok go87) rfl rfl rfl (Nat.le_of_ble_eq_true rfl) (Nat.le_of_ble_eq_true rfl) (eX15_fit gq88) ?_
  refine EV.aload_n 0 dX15_showAt_226 rfl rfl ?_
  obtain ⟨v89, gv89, h⟩ := px_bs h
  refine ev_gR dX15_showAt_227 flRX15_52 gv89 ?_
  refine EV.iload 5 dX15_showAt_230 rfl ?_
  obtain ⟨v90, gv90, h⟩ := px_bs h
  refine ev_aI dX15_showAt_232 gv90 ?_
  refine EV.aload_n 0 dX15_showAt_233 rfl rfl ?_
  obtain ⟨v91, gv91, h⟩ := px_bs h
  refine ev_gI dX15_showAt_234 flRX15_120 gv91 ?_
  refine EV.icmp_ge 246 dX15_showAt_237 (by decide) (fun c92 => ?_) (fun c92 => ?_)
  · rw [if_pos c92] at h
    refine EV.sub [0, 1, 2, 3, 4, 5] rfl ?_
    exact eX15_showAt_246 hk73 _ _ _ _ _ _ _ _ h
  · rw [if_neg c92] at h
    refine EV.aload_n 0 dX15_showAt_240 rfl rfl ?_
    refine EV.iconst (1) dX15_showAt_241 (by decide) ?_
    refine EV.iload_n 2 dX15_showAt_242 rfl rfl ?_
    obtain ⟨o93, go93, h⟩ := px_bs h
    obtain ⟨q94, gq94, h⟩ := px_bs h
    refine EV.callV (As := [.int 1, .int a2]) (rest := []) dX15_showAt_243 kcX15_showAt_374 (gO_ok go93) rfl rfl rfl (Nat.le_of_ble_eq_true rfl) (Nat.le_of_ble_eq_true rfl) (eX15_grow gq94) ?_
    refine EV.sub [0, 1, 2, 3, 4, 5] rfl ?_
    exact eX15_showAt_246 hk73 _ _ _ _ _ _ _ _ h
set_option maxRecDepth 100000 in
set_option maxHeartbeats 4000000 in
theorem eX15_showAt_111 {X : px_X} {k73 : Nat → Int32 → Int32 → Int32 → Int32 → Int32 → px_W → Option (Int32 × px_W)} (hk73 : ∀ (a0 : Nat) (a1 : Int32) (a2 : Int32) (a3 : Int32) (a4 : Int32) (a5 : Int32) (w : px_W) (q : Int32 × px_W), k73 a0 a1 a2 a3 a4 a5 w = some q → EV X mX15_showAt 73 [(0, .ref a0), (1, .int a1), (2, .int a2), (3, .int a3), (4, .int a4), (5, .int a5)] [] w (some (.int q.1)) q.2) : ∀ (m : Nat) (a0 : Nat) (a1 : Int32) (a2 : Int32) (a3 : Int32) (a4 : Int32) (a5 : Int32) (a6 : Int32) (w : px_W) (q : Int32 × px_W), fX15_showAt_111 X k73 m a0 a1 a2 a3 a4 a5 a6 w = some q → EV X mX15_showAt 111 [(0, .ref a0), (1, .int a1), (2, .int a2), (3, .int a3), (4, .int a4), (5, .int a5), (6, .int a6)] [] w (some (.int q.1)) q.2 := by
  intro m
  induction m with
  | zero => intro a0 a1 a2 a3 a4 a5 a6 w q h; cases h
  | succ m ih =>
    intro a0 a1 a2 a3 a4 a5 a6 w q h
    rw [fX15_showAt_111.eq_2] at h
    refine EV.iload 6 dX15_showAt_111 rfl ?_
    refine EV.aload_n 0 dX15_showAt_113 rfl rfl ?_
    obtain ⟨v95, gv95, h⟩ := px_bs h
    refine ev_gR dX15_showAt_114 flRX15_58 gv95 ?_
    refine EV.iload 5 dX15_showAt_117 rfl ?_
    obtain ⟨v96, gv96, h⟩ := px_bs h
    refine ev_aI dX15_showAt_119 gv96 ?_
    refine EV.aload_n 0 dX15_showAt_120 rfl rfl ?_
    obtain ⟨v97, gv97, h⟩ := px_bs h
    refine ev_gR dX15_showAt_121 flRX15_61 gv97 ?_
    refine EV.iload 5 dX15_showAt_124 rfl ?_
    obtain ⟨v98, gv98, h⟩ := px_bs h
    refine ev_aI dX15_showAt_126 gv98 ?_
    refine EV.imul dX15_showAt_127 ?_
    refine EV.icmp_ge 170 dX15_showAt_128 (by decide) (fun c99 => ?_) (fun c99 => ?_)
    · rw [if_pos c99] at h
      refine EV.sub [0, 1, 2, 3, 4, 5] rfl ?_
      exact eX15_showAt_170 hk73 _ _ _ _ _ _ _ _ h
    · rw [if_neg c99] at h
      refine EV.aload_n 0 dX15_showAt_131 rfl rfl ?_
      refine EV.iload 5 dX15_showAt_132 rfl ?_
      refine EV.iload 6 dX15_showAt_134 rfl ?_
      refine EV.iload_n 1 dX15_showAt_136 rfl rfl ?_
      refine EV.iload_n 1 dX15_showAt_137 rfl rfl ?_
      refine EV.iload 6 dX15_showAt_138 rfl ?_
      refine EV.aload_n 0 dX15_showAt_140 rfl rfl ?_
      obtain ⟨v100, gv100, h⟩ := px_bs h
      refine ev_gR dX15_showAt_141 flRX15_58 gv100 ?_
      refine EV.iload 5 dX15_showAt_144 rfl ?_
      obtain ⟨v101, gv101, h⟩ := px_bs h
      refine ev_aI dX15_showAt_146 gv101 ?_
      obtain ⟨v102, gv102, h⟩ := px_bs h
      refine ev_rI dX15_showAt_147 gv102 ?_
      refine EV.imul dX15_showAt_148 ?_
      refine EV.iload_n 1 dX15_showAt_149 rfl rfl ?_
      refine EV.iload 6 dX15_showAt_150 rfl ?_
      refine EV.aload_n 0 dX15_showAt_152 rfl rfl ?_
      obtain ⟨v103, gv103, h⟩ := px_bs h
      refine ev_gR dX15_showAt_153 flRX15_58 gv103 ?_
      refine EV.iload 5 dX15_showAt_156 rfl ?_
      obtain ⟨v104, gv104, h⟩ := px_bs h
      refine ev_aI dX15_showAt_158 gv104 ?_
      obtain ⟨v105, gv105, h⟩ := px_bs h
      refine ev_dI dX15_showAt_159 gv105 ?_
      refine EV.imul dX15_showAt_160 ?_
      obtain ⟨o106, go106, h⟩ := px_bs h
      obtain ⟨q107, gq107, h⟩ := px_bs h
      refine EV.callV (As := [.int a5, .int a6, .int a1, .int (a1 * v102), .int (a1 * v105)]) (rest := []) dX15_showAt_161 kcX15_showAt_371 (gO_ok go106) rfl rfl rfl (Nat.le_of_ble_eq_true rfl) (Nat.le_of_ble_eq_true rfl) (eX15_back gq107) ?_
      refine EV.iinc 6 (a6 + 1) [(6, .int (a6 + 1)), (0, .ref a0), (1, .int a1), (2, .int a2), (3, .int a3), (4, .int a4), (5, .int a5)] dX15_showAt_164 rfl rfl (by decide) rfl ?_
      refine EV.goto 111 dX15_showAt_167 (by decide) ?_
      refine EV.sub [1, 2, 3, 4, 5, 6, 0] rfl ?_
      exact ih _ _ _ _ _ _ _ _ _ h
set_option maxRecDepth 100000 in
set_option maxHeartbeats 4000000 in
theorem eX15_showAt_73 {X : px_X}  : ∀ (m : Nat) (a0 : Nat) (a1 : Int32) (a2 : Int32) (a3 : Int32) (a4 : Int32) (a5 : Int32) (w : px_W) (q : Int32 × px_W), fX15_showAt_73 X  m a0 a1 a2 a3 a4 a5 w = some q → EV X mX15_showAt 73 [(0, .ref a0), (1, .int a1), (2, .int a2), (3, .int a3), (4, .int a4), (5, .int a5)] [] w (some (.int q.1)) q.2 := by
  intro m
  induction m with
  | zero => intro a0 a1 a2 a3 a4 a5 w q h; cases h
  | succ m ih =>
    intro a0 a1 a2 a3 a4 a5 w q h
    rw [fX15_showAt_73.eq_2] at h
    refine EV.iload 5 dX15_showAt_73 rfl ?_
    refine EV.aload_n 0 dX15_showAt_75 rfl rfl ?_
    obtain ⟨v108, gv108, h⟩ := px_bs h
    refine ev_gI dX15_showAt_76 flRX15_126 gv108 ?_
    refine EV.icmp_ge 354 dX15_showAt_79 (by decide) (fun c109 => ?_) (fun c109 => ?_)
    · rw [if_pos c109] at h
      refine EV.iconst (1) dX15_showAt_354 (by decide) ?_
      cases h
      exact EV.reti dX15_showAt_355 rfl
    · rw [if_neg c109] at h
      refine EV.aload_n 0 dX15_showAt_82 rfl rfl ?_
      refine EV.iload_n 1 dX15_showAt_83 rfl rfl ?_
      refine EV.aload_n 0 dX15_showAt_84 rfl rfl ?_
      obtain ⟨v110, gv110, h⟩ := px_bs h
      refine ev_gR dX15_showAt_85 flRX15_58 gv110 ?_
      refine EV.iload 5 dX15_showAt_88 rfl ?_
      obtain ⟨v111, gv111, h⟩ := px_bs h
      refine ev_aI dX15_showAt_90 gv111 ?_
      refine EV.imul dX15_showAt_91 ?_
      obtain ⟨w112, gw112, h⟩ := px_bs h
      refine ev_pV dX15_showAt_92 flRX15_333 rfl rfl rfl rfl gw112 ?_
      refine EV.aload_n 0 dX15_showAt_95 rfl rfl ?_
      refine EV.iload_n 1 dX15_showAt_96 rfl rfl ?_
      refine EV.aload_n 0 dX15_showAt_97 rfl rfl ?_
      obtain ⟨v113, gv113, h⟩ := px_bs h
      refine ev_gR dX15_showAt_98 flRX15_61 gv113 ?_
      refine EV.iload 5 dX15_showAt_101 rfl ?_
      obtain ⟨v114, gv114, h⟩ := px_bs h
      refine ev_aI dX15_showAt_103 gv114 ?_
      refine EV.imul dX15_showAt_104 ?_
      obtain ⟨w115, gw115, h⟩ := px_bs h
      refine ev_pV dX15_showAt_105 flRX15_350 rfl rfl rfl rfl gw115 ?_
      refine EV.iconst (0) dX15_showAt_108 (by decide) ?_
      refine EV.istore [(6, .int 0), (0, .ref a0), (1, .int a1), (2, .int a2), (3, .int a3), (4, .int a4), (5, .int a5)] dX15_showAt_109 (by decide) rfl ?_
      refine EV.sub [1, 2, 3, 4, 5, 6, 0] rfl ?_
      exact eX15_showAt_111 ih FU _ _ _ _ _ _ _ _ _ h
set_option maxRecDepth 100000 in
set_option maxHeartbeats 4000000 in
theorem eX15_showAt_30 {X : px_X}  : ∀ (a0 : Nat) (a1 : Int32) (a2 : Int32) (w : px_W) (q : Int32 × px_W), fX15_showAt_30 X  a0 a1 a2 w = some q → EV X mX15_showAt 30 [(0, .ref a0), (1, .int a1), (2, .int a2)] [] w (some (.int q.1)) q.2 := by
  intro a0 a1 a2 w q h
  unfold fX15_showAt_30 at h
  refine EV.aload_n 0 dX15_showAt_30 rfl rfl ?_
  obtain ⟨v116, gv116, h⟩ := px_bs h
  refine ev_gI dX15_showAt_31 flRX15_129 gv116 ?_
  refine EV.iload_n 1 dX15_showAt_34 rfl rfl ?_
  refine EV.imul dX15_showAt_35 ?_
  refine EV.bipush (8) dX15_showAt_36 (by decide) ?_
  obtain ⟨q117, gq117, h⟩ := px_bs h
  refine EV.callS (As := [.int (v116 * a1), .int 8]) (rest := []) dX15_showAt_38 kcX15_showAt_132 rfl (Nat.le_of_ble_eq_true rfl) (Nat.le_of_ble_eq_true rfl) (eX15_up gq117) ?_
  refine EV.istore_n [(3, .int q117.1), (0, .ref a0), (1, .int a1), (2, .int a2)] dX15_showAt_41 rfl (by decide) rfl ?_
  refine EV.aload_n 1 dX15_showAt_42 rfl rfl ?_
  obtain ⟨v118, gv118, h⟩ := px_bs h
  refine ev_gI dX15_showAt_43 flRX15_139 gv118 ?_
  refine EV.iload_n 2 dX15_showAt_46 rfl rfl ?_
  refine EV.imul dX15_showAt_47 ?_
  refine EV.bipush (8) dX15_showAt_48 (by decide) ?_
  obtain ⟨q119, gq119, h⟩ := px_bs h
  refine EV.callS (As := [.int (v118 * a1), .int 8]) (rest := []) dX15_showAt_50 kcX15_showAt_132 rfl (Nat.le_of_ble_eq_true rfl) (Nat.le_of_ble_eq_true rfl) (eX15_up gq119) ?_
  refine EV.istore [(4, .int q119.1), (3, .int q117.1), (0, .ref a0), (1, .int a1), (2, .int a2)] dX15_showAt_53 (by decide) rfl ?_
  refine EV.iload_n 1 dX15_showAt_55 rfl rfl ?_
  refine EV.bipush (32) dX15_showAt_56 (by decide) ?_
  refine EV.icmp_gt 68 dX15_showAt_58 (by decide) (fun c120 => ?_) (fun c120 => ?_)
  · rw [if_pos c120] at h
    refine EV.iconst (0) dX15_showAt_68 (by decide) ?_
    cases h
    exact EV.reti dX15_showAt_69 rfl
  · rw [if_neg c120] at h
    refine EV.iload 0 dX15_showAt_61 rfl ?_
    refine EV.bipush (32) dX15_showAt_63 (by decide) ?_
    refine EV.icmp_le 70 dX15_showAt_65 (by decide) (fun c121 => ?_) (fun c121 => ?_)
    · rw [if_pos c121] at h
      refine EV.iconst (0) dX15_showAt_70 (by decide) ?_
      refine EV.istore [(5, .int 0), (4, .int q119.1), (3, .int q117.1), (0, .ref a0), (1, .int a1), (2, .int a2)] dX15_showAt_71 (by decide) rfl ?_
      refine EV.sub [3, 4, 5, 2, 1, 0] rfl ?_
      exact eX15_showAt_73  FU _ _ _ _ _ _ _ _ h
    · rw [if_neg c121] at h
      refine EV.iconst (0) dX15_showAt_68 (by decide) ?_
      cases h
      exact EV.reti dX15_showAt_69 rfl
set_option maxRecDepth 100000 in
set_option maxHeartbeats 4000000 in
theorem eX15_showAt {X : px_X} {w : px_W} {a0 : Nat} {a1 : Int32} {a2 : Int32} {q : Int32 × px_W} (h : fX15_showAt X w a0 a1 a2 = some q) : EV X mX15_showAt 0 (lv_args 0 [.ref a0, .int a1, .int a2]) [] w (some (.int q.1)) q.2 := by
  unfold fX15_showAt at h
  show EV X mX15_showAt 0 [(0, .ref a0), (1, .int a1), (2, .int a2)] [] w (some (.int q.1)) q.2
  refine EV.aload_n 0 dX15_showAt_0 rfl rfl ?_
  obtain ⟨v122, gv122, h⟩ := px_bs h
  refine ev_gI dX15_showAt_1 flRX15_235 gv122 ?_
  refine EV.if_eq 28 dX15_showAt_4 (by decide) (fun c123 => ?_) (fun c123 => ?_)
  · rw [if_pos c123] at h
    refine EV.iconst (0) dX15_showAt_28 (by decide) ?_
    cases h
    exact EV.reti dX15_showAt_29 rfl
  · rw [if_neg c123] at h
    refine EV.iload_n 1 dX15_showAt_7 rfl rfl ?_
    refine EV.iconst (1) dX15_showAt_8 (by decide) ?_
    refine EV.icmp_eq 30 dX15_showAt_9 (by decide) (fun c124 => ?_) (fun c124 => ?_)
    · rw [if_pos c124] at h
      refine EV.sub [0, 1, 2] rfl ?_
      exact eX15_showAt_30  _ _ _ _ _ h
    · rw [if_neg c124] at h
      refine EV.iload_n 1 dX15_showAt_12 rfl rfl ?_
      refine EV.iconst (2) dX15_showAt_13 (by decide) ?_
      refine EV.icmp_eq 30 dX15_showAt_14 (by decide) (fun c125 => ?_) (fun c125 => ?_)
      · rw [if_pos c125] at h
        refine EV.sub [0, 1, 2] rfl ?_
        exact eX15_showAt_30  _ _ _ _ _ h
      · rw [if_neg c125] at h
        refine EV.iload_n 1 dX15_showAt_17 rfl rfl ?_
        refine EV.iconst (4) dX15_showAt_18 (by decide) ?_
        refine EV.icmp_eq 30 dX15_showAt_19 (by decide) (fun c126 => ?_) (fun c126 => ?_)
        · rw [if_pos c126] at h
          refine EV.sub [0, 1, 2] rfl ?_
          exact eX15_showAt_30  _ _ _ _ _ h
        · rw [if_neg c126] at h
          refine EV.iload_n 1 dX15_showAt_22 rfl rfl ?_
          refine EV.bipush (8) dX15_showAt_23 (by decide) ?_
          refine EV.icmp_eq 30 dX15_showAt_25 (by decide) (fun c127 => ?_) (fun c127 => ?_)
          · rw [if_pos c127] at h
            refine EV.sub [0, 1, 2] rfl ?_
            exact eX15_showAt_30  _ _ _ _ _ h
          · rw [if_neg c127] at h
            refine EV.iconst (0) dX15_showAt_28 (by decide) ?_
            cases h
            exact EV.reti dX15_showAt_29 rfl
/-! WavePicturesModel.keep()V -/
theorem dX15_keep_0 : decode cX15_keep 0 = .ok (.iconst 0, 1) := by decide +kernel
theorem dX15_keep_1 : decode cX15_keep 1 = .ok (.istore_n 1, 1) := by decide +kernel
theorem dX15_keep_2 : decode cX15_keep 2 = .ok (.iload_n 1, 1) := by decide +kernel
theorem dX15_keep_3 : decode cX15_keep 3 = .ok (.sipush 12288, 3) := by decide +kernel
theorem dX15_keep_6 : decode cX15_keep 6 = .ok (.if_icmp .ge 28, 3) := by decide +kernel
theorem dX15_keep_9 : decode cX15_keep 9 = .ok (.aload_n 0, 1) := by decide +kernel
theorem dX15_keep_10 : decode cX15_keep 10 = .ok (.getfield 74, 3) := by decide +kernel
theorem dX15_keep_13 : decode cX15_keep 13 = .ok (.iload_n 1, 1) := by decide +kernel
theorem dX15_keep_14 : decode cX15_keep 14 = .ok (.aload_n 0, 1) := by decide +kernel
theorem dX15_keep_15 : decode cX15_keep 15 = .ok (.getfield 70, 3) := by decide +kernel
theorem dX15_keep_18 : decode cX15_keep 18 = .ok (.iload_n 1, 1) := by decide +kernel
theorem dX15_keep_19 : decode cX15_keep 19 = .ok (.saload, 1) := by decide +kernel
theorem dX15_keep_20 : decode cX15_keep 20 = .ok (.sastore, 1) := by decide +kernel
theorem dX15_keep_21 : decode cX15_keep 21 = .ok (.aload_n 0, 1) := by decide +kernel
theorem dX15_keep_22 : decode cX15_keep 22 = .ok (.getfield 70, 3) := by decide +kernel
theorem dX15_keep_25 : decode cX15_keep 25 = .ok (.iload_n 1, 1) := by decide +kernel
theorem dX15_keep_26 : decode cX15_keep 26 = .ok (.iconst 0, 1) := by decide +kernel
theorem dX15_keep_27 : decode cX15_keep 27 = .ok (.sastore, 1) := by decide +kernel
theorem dX15_keep_28 : decode cX15_keep 28 = .ok (.iinc 1 1, 3) := by decide +kernel
theorem dX15_keep_31 : decode cX15_keep 31 = .ok (.goto (-29), 3) := by decide +kernel
theorem dX15_keep_34 : decode cX15_keep 34 = .ok (.iconst 0, 1) := by decide +kernel
theorem dX15_keep_35 : decode cX15_keep 35 = .ok (.istore_n 1, 1) := by decide +kernel
theorem dX15_keep_36 : decode cX15_keep 36 = .ok (.iload_n 1, 1) := by decide +kernel
theorem dX15_keep_37 : decode cX15_keep 37 = .ok (.iconst 4, 1) := by decide +kernel
theorem dX15_keep_38 : decode cX15_keep 38 = .ok (.if_icmp .ge 33, 3) := by decide +kernel
theorem dX15_keep_41 : decode cX15_keep 41 = .ok (.aload_n 0, 1) := by decide +kernel
theorem dX15_keep_42 : decode cX15_keep 42 = .ok (.getfield 77, 3) := by decide +kernel
theorem dX15_keep_45 : decode cX15_keep 45 = .ok (.iload_n 1, 1) := by decide +kernel
theorem dX15_keep_46 : decode cX15_keep 46 = .ok (.aload_n 0, 1) := by decide +kernel
theorem dX15_keep_47 : decode cX15_keep 47 = .ok (.getfield 58, 3) := by decide +kernel
theorem dX15_keep_50 : decode cX15_keep 50 = .ok (.iload_n 1, 1) := by decide +kernel
theorem dX15_keep_51 : decode cX15_keep 51 = .ok (.iaload, 1) := by decide +kernel
theorem dX15_keep_52 : decode cX15_keep 52 = .ok (.iastore, 1) := by decide +kernel
theorem dX15_keep_53 : decode cX15_keep 53 = .ok (.aload_n 0, 1) := by decide +kernel
theorem dX15_keep_54 : decode cX15_keep 54 = .ok (.getfield 80, 3) := by decide +kernel
theorem dX15_keep_57 : decode cX15_keep 57 = .ok (.iload_n 1, 1) := by decide +kernel
theorem dX15_keep_58 : decode cX15_keep 58 = .ok (.aload_n 0, 1) := by decide +kernel
theorem dX15_keep_59 : decode cX15_keep 59 = .ok (.getfield 64, 3) := by decide +kernel
theorem dX15_keep_62 : decode cX15_keep 62 = .ok (.iload_n 1, 1) := by decide +kernel
theorem dX15_keep_63 : decode cX15_keep 63 = .ok (.iaload, 1) := by decide +kernel
theorem dX15_keep_64 : decode cX15_keep 64 = .ok (.iastore, 1) := by decide +kernel
theorem dX15_keep_65 : decode cX15_keep 65 = .ok (.iinc 1 1, 3) := by decide +kernel
theorem dX15_keep_68 : decode cX15_keep 68 = .ok (.goto (-32), 3) := by decide +kernel
theorem dX15_keep_71 : decode cX15_keep 71 = .ok (.iconst 0, 1) := by decide +kernel
theorem dX15_keep_72 : decode cX15_keep 72 = .ok (.istore_n 1, 1) := by decide +kernel
theorem dX15_keep_73 : decode cX15_keep 73 = .ok (.iload_n 1, 1) := by decide +kernel
theorem dX15_keep_74 : decode cX15_keep 74 = .ok (.sipush 256, 3) := by decide +kernel
theorem dX15_keep_77 : decode cX15_keep 77 = .ok (.if_icmp .ge 21, 3) := by decide +kernel
theorem dX15_keep_80 : decode cX15_keep 80 = .ok (.aload_n 0, 1) := by decide +kernel
theorem dX15_keep_81 : decode cX15_keep 81 = .ok (.getfield 83, 3) := by decide +kernel
theorem dX15_keep_84 : decode cX15_keep 84 = .ok (.iload_n 1, 1) := by decide +kernel
theorem dX15_keep_85 : decode cX15_keep 85 = .ok (.aload_n 0, 1) := by decide +kernel
theorem dX15_keep_86 : decode cX15_keep 86 = .ok (.getfield 67, 3) := by decide +kernel
theorem dX15_keep_89 : decode cX15_keep 89 = .ok (.iload_n 1, 1) := by decide +kernel
theorem dX15_keep_90 : decode cX15_keep 90 = .ok (.iaload, 1) := by decide +kernel
theorem dX15_keep_91 : decode cX15_keep 91 = .ok (.iastore, 1) := by decide +kernel
theorem dX15_keep_92 : decode cX15_keep 92 = .ok (.iinc 1 1, 3) := by decide +kernel
theorem dX15_keep_95 : decode cX15_keep 95 = .ok (.goto (-22), 3) := by decide +kernel
theorem dX15_keep_98 : decode cX15_keep 98 = .ok (.return_, 1) := by decide +kernel
theorem flRX15_74 : px_f RX15 74 15 32 := ⟨_, rfl, by decide, Or.inl (tb7 (List.mem_of_getElem? (i := 233) rfl))⟩
theorem flRX15_77 : px_f RX15 77 15 33 := ⟨_, rfl, by decide, Or.inl (tb7 (List.mem_of_getElem? (i := 234) rfl))⟩
theorem flRX15_80 : px_f RX15 80 15 34 := ⟨_, rfl, by decide, Or.inl (tb7 (List.mem_of_getElem? (i := 235) rfl))⟩
theorem flRX15_83 : px_f RX15 83 15 35 := ⟨_, rfl, by decide, Or.inl (tb7 (List.mem_of_getElem? (i := 236) rfl))⟩
set_option maxRecDepth 100000 in
set_option maxHeartbeats 4000000 in
theorem eX15_keep_73 {X : px_X}  : ∀ (m : Nat) (a0 : Nat) (a1 : Int32) (w : px_W) (q : px_W), fX15_keep_73 X  m a0 a1 w = some q → EV X mX15_keep 73 [(0, .ref a0), (1, .int a1)] [] w none q := by
  intro m
  induction m with
  | zero => intro a0 a1 w q h; cases h
  | succ m ih =>
    intro a0 a1 w q h
    rw [fX15_keep_73.eq_2] at h
    refine EV.iload_n 1 dX15_keep_73 rfl rfl ?_
    refine EV.sipush (256) dX15_keep_74 (by decide) ?_
    refine EV.icmp_ge 98 dX15_keep_77 (by decide) (fun c19 => ?_) (fun c19 => ?_)
    · rw [if_pos c19] at h
      cases h
      exact EV.ret0 dX15_keep_98 trivial
    · rw [if_neg c19] at h
      refine EV.aload_n 0 dX15_keep_80 rfl rfl ?_
      obtain ⟨v20, gv20, h⟩ := px_bs h
      refine ev_gR dX15_keep_81 flRX15_83 gv20 ?_
      refine EV.iload_n 1 dX15_keep_84 rfl rfl ?_
      refine EV.aload_n 0 dX15_keep_85 rfl rfl ?_
      obtain ⟨v21, gv21, h⟩ := px_bs h
      refine ev_gR dX15_keep_86 flRX15_67 gv21 ?_
      refine EV.iload_n 1 dX15_keep_89 rfl rfl ?_
      obtain ⟨v22, gv22, h⟩ := px_bs h
      refine ev_aI dX15_keep_90 gv22 ?_
      obtain ⟨w23, gw23, h⟩ := px_bs h
      refine ev_sI dX15_keep_91 gw23 ?_
      refine EV.iinc 1 (a1 + 1) [(1, .int (a1 + 1)), (0, .ref a0)] dX15_keep_92 rfl rfl (by decide) rfl ?_
      refine EV.goto 73 dX15_keep_95 (by decide) ?_
      refine EV.sub [1, 0] rfl ?_
      exact ih _ _ _ _ h
set_option maxRecDepth 100000 in
set_option maxHeartbeats 4000000 in
theorem eX15_keep_71 {X : px_X}  : ∀ (a0 : Nat) (w : px_W) (q : px_W), fX15_keep_71 X  a0 w = some q → EV X mX15_keep 71 [(0, .ref a0)] [] w none q := by
  intro a0 w q h
  unfold fX15_keep_71 at h
  refine EV.iconst (0) dX15_keep_71 (by decide) ?_
  refine EV.istore_n [(1, .int 0), (0, .ref a0)] dX15_keep_72 rfl (by decide) rfl ?_
  refine EV.sub [1, 0] rfl ?_
  exact eX15_keep_73  FU _ _ _ _ h
set_option maxRecDepth 100000 in
set_option maxHeartbeats 4000000 in
theorem eX15_keep_36 {X : px_X}  : ∀ (m : Nat) (a0 : Nat) (a1 : Int32) (w : px_W) (q : px_W), fX15_keep_36 X  m a0 a1 w = some q → EV X mX15_keep 36 [(0, .ref a0), (1, .int a1)] [] w none q := by
  intro m
  induction m with
  | zero => intro a0 a1 w q h; cases h
  | succ m ih =>
    intro a0 a1 w q h
    rw [fX15_keep_36.eq_2] at h
    refine EV.iload_n 1 dX15_keep_36 rfl rfl ?_
    refine EV.iconst (4) dX15_keep_37 (by decide) ?_
    refine EV.icmp_ge 71 dX15_keep_38 (by decide) (fun c24 => ?_) (fun c24 => ?_)
    · rw [if_pos c24] at h
      refine EV.sub [0] rfl ?_
      exact eX15_keep_71  _ _ _ h
    · rw [if_neg c24] at h
      refine EV.aload_n 0 dX15_keep_41 rfl rfl ?_
      obtain ⟨v25, gv25, h⟩ := px_bs h
      refine ev_gR dX15_keep_42 flRX15_77 gv25 ?_
      refine EV.iload_n 1 dX15_keep_45 rfl rfl ?_
      refine EV.aload_n 0 dX15_keep_46 rfl rfl ?_
      obtain ⟨v26, gv26, h⟩ := px_bs h
      refine ev_gR dX15_keep_47 flRX15_58 gv26 ?_
      refine EV.iload_n 1 dX15_keep_50 rfl rfl ?_
      obtain ⟨v27, gv27, h⟩ := px_bs h
      refine ev_aI dX15_keep_51 gv27 ?_
      obtain ⟨w28, gw28, h⟩ := px_bs h
      refine ev_sI dX15_keep_52 gw28 ?_
      refine EV.aload_n 0 dX15_keep_53 rfl rfl ?_
      obtain ⟨v29, gv29, h⟩ := px_bs h
      refine ev_gR dX15_keep_54 flRX15_80 gv29 ?_
      refine EV.iload_n 1 dX15_keep_57 rfl rfl ?_
      refine EV.aload_n 0 dX15_keep_58 rfl rfl ?_
      obtain ⟨v30, gv30, h⟩ := px_bs h
      refine ev_gR dX15_keep_59 flRX15_64 gv30 ?_
      refine EV.iload_n 1 dX15_keep_62 rfl rfl ?_
      obtain ⟨v31, gv31, h⟩ := px_bs h
      refine ev_aI dX15_keep_63 gv31 ?_
      obtain ⟨w32, gw32, h⟩ := px_bs h
      refine ev_sI dX15_keep_64 gw32 ?_
      refine EV.iinc 1 (a1 + 1) [(1, .int (a1 + 1)), (0, .ref a0)] dX15_keep_65 rfl rfl (by decide) rfl ?_
      refine EV.goto 36 dX15_keep_68 (by decide) ?_
      refine EV.sub [1, 0] rfl ?_
      exact ih _ _ _ _ h
set_option maxRecDepth 100000 in
set_option maxHeartbeats 4000000 in
theorem eX15_keep_34 {X : px_X}  : ∀ (a0 : Nat) (w : px_W) (q : px_W), fX15_keep_34 X  a0 w = some q → EV X mX15_keep 34 [(0, .ref a0)] [] w none q := by
  intro a0 w q h
  unfold fX15_keep_34 at h
  refine EV.iconst (0) dX15_keep_34 (by decide) ?_
  refine EV.istore_n [(1, .int 0), (0, .ref a0)] dX15_keep_35 rfl (by decide) rfl ?_
  refine EV.sub [1, 0] rfl ?_
  exact eX15_keep_36  FU _ _ _ _ h
set_option maxRecDepth 100000 in
set_option maxHeartbeats 4000000 in
theorem eX15_keep_2 {X : px_X}  : ∀ (m : Nat) (a0 : Nat) (a1 : Int32) (w : px_W) (q : px_W), fX15_keep_2 X  m a0 a1 w = some q → EV X mX15_keep 2 [(0, .ref a0), (1, .int a1)] [] w none q := by
  intro m
  induction m with
  | zero => intro a0 a1 w q h; cases h
  | succ m ih =>
    intro a0 a1 w q h
    rw [fX15_keep_2.eq_2] at h
    refine EV.iload_n 1 dX15_keep_2 rfl rfl ?_
    refine EV.sipush (12288) dX15_keep_3 (by decide) ?_
    refine EV.icmp_ge 34 dX15_keep_6 (by decide) (fun c33 => ?_) (fun c33 => ?_)
    · rw [if_pos c33] at h
      refine EV.sub [0] rfl ?_
      exact eX15_keep_34  _ _ _ h
    · rw [if_neg c33] at h
      refine EV.aload_n 0 dX15_keep_9 rfl rfl ?_
      obtain ⟨v34, gv34, h⟩ := px_bs h
      refine ev_gR dX15_keep_10 flRX15_74 gv34 ?_
      refine EV.iload_n 1 dX15_keep_13 rfl rfl ?_
      refine EV.aload_n 0 dX15_keep_14 rfl rfl ?_
      obtain ⟨v35, gv35, h⟩ := px_bs h
      refine ev_gR dX15_keep_15 flRX15_70 gv35 ?_
      refine EV.iload_n 1 dX15_keep_18 rfl rfl ?_
      obtain ⟨v36, gv36, h⟩ := px_bs h
      refine ev_aS dX15_keep_19 gv36 ?_
      obtain ⟨w37, gw37, h⟩ := px_bs h
      refine ev_sS dX15_keep_20 gw37 ?_
      refine EV.aload_n 0 dX15_keep_21 rfl rfl ?_
      obtain ⟨v38, gv38, h⟩ := px_bs h
      refine ev_gR dX15_keep_22 flRX15_70 gv38 ?_
      refine EV.iload_n 1 dX15_keep_25 rfl rfl ?_
      refine EV.iconst (0) dX15_keep_26 (by decide) ?_
      obtain ⟨w39, gw39, h⟩ := px_bs h
      refine ev_sS dX15_keep_27 gw39 ?_
      refine EV.iinc 1 (a1 + 1) [(1, .int (a1 + 1)), (0, .ref a0)] dX15_keep_28 rfl rfl (by decide) rfl ?_
      refine EV.goto 2 dX15_keep_31 (by decide) ?_
      refine EV.sub [1, 0] rfl ?_
      exact ih _ _ _ _ h
set_option maxRecDepth 100000 in
set_option maxHeartbeats 4000000 in
theorem eX15_keep {X : px_X} {w : px_W} {a0 : Nat} {q : px_W} (h : fX15_keep X w a0 = some q) : EV X mX15_keep 0 (lv_args 0 [.ref a0]) [] w none q := by
  unfold fX15_keep at h
  show EV X mX15_keep 0 [(0, .ref a0)] [] w none q
  refine EV.iconst (0) dX15_keep_0 (by decide) ?_
  refine EV.istore_n [(1, .int 0), (0, .ref a0)] dX15_keep_1 rfl (by decide) rfl ?_
  refine EV.sub [1, 0] rfl ?_
  exact eX15_keep_2  FU _ _ _ _ h
/-! WavePicturesModel.transpose()V -/
theorem dX15_transpose_0 : decode cX15_transpose 0 = .ok (.aload_n 0, 1) := by decide +kernel
theorem dX15_transpose_1 : decode cX15_transpose 1 = .ok (.invokevirtual 378, 3) := by decide +kernel
theorem dX15_transpose_4 : decode cX15_transpose 4 = .ok (.aload_n 0, 1) := by decide +kernel
theorem dX15_transpose_5 : decode cX15_transpose 5 = .ok (.getfield 129, 3) := by decide +kernel
theorem dX15_transpose_8 : decode cX15_transpose 8 = .ok (.istore_n 1, 1) := by decide +kernel
theorem dX15_transpose_9 : decode cX15_transpose 9 = .ok (.aload_n 0, 1) := by decide +kernel
theorem dX15_transpose_10 : decode cX15_transpose 10 = .ok (.aload_n 0, 1) := by decide +kernel
theorem dX15_transpose_11 : decode cX15_transpose 11 = .ok (.getfield 139, 3) := by decide +kernel
theorem dX15_transpose_14 : decode cX15_transpose 14 = .ok (.putfield 129, 3) := by decide +kernel
theorem dX15_transpose_17 : decode cX15_transpose 17 = .ok (.aload_n 0, 1) := by decide +kernel
theorem dX15_transpose_18 : decode cX15_transpose 18 = .ok (.iload_n 1, 1) := by decide +kernel
theorem dX15_transpose_19 : decode cX15_transpose 19 = .ok (.putfield 139, 3) := by decide +kernel
theorem dX15_transpose_22 : decode cX15_transpose 22 = .ok (.iconst 0, 1) := by decide +kernel
theorem dX15_transpose_23 : decode cX15_transpose 23 = .ok (.istore_n 2, 1) := by decide +kernel
theorem dX15_transpose_24 : decode cX15_transpose 24 = .ok (.iload_n 2, 1) := by decide +kernel
theorem dX15_transpose_25 : decode cX15_transpose 25 = .ok (.aload_n 0, 1) := by decide +kernel
theorem dX15_transpose_26 : decode cX15_transpose 26 = .ok (.getfield 126, 3) := by decide +kernel
theorem dX15_transpose_29 : decode cX15_transpose 29 = .ok (.if_icmp .ge 35, 3) := by decide +kernel
theorem dX15_transpose_32 : decode cX15_transpose 32 = .ok (.aload_n 0, 1) := by decide +kernel
theorem dX15_transpose_33 : decode cX15_transpose 33 = .ok (.getfield 52, 3) := by decide +kernel
theorem dX15_transpose_36 : decode cX15_transpose 36 = .ok (.iload_n 2, 1) := by decide +kernel
theorem dX15_transpose_37 : decode cX15_transpose 37 = .ok (.iaload, 1) := by decide +kernel
theorem dX15_transpose_38 : decode cX15_transpose 38 = .ok (.istore_n 3, 1) := by decide +kernel
theorem dX15_transpose_39 : decode cX15_transpose 39 = .ok (.aload_n 0, 1) := by decide +kernel
theorem dX15_transpose_40 : decode cX15_transpose 40 = .ok (.getfield 52, 3) := by decide +kernel
theorem dX15_transpose_43 : decode cX15_transpose 43 = .ok (.iload_n 2, 1) := by decide +kernel
theorem dX15_transpose_44 : decode cX15_transpose 44 = .ok (.aload_n 0, 1) := by decide +kernel
theorem dX15_transpose_45 : decode cX15_transpose 45 = .ok (.getfield 55, 3) := by decide +kernel
theorem dX15_transpose_48 : decode cX15_transpose 48 = .ok (.iload_n 2, 1) := by decide +kernel
theorem dX15_transpose_49 : decode cX15_transpose 49 = .ok (.iaload, 1) := by decide +kernel
theorem dX15_transpose_50 : decode cX15_transpose 50 = .ok (.iastore, 1) := by decide +kernel
theorem dX15_transpose_51 : decode cX15_transpose 51 = .ok (.aload_n 0, 1) := by decide +kernel
theorem dX15_transpose_52 : decode cX15_transpose 52 = .ok (.getfield 55, 3) := by decide +kernel
theorem dX15_transpose_55 : decode cX15_transpose 55 = .ok (.iload_n 2, 1) := by decide +kernel
theorem dX15_transpose_56 : decode cX15_transpose 56 = .ok (.iload_n 3, 1) := by decide +kernel
theorem dX15_transpose_57 : decode cX15_transpose 57 = .ok (.iastore, 1) := by decide +kernel
theorem dX15_transpose_58 : decode cX15_transpose 58 = .ok (.iinc 2 1, 3) := by decide +kernel
theorem dX15_transpose_61 : decode cX15_transpose 61 = .ok (.goto (-37), 3) := by decide +kernel
theorem dX15_transpose_64 : decode cX15_transpose 64 = .ok (.aload_n 0, 1) := by decide +kernel
theorem dX15_transpose_65 : decode cX15_transpose 65 = .ok (.invokevirtual 239, 3) := by decide +kernel
theorem dX15_transpose_68 : decode cX15_transpose 68 = .ok (.iconst 0, 1) := by decide +kernel
theorem dX15_transpose_69 : decode cX15_transpose 69 = .ok (.istore_n 2, 1) := by decide +kernel
theorem dX15_transpose_70 : decode cX15_transpose 70 = .ok (.iload_n 2, 1) := by decide +kernel
theorem dX15_transpose_71 : decode cX15_transpose 71 = .ok (.aload_n 0, 1) := by decide +kernel
theorem dX15_transpose_72 : decode cX15_transpose 72 = .ok (.getfield 126, 3) := by decide +kernel
theorem dX15_transpose_75 : decode cX15_transpose 75 = .ok (.if_icmp .ge 163, 3) := by decide +kernel
theorem dX15_transpose_78 : decode cX15_transpose 78 = .ok (.iconst 0, 1) := by decide +kernel
theorem dX15_transpose_79 : decode cX15_transpose 79 = .ok (.istore_n 3, 1) := by decide +kernel
theorem dX15_transpose_80 : decode cX15_transpose 80 = .ok (.iload_n 3, 1) := by decide +kernel
theorem dX15_transpose_81 : decode cX15_transpose 81 = .ok (.bipush 64, 2) := by decide +kernel
theorem dX15_transpose_83 : decode cX15_transpose 83 = .ok (.if_icmp .ge 149, 3) := by decide +kernel
theorem dX15_transpose_86 : decode cX15_transpose 86 = .ok (.aload_n 0, 1) := by decide +kernel
theorem dX15_transpose_87 : decode cX15_transpose 87 = .ok (.getfield 92, 3) := by decide +kernel
theorem dX15_transpose_90 : decode cX15_transpose 90 = .ok (.bipush 8, 2) := by decide +kernel
theorem dX15_transpose_92 : decode cX15_transpose 92 = .ok (.aload_n 0, 1) := by decide +kernel
theorem dX15_transpose_93 : decode cX15_transpose 93 = .ok (.getfield 89, 3) := by decide +kernel
theorem dX15_transpose_96 : decode cX15_transpose 96 = .ok (.iload_n 3, 1) := by decide +kernel
theorem dX15_transpose_97 : decode cX15_transpose 97 = .ok (.iaload, 1) := by decide +kernel
theorem dX15_transpose_98 : decode cX15_transpose 98 = .ok (.imul, 1) := by decide +kernel
theorem dX15_transpose_99 : decode cX15_transpose 99 = .ok (.aload_n 0, 1) := by decide +kernel
theorem dX15_transpose_100 : decode cX15_transpose 100 = .ok (.getfield 86, 3) := by decide +kernel
theorem dX15_transpose_103 : decode cX15_transpose 103 = .ok (.iload_n 3, 1) := by decide +kernel
theorem dX15_transpose_104 : decode cX15_transpose 104 = .ok (.iaload, 1) := by decide +kernel
theorem dX15_transpose_105 : decode cX15_transpose 105 = .ok (.iadd, 1) := by decide +kernel
theorem dX15_transpose_106 : decode cX15_transpose 106 = .ok (.iaload, 1) := by decide +kernel
theorem dX15_transpose_107 : decode cX15_transpose 107 = .ok (.istore 4, 2) := by decide +kernel
theorem dX15_transpose_109 : decode cX15_transpose 109 = .ok (.aload_n 0, 1) := by decide +kernel
theorem dX15_transpose_110 : decode cX15_transpose 110 = .ok (.getfield 67, 3) := by decide +kernel
theorem dX15_transpose_113 : decode cX15_transpose 113 = .ok (.bipush 64, 2) := by decide +kernel
theorem dX15_transpose_115 : decode cX15_transpose 115 = .ok (.iload_n 2, 1) := by decide +kernel
theorem dX15_transpose_116 : decode cX15_transpose 116 = .ok (.imul, 1) := by decide +kernel
theorem dX15_transpose_117 : decode cX15_transpose 117 = .ok (.iload_n 3, 1) := by decide +kernel
theorem dX15_transpose_118 : decode cX15_transpose 118 = .ok (.iadd, 1) := by decide +kernel
theorem dX15_transpose_119 : decode cX15_transpose 119 = .ok (.aload_n 0, 1) := by decide +kernel
theorem dX15_transpose_120 : decode cX15_transpose 120 = .ok (.getfield 83, 3) := by decide +kernel
theorem dX15_transpose_123 : decode cX15_transpose 123 = .ok (.bipush 64, 2) := by decide +kernel
theorem dX15_transpose_125 : decode cX15_transpose 125 = .ok (.iload_n 2, 1) := by decide +kernel
theorem dX15_transpose_126 : decode cX15_transpose 126 = .ok (.imul, 1) := by decide +kernel
theorem dX15_transpose_127 : decode cX15_transpose 127 = .ok (.iload 4, 2) := by decide +kernel
theorem dX15_transpose_129 : decode cX15_transpose 129 = .ok (.iadd, 1) := by decide +kernel
theorem dX15_transpose_130 : decode cX15_transpose 130 = .ok (.iaload, 1) := by decide +kernel
theorem dX15_transpose_131 : decode cX15_transpose 131 = .ok (.iastore, 1) := by decide +kernel
theorem dX15_transpose_132 : decode cX15_transpose 132 = .ok (.iconst 0, 1) := by decide +kernel
theorem dX15_transpose_133 : decode cX15_transpose 133 = .ok (.istore 5, 2) := by decide +kernel
theorem dX15_transpose_135 : decode cX15_transpose 135 = .ok (.iload 5, 2) := by decide +kernel
theorem dX15_transpose_137 : decode cX15_transpose 137 = .ok (.aload_n 0, 1) := by decide +kernel
theorem dX15_transpose_138 : decode cX15_transpose 138 = .ok (.getfield 58, 3) := by decide +kernel
theorem dX15_transpose_141 : decode cX15_transpose 141 = .ok (.iload_n 2, 1) := by decide +kernel
theorem dX15_transpose_142 : decode cX15_transpose 142 = .ok (.iaload, 1) := by decide +kernel
theorem dX15_transpose_143 : decode cX15_transpose 143 = .ok (.aload_n 0, 1) := by decide +kernel
theorem dX15_transpose_144 : decode cX15_transpose 144 = .ok (.getfield 61, 3) := by decide +kernel
theorem dX15_transpose_147 : decode cX15_transpose 147 = .ok (.iload_n 2, 1) := by decide +kernel
theorem dX15_transpose_148 : decode cX15_transpose 148 = .ok (.iaload, 1) := by decide +kernel
theorem dX15_transpose_149 : decode cX15_transpose 149 = .ok (.imul, 1) := by decide +kernel
theorem dX15_transpose_150 : decode cX15_transpose 150 = .ok (.if_icmp .ge 76, 3) := by decide +kernel
theorem dX15_transpose_153 : decode cX15_transpose 153 = .ok (.aload_n 0, 1) := by decide +kernel
theorem dX15_transpose_154 : decode cX15_transpose 154 = .ok (.getfield 80, 3) := by decide +kernel
theorem dX15_transpose_157 : decode cX15_transpose 157 = .ok (.iload_n 2, 1) := by decide +kernel
theorem dX15_transpose_158 : decode cX15_transpose 158 = .ok (.iaload, 1) := by decide +kernel
theorem dX15_transpose_159 : decode cX15_transpose 159 = .ok (.iload 5, 2) := by decide +kernel
theorem dX15_transpose_161 : decode cX15_transpose 161 = .ok (.aload_n 0, 1) := by decide +kernel
theorem dX15_transpose_162 : decode cX15_transpose 162 = .ok (.getfield 58, 3) := by decide +kernel
theorem dX15_transpose_165 : decode cX15_transpose 165 = .ok (.iload_n 2, 1) := by decide +kernel
theorem dX15_transpose_166 : decode cX15_transpose 166 = .ok (.iaload, 1) := by decide +kernel
theorem dX15_transpose_167 : decode cX15_transpose 167 = .ok (.irem, 1) := by decide +kernel
theorem dX15_transpose_168 : decode cX15_transpose 168 = .ok (.aload_n 0, 1) := by decide +kernel
theorem dX15_transpose_169 : decode cX15_transpose 169 = .ok (.getfield 77, 3) := by decide +kernel
theorem dX15_transpose_172 : decode cX15_transpose 172 = .ok (.iload_n 2, 1) := by decide +kernel
theorem dX15_transpose_173 : decode cX15_transpose 173 = .ok (.iaload, 1) := by decide +kernel
theorem dX15_transpose_174 : decode cX15_transpose 174 = .ok (.imul, 1) := by decide +kernel
theorem dX15_transpose_175 : decode cX15_transpose 175 = .ok (.iadd, 1) := by decide +kernel
theorem dX15_transpose_176 : decode cX15_transpose 176 = .ok (.iload 5, 2) := by decide +kernel
theorem dX15_transpose_178 : decode cX15_transpose 178 = .ok (.aload_n 0, 1) := by decide +kernel
theorem dX15_transpose_179 : decode cX15_transpose 179 = .ok (.getfield 58, 3) := by decide +kernel
theorem dX15_transpose_182 : decode cX15_transpose 182 = .ok (.iload_n 2, 1) := by decide +kernel
theorem dX15_transpose_183 : decode cX15_transpose 183 = .ok (.iaload, 1) := by decide +kernel
theorem dX15_transpose_184 : decode cX15_transpose 184 = .ok (.idiv, 1) := by decide +kernel
theorem dX15_transpose_185 : decode cX15_transpose 185 = .ok (.iadd, 1) := by decide +kernel
theorem dX15_transpose_186 : decode cX15_transpose 186 = .ok (.istore 6, 2) := by decide +kernel
theorem dX15_transpose_188 : decode cX15_transpose 188 = .ok (.aload_n 0, 1) := by decide +kernel
theorem dX15_transpose_189 : decode cX15_transpose 189 = .ok (.getfield 70, 3) := by decide +kernel
theorem dX15_transpose_192 : decode cX15_transpose 192 = .ok (.bipush 64, 2) := by decide +kernel
theorem dX15_transpose_194 : decode cX15_transpose 194 = .ok (.aload_n 0, 1) := by decide +kernel
theorem dX15_transpose_195 : decode cX15_transpose 195 = .ok (.getfield 64, 3) := by decide +kernel
theorem dX15_transpose_198 : decode cX15_transpose 198 = .ok (.iload_n 2, 1) := by decide +kernel
theorem dX15_transpose_199 : decode cX15_transpose 199 = .ok (.iaload, 1) := by decide +kernel
theorem dX15_transpose_200 : decode cX15_transpose 200 = .ok (.iload 5, 2) := by decide +kernel
theorem dX15_transpose_202 : decode cX15_transpose 202 = .ok (.iadd, 1) := by decide +kernel
theorem dX15_transpose_203 : decode cX15_transpose 203 = .ok (.imul, 1) := by decide +kernel
theorem dX15_transpose_204 : decode cX15_transpose 204 = .ok (.iload_n 3, 1) := by decide +kernel
theorem dX15_transpose_205 : decode cX15_transpose 205 = .ok (.iadd, 1) := by decide +kernel
theorem dX15_transpose_206 : decode cX15_transpose 206 = .ok (.aload_n 0, 1) := by decide +kernel
theorem dX15_transpose_207 : decode cX15_transpose 207 = .ok (.getfield 74, 3) := by decide +kernel
theorem dX15_transpose_210 : decode cX15_transpose 210 = .ok (.bipush 64, 2) := by decide +kernel
theorem dX15_transpose_212 : decode cX15_transpose 212 = .ok (.iload 6, 2) := by decide +kernel
theorem dX15_transpose_214 : decode cX15_transpose 214 = .ok (.imul, 1) := by decide +kernel
theorem dX15_transpose_215 : decode cX15_transpose 215 = .ok (.iload 4, 2) := by decide +kernel
theorem dX15_transpose_217 : decode cX15_transpose 217 = .ok (.iadd, 1) := by decide +kernel
theorem dX15_transpose_218 : decode cX15_transpose 218 = .ok (.saload, 1) := by decide +kernel
theorem dX15_transpose_219 : decode cX15_transpose 219 = .ok (.sastore, 1) := by decide +kernel
theorem dX15_transpose_220 : decode cX15_transpose 220 = .ok (.iinc 5 1, 3) := by decide +kernel
theorem dX15_transpose_223 : decode cX15_transpose 223 = .ok (.goto (-88), 3) := by decide +kernel
theorem dX15_transpose_226 : decode cX15_transpose 226 = .ok (.iinc 3 1, 3) := by decide +kernel
theorem dX15_transpose_229 : decode cX15_transpose 229 = .ok (.goto (-149), 3) := by decide +kernel
theorem dX15_transpose_232 : decode cX15_transpose 232 = .ok (.iinc 2 1, 3) := by decide +kernel
theorem dX15_transpose_235 : decode cX15_transpose 235 = .ok (.goto (-165), 3) := by decide +kernel
theorem dX15_transpose_238 : decode cX15_transpose 238 = .ok (.return_, 1) := by decide +kernel
theorem kcX15_transpose_239 : px_cV mX15_transpose 239 mX15_layOut 0 := ⟨⟨mbX15_layOut, by decide, by decide⟩, Or.inl (tb9 (List.mem_of_getElem? (i := 111) rfl)), vbX15_layOut⟩
theorem mbX15_keep : px_mB mX15_keep 0 := ⟨tb10 (List.mem_of_getElem? (i := 82) rfl), by decide +kernel, tb1 (List.mem_of_getElem? (i := 13) rfl), by decide +kernel, by decide +kernel⟩
theorem vbX15_keep : px_vB mX15_keep := ⟨tb10 (List.mem_of_getElem? (i := 81) rfl), List.mem_append_left _ (List.mem_of_getElem? (i := 171) (by decide +kernel))⟩
theorem kcX15_transpose_378 : px_cV mX15_transpose 378 mX15_keep 0 := ⟨⟨mbX15_keep, by decide, by decide⟩, Or.inl (tb10 (List.mem_of_getElem? (i := 79) rfl)), vbX15_keep⟩
set_option maxRecDepth 100000 in
set_option maxHeartbeats 4000000 in
theorem eX15_transpose_232 {X : px_X} {k70 : Nat → Int32 → px_W → Option (px_W)} (hk70 : ∀ (a0 : Nat) (a2 : Int32) (w : px_W) (q : px_W), k70 a0 a2 w = some q → EV X mX15_transpose 70 [(0, .ref a0), (2, .int a2)] [] w none q) : ∀ (a0 : Nat) (a2 : Int32) (w : px_W) (q : px_W), fX15_transpose_232 X k70 a0 a2 w = some q → EV X mX15_transpose 232 [(0, .ref a0), (2, .int a2)] [] w none q := by
  intro a0 a2 w q h
  unfold fX15_transpose_232 at h
  refine EV.iinc 1 (a2 + 1) [(2, .int (a2 + 1)), (0, .ref a0)] dX15_transpose_232 rfl rfl (by decide) rfl ?_
  refine EV.goto 70 dX15_transpose_235 (by decide) ?_
  refine EV.sub [1, 0] rfl ?_
  exact hk70 _ _ _ _ h
set_option maxRecDepth 100000 in
set_option maxHeartbeats 4000000 in
theorem eX15_transpose_226 {X : px_X} {k70 : Nat → Int32 → px_W → Option (px_W)} (hk70 : ∀ (a0 : Nat) (a2 : Int32) (w : px_W) (q : px_W), k70 a0 a2 w = some q → EV X mX15_transpose 70 [(0, .ref a0), (2, .int a2)] [] w none q) {k80 : Nat → Int32 → Int32 → px_W → Option (px_W)} (hk80 : ∀ (a0 : Nat) (a2 : Int32) (a3 : Int32) (w : px_W) (q : px_W), k80 a0 a2 a3 w = some q → EV X mX15_transpose 80 [(0, .ref a0), (2, .int a2), (3, .int a3)] [] w none q) : ∀ (a0 : Nat) (a2 : Int32) (a3 : Int32) (w : px_W) (q : px_W), fX15_transpose_226 X k70 k80 a0 a2 a3 w = some q → EV X mX15_transpose 226 [(0, .ref a0), (2, .int a2), (3, .int a3)] [] w none q := by
  intro a0 a2 a3 w q h
  unfold fX15_transpose_226 at h
  refine EV.iinc 2 (a3 + 1) [(3, .int (a3 + 1)), (0, .ref a0), (2, .int a2)] dX15_transpose_226 rfl rfl (by decide) rfl ?_
  refine EV.goto 80 dX15_transpose_229 (by decide) ?_
  refine EV.sub [1, 2, 0] rfl ?_
  exact hk80 _ _ _ _ _ h
set_option maxRecDepth 100000 in
set_option maxHeartbeats 4000000 in
theorem eX15_transpose_135 {X : px_X} {k70 : Nat → Int32 → px_W → Option (px_W)} (hk70 : ∀ (a0 : Nat) (a2 : Int32) (w : px_W) (q : px_W), k70 a0 a2 w = some q → EV X mX15_transpose 70 [(0, .ref a0), (2, .int a2)] [] w none q) {k80 : Nat → Int32 → Int32 → px_W → Option (px_W)} (hk80 : ∀ (a0 : Nat) (a2 : Int32) (a3 : Int32) (w : px_W) (q : px_W), k80 a0 a2 a3 w = some q → EV X mX15_transpose 80 [(0, .ref a0), (2, .int a2), (3, .int a3)] [] w none q) : ∀ (m : Nat) (a0 : Nat) (a2 : Int32) (a3 : Int32) (a4 : Int32) (a5 : Int32) (w : px_W) (q : px_W), fX15_transpose_135 X k70 k80 m a0 a2 a3 a4 a5 w = some q → EV X mX15_transpose 135 [(0, .ref a0), (2, .int a2), (3, .int a3), (4, .int a4), (5, .int a5)] [] w none q := by
  intro m
  induction m with
  | zero => intro a0 a2 a3 a4 a5 w q h; cases h
  | succ m ih =>
    intro a0 a2 a3 a4 a5 w q h
    rw [fX15_transpose_135.eq_2] at h
    refine EV.iload 4 dX15_transpose_135 rfl ?_
    refine EV.aload_n 0 dX15_transpose_137 rfl rfl ?_
    obtain ⟨v49, gv49, h⟩ := px_bs h
    refine ev_gR dX15_transpose_138 flRX15_58 gv49 ?_
    refine EV.iload_n 1 dX15_transpose_141 rfl rfl ?_
    obtain ⟨v50, gv50, h⟩ := px_bs h
    refine ev_aI dX15_transpose_142 gv50 ?_
    refine EV.aload_n 0 dX15_transpose_143 rfl rfl ?_
    obtain ⟨v51, gv51, h⟩ := px_bs h
    refine ev_gR dX15_transpose_144 flRX15_61 gv51 ?_
    refine EV.iload_n 1 dX15_transpose_147 rfl rfl ?_
    obtain ⟨v52, gv52, h⟩ := px_bs h
    refine ev_aI dX15_transpose_148 gv52 ?_
    refine EV.imul dX15_transpose_149 ?_
    refine EV.icmp_ge 226 dX15_transpose_150 (by decide) (fun c53 => ?_) (fun c53 => ?_)
    · rw [if_pos c53] at h
      refine EV.sub [0, 1, 2] rfl ?_
      exact eX15_transpose_226 hk70 hk80 _ _ _ _ _ h
    · rw [if_neg c53] at h
      refine EV.aload_n 0 dX15_transpose_153 rfl rfl ?_
      obtain ⟨v54, gv54, h⟩ := px_bs h
      refine ev_gR dX15_transpose_154 flRX15_80 gv54 ?_
      refine EV.iload_n 1 dX15_transpose_157 rfl rfl ?_
      obtain ⟨v55, gv55, h⟩ := px_bs h
      refine ev_aI dX15_transpose_158 gv55 ?_
      refine EV.iload 4 dX15_transpose_159 rfl ?_
      refine EV.aload_n 0 dX15_transpose_161 rfl rfl ?_
      obtain ⟨v56, gv56, h⟩ := px_bs h
      refine ev_gR dX15_transpose_162 flRX15_58 gv56 ?_
      refine EV.iload_n 1 dX15_transpose_165 rfl rfl ?_
      obtain ⟨v57, gv57, h⟩ := px_bs h
      refine ev_aI dX15_transpose_166 gv57 ?_
      obtain ⟨v58, gv58, h⟩ := px_bs h
      refine ev_rI dX15_transpose_167 gv58 ?_
      refine EV.aload_n 0 dX15_transpose_168 rfl rfl ?_
      obtain ⟨v59, gv59, h⟩ := px_bs h
      refine ev_gR dX15_transpose_169 flRX15_77 gv59 ?_
      refine EV.iload_n 1 dX15_transpose_172 rfl rfl ?_
      obtain ⟨v60, gv60, h⟩ := px_bs h
      refine ev_aI dX15_transpose_173 gv60 ?_
      refine EV.imul dX15_transpose_174 ?_
      refine EV.iadd dX15_transpose_175 ?_
      refine EV.iload 4 dX15_transpose_176 rfl ?_
      refine EV.aload_n 0 dX15_transpose_178 rfl rfl ?_
      obtain ⟨v61, gv61, h⟩ := px_bs h
      refine ev_gR dX15_transpose_179 flRX15_58 gv61 ?_
      refine EV.iload_n 1 dX15_transpose_182 rfl rfl ?_
      obtain ⟨v62, gv62, h⟩ := px_bs h
      refine ev_aI dX15_transpose_183 gv62 ?_
      obtain ⟨v63, gv63, h⟩ := px_bs h
      refine ev_dI dX15_transpose_184 gv63 ?_
      refine EV.iadd dX15_transpose_185 ?_
      refine EV.istore [(6, .int ((v55 + (v58 * v60)) + v63)), (0, .ref a0), (2, .int a2), (3, .int a3), (4, .int a4), (5, .int a5)] dX15_transpose_186 (by decide) rfl ?_
      refine EV.aload_n 1 dX15_transpose_188 rfl rfl ?_
      obtain ⟨v64, gv64, h⟩ := px_bs h
      refine ev_gR dX15_transpose_189 flRX15_70 gv64 ?_
      refine EV.bipush (64) dX15_transpose_192 (by decide) ?_
      refine EV.aload_n 1 dX15_transpose_194 rfl rfl ?_
      obtain ⟨v65, gv65, h⟩ := px_bs h
      refine ev_gR dX15_transpose_195 flRX15_64 gv65 ?_
      refine EV.iload_n 2 dX15_transpose_198 rfl rfl ?_
      obtain ⟨v66, gv66, h⟩ := px_bs h
      refine ev_aI dX15_transpose_199 gv66 ?_
      refine EV.iload 5 dX15_transpose_200 rfl ?_
      refine EV.iadd dX15_transpose_202 ?_
      refine EV.imul dX15_transpose_203 ?_
      refine EV.iload_n 3 dX15_transpose_204 rfl rfl ?_
      refine EV.iadd dX15_transpose_205 ?_
      refine EV.aload_n 1 dX15_transpose_206 rfl rfl ?_
      obtain ⟨v67, gv67, h⟩ := px_bs h
      refine ev_gR dX15_transpose_207 flRX15_74 gv67 ?_
      refine EV.bipush (64) dX15_transpose_210 (by decide) ?_
      refine EV.iload 0 dX15_transpose_212 rfl ?_
      refine EV.imul dX15_transpose_214 ?_
      refine EV.iload 4 dX15_transpose_215 rfl ?_
      refine EV.iadd dX15_transpose_217 ?_
      obtain ⟨v68, gv68, h⟩ := px_bs h
      refine ev_aS dX15_transpose_218 gv68 ?_
      obtain ⟨w69, gw69, h⟩ := px_bs h
      refine ev_sS dX15_transpose_219 gw69 ?_
      refine EV.iinc 5 (a5 + 1) [(5, .int (a5 + 1)), (6, .int ((v55 + (v58 * v60)) + v63)), (0, .ref a0), (2, .int a2), (3, .int a3), (4, .int a4)] dX15_transpose_220 rfl rfl (by decide) rfl ?_
      refine EV.goto 135 dX15_transpose_223 (by decide) ?_
      refine EV.sub [2, 3, 4, 5, 0] rfl ?_
      exact ih _ _ _ _ _ _ _ h
set_option maxRecDepth 100000 in
set_option maxHeartbeats 4000000 in
theorem eX15_transpose_80 {X : px_X} {k70 : Nat → Int32 → px_W → Option (px_W)} (hk70 : ∀ (a0 : Nat) (a2 : Int32) (w : px_W) (q : px_W), k70 a0 a2 w = some q → EV X mX15_transpose 70 [(0, .ref a0), (2, .int a2)] [] w none q) : ∀ (m : Nat) (a0 : Nat) (a2 : Int32) (a3 : Int32) (w : px_W) (q : px_W), fX15_transpose_80 X k70 m a0 a2 a3 w = some q → EV X mX15_transpose 80 [(0, .ref a0), (2, .int a2), (3, .int a3)] [] w none q := by
  intro m
  induction m with
  | zero => intro a0 a2 a3 w q h; cases h
  | succ m ih =>
    intro a0 a2 a3 w q h
    rw [fX15_transpose_80.eq_2] at h
    refine EV.iload_n 2 dX15_transpose_80 rfl rfl ?_
    refine EV.bipush (64) dX15_transpose_81 (by decide) ?_
    refine EV.icmp_ge 232 dX15_transpose_83 (by decide) (fun c70 => ?_) (fun c70 => ?_)
    · rw [if_pos c70] at h
      refine EV.sub [0, 1] rfl ?_
      exact eX15_transpose_232 hk70 _ _ _ _ h
    · rw [if_neg c70] at h
      refine EV.aload_n 0 dX15_transpose_86 rfl rfl ?_
      obtain ⟨v71, gv71, h⟩ := px_bs h
      refine ev_gR dX15_transpose_87 flRX15_92 gv71 ?_
      refine EV.bipush (8) dX15_transpose_90 (by decide) ?_
      refine EV.aload_n 0 dX15_transpose_92 rfl rfl ?_
      obtain ⟨v72, gv72, h⟩ := px_bs h
      refine ev_gR dX15_transpose_93 flRX15_89 gv72 ?_
      refine EV.iload_n 2 dX15_transpose_96 rfl rfl ?_
      obtain ⟨v73, gv73, h⟩ := px_bs h
      refine ev_aI dX15_transpose_97 gv73 ?_
      refine EV.imul dX15_transpose_98 ?_
      refine EV.aload_n 0 dX15_transpose_99 rfl rfl ?_
      obtain ⟨v74, gv74, h⟩ := px_bs h
      refine ev_gR dX15_transpose_100 flRX15_86 gv74 ?_
      refine EV.iload_n 2 dX15_transpose_103 rfl rfl ?_
      obtain ⟨v75, gv75, h⟩ := px_bs h
      refine ev_aI dX15_transpose_104 gv75 ?_
      refine EV.iadd dX15_transpose_105 ?_
      obtain ⟨v76, gv76, h⟩ := px_bs h
      refine ev_aI dX15_transpose_106 gv76 ?_
      refine EV.istore [(4, .int v76), (0, .ref a0), (2, .int a2), (3, .int a3)] dX15_transpose_107 (by decide) rfl ?_
      refine EV.aload_n 1 dX15_transpose_109 rfl rfl ?_
      obtain ⟨v77, gv77, h⟩ := px_bs h
      refine ev_gR dX15_transpose_110 flRX15_67 gv77 ?_
      refine EV.bipush (64) dX15_transpose_113 (by decide) ?_
      refine EV.iload_n 2 dX15_transpose_115 rfl rfl ?_
      refine EV.imul dX15_transpose_116 ?_
      refine EV.iload_n 3 dX15_transpose_117 rfl rfl ?_
      refine EV.iadd dX15_transpose_118 ?_
      refine EV.aload_n 1 dX15_transpose_119 rfl rfl ?_
      obtain ⟨v78, gv78, h⟩ := px_bs h
      refine ev_gR dX15_transpose_120 flRX15_83 gv78 ?_
      refine EV.bipush (64) dX15_transpose_123 (by decide) ?_
      refine EV.iload_n 2 dX15_transpose_125 rfl rfl ?_
      refine EV.imul dX15_transpose_126 ?_
      refine EV.iload 0 dX15_transpose_127 rfl ?_
      refine EV.iadd dX15_transpose_129 ?_
      obtain ⟨v79, gv79, h⟩ := px_bs h
      refine ev_aI dX15_transpose_130 gv79 ?_
      obtain ⟨w80, gw80, h⟩ := px_bs h
      refine ev_sI dX15_transpose_131 gw80 ?_
      refine EV.iconst (0) dX15_transpose_132 (by decide) ?_
      refine EV.istore [(5, .int 0), (4, .int v76), (0, .ref a0), (2, .int a2), (3, .int a3)] dX15_transpose_133 (by decide) rfl ?_
      refine EV.sub [2, 3, 4, 1, 0] rfl ?_
      exact eX15_transpose_135 hk70 ih FU _ _ _ _ _ _ _ h
set_option maxRecDepth 100000 in
set_option maxHeartbeats 4000000 in
theorem eX15_transpose_70 {X : px_X}  : ∀ (m : Nat) (a0 : Nat) (a2 : Int32) (w : px_W) (q : px_W), fX15_transpose_70 X  m a0 a2 w = some q → EV X mX15_transpose 70 [(0, .ref a0), (2, .int a2)] [] w none q := by
  intro m
  induction m with
  | zero => intro a0 a2 w q h; cases h
  | succ m ih =>
    intro a0 a2 w q h
    rw [fX15_transpose_70.eq_2] at h
    refine EV.iload_n 1 dX15_transpose_70 rfl rfl ?_
    refine EV.aload_n 0 dX15_transpose_71 rfl rfl ?_
    obtain ⟨v81, gv81, h⟩ := px_bs h
    refine ev_gI dX15_transpose_72 flRX15_126 gv81 ?_
    refine EV.icmp_ge 238 dX15_transpose_75 (by decide) (fun c82 => ?_) (fun c82 => ?_)
    · rw [if_pos c82] at h
      cases h
      exact EV.ret0 dX15_transpose_238 trivial
    · rw [if_neg c82] at h
      refine EV.iconst (0) dX15_transpose_78 (by decide) ?_
      refine EV.istore_n [(3, .int 0), (0, .ref a0), (2, .int a2)] dX15_transpose_79 rfl (by decide) rfl ?_
      refine EV.sub [1, 2, 0] rfl ?_
      exact eX15_transpose_80 ih FU _ _ _ _ _ h
set_option maxRecDepth 100000 in
set_option maxHeartbeats 4000000 in
theorem eX15_transpose_64 {X : px_X}  : ∀ (a0 : Nat) (w : px_W) (q : px_W), fX15_transpose_64 X  a0 w = some q → EV X mX15_transpose 64 [(0, .ref a0)] [] w none q := by
  intro a0 w q h
  unfold fX15_transpose_64 at h
  refine EV.aload_n 0 dX15_transpose_64 rfl rfl ?_
  obtain ⟨o83, go83, h⟩ := px_bs h
  obtain ⟨q84, gq84, h⟩ := px_bs h
  refine EV.callV (As := []) (rest := []) dX15_transpose_65 kcX15_transpose_239 (gO_ok go83) rfl rfl rfl (Nat.le_of_ble_eq_true rfl) (Nat.le_of_ble_eq_true rfl) (eX15_layOut gq84) ?_
  refine EV.iconst (0) dX15_transpose_68 (by decide) ?_
  refine EV.istore_n [(2, .int 0), (0, .ref a0)] dX15_transpose_69 rfl (by decide) rfl ?_
  refine EV.sub [1, 0] rfl ?_
  exact eX15_transpose_70  FU _ _ _ _ h
set_option maxRecDepth 100000 in
set_option maxHeartbeats 4000000 in
theorem eX15_transpose_24 {X : px_X}  : ∀ (m : Nat) (a0 : Nat) (a2 : Int32) (w : px_W) (q : px_W), fX15_transpose_24 X  m a0 a2 w = some q → EV X mX15_transpose 24 [(0, .ref a0), (2, .int a2)] [] w none q := by
  intro m
  induction m with
  | zero => intro a0 a2 w q h; cases h
  | succ m ih =>
    intro a0 a2 w q h
    rw [fX15_transpose_24.eq_2] at h
    refine EV.iload_n 1 dX15_transpose_24 rfl rfl ?_
    refine EV.aload_n 0 dX15_transpose_25 rfl rfl ?_
    obtain ⟨v85, gv85, h⟩ := px_bs h
    refine ev_gI dX15_transpose_26 flRX15_126 gv85 ?_
    refine EV.icmp_ge 64 dX15_transpose_29 (by decide) (fun c86 => ?_) (fun c86 => ?_)
    · rw [if_pos c86] at h
      refine EV.sub [0] rfl ?_
      exact eX15_transpose_64  _ _ _ h
    · rw [if_neg c86] at h
      refine EV.aload_n 0 dX15_transpose_32 rfl rfl ?_
      obtain ⟨v87, gv87, h⟩ := px_bs h
      refine ev_gR dX15_transpose_33 flRX15_52 gv87 ?_
      refine EV.iload_n 1 dX15_transpose_36 rfl rfl ?_
      obtain ⟨v88, gv88, h⟩ := px_bs h
      refine ev_aI dX15_transpose_37 gv88 ?_
      refine EV.istore_n [(3, .int v88), (0, .ref a0), (2, .int a2)] dX15_transpose_38 rfl (by decide) rfl ?_
      refine EV.aload_n 1 dX15_transpose_39 rfl rfl ?_
      obtain ⟨v89, gv89, h⟩ := px_bs h
      refine ev_gR dX15_transpose_40 flRX15_52 gv89 ?_
      refine EV.iload_n 2 dX15_transpose_43 rfl rfl ?_
      refine EV.aload_n 1 dX15_transpose_44 rfl rfl ?_
      obtain ⟨v90, gv90, h⟩ := px_bs h
      refine ev_gR dX15_transpose_45 flRX15_55 gv90 ?_
      refine EV.iload_n 2 dX15_transpose_48 rfl rfl ?_
      obtain ⟨v91, gv91, h⟩ := px_bs h
      refine ev_aI dX15_transpose_49 gv91 ?_
      obtain ⟨w92, gw92, h⟩ := px_bs h
      refine ev_sI dX15_transpose_50 gw92 ?_
      refine EV.aload_n 1 dX15_transpose_51 rfl rfl ?_
      obtain ⟨v93, gv93, h⟩ := px_bs h
      refine ev_gR dX15_transpose_52 flRX15_55 gv93 ?_
      refine EV.iload_n 2 dX15_transpose_55 rfl rfl ?_
      refine EV.iload_n 0 dX15_transpose_56 rfl rfl ?_
      obtain ⟨w94, gw94, h⟩ := px_bs h
      refine ev_sI dX15_transpose_57 gw94 ?_
      refine EV.iinc 2 (a2 + 1) [(2, .int (a2 + 1)), (3, .int v88), (0, .ref a0)] dX15_transpose_58 rfl rfl (by decide) rfl ?_
      refine EV.goto 24 dX15_transpose_61 (by decide) ?_
      refine EV.sub [2, 0] rfl ?_
      exact ih _ _ _ _ h
set_option maxRecDepth 100000 in
set_option maxHeartbeats 4000000 in
theorem eX15_transpose {X : px_X} {w : px_W} {a0 : Nat} {q : px_W} (h : fX15_transpose X w a0 = some q) : EV X mX15_transpose 0 (lv_args 0 [.ref a0]) [] w none q := by
  unfold fX15_transpose at h
  show EV X mX15_transpose 0 [(0, .ref a0)] [] w none q
  refine EV.aload_n 0 dX15_transpose_0 rfl rfl ?_
  obtain ⟨o95, go95, h⟩ := px_bs h
  obtain ⟨q96, gq96, h⟩ := px_bs h
  refine EV.callV (As := []) (rest := []) dX15_transpose_1 kcX15_transpose_378 (gO_ok go95) rfl rfl rfl (Nat.le_of_ble_eq_true rfl) (Nat.le_of_ble_eq_true rfl) (eX15_keep gq96) ?_
  refine EV.aload_n 0 dX15_transpose_4 rfl rfl ?_
  obtain ⟨v97, gv97, h⟩ := px_bs h
  refine ev_gI dX15_transpose_5 flRX15_129 gv97 ?_
  refine EV.istore_n [(1, .int v97), (0, .ref a0)] dX15_transpose_8 rfl (by decide) rfl ?_
  refine EV.aload_n 1 dX15_transpose_9 rfl rfl ?_
  refine EV.aload_n 1 dX15_transpose_10 rfl rfl ?_
  obtain ⟨v98, gv98, h⟩ := px_bs h
  refine ev_gI dX15_transpose_11 flRX15_139 gv98 ?_
  obtain ⟨w99, gw99, h⟩ := px_bs h
  refine ev_pV dX15_transpose_14 flRX15_129 rfl rfl rfl rfl gw99 ?_
  refine EV.aload_n 1 dX15_transpose_17 rfl rfl ?_
  refine EV.iload_n 0 dX15_transpose_18 rfl rfl ?_
  obtain ⟨w100, gw100, h⟩ := px_bs h
  refine ev_pV dX15_transpose_19 flRX15_139 rfl rfl rfl rfl gw100 ?_
  refine EV.iconst (0) dX15_transpose_22 (by decide) ?_
  refine EV.istore_n [(2, .int 0), (1, .int v97), (0, .ref a0)] dX15_transpose_23 rfl (by decide) rfl ?_
  refine EV.sub [2, 0] rfl ?_
  exact eX15_transpose_24  FU _ _ _ _ h
/-! WavePicturesModel.mirror(Z)V -/
theorem dX15_mirror_0 : decode cX15_mirror 0 = .ok (.aload_n 0, 1) := by decide +kernel
theorem dX15_mirror_1 : decode cX15_mirror 1 = .ok (.invokevirtual 378, 3) := by decide +kernel
theorem dX15_mirror_4 : decode cX15_mirror 4 = .ok (.aload_n 0, 1) := by decide +kernel
theorem dX15_mirror_5 : decode cX15_mirror 5 = .ok (.iload_n 1, 1) := by decide +kernel
theorem dX15_mirror_6 : decode cX15_mirror 6 = .ok (.ifCond .eq 26, 3) := by decide +kernel
theorem dX15_mirror_9 : decode cX15_mirror 9 = .ok (.aload_n 0, 1) := by decide +kernel
theorem dX15_mirror_10 : decode cX15_mirror 10 = .ok (.getfield 129, 3) := by decide +kernel
theorem dX15_mirror_13 : decode cX15_mirror 13 = .ok (.bipush 8, 2) := by decide +kernel
theorem dX15_mirror_15 : decode cX15_mirror 15 = .ok (.aload_n 0, 1) := by decide +kernel
theorem dX15_mirror_16 : decode cX15_mirror 16 = .ok (.getfield 120, 3) := by decide +kernel
theorem dX15_mirror_19 : decode cX15_mirror 19 = .ok (.imul, 1) := by decide +kernel
theorem dX15_mirror_20 : decode cX15_mirror 20 = .ok (.idiv, 1) := by decide +kernel
theorem dX15_mirror_21 : decode cX15_mirror 21 = .ok (.bipush 8, 2) := by decide +kernel
theorem dX15_mirror_23 : decode cX15_mirror 23 = .ok (.imul, 1) := by decide +kernel
theorem dX15_mirror_24 : decode cX15_mirror 24 = .ok (.aload_n 0, 1) := by decide +kernel
theorem dX15_mirror_25 : decode cX15_mirror 25 = .ok (.getfield 120, 3) := by decide +kernel
theorem dX15_mirror_28 : decode cX15_mirror 28 = .ok (.imul, 1) := by decide +kernel
theorem dX15_mirror_29 : decode cX15_mirror 29 = .ok (.goto 7, 3) := by decide +kernel
theorem dX15_mirror_32 : decode cX15_mirror 32 = .ok (.aload_n 0, 1) := by decide +kernel
theorem dX15_mirror_33 : decode cX15_mirror 33 = .ok (.getfield 129, 3) := by decide +kernel
theorem dX15_mirror_36 : decode cX15_mirror 36 = .ok (.putfield 129, 3) := by decide +kernel
theorem dX15_mirror_39 : decode cX15_mirror 39 = .ok (.aload_n 0, 1) := by decide +kernel
theorem dX15_mirror_40 : decode cX15_mirror 40 = .ok (.iload_n 1, 1) := by decide +kernel
theorem dX15_mirror_41 : decode cX15_mirror 41 = .ok (.ifCond .eq 10, 3) := by decide +kernel
theorem dX15_mirror_44 : decode cX15_mirror 44 = .ok (.aload_n 0, 1) := by decide +kernel
theorem dX15_mirror_45 : decode cX15_mirror 45 = .ok (.getfield 139, 3) := by decide +kernel
theorem dX15_mirror_48 : decode cX15_mirror 48 = .ok (.goto 23, 3) := by decide +kernel
theorem dX15_mirror_51 : decode cX15_mirror 51 = .ok (.aload_n 0, 1) := by decide +kernel
theorem dX15_mirror_52 : decode cX15_mirror 52 = .ok (.getfield 139, 3) := by decide +kernel
theorem dX15_mirror_55 : decode cX15_mirror 55 = .ok (.bipush 8, 2) := by decide +kernel
theorem dX15_mirror_57 : decode cX15_mirror 57 = .ok (.aload_n 0, 1) := by decide +kernel
theorem dX15_mirror_58 : decode cX15_mirror 58 = .ok (.getfield 123, 3) := by decide +kernel
theorem dX15_mirror_61 : decode cX15_mirror 61 = .ok (.imul, 1) := by decide +kernel
theorem dX15_mirror_62 : decode cX15_mirror 62 = .ok (.idiv, 1) := by decide +kernel
theorem dX15_mirror_63 : decode cX15_mirror 63 = .ok (.bipush 8, 2) := by decide +kernel
theorem dX15_mirror_65 : decode cX15_mirror 65 = .ok (.imul, 1) := by decide +kernel
theorem dX15_mirror_66 : decode cX15_mirror 66 = .ok (.aload_n 0, 1) := by decide +kernel
theorem dX15_mirror_67 : decode cX15_mirror 67 = .ok (.getfield 123, 3) := by decide +kernel
theorem dX15_mirror_70 : decode cX15_mirror 70 = .ok (.imul, 1) := by decide +kernel
theorem dX15_mirror_71 : decode cX15_mirror 71 = .ok (.putfield 139, 3) := by decide +kernel
theorem dX15_mirror_74 : decode cX15_mirror 74 = .ok (.aload_n 0, 1) := by decide +kernel
theorem dX15_mirror_75 : decode cX15_mirror 75 = .ok (.invokevirtual 239, 3) := by decide +kernel
theorem dX15_mirror_78 : decode cX15_mirror 78 = .ok (.iconst 0, 1) := by decide +kernel
theorem dX15_mirror_79 : decode cX15_mirror 79 = .ok (.istore_n 2, 1) := by decide +kernel
theorem dX15_mirror_80 : decode cX15_mirror 80 = .ok (.iload_n 2, 1) := by decide +kernel
theorem dX15_mirror_81 : decode cX15_mirror 81 = .ok (.aload_n 0, 1) := by decide +kernel
theorem dX15_mirror_82 : decode cX15_mirror 82 = .ok (.getfield 126, 3) := by decide +kernel
theorem dX15_mirror_85 : decode cX15_mirror 85 = .ok (.if_icmp .ge 202, 3) := by decide +kernel
theorem dX15_mirror_88 : decode cX15_mirror 88 = .ok (.iconst 0, 1) := by decide +kernel
theorem dX15_mirror_89 : decode cX15_mirror 89 = .ok (.istore_n 3, 1) := by decide +kernel
theorem dX15_mirror_90 : decode cX15_mirror 90 = .ok (.iload_n 3, 1) := by decide +kernel
theorem dX15_mirror_91 : decode cX15_mirror 91 = .ok (.aload_n 0, 1) := by decide +kernel
theorem dX15_mirror_92 : decode cX15_mirror 92 = .ok (.getfield 58, 3) := by decide +kernel
theorem dX15_mirror_95 : decode cX15_mirror 95 = .ok (.iload_n 2, 1) := by decide +kernel
theorem dX15_mirror_96 : decode cX15_mirror 96 = .ok (.iaload, 1) := by decide +kernel
theorem dX15_mirror_97 : decode cX15_mirror 97 = .ok (.aload_n 0, 1) := by decide +kernel
theorem dX15_mirror_98 : decode cX15_mirror 98 = .ok (.getfield 61, 3) := by decide +kernel
theorem dX15_mirror_101 : decode cX15_mirror 101 = .ok (.iload_n 2, 1) := by decide +kernel
theorem dX15_mirror_102 : decode cX15_mirror 102 = .ok (.iaload, 1) := by decide +kernel
theorem dX15_mirror_103 : decode cX15_mirror 103 = .ok (.imul, 1) := by decide +kernel
theorem dX15_mirror_104 : decode cX15_mirror 104 = .ok (.if_icmp .ge 177, 3) := by decide +kernel
theorem dX15_mirror_107 : decode cX15_mirror 107 = .ok (.iload_n 3, 1) := by decide +kernel
theorem dX15_mirror_108 : decode cX15_mirror 108 = .ok (.aload_n 0, 1) := by decide +kernel
theorem dX15_mirror_109 : decode cX15_mirror 109 = .ok (.getfield 58, 3) := by decide +kernel
theorem dX15_mirror_112 : decode cX15_mirror 112 = .ok (.iload_n 2, 1) := by decide +kernel
theorem dX15_mirror_113 : decode cX15_mirror 113 = .ok (.iaload, 1) := by decide +kernel
theorem dX15_mirror_114 : decode cX15_mirror 114 = .ok (.irem, 1) := by decide +kernel
theorem dX15_mirror_115 : decode cX15_mirror 115 = .ok (.istore 4, 2) := by decide +kernel
theorem dX15_mirror_117 : decode cX15_mirror 117 = .ok (.iload_n 3, 1) := by decide +kernel
theorem dX15_mirror_118 : decode cX15_mirror 118 = .ok (.aload_n 0, 1) := by decide +kernel
theorem dX15_mirror_119 : decode cX15_mirror 119 = .ok (.getfield 58, 3) := by decide +kernel
theorem dX15_mirror_122 : decode cX15_mirror 122 = .ok (.iload_n 2, 1) := by decide +kernel
theorem dX15_mirror_123 : decode cX15_mirror 123 = .ok (.iaload, 1) := by decide +kernel
theorem dX15_mirror_124 : decode cX15_mirror 124 = .ok (.idiv, 1) := by decide +kernel
theorem dX15_mirror_125 : decode cX15_mirror 125 = .ok (.istore 5, 2) := by decide +kernel
theorem dX15_mirror_127 : decode cX15_mirror 127 = .ok (.aload_n 0, 1) := by decide +kernel
theorem dX15_mirror_128 : decode cX15_mirror 128 = .ok (.getfield 80, 3) := by decide +kernel
theorem dX15_mirror_131 : decode cX15_mirror 131 = .ok (.iload_n 2, 1) := by decide +kernel
theorem dX15_mirror_132 : decode cX15_mirror 132 = .ok (.iaload, 1) := by decide +kernel
theorem dX15_mirror_133 : decode cX15_mirror 133 = .ok (.iload_n 1, 1) := by decide +kernel
theorem dX15_mirror_134 : decode cX15_mirror 134 = .ok (.ifCond .eq 27, 3) := by decide +kernel
theorem dX15_mirror_137 : decode cX15_mirror 137 = .ok (.iload 5, 2) := by decide +kernel
theorem dX15_mirror_139 : decode cX15_mirror 139 = .ok (.aload_n 0, 1) := by decide +kernel
theorem dX15_mirror_140 : decode cX15_mirror 140 = .ok (.getfield 77, 3) := by decide +kernel
theorem dX15_mirror_143 : decode cX15_mirror 143 = .ok (.iload_n 2, 1) := by decide +kernel
theorem dX15_mirror_144 : decode cX15_mirror 144 = .ok (.iaload, 1) := by decide +kernel
theorem dX15_mirror_145 : decode cX15_mirror 145 = .ok (.imul, 1) := by decide +kernel
theorem dX15_mirror_146 : decode cX15_mirror 146 = .ok (.aload_n 0, 1) := by decide +kernel
theorem dX15_mirror_147 : decode cX15_mirror 147 = .ok (.getfield 58, 3) := by decide +kernel
theorem dX15_mirror_150 : decode cX15_mirror 150 = .ok (.iload_n 2, 1) := by decide +kernel
theorem dX15_mirror_151 : decode cX15_mirror 151 = .ok (.iaload, 1) := by decide +kernel
theorem dX15_mirror_152 : decode cX15_mirror 152 = .ok (.iadd, 1) := by decide +kernel
theorem dX15_mirror_153 : decode cX15_mirror 153 = .ok (.iconst 1, 1) := by decide +kernel
theorem dX15_mirror_154 : decode cX15_mirror 154 = .ok (.isub, 1) := by decide +kernel
theorem dX15_mirror_155 : decode cX15_mirror 155 = .ok (.iload 4, 2) := by decide +kernel
theorem dX15_mirror_157 : decode cX15_mirror 157 = .ok (.isub, 1) := by decide +kernel
theorem dX15_mirror_158 : decode cX15_mirror 158 = .ok (.goto 24, 3) := by decide +kernel
theorem dX15_mirror_161 : decode cX15_mirror 161 = .ok (.aload_n 0, 1) := by decide +kernel
theorem dX15_mirror_162 : decode cX15_mirror 162 = .ok (.getfield 61, 3) := by decide +kernel
theorem dX15_mirror_165 : decode cX15_mirror 165 = .ok (.iload_n 2, 1) := by decide +kernel
theorem dX15_mirror_166 : decode cX15_mirror 166 = .ok (.iaload, 1) := by decide +kernel
theorem dX15_mirror_167 : decode cX15_mirror 167 = .ok (.iconst 1, 1) := by decide +kernel
theorem dX15_mirror_168 : decode cX15_mirror 168 = .ok (.isub, 1) := by decide +kernel
theorem dX15_mirror_169 : decode cX15_mirror 169 = .ok (.iload 5, 2) := by decide +kernel
theorem dX15_mirror_171 : decode cX15_mirror 171 = .ok (.isub, 1) := by decide +kernel
theorem dX15_mirror_172 : decode cX15_mirror 172 = .ok (.aload_n 0, 1) := by decide +kernel
theorem dX15_mirror_173 : decode cX15_mirror 173 = .ok (.getfield 77, 3) := by decide +kernel
theorem dX15_mirror_176 : decode cX15_mirror 176 = .ok (.iload_n 2, 1) := by decide +kernel
theorem dX15_mirror_177 : decode cX15_mirror 177 = .ok (.iaload, 1) := by decide +kernel
theorem dX15_mirror_178 : decode cX15_mirror 178 = .ok (.imul, 1) := by decide +kernel
theorem dX15_mirror_179 : decode cX15_mirror 179 = .ok (.iload 4, 2) := by decide +kernel
theorem dX15_mirror_181 : decode cX15_mirror 181 = .ok (.iadd, 1) := by decide +kernel
theorem dX15_mirror_182 : decode cX15_mirror 182 = .ok (.iadd, 1) := by decide +kernel
theorem dX15_mirror_183 : decode cX15_mirror 183 = .ok (.istore 6, 2) := by decide +kernel
theorem dX15_mirror_185 : decode cX15_mirror 185 = .ok (.iconst 0, 1) := by decide +kernel
theorem dX15_mirror_186 : decode cX15_mirror 186 = .ok (.istore 7, 2) := by decide +kernel
theorem dX15_mirror_188 : decode cX15_mirror 188 = .ok (.iload 7, 2) := by decide +kernel
theorem dX15_mirror_190 : decode cX15_mirror 190 = .ok (.bipush 64, 2) := by decide +kernel
theorem dX15_mirror_192 : decode cX15_mirror 192 = .ok (.if_icmp .ge 83, 3) := by decide +kernel
theorem dX15_mirror_195 : decode cX15_mirror 195 = .ok (.iload_n 1, 1) := by decide +kernel
theorem dX15_mirror_196 : decode cX15_mirror 196 = .ok (.ifCond .eq 13, 3) := by decide +kernel
theorem dX15_mirror_199 : decode cX15_mirror 199 = .ok (.aload_n 0, 1) := by decide +kernel
theorem dX15_mirror_200 : decode cX15_mirror 200 = .ok (.getfield 89, 3) := by decide +kernel
theorem dX15_mirror_203 : decode cX15_mirror 203 = .ok (.iload 7, 2) := by decide +kernel
theorem dX15_mirror_205 : decode cX15_mirror 205 = .ok (.iaload, 1) := by decide +kernel
theorem dX15_mirror_206 : decode cX15_mirror 206 = .ok (.goto 10, 3) := by decide +kernel
theorem dX15_mirror_209 : decode cX15_mirror 209 = .ok (.aload_n 0, 1) := by decide +kernel
theorem dX15_mirror_210 : decode cX15_mirror 210 = .ok (.getfield 86, 3) := by decide +kernel
theorem dX15_mirror_213 : decode cX15_mirror 213 = .ok (.iload 7, 2) := by decide +kernel
theorem dX15_mirror_215 : decode cX15_mirror 215 = .ok (.iaload, 1) := by decide +kernel
theorem dX15_mirror_216 : decode cX15_mirror 216 = .ok (.iconst 2, 1) := by decide +kernel
theorem dX15_mirror_217 : decode cX15_mirror 217 = .ok (.irem, 1) := by decide +kernel
theorem dX15_mirror_218 : decode cX15_mirror 218 = .ok (.istore 8, 2) := by decide +kernel
theorem dX15_mirror_220 : decode cX15_mirror 220 = .ok (.aload_n 0, 1) := by decide +kernel
theorem dX15_mirror_221 : decode cX15_mirror 221 = .ok (.getfield 74, 3) := by decide +kernel
theorem dX15_mirror_224 : decode cX15_mirror 224 = .ok (.bipush 64, 2) := by decide +kernel
theorem dX15_mirror_226 : decode cX15_mirror 226 = .ok (.iload 6, 2) := by decide +kernel
theorem dX15_mirror_228 : decode cX15_mirror 228 = .ok (.imul, 1) := by decide +kernel
theorem dX15_mirror_229 : decode cX15_mirror 229 = .ok (.iload 7, 2) := by decide +kernel
theorem dX15_mirror_231 : decode cX15_mirror 231 = .ok (.iadd, 1) := by decide +kernel
theorem dX15_mirror_232 : decode cX15_mirror 232 = .ok (.saload, 1) := by decide +kernel
theorem dX15_mirror_233 : decode cX15_mirror 233 = .ok (.istore 9, 2) := by decide +kernel
theorem dX15_mirror_235 : decode cX15_mirror 235 = .ok (.aload_n 0, 1) := by decide +kernel
theorem dX15_mirror_236 : decode cX15_mirror 236 = .ok (.getfield 70, 3) := by decide +kernel
theorem dX15_mirror_239 : decode cX15_mirror 239 = .ok (.bipush 64, 2) := by decide +kernel
theorem dX15_mirror_241 : decode cX15_mirror 241 = .ok (.aload_n 0, 1) := by decide +kernel
theorem dX15_mirror_242 : decode cX15_mirror 242 = .ok (.getfield 64, 3) := by decide +kernel
theorem dX15_mirror_245 : decode cX15_mirror 245 = .ok (.iload_n 2, 1) := by decide +kernel
theorem dX15_mirror_246 : decode cX15_mirror 246 = .ok (.iaload, 1) := by decide +kernel
theorem dX15_mirror_247 : decode cX15_mirror 247 = .ok (.iload_n 3, 1) := by decide +kernel
theorem dX15_mirror_248 : decode cX15_mirror 248 = .ok (.iadd, 1) := by decide +kernel
theorem dX15_mirror_249 : decode cX15_mirror 249 = .ok (.imul, 1) := by decide +kernel
theorem dX15_mirror_250 : decode cX15_mirror 250 = .ok (.iload 7, 2) := by decide +kernel
theorem dX15_mirror_252 : decode cX15_mirror 252 = .ok (.iadd, 1) := by decide +kernel
theorem dX15_mirror_253 : decode cX15_mirror 253 = .ok (.iload 8, 2) := by decide +kernel
theorem dX15_mirror_255 : decode cX15_mirror 255 = .ok (.iconst 1, 1) := by decide +kernel
theorem dX15_mirror_256 : decode cX15_mirror 256 = .ok (.if_icmp .ne 9, 3) := by decide +kernel
theorem dX15_mirror_259 : decode cX15_mirror 259 = .ok (.iload 9, 2) := by decide +kernel
theorem dX15_mirror_261 : decode cX15_mirror 261 = .ok (.ineg, 1) := by decide +kernel
theorem dX15_mirror_262 : decode cX15_mirror 262 = .ok (.goto 5, 3) := by decide +kernel
theorem dX15_mirror_265 : decode cX15_mirror 265 = .ok (.iload 9, 2) := by decide +kernel
theorem dX15_mirror_267 : decode cX15_mirror 267 = .ok (.i2s, 1) := by decide +kernel
theorem dX15_mirror_268 : decode cX15_mirror 268 = .ok (.sastore, 1) := by decide +kernel
theorem dX15_mirror_269 : decode cX15_mirror 269 = .ok (.iinc 7 1, 3) := by decide +kernel
theorem dX15_mirror_272 : decode cX15_mirror 272 = .ok (.goto (-84), 3) := by decide +kernel
theorem dX15_mirror_275 : decode cX15_mirror 275 = .ok (.iinc 3 1, 3) := by decide +kernel
theorem dX15_mirror_278 : decode cX15_mirror 278 = .ok (.goto (-188), 3) := by decide +kernel
theorem dX15_mirror_281 : decode cX15_mirror 281 = .ok (.iinc 2 1, 3) := by decide +kernel
theorem dX15_mirror_284 : decode cX15_mirror 284 = .ok (.goto (-204), 3) := by decide +kernel
theorem dX15_mirror_287 : decode cX15_mirror 287 = .ok (.return_, 1) := by decide +kernel
theorem kcX15_mirror_239 : px_cV mX15_mirror 239 mX15_layOut 0 := ⟨⟨mbX15_layOut, by decide, by decide⟩, Or.inl (tb9 (List.mem_of_getElem? (i := 111) rfl)), vbX15_layOut⟩
theorem kcX15_mirror_378 : px_cV mX15_mirror 378 mX15_keep 0 := ⟨⟨mbX15_keep, by decide, by decide⟩, Or.inl (tb10 (List.mem_of_getElem? (i := 79) rfl)), vbX15_keep⟩
set_option maxRecDepth 100000 in
set_option maxHeartbeats 4000000 in
theorem eX15_mirror_281 {X : px_X} {k80 : Nat → Int32 → Int32 → px_W → Option (px_W)} (hk80 : ∀ (a0 : Nat) (a1 : Int32) (a2 : Int32) (w : px_W) (q : px_W), k80 a0 a1 a2 w = some q → EV X mX15_mirror 80 [(0, .ref a0), (1, .int a1), (2, .int a2)] [] w none q) : ∀ (a0 : Nat) (a1 : Int32) (a2 : Int32) (w : px_W) (q : px_W), fX15_mirror_281 X k80 a0 a1 a2 w = some q → EV X mX15_mirror 281 [(0, .ref a0), (1, .int a1), (2, .int a2)] [] w none q := by
  intro a0 a1 a2 w q h
  unfold fX15_mirror_281 at h
  refine EV.iinc 2 (a2 + 1) [(2, .int (a2 + 1)), (0, .ref a0), (1, .int a1)] dX15_mirror_281 rfl rfl (by decide) rfl ?_
  refine EV.goto 80 dX15_mirror_284 (by decide) ?_
  refine EV.sub [1, 2, 0] rfl ?_
  exact hk80 _ _ _ _ _ h
set_option maxRecDepth 100000 in
set_option maxHeartbeats 4000000 in
theorem eX15_mirror_267 {X : px_X} {k80 : Nat → Int32 → Int32 → px_W → Option (px_W)} (hk80 : ∀ (a0 : Nat) (a1 : Int32) (a2 : Int32) (w : px_W) (q : px_W), k80 a0 a1 a2 w = some q → EV X mX15_mirror 80 [(0, .ref a0), (1, .int a1), (2, .int a2)] [] w none q) {k90 : Nat → Int32 → Int32 → Int32 → px_W → Option (px_W)} (hk90 : ∀ (a0 : Nat) (a1 : Int32) (a2 : Int32) (a3 : Int32) (w : px_W) (q : px_W), k90 a0 a1 a2 a3 w = some q → EV X mX15_mirror 90 [(0, .ref a0), (1, .int a1), (2, .int a2), (3, .int a3)] [] w none q) {k188 : Nat → Int32 → Int32 → Int32 → Int32 → Int32 → px_W → Option (px_W)} (hk188 : ∀ (a0 : Nat) (a1 : Int32) (a2 : Int32) (a3 : Int32) (a6 : Int32) (a7 : Int32) (w : px_W) (q : px_W), k188 a0 a1 a2 a3 a6 a7 w = some q → EV X mX15_mirror 188 [(0, .ref a0), (1, .int a1), (2, .int a2), (3, .int a3), (6, .int a6), (7, .int a7)] [] w none q) : ∀ (a0 : Nat) (a1 : Int32) (a2 : Int32) (a3 : Int32) (a6 : Int32) (a7 : Int32) (s0 : Int32) (s1 : Int32) (s2 : Nat) (w : px_W) (q : px_W), fX15_mirror_267 X k80 k90 k188 a0 a1 a2 a3 a6 a7 s0 s1 s2 w = some q → EV X mX15_mirror 267 [(0, .ref a0), (1, .int a1), (2, .int a2), (3, .int a3), (6, .int a6), (7, .int a7)] [.int s0, .int s1, .ref s2] w none q := by
  intro a0 a1 a2 a3 a6 a7 s0 s1 s2 w q h
  unfold fX15_mirror_267 at h
  refine EV.i2s dX15_mirror_267 ?_
  obtain ⟨w49, gw49, h⟩ := px_bs h
  refine ev_sS dX15_mirror_268 gw49 ?_
  refine EV.iinc 5 (a7 + 1) [(7, .int (a7 + 1)), (0, .ref a0), (1, .int a1), (2, .int a2), (3, .int a3), (6, .int a6)] dX15_mirror_269 rfl rfl (by decide) rfl ?_
  refine EV.goto 188 dX15_mirror_272 (by decide) ?_
  refine EV.sub [1, 2, 3, 4, 5, 0] rfl ?_
  exact hk188 _ _ _ _ _ _ _ _ h
set_option maxRecDepth 100000 in
set_option maxHeartbeats 4000000 in
theorem eX15_mirror_216 {X : px_X} {k80 : Nat → Int32 → Int32 → px_W → Option (px_W)} (hk80 : ∀ (a0 : Nat) (a1 : Int32) (a2 : Int32) (w : px_W) (q : px_W), k80 a0 a1 a2 w = some q → EV X mX15_mirror 80 [(0, .ref a0), (1, .int a1), (2, .int a2)] [] w none q) {k90 : Nat → Int32 → Int32 → Int32 → px_W → Option (px_W)} (hk90 : ∀ (a0 : Nat) (a1 : Int32) (a2 : Int32) (a3 : Int32) (w : px_W) (q : px_W), k90 a0 a1 a2 a3 w = some q → EV X mX15_mirror 90 [(0, .ref a0), (1, .int a1), (2, .int a2), (3, .int a3)] [] w none q) {k188 : Nat → Int32 → Int32 → Int32 → Int32 → Int32 → px_W → Option (px_W)} (hk188 : ∀ (a0 : Nat) (a1 : Int32) (a2 : Int32) (a3 : Int32) (a6 : Int32) (a7 : Int32) (w : px_W) (q : px_W), k188 a0 a1 a2 a3 a6 a7 w = some q → EV X mX15_mirror 188 [(0, .ref a0), (1, .int a1), (2, .int a2), (3, .int a3), (6, .int a6), (7, .int a7)] [] w none q) : ∀ (a0 : Nat) (a1 : Int32) (a2 : Int32) (a3 : Int32) (a6 : Int32) (a7 : Int32) (s0 : Int32) (w : px_W) (q : px_W), fX15_mirror_216 X k80 k90 k188 a0 a1 a2 a3 a6 a7 s0 w = some q → EV X mX15_mirror 216 [(0, .ref a0), (1, .int a1), (2, .int a2), (3, .int a3), (6, .int a6), (7, .int a7)] [.int s0] w none q := by
  intro a0 a1 a2 a3 a6 a7 s0 w q h
  unfold fX15_mirror_216 at h
  refine EV.iconst (2) dX15_mirror_216 (by decide) ?_
  obtain ⟨v50, gv50, h⟩ := px_bs h
  refine ev_rI dX15_mirror_217 gv50 ?_
  refine EV.istore [(8, .int v50), (0, .ref a0), (1, .int a1), (2, .int a2), (3, .int a3), (6, .int a6), (7, .int a7)] dX15_mirror_218 (by decide) rfl ?_
  refine EV.aload_n 1 dX15_mirror_220 rfl rfl ?_
  obtain ⟨v51, gv51, h⟩ := px_bs h
  refine ev_gR dX15_mirror_221 flRX15_74 gv51 ?_
  refine EV.bipush (64) dX15_mirror_224 (by decide) ?_
  refine EV.iload 5 dX15_mirror_226 rfl ?_
  refine EV.imul dX15_mirror_228 ?_
  refine EV.iload 6 dX15_mirror_229 rfl ?_
  refine EV.iadd dX15_mirror_231 ?_
  obtain ⟨v52, gv52, h⟩ := px_bs h
  refine ev_aS dX15_mirror_232 gv52 ?_
  refine EV.istore [(9, .int v52), (8, .int v50), (0, .ref a0), (1, .int a1), (2, .int a2), (3, .int a3), (6, .int a6), (7, .int a7)] dX15_mirror_233 (by decide) rfl ?_
  refine EV.aload_n 2 dX15_mirror_235 rfl rfl ?_
  obtain ⟨v53, gv53, h⟩ := px_bs h
  refine ev_gR dX15_mirror_236 flRX15_70 gv53 ?_
  refine EV.bipush (64) dX15_mirror_239 (by decide) ?_
  refine EV.aload_n 2 dX15_mirror_241 rfl rfl ?_
  obtain ⟨v54, gv54, h⟩ := px_bs h
  refine ev_gR dX15_mirror_242 flRX15_64 gv54 ?_
  refine EV.iload_n 4 dX15_mirror_245 rfl rfl ?_
  obtain ⟨v55, gv55, h⟩ := px_bs h
  refine ev_aI dX15_mirror_246 gv55 ?_
  refine EV.iload_n 5 dX15_mirror_247 rfl rfl ?_
  refine EV.iadd dX15_mirror_248 ?_
  refine EV.imul dX15_mirror_249 ?_
  refine EV.iload 7 dX15_mirror_250 rfl ?_
  refine EV.iadd dX15_mirror_252 ?_
  refine EV.iload 1 dX15_mirror_253 rfl ?_
  refine EV.iconst (1) dX15_mirror_255 (by decide) ?_
  refine EV.icmp_ne 265 dX15_mirror_256 (by decide) (fun c56 => ?_) (fun c56 => ?_)
  · rw [if_neg c56] at h
    refine EV.iload 0 dX15_mirror_265 rfl ?_
    refine EV.sub [2, 3, 4, 5, 6, 7] rfl ?_
    exact eX15_mirror_267 hk80 hk90 hk188 _ _ _ _ _ _ _ _ _ _ _ h
  · rw [if_pos c56] at h
    refine EV.iload 0 dX15_mirror_259 rfl ?_
    refine EV.ineg dX15_mirror_261 ?_
    refine EV.goto 267 dX15_mirror_262 (by decide) ?_
    refine EV.sub [2, 3, 4, 5, 6, 7] rfl ?_
    exact eX15_mirror_267 hk80 hk90 hk188 _ _ _ _ _ _ _ _ _ _ _ h
set_option maxRecDepth 100000 in
set_option maxHeartbeats 4000000 in
theorem eX15_mirror_275 {X : px_X} {k80 : Nat → Int32 → Int32 → px_W → Option (px_W)} (hk80 : ∀ (a0 : Nat) (a1 : Int32) (a2 : Int32) (w : px_W) (q : px_W), k80 a0 a1 a2 w = some q → EV X mX15_mirror 80 [(0, .ref a0), (1, .int a1), (2, .int a2)] [] w none q) {k90 : Nat → Int32 → Int32 → Int32 → px_W → Option (px_W)} (hk90 : ∀ (a0 : Nat) (a1 : Int32) (a2 : Int32) (a3 : Int32) (w : px_W) (q : px_W), k90 a0 a1 a2 a3 w = some q → EV X mX15_mirror 90 [(0, .ref a0), (1, .int a1), (2, .int a2), (3, .int a3)] [] w none q) : ∀ (a0 : Nat) (a1 : Int32) (a2 : Int32) (a3 : Int32) (w : px_W) (q : px_W), fX15_mirror_275 X k80 k90 a0 a1 a2 a3 w = some q → EV X mX15_mirror 275 [(0, .ref a0), (1, .int a1), (2, .int a2), (3, .int a3)] [] w none q := by
  intro a0 a1 a2 a3 w q h
  unfold fX15_mirror_275 at h
  refine EV.iinc 3 (a3 + 1) [(3, .int (a3 + 1)), (0, .ref a0), (1, .int a1), (2, .int a2)] dX15_mirror_275 rfl rfl (by decide) rfl ?_
  refine EV.goto 90 dX15_mirror_278 (by decide) ?_
  refine EV.sub [1, 2, 3, 0] rfl ?_
  exact hk90 _ _ _ _ _ _ h
set_option maxRecDepth 100000 in
set_option maxHeartbeats 4000000 in
theorem eX15_mirror_188 {X : px_X} {k80 : Nat → Int32 → Int32 → px_W → Option (px_W)} (hk80 : ∀ (a0 : Nat) (a1 : Int32) (a2 : Int32) (w : px_W) (q : px_W), k80 a0 a1 a2 w = some q → EV X mX15_mirror 80 [(0, .ref a0), (1, .int a1), (2, .int a2)] [] w none q) {k90 : Nat → Int32 → Int32 → Int32 → px_W → Option (px_W)} (hk90 : ∀ (a0 : Nat) (a1 : Int32) (a2 : Int32) (a3 : Int32) (w : px_W) (q : px_W), k90 a0 a1 a2 a3 w = some q → EV X mX15_mirror 90 [(0, .ref a0), (1, .int a1), (2, .int a2), (3, .int a3)] [] w none q) : ∀ (m : Nat) (a0 : Nat) (a1 : Int32) (a2 : Int32) (a3 : Int32) (a6 : Int32) (a7 : Int32) (w : px_W) (q : px_W), fX15_mirror_188 X k80 k90 m a0 a1 a2 a3 a6 a7 w = some q → EV X mX15_mirror 188 [(0, .ref a0), (1, .int a1), (2, .int a2), (3, .int a3), (6, .int a6), (7, .int a7)] [] w none q := by
  intro m
  induction m with
  | zero => intro a0 a1 a2 a3 a6 a7 w q h; cases h
  | succ m ih =>
    intro a0 a1 a2 a3 a6 a7 w q h
    rw [fX15_mirror_188.eq_2] at h
    refine EV.iload 5 dX15_mirror_188 rfl ?_
    refine EV.bipush (64) dX15_mirror_190 (by decide) ?_
    refine EV.icmp_ge 275 dX15_mirror_192 (by decide) (fun c57 => ?_) (fun c57 => ?_)
    · rw [if_pos c57] at h
      refine EV.sub [0, 1, 2, 3] rfl ?_
      exact eX15_mirror_275 hk80 hk90 _ _ _ _ _ _ h
    · rw [if_neg c57] at h
      refine EV.iload_n 1 dX15_mirror_195 rfl rfl ?_
      refine EV.if_eq 209 dX15_mirror_196 (by decide) (fun c58 => ?_) (fun c58 => ?_)
      · rw [if_pos c58] at h
        refine EV.aload_n 0 dX15_mirror_209 rfl rfl ?_
        obtain ⟨v59, gv59, h⟩ := px_bs h
        refine ev_gR dX15_mirror_210 flRX15_86 gv59 ?_
        refine EV.iload 5 dX15_mirror_213 rfl ?_
        obtain ⟨v60, gv60, h⟩ := px_bs h
        refine ev_aI dX15_mirror_215 gv60 ?_
        refine EV.sub [0, 1, 2, 3, 4, 5] rfl ?_
        exact eX15_mirror_216 hk80 hk90 ih _ _ _ _ _ _ _ _ _ h
      · rw [if_neg c58] at h
        refine EV.aload_n 0 dX15_mirror_199 rfl rfl ?_
        obtain ⟨v61, gv61, h⟩ := px_bs h
        refine ev_gR dX15_mirror_200 flRX15_89 gv61 ?_
        refine EV.iload 5 dX15_mirror_203 rfl ?_
        obtain ⟨v62, gv62, h⟩ := px_bs h
        refine ev_aI dX15_mirror_205 gv62 ?_
        refine EV.goto 216 dX15_mirror_206 (by decide) ?_
        refine EV.sub [0, 1, 2, 3, 4, 5] rfl ?_
        exact eX15_mirror_216 hk80 hk90 ih _ _ _ _ _ _ _ _ _ h
set_option maxRecDepth 100000 in
set_option maxHeartbeats 4000000 in
theorem eX15_mirror_182 {X : px_X} {k80 : Nat → Int32 → Int32 → px_W → Option (px_W)} (hk80 : ∀ (a0 : Nat) (a1 : Int32) (a2 : Int32) (w : px_W) (q : px_W), k80 a0 a1 a2 w = some q → EV X mX15_mirror 80 [(0, .ref a0), (1, .int a1), (2, .int a2)] [] w none q) {k90 : Nat → Int32 → Int32 → Int32 → px_W → Option (px_W)} (hk90 : ∀ (a0 : Nat) (a1 : Int32) (a2 : Int32) (a3 : Int32) (w : px_W) (q : px_W), k90 a0 a1 a2 a3 w = some q → EV X mX15_mirror 90 [(0, .ref a0), (1, .int a1), (2, .int a2), (3, .int a3)] [] w none q) : ∀ (a0 : Nat) (a1 : Int32) (a2 : Int32) (a3 : Int32) (s0 : Int32) (s1 : Int32) (w : px_W) (q : px_W), fX15_mirror_182 X k80 k90 a0 a1 a2 a3 s0 s1 w = some q → EV X mX15_mirror 182 [(0, .ref a0), (1, .int a1), (2, .int a2), (3, .int a3)] [.int s0, .int s1] w none q := by
  intro a0 a1 a2 a3 s0 s1 w q h
  unfold fX15_mirror_182 at h
  refine EV.iadd dX15_mirror_182 ?_
  refine EV.istore [(6, .int (s1 + s0)), (0, .ref a0), (1, .int a1), (2, .int a2), (3, .int a3)] dX15_mirror_183 (by decide) rfl ?_
  refine EV.iconst (0) dX15_mirror_185 (by decide) ?_
  refine EV.istore [(7, .int 0), (6, .int (s1 + s0)), (0, .ref a0), (1, .int a1), (2, .int a2), (3, .int a3)] dX15_mirror_186 (by decide) rfl ?_
  refine EV.sub [2, 3, 4, 5, 1, 0] rfl ?_
  exact eX15_mirror_188 hk80 hk90 FU _ _ _ _ _ _ _ _ h
set_option maxRecDepth 100000 in
set_option maxHeartbeats 4000000 in
theorem eX15_mirror_90 {X : px_X} {k80 : Nat → Int32 → Int32 → px_W → Option (px_W)} (hk80 : ∀ (a0 : Nat) (a1 : Int32) (a2 : Int32) (w : px_W) (q : px_W), k80 a0 a1 a2 w = some q → EV X mX15_mirror 80 [(0, .ref a0), (1, .int a1), (2, .int a2)] [] w none q) : ∀ (m : Nat) (a0 : Nat) (a1 : Int32) (a2 : Int32) (a3 : Int32) (w : px_W) (q : px_W), fX15_mirror_90 X k80 m a0 a1 a2 a3 w = some q → EV X mX15_mirror 90 [(0, .ref a0), (1, .int a1), (2, .int a2), (3, .int a3)] [] w none q := by
  intro m
  induction m with
  | zero => intro a0 a1 a2 a3 w q h; cases h
  | succ m ih =>
    intro a0 a1 a2 a3 w q h
    rw [fX15_mirror_90.eq_2] at h
    refine EV.iload_n 3 dX15_mirror_90 rfl rfl ?_
    refine EV.aload_n 0 dX15_mirror_91 rfl rfl ?_
    obtain ⟨v63, gv63, h⟩ := px_bs h
    refine ev_gR dX15_mirror_92 flRX15_58 gv63 ?_
    refine EV.iload_n 2 dX15_mirror_95 rfl rfl ?_
    obtain ⟨v64, gv64, h⟩ := px_bs h
    refine ev_aI dX15_mirror_96 gv64 ?_
    refine EV.aload_n 0 dX15_mirror_97 rfl rfl ?_
    obtain ⟨v65, gv65, h⟩ := px_bs h
    refine ev_gR dX15_mirror_98 flRX15_61 gv65 ?_
    refine EV.iload_n 2 dX15_mirror_101 rfl rfl ?_
    obtain ⟨v66, gv66, h⟩ := px_bs h
    refine ev_aI dX15_mirror_102 gv66 ?_
    refine EV.imul dX15_mirror_103 ?_
    refine EV.icmp_ge 281 dX15_mirror_104 (by decide) (fun c67 => ?_) (fun c67 => ?_)
    · rw [if_pos c67] at h
      refine EV.sub [0, 1, 2] rfl ?_
      exact eX15_mirror_281 hk80 _ _ _ _ _ h
    · rw [if_neg c67] at h
      refine EV.iload_n 3 dX15_mirror_107 rfl rfl ?_
      refine EV.aload_n 0 dX15_mirror_108 rfl rfl ?_
      obtain ⟨v68, gv68, h⟩ := px_bs h
      refine ev_gR dX15_mirror_109 flRX15_58 gv68 ?_
      refine EV.iload_n 2 dX15_mirror_112 rfl rfl ?_
      obtain ⟨v69, gv69, h⟩ := px_bs h
      refine ev_aI dX15_mirror_113 gv69 ?_
      obtain ⟨v70, gv70, h⟩ := px_bs h
      refine ev_rI dX15_mirror_114 gv70 ?_
      refine EV.istore [(4, .int v70), (0, .ref a0), (1, .int a1), (2, .int a2), (3, .int a3)] dX15_mirror_115 (by decide) rfl ?_
      refine EV.iload_n 4 dX15_mirror_117 rfl rfl ?_
      refine EV.aload_n 1 dX15_mirror_118 rfl rfl ?_
      obtain ⟨v71, gv71, h⟩ := px_bs h
      refine ev_gR dX15_mirror_119 flRX15_58 gv71 ?_
      refine EV.iload_n 3 dX15_mirror_122 rfl rfl ?_
      obtain ⟨v72, gv72, h⟩ := px_bs h
      refine ev_aI dX15_mirror_123 gv72 ?_
      obtain ⟨v73, gv73, h⟩ := px_bs h
      refine ev_dI dX15_mirror_124 gv73 ?_
      refine EV.istore [(5, .int v73), (4, .int v70), (0, .ref a0), (1, .int a1), (2, .int a2), (3, .int a3)] dX15_mirror_125 (by decide) rfl ?_
      refine EV.aload_n 2 dX15_mirror_127 rfl rfl ?_
      obtain ⟨v74, gv74, h⟩ := px_bs h
      refine ev_gR dX15_mirror_128 flRX15_80 gv74 ?_
      refine EV.iload_n 4 dX15_mirror_131 rfl rfl ?_
      obtain ⟨v75, gv75, h⟩ := px_bs h
      refine ev_aI dX15_mirror_132 gv75 ?_
      refine EV.iload_n 3 dX15_mirror_133 rfl rfl ?_
      refine EV.if_eq 161 dX15_mirror_134 (by decide) (fun c76 => ?_) (fun c76 => ?_)
      · rw [if_pos c76] at h
        refine EV.aload_n 2 dX15_mirror_161 rfl rfl ?_
        obtain ⟨v77, gv77, h⟩ := px_bs h
        refine ev_gR dX15_mirror_162 flRX15_61 gv77 ?_
        refine EV.iload_n 4 dX15_mirror_165 rfl rfl ?_
        obtain ⟨v78, gv78, h⟩ := px_bs h
        refine ev_aI dX15_mirror_166 gv78 ?_
        refine EV.iconst (1) dX15_mirror_167 (by decide) ?_
        refine EV.isub dX15_mirror_168 ?_
        refine EV.iload 0 dX15_mirror_169 rfl ?_
        refine EV.isub dX15_mirror_171 ?_
        refine EV.aload_n 2 dX15_mirror_172 rfl rfl ?_
        obtain ⟨v79, gv79, h⟩ := px_bs h
        refine ev_gR dX15_mirror_173 flRX15_77 gv79 ?_
        refine EV.iload_n 4 dX15_mirror_176 rfl rfl ?_
        obtain ⟨v80, gv80, h⟩ := px_bs h
        refine ev_aI dX15_mirror_177 gv80 ?_
        refine EV.imul dX15_mirror_178 ?_
        refine EV.iload 1 dX15_mirror_179 rfl ?_
        refine EV.iadd dX15_mirror_181 ?_
        refine EV.sub [2, 3, 4, 5] rfl ?_
        exact eX15_mirror_182 hk80 ih _ _ _ _ _ _ _ _ h
      · rw [if_neg c76] at h
        refine EV.iload 0 dX15_mirror_137 rfl ?_
        refine EV.aload_n 2 dX15_mirror_139 rfl rfl ?_
        obtain ⟨v81, gv81, h⟩ := px_bs h
        refine ev_gR dX15_mirror_140 flRX15_77 gv81 ?_
        refine EV.iload_n 4 dX15_mirror_143 rfl rfl ?_
        obtain ⟨v82, gv82, h⟩ := px_bs h
        refine ev_aI dX15_mirror_144 gv82 ?_
        refine EV.imul dX15_mirror_145 ?_
        refine EV.aload_n 2 dX15_mirror_146 rfl rfl ?_
        obtain ⟨v83, gv83, h⟩ := px_bs h
        refine ev_gR dX15_mirror_147 flRX15_58 gv83 ?_
        refine EV.iload_n 4 dX15_mirror_150 rfl rfl ?_
        obtain ⟨v84, gv84, h⟩ := px_bs h
        refine ev_aI dX15_mirror_151 gv84 ?_
        refine EV.iadd dX15_mirror_152 ?_
        refine EV.iconst (1) dX15_mirror_153 (by decide) ?_
        refine EV.isub dX15_mirror_154 ?_
        refine EV.iload 1 dX15_mirror_155 rfl ?_
        refine EV.isub dX15_mirror_157 ?_
        refine EV.goto 182 dX15_mirror_158 (by decide) ?_
        refine EV.sub [2, 3, 4, 5] rfl ?_
        exact eX15_mirror_182 hk80 ih _ _ _ _ _ _ _ _ h
set_option maxRecDepth 100000 in
set_option maxHeartbeats 4000000 in
theorem eX15_mirror_80 {X : px_X}  : ∀ (m : Nat) (a0 : Nat) (a1 : Int32) (a2 : Int32) (w : px_W) (q : px_W), fX15_mirror_80 X  m a0 a1 a2 w = some q → EV X mX15_mirror 80 [(0, .ref a0), (1, .int a1), (2, .int a2)] [] w none q := by
  intro m
  induction m with
  | zero => intro a0 a1 a2 w q h; cases h
  | succ m ih =>
    intro a0 a1 a2 w q h
    rw [fX15_mirror_80.eq_2] at h
    refine EV.iload_n 2 dX15_mirror_80 rfl rfl ?_
    refine EV.aload_n 0 dX15_mirror_81 rfl rfl ?_
    obtain ⟨v85, gv85, h⟩ := px_bs h
    refine ev_gI dX15_mirror_82 flRX15_126 gv85 ?_
    refine EV.icmp_ge 287 dX15_mirror_85 (by decide) (fun c86 => ?_) (fun c86 => ?_)
    · rw [if_pos c86] at h
      cases h
      exact EV.ret0 dX15_mirror_287 trivial
    · rw [if_neg c86] at h
      refine EV.iconst (0) dX15_mirror_88 (by decide) ?_
      refine EV.istore_n [(3, .int 0), (0, .ref a0), (1, .int a1), (2, .int a2)] dX15_mirror_89 rfl (by decide) rfl ?_
      refine EV.sub [1, 2, 3, 0] rfl ?_
      exact eX15_mirror_90 ih FU _ _ _ _ _ _ h
set_option maxRecDepth 100000 in
set_option maxHeartbeats 4000000 in
theorem eX15_mirror_71 {X : px_X}  : ∀ (a0 : Nat) (a1 : Int32) (s0 : Int32) (s1 : Nat) (w : px_W) (q : px_W), fX15_mirror_71 X  a0 a1 s0 s1 w = some q → EV X mX15_mirror 71 [(0, .ref a0), (1, .int a1)] [.int s0, .ref s1] w none q := by
  intro a0 a1 s0 s1 w q h
  unfold fX15_mirror_71 at h
  obtain ⟨w87, gw87, h⟩ := px_bs h
  refine ev_pV dX15_mirror_71 flRX15_139 rfl rfl rfl rfl gw87 ?_
  refine EV.aload_n 0 dX15_mirror_74 rfl rfl ?_
  obtain ⟨o88, go88, h⟩ := px_bs h
  obtain ⟨q89, gq89, h⟩ := px_bs h
  refine EV.callV (As := []) (rest := []) dX15_mirror_75 kcX15_mirror_239 (gO_ok go88) rfl rfl rfl (Nat.le_of_ble_eq_true rfl) (Nat.le_of_ble_eq_true rfl) (eX15_layOut gq89) ?_
  refine EV.iconst (0) dX15_mirror_78 (by decide) ?_
  refine EV.istore_n [(2, .int 0), (0, .ref a0), (1, .int a1)] dX15_mirror_79 rfl (by decide) rfl ?_
  refine EV.sub [1, 2, 0] rfl ?_
  exact eX15_mirror_80  FU _ _ _ _ _ h
set_option maxRecDepth 100000 in
set_option maxHeartbeats 4000000 in
theorem eX15_mirror_36 {X : px_X}  : ∀ (a0 : Nat) (a1 : Int32) (s0 : Int32) (s1 : Nat) (w : px_W) (q : px_W), fX15_mirror_36 X  a0 a1 s0 s1 w = some q → EV X mX15_mirror 36 [(0, .ref a0), (1, .int a1)] [.int s0, .ref s1] w none q := by
  intro a0 a1 s0 s1 w q h
  unfold fX15_mirror_36 at h
  obtain ⟨w90, gw90, h⟩ := px_bs h
  refine ev_pV dX15_mirror_36 flRX15_129 rfl rfl rfl rfl gw90 ?_
  refine EV.aload_n 0 dX15_mirror_39 rfl rfl ?_
  refine EV.iload_n 1 dX15_mirror_40 rfl rfl ?_
  refine EV.if_eq 51 dX15_mirror_41 (by decide) (fun c91 => ?_) (fun c91 => ?_)
  · rw [if_pos c91] at h
    refine EV.aload_n 0 dX15_mirror_51 rfl rfl ?_
    obtain ⟨v92, gv92, h⟩ := px_bs h
    refine ev_gI dX15_mirror_52 flRX15_139 gv92 ?_
    refine EV.bipush (8) dX15_mirror_55 (by decide) ?_
    refine EV.aload_n 0 dX15_mirror_57 rfl rfl ?_
    obtain ⟨v93, gv93, h⟩ := px_bs h
    refine ev_gI dX15_mirror_58 flRX15_123 gv93 ?_
    refine EV.imul dX15_mirror_61 ?_
    obtain ⟨v94, gv94, h⟩ := px_bs h
    refine ev_dI dX15_mirror_62 gv94 ?_
    refine EV.bipush (8) dX15_mirror_63 (by decide) ?_
    refine EV.imul dX15_mirror_65 ?_
    refine EV.aload_n 0 dX15_mirror_66 rfl rfl ?_
    obtain ⟨v95, gv95, h⟩ := px_bs h
    refine ev_gI dX15_mirror_67 flRX15_123 gv95 ?_
    refine EV.imul dX15_mirror_70 ?_
    refine EV.sub [0, 1] rfl ?_
    exact eX15_mirror_71  _ _ _ _ _ _ h
  · rw [if_neg c91] at h
    refine EV.aload_n 0 dX15_mirror_44 rfl rfl ?_
    obtain ⟨v96, gv96, h⟩ := px_bs h
    refine ev_gI dX15_mirror_45 flRX15_139 gv96 ?_
    refine EV.goto 71 dX15_mirror_48 (by decide) ?_
    refine EV.sub [0, 1] rfl ?_
    exact eX15_mirror_71  _ _ _ _ _ _ h
set_option maxRecDepth 100000 in
set_option maxHeartbeats 4000000 in
theorem eX15_mirror {X : px_X} {w : px_W} {a0 : Nat} {a1 : Int32} {q : px_W} (h : fX15_mirror X w a0 a1 = some q) : EV X mX15_mirror 0 (lv_args 0 [.ref a0, .int a1]) [] w none q := by
  unfold fX15_mirror at h
  show EV X mX15_mirror 0 [(0, .ref a0), (1, .int a1)] [] w none q
  refine EV.aload_n 0 dX15_mirror_0 rfl rfl ?_
  obtain ⟨o97, go97, h⟩ := px_bs h
  obtain ⟨q98, gq98, h⟩ := px_bs h
  refine EV.callV (As := []) (rest := []) dX15_mirror_1 kcX15_mirror_378 (gO_ok go97) rfl rfl rfl (Nat.le_of_ble_eq_true rfl) (Nat.le_of_ble_eq_true rfl) (eX15_keep gq98) ?_
  refine EV.aload_n 0 dX15_mirror_4 rfl rfl ?_
  refine EV.iload_n 1 dX15_mirror_5 rfl rfl ?_
  refine EV.if_eq 32 dX15_mirror_6 (by decide) (fun c99 => ?_) (fun c99 => ?_)
  · rw [if_pos c99] at h
    refine EV.aload_n 0 dX15_mirror_32 rfl rfl ?_
    obtain ⟨v100, gv100, h⟩ := px_bs h
    refine ev_gI dX15_mirror_33 flRX15_129 gv100 ?_
    refine EV.sub [0, 1] rfl ?_
    exact eX15_mirror_36  _ _ _ _ _ _ h
  · rw [if_neg c99] at h
    refine EV.aload_n 0 dX15_mirror_9 rfl rfl ?_
    obtain ⟨v101, gv101, h⟩ := px_bs h
    refine ev_gI dX15_mirror_10 flRX15_129 gv101 ?_
    refine EV.bipush (8) dX15_mirror_13 (by decide) ?_
    refine EV.aload_n 0 dX15_mirror_15 rfl rfl ?_
    obtain ⟨v102, gv102, h⟩ := px_bs h
    refine ev_gI dX15_mirror_16 flRX15_120 gv102 ?_
    refine EV.imul dX15_mirror_19 ?_
    obtain ⟨v103, gv103, h⟩ := px_bs h
    refine ev_dI dX15_mirror_20 gv103 ?_
    refine EV.bipush (8) dX15_mirror_21 (by decide) ?_
    refine EV.imul dX15_mirror_23 ?_
    refine EV.aload_n 0 dX15_mirror_24 rfl rfl ?_
    obtain ⟨v104, gv104, h⟩ := px_bs h
    refine ev_gI dX15_mirror_25 flRX15_120 gv104 ?_
    refine EV.imul dX15_mirror_28 ?_
    refine EV.goto 36 dX15_mirror_29 (by decide) ?_
    refine EV.sub [0, 1] rfl ?_
    exact eX15_mirror_36  _ _ _ _ _ _ h
/-! WavePicturesModel.turnBy(I)Z -/
theorem dX15_turnBy_0 : decode cX15_turnBy 0 = .ok (.aload_n 0, 1) := by decide +kernel
theorem dX15_turnBy_1 : decode cX15_turnBy 1 = .ok (.getfield 235, 3) := by decide +kernel
theorem dX15_turnBy_4 : decode cX15_turnBy 4 = .ok (.ifCond .eq 12, 3) := by decide +kernel
theorem dX15_turnBy_7 : decode cX15_turnBy 7 = .ok (.iload_n 1, 1) := by decide +kernel
theorem dX15_turnBy_8 : decode cX15_turnBy 8 = .ok (.ifCond .lt 8, 3) := by decide +kernel
theorem dX15_turnBy_11 : decode cX15_turnBy 11 = .ok (.iload_n 1, 1) := by decide +kernel
theorem dX15_turnBy_12 : decode cX15_turnBy 12 = .ok (.iconst 5, 1) := by decide +kernel
theorem dX15_turnBy_13 : decode cX15_turnBy 13 = .ok (.if_icmp .le 5, 3) := by decide +kernel
theorem dX15_turnBy_16 : decode cX15_turnBy 16 = .ok (.iconst 0, 1) := by decide +kernel
theorem dX15_turnBy_17 : decode cX15_turnBy 17 = .ok (.ireturn, 1) := by decide +kernel
theorem dX15_turnBy_18 : decode cX15_turnBy 18 = .ok (.aload_n 0, 1) := by decide +kernel
theorem dX15_turnBy_19 : decode cX15_turnBy 19 = .ok (.getfield 129, 3) := by decide +kernel
theorem dX15_turnBy_22 : decode cX15_turnBy 22 = .ok (.bipush 8, 2) := by decide +kernel
theorem dX15_turnBy_24 : decode cX15_turnBy 24 = .ok (.aload_n 0, 1) := by decide +kernel
theorem dX15_turnBy_25 : decode cX15_turnBy 25 = .ok (.getfield 120, 3) := by decide +kernel
theorem dX15_turnBy_28 : decode cX15_turnBy 28 = .ok (.imul, 1) := by decide +kernel
theorem dX15_turnBy_29 : decode cX15_turnBy 29 = .ok (.if_icmp .lt 7, 3) := by decide +kernel
theorem dX15_turnBy_32 : decode cX15_turnBy 32 = .ok (.iconst 1, 1) := by decide +kernel
theorem dX15_turnBy_33 : decode cX15_turnBy 33 = .ok (.goto 4, 3) := by decide +kernel
theorem dX15_turnBy_36 : decode cX15_turnBy 36 = .ok (.iconst 0, 1) := by decide +kernel
theorem dX15_turnBy_37 : decode cX15_turnBy 37 = .ok (.istore_n 2, 1) := by decide +kernel
theorem dX15_turnBy_38 : decode cX15_turnBy 38 = .ok (.aload_n 0, 1) := by decide +kernel
theorem dX15_turnBy_39 : decode cX15_turnBy 39 = .ok (.getfield 139, 3) := by decide +kernel
theorem dX15_turnBy_42 : decode cX15_turnBy 42 = .ok (.bipush 8, 2) := by decide +kernel
theorem dX15_turnBy_44 : decode cX15_turnBy 44 = .ok (.aload_n 0, 1) := by decide +kernel
theorem dX15_turnBy_45 : decode cX15_turnBy 45 = .ok (.getfield 123, 3) := by decide +kernel
theorem dX15_turnBy_48 : decode cX15_turnBy 48 = .ok (.imul, 1) := by decide +kernel
theorem dX15_turnBy_49 : decode cX15_turnBy 49 = .ok (.if_icmp .lt 7, 3) := by decide +kernel
theorem dX15_turnBy_52 : decode cX15_turnBy 52 = .ok (.iconst 1, 1) := by decide +kernel
theorem dX15_turnBy_53 : decode cX15_turnBy 53 = .ok (.goto 4, 3) := by decide +kernel
theorem dX15_turnBy_56 : decode cX15_turnBy 56 = .ok (.iconst 0, 1) := by decide +kernel
theorem dX15_turnBy_57 : decode cX15_turnBy 57 = .ok (.istore_n 3, 1) := by decide +kernel
theorem dX15_turnBy_58 : decode cX15_turnBy 58 = .ok (.iload_n 1, 1) := by decide +kernel
theorem dX15_turnBy_59 : decode cX15_turnBy 59 = .ok (.ifCond .eq 44, 3) := by decide +kernel
theorem dX15_turnBy_62 : decode cX15_turnBy 62 = .ok (.iload_n 1, 1) := by decide +kernel
theorem dX15_turnBy_63 : decode cX15_turnBy 63 = .ok (.iconst 1, 1) := by decide +kernel
theorem dX15_turnBy_64 : decode cX15_turnBy 64 = .ok (.if_icmp .eq 8, 3) := by decide +kernel
theorem dX15_turnBy_67 : decode cX15_turnBy 67 = .ok (.iload_n 1, 1) := by decide +kernel
theorem dX15_turnBy_68 : decode cX15_turnBy 68 = .ok (.iconst 5, 1) := by decide +kernel
theorem dX15_turnBy_69 : decode cX15_turnBy 69 = .ok (.if_icmp .ne 7, 3) := by decide +kernel
theorem dX15_turnBy_72 : decode cX15_turnBy 72 = .ok (.iload_n 2, 1) := by decide +kernel
theorem dX15_turnBy_73 : decode cX15_turnBy 73 = .ok (.ifCond .ne 30, 3) := by decide +kernel
theorem dX15_turnBy_76 : decode cX15_turnBy 76 = .ok (.iload_n 1, 1) := by decide +kernel
theorem dX15_turnBy_77 : decode cX15_turnBy 77 = .ok (.iconst 2, 1) := by decide +kernel
theorem dX15_turnBy_78 : decode cX15_turnBy 78 = .ok (.if_icmp .eq 8, 3) := by decide +kernel
theorem dX15_turnBy_81 : decode cX15_turnBy 81 = .ok (.iload_n 1, 1) := by decide +kernel
theorem dX15_turnBy_82 : decode cX15_turnBy 82 = .ok (.iconst 3, 1) := by decide +kernel
theorem dX15_turnBy_83 : decode cX15_turnBy 83 = .ok (.if_icmp .ne 7, 3) := by decide +kernel
theorem dX15_turnBy_86 : decode cX15_turnBy 86 = .ok (.iload_n 3, 1) := by decide +kernel
theorem dX15_turnBy_87 : decode cX15_turnBy 87 = .ok (.ifCond .ne 16, 3) := by decide +kernel
theorem dX15_turnBy_90 : decode cX15_turnBy 90 = .ok (.iload_n 1, 1) := by decide +kernel
theorem dX15_turnBy_91 : decode cX15_turnBy 91 = .ok (.iconst 4, 1) := by decide +kernel
theorem dX15_turnBy_92 : decode cX15_turnBy 92 = .ok (.if_icmp .ne 15, 3) := by decide +kernel
theorem dX15_turnBy_95 : decode cX15_turnBy 95 = .ok (.iload_n 2, 1) := by decide +kernel
theorem dX15_turnBy_96 : decode cX15_turnBy 96 = .ok (.ifCond .eq 11, 3) := by decide +kernel
theorem dX15_turnBy_99 : decode cX15_turnBy 99 = .ok (.iload_n 3, 1) := by decide +kernel
theorem dX15_turnBy_100 : decode cX15_turnBy 100 = .ok (.ifCond .eq 7, 3) := by decide +kernel
theorem dX15_turnBy_103 : decode cX15_turnBy 103 = .ok (.iconst 1, 1) := by decide +kernel
theorem dX15_turnBy_104 : decode cX15_turnBy 104 = .ok (.goto 4, 3) := by decide +kernel
theorem dX15_turnBy_107 : decode cX15_turnBy 107 = .ok (.iconst 0, 1) := by decide +kernel
theorem dX15_turnBy_108 : decode cX15_turnBy 108 = .ok (.istore 4, 2) := by decide +kernel
theorem dX15_turnBy_110 : decode cX15_turnBy 110 = .ok (.iload 4, 2) := by decide +kernel
theorem dX15_turnBy_112 : decode cX15_turnBy 112 = .ok (.ifCond .ne 5, 3) := by decide +kernel
theorem dX15_turnBy_115 : decode cX15_turnBy 115 = .ok (.iconst 0, 1) := by decide +kernel
theorem dX15_turnBy_116 : decode cX15_turnBy 116 = .ok (.ireturn, 1) := by decide +kernel
theorem dX15_turnBy_117 : decode cX15_turnBy 117 = .ok (.iload_n 1, 1) := by decide +kernel
theorem dX15_turnBy_118 : decode cX15_turnBy 118 = .ok (.ifCond .eq 13, 3) := by decide +kernel
theorem dX15_turnBy_121 : decode cX15_turnBy 121 = .ok (.iload_n 1, 1) := by decide +kernel
theorem dX15_turnBy_122 : decode cX15_turnBy 122 = .ok (.iconst 3, 1) := by decide +kernel
theorem dX15_turnBy_123 : decode cX15_turnBy 123 = .ok (.if_icmp .eq 8, 3) := by decide +kernel
theorem dX15_turnBy_126 : decode cX15_turnBy 126 = .ok (.iload_n 1, 1) := by decide +kernel
theorem dX15_turnBy_127 : decode cX15_turnBy 127 = .ok (.iconst 5, 1) := by decide +kernel
theorem dX15_turnBy_128 : decode cX15_turnBy 128 = .ok (.if_icmp .ne 7, 3) := by decide +kernel
theorem dX15_turnBy_131 : decode cX15_turnBy 131 = .ok (.aload_n 0, 1) := by decide +kernel
theorem dX15_turnBy_132 : decode cX15_turnBy 132 = .ok (.invokevirtual 381, 3) := by decide +kernel
theorem dX15_turnBy_135 : decode cX15_turnBy 135 = .ok (.iload_n 1, 1) := by decide +kernel
theorem dX15_turnBy_136 : decode cX15_turnBy 136 = .ok (.iconst 1, 1) := by decide +kernel
theorem dX15_turnBy_137 : decode cX15_turnBy 137 = .ok (.if_icmp .eq 13, 3) := by decide +kernel
theorem dX15_turnBy_140 : decode cX15_turnBy 140 = .ok (.iload_n 1, 1) := by decide +kernel
theorem dX15_turnBy_141 : decode cX15_turnBy 141 = .ok (.iconst 3, 1) := by decide +kernel
theorem dX15_turnBy_142 : decode cX15_turnBy 142 = .ok (.if_icmp .eq 8, 3) := by decide +kernel
theorem dX15_turnBy_145 : decode cX15_turnBy 145 = .ok (.iload_n 1, 1) := by decide +kernel
theorem dX15_turnBy_146 : decode cX15_turnBy 146 = .ok (.iconst 4, 1) := by decide +kernel
theorem dX15_turnBy_147 : decode cX15_turnBy 147 = .ok (.if_icmp .ne 8, 3) := by decide +kernel
theorem dX15_turnBy_150 : decode cX15_turnBy 150 = .ok (.aload_n 0, 1) := by decide +kernel
theorem dX15_turnBy_151 : decode cX15_turnBy 151 = .ok (.iconst 1, 1) := by decide +kernel
theorem dX15_turnBy_152 : decode cX15_turnBy 152 = .ok (.invokevirtual 384, 3) := by decide +kernel
theorem dX15_turnBy_155 : decode cX15_turnBy 155 = .ok (.iload_n 1, 1) := by decide +kernel
theorem dX15_turnBy_156 : decode cX15_turnBy 156 = .ok (.iconst 2, 1) := by decide +kernel
theorem dX15_turnBy_157 : decode cX15_turnBy 157 = .ok (.if_icmp .eq 13, 3) := by decide +kernel
theorem dX15_turnBy_160 : decode cX15_turnBy 160 = .ok (.iload_n 1, 1) := by decide +kernel
theorem dX15_turnBy_161 : decode cX15_turnBy 161 = .ok (.iconst 4, 1) := by decide +kernel
theorem dX15_turnBy_162 : decode cX15_turnBy 162 = .ok (.if_icmp .eq 8, 3) := by decide +kernel
theorem dX15_turnBy_165 : decode cX15_turnBy 165 = .ok (.iload_n 1, 1) := by decide +kernel
theorem dX15_turnBy_166 : decode cX15_turnBy 166 = .ok (.iconst 5, 1) := by decide +kernel
theorem dX15_turnBy_167 : decode cX15_turnBy 167 = .ok (.if_icmp .ne 8, 3) := by decide +kernel
theorem dX15_turnBy_170 : decode cX15_turnBy 170 = .ok (.aload_n 0, 1) := by decide +kernel
theorem dX15_turnBy_171 : decode cX15_turnBy 171 = .ok (.iconst 0, 1) := by decide +kernel
theorem dX15_turnBy_172 : decode cX15_turnBy 172 = .ok (.invokevirtual 384, 3) := by decide +kernel
theorem dX15_turnBy_175 : decode cX15_turnBy 175 = .ok (.iconst 1, 1) := by decide +kernel
theorem dX15_turnBy_176 : decode cX15_turnBy 176 = .ok (.ireturn, 1) := by decide +kernel
theorem mbX15_transpose : px_mB mX15_transpose 0 := ⟨tb10 (List.mem_of_getElem? (i := 78) rfl), by decide +kernel, tb1 (List.mem_of_getElem? (i := 13) rfl), by decide +kernel, by decide +kernel⟩
theorem vbX15_transpose : px_vB mX15_transpose := ⟨tb10 (List.mem_of_getElem? (i := 77) rfl), List.mem_append_left _ (List.mem_of_getElem? (i := 170) (by decide +kernel))⟩
theorem kcX15_turnBy_381 : px_cV mX15_turnBy 381 mX15_transpose 0 := ⟨⟨mbX15_transpose, by decide, by decide⟩, Or.inl (tb10 (List.mem_of_getElem? (i := 75) rfl)), vbX15_transpose⟩
theorem mbX15_mirror : px_mB mX15_mirror 1 := ⟨tb10 (List.mem_of_getElem? (i := 86) rfl), by decide +kernel, tb1 (List.mem_of_getElem? (i := 13) rfl), by decide +kernel, by decide +kernel⟩
theorem vbX15_mirror : px_vB mX15_mirror := ⟨tb10 (List.mem_of_getElem? (i := 85) rfl), List.mem_append_left _ (List.mem_of_getElem? (i := 172) (by decide +kernel))⟩
theorem kcX15_turnBy_384 : px_cV mX15_turnBy 384 mX15_mirror 1 := ⟨⟨mbX15_mirror, by decide, by decide⟩, Or.inl (tb10 (List.mem_of_getElem? (i := 83) rfl)), vbX15_mirror⟩
set_option maxRecDepth 100000 in
set_option maxHeartbeats 4000000 in
theorem eX15_turnBy_170 {X : px_X}  : ∀ (a0 : Nat) (w : px_W) (q : Int32 × px_W), fX15_turnBy_170 X  a0 w = some q → EV X mX15_turnBy 170 [(0, .ref a0)] [] w (some (.int q.1)) q.2 := by
  intro a0 w q h
  unfold fX15_turnBy_170 at h
  refine EV.aload_n 0 dX15_turnBy_170 rfl rfl ?_
  refine EV.iconst (0) dX15_turnBy_171 (by decide) ?_
  obtain ⟨o12, go12, h⟩ := px_bs h
  obtain ⟨q13, gq13, h⟩ := px_bs h
  refine EV.callV (As := [.int 0]) (rest := []) dX15_turnBy_172 kcX15_turnBy_384 (gO_ok go12) rfl rfl rfl (Nat.le_of_ble_eq_true rfl) (Nat.le_of_ble_eq_true rfl) (eX15_mirror gq13) ?_
  refine EV.iconst (1) dX15_turnBy_175 (by decide) ?_
  cases h
  exact EV.reti dX15_turnBy_176 rfl
set_option maxRecDepth 100000 in
set_option maxHeartbeats 4000000 in
theorem eX15_turnBy_155 {X : px_X}  : ∀ (a0 : Nat) (a1 : Int32) (w : px_W) (q : Int32 × px_W), fX15_turnBy_155 X  a0 a1 w = some q → EV X mX15_turnBy 155 [(0, .ref a0), (1, .int a1)] [] w (some (.int q.1)) q.2 := by
  intro a0 a1 w q h
  unfold fX15_turnBy_155 at h
  refine EV.iload_n 1 dX15_turnBy_155 rfl rfl ?_
  refine EV.iconst (2) dX15_turnBy_156 (by decide) ?_
  refine EV.icmp_eq 170 dX15_turnBy_157 (by decide) (fun c14 => ?_) (fun c14 => ?_)
  · rw [if_pos c14] at h
    refine EV.sub [0] rfl ?_
    exact eX15_turnBy_170  _ _ _ h
  · rw [if_neg c14] at h
    refine EV.iload_n 1 dX15_turnBy_160 rfl rfl ?_
    refine EV.iconst (4) dX15_turnBy_161 (by decide) ?_
    refine EV.icmp_eq 170 dX15_turnBy_162 (by decide) (fun c15 => ?_) (fun c15 => ?_)
    · rw [if_pos c15] at h
      refine EV.sub [0] rfl ?_
      exact eX15_turnBy_170  _ _ _ h
    · rw [if_neg c15] at h
      refine EV.iload_n 1 dX15_turnBy_165 rfl rfl ?_
      refine EV.iconst (5) dX15_turnBy_166 (by decide) ?_
      refine EV.icmp_ne 175 dX15_turnBy_167 (by decide) (fun c16 => ?_) (fun c16 => ?_)
      · rw [if_neg c16] at h
        refine EV.iconst (1) dX15_turnBy_175 (by decide) ?_
        cases h
        exact EV.reti dX15_turnBy_176 rfl
      · rw [if_pos c16] at h
        refine EV.sub [0] rfl ?_
        exact eX15_turnBy_170  _ _ _ h
set_option maxRecDepth 100000 in
set_option maxHeartbeats 4000000 in
theorem eX15_turnBy_150 {X : px_X}  : ∀ (a0 : Nat) (a1 : Int32) (w : px_W) (q : Int32 × px_W), fX15_turnBy_150 X  a0 a1 w = some q → EV X mX15_turnBy 150 [(0, .ref a0), (1, .int a1)] [] w (some (.int q.1)) q.2 := by
  intro a0 a1 w q h
  unfold fX15_turnBy_150 at h
  refine EV.aload_n 0 dX15_turnBy_150 rfl rfl ?_
  refine EV.iconst (1) dX15_turnBy_151 (by decide) ?_
  obtain ⟨o17, go17, h⟩ := px_bs h
  obtain ⟨q18, gq18, h⟩ := px_bs h
  refine EV.callV (As := [.int 1]) (rest := []) dX15_turnBy_152 kcX15_turnBy_384 (gO_ok go17) rfl rfl rfl (Nat.le_of_ble_eq_true rfl) (Nat.le_of_ble_eq_true rfl) (eX15_mirror gq18) ?_
  refine EV.sub [0, 1] rfl ?_
  exact eX15_turnBy_155  _ _ _ _ h
set_option maxRecDepth 100000 in
set_option maxHeartbeats 4000000 in
theorem eX15_turnBy_135 {X : px_X}  : ∀ (a0 : Nat) (a1 : Int32) (w : px_W) (q : Int32 × px_W), fX15_turnBy_135 X  a0 a1 w = some q → EV X mX15_turnBy 135 [(0, .ref a0), (1, .int a1)] [] w (some (.int q.1)) q.2 := by
  intro a0 a1 w q h
  unfold fX15_turnBy_135 at h
  refine EV.iload_n 1 dX15_turnBy_135 rfl rfl ?_
  refine EV.iconst (1) dX15_turnBy_136 (by decide) ?_
  refine EV.icmp_eq 150 dX15_turnBy_137 (by decide) (fun c19 => ?_) (fun c19 => ?_)
  · rw [if_pos c19] at h
    refine EV.sub [0, 1] rfl ?_
    exact eX15_turnBy_150  _ _ _ _ h
  · rw [if_neg c19] at h
    refine EV.iload_n 1 dX15_turnBy_140 rfl rfl ?_
    refine EV.iconst (3) dX15_turnBy_141 (by decide) ?_
    refine EV.icmp_eq 150 dX15_turnBy_142 (by decide) (fun c20 => ?_) (fun c20 => ?_)
    · rw [if_pos c20] at h
      refine EV.sub [0, 1] rfl ?_
      exact eX15_turnBy_150  _ _ _ _ h
    · rw [if_neg c20] at h
      refine EV.iload_n 1 dX15_turnBy_145 rfl rfl ?_
      refine EV.iconst (4) dX15_turnBy_146 (by decide) ?_
      refine EV.icmp_ne 155 dX15_turnBy_147 (by decide) (fun c21 => ?_) (fun c21 => ?_)
      · rw [if_neg c21] at h
        refine EV.sub [0, 1] rfl ?_
        exact eX15_turnBy_155  _ _ _ _ h
      · rw [if_pos c21] at h
        refine EV.sub [0, 1] rfl ?_
        exact eX15_turnBy_150  _ _ _ _ h
set_option maxRecDepth 100000 in
set_option maxHeartbeats 4000000 in
theorem eX15_turnBy_131 {X : px_X}  : ∀ (a0 : Nat) (a1 : Int32) (w : px_W) (q : Int32 × px_W), fX15_turnBy_131 X  a0 a1 w = some q → EV X mX15_turnBy 131 [(0, .ref a0), (1, .int a1)] [] w (some (.int q.1)) q.2 := by
  intro a0 a1 w q h
  unfold fX15_turnBy_131 at h
  refine EV.aload_n 0 dX15_turnBy_131 rfl rfl ?_
  obtain ⟨o22, go22, h⟩ := px_bs h
  obtain ⟨q23, gq23, h⟩ := px_bs h
  refine EV.callV (As := []) (rest := []) dX15_turnBy_132 kcX15_turnBy_381 (gO_ok go22) rfl rfl rfl (Nat.le_of_ble_eq_true rfl) (Nat.le_of_ble_eq_true rfl) (eX15_transpose gq23) ?_
  refine EV.sub [0, 1] rfl ?_
  exact eX15_turnBy_135  _ _ _ _ h
set_option maxRecDepth 100000 in
set_option maxHeartbeats 4000000 in
theorem eX15_turnBy_108 {X : px_X}  : ∀ (a0 : Nat) (a1 : Int32) (s0 : Int32) (w : px_W) (q : Int32 × px_W), fX15_turnBy_108 X  a0 a1 s0 w = some q → EV X mX15_turnBy 108 [(0, .ref a0), (1, .int a1)] [.int s0] w (some (.int q.1)) q.2 := by
  intro a0 a1 s0 w q h
  unfold fX15_turnBy_108 at h
  refine EV.istore [(4, .int s0), (0, .ref a0), (1, .int a1)] dX15_turnBy_108 (by decide) rfl ?_
  refine EV.iload 0 dX15_turnBy_110 rfl ?_
  refine EV.if_ne 117 dX15_turnBy_112 (by decide) (fun c24 => ?_) (fun c24 => ?_)
  · rw [if_neg c24] at h
    refine EV.iload_n 2 dX15_turnBy_117 rfl rfl ?_
    refine EV.if_eq 131 dX15_turnBy_118 (by decide) (fun c25 => ?_) (fun c25 => ?_)
    · rw [if_pos c25] at h
      refine EV.sub [1, 2] rfl ?_
      exact eX15_turnBy_131  _ _ _ _ h
    · rw [if_neg c25] at h
      refine EV.iload_n 2 dX15_turnBy_121 rfl rfl ?_
      refine EV.iconst (3) dX15_turnBy_122 (by decide) ?_
      refine EV.icmp_eq 131 dX15_turnBy_123 (by decide) (fun c26 => ?_) (fun c26 => ?_)
      · rw [if_pos c26] at h
        refine EV.sub [1, 2] rfl ?_
        exact eX15_turnBy_131  _ _ _ _ h
      · rw [if_neg c26] at h
        refine EV.iload_n 2 dX15_turnBy_126 rfl rfl ?_
        refine EV.iconst (5) dX15_turnBy_127 (by decide) ?_
        refine EV.icmp_ne 135 dX15_turnBy_128 (by decide) (fun c27 => ?_) (fun c27 => ?_)
        · rw [if_neg c27] at h
          refine EV.sub [1, 2] rfl ?_
          exact eX15_turnBy_135  _ _ _ _ h
        · rw [if_pos c27] at h
          refine EV.sub [1, 2] rfl ?_
          exact eX15_turnBy_131  _ _ _ _ h
  · rw [if_pos c24] at h
    refine EV.iconst (0) dX15_turnBy_115 (by decide) ?_
    cases h
    exact EV.reti dX15_turnBy_116 rfl
set_option maxRecDepth 100000 in
set_option maxHeartbeats 4000000 in
theorem eX15_turnBy_107 {X : px_X}  : ∀ (a0 : Nat) (a1 : Int32) (w : px_W) (q : Int32 × px_W), fX15_turnBy_107 X  a0 a1 w = some q → EV X mX15_turnBy 107 [(0, .ref a0), (1, .int a1)] [] w (some (.int q.1)) q.2 := by
  intro a0 a1 w q h
  unfold fX15_turnBy_107 at h
  refine EV.iconst (0) dX15_turnBy_107 (by decide) ?_
  refine EV.sub [0, 1] rfl ?_
  exact eX15_turnBy_108  _ _ _ _ _ h
set_option maxRecDepth 100000 in
set_option maxHeartbeats 4000000 in
theorem eX15_turnBy_103 {X : px_X}  : ∀ (a0 : Nat) (a1 : Int32) (w : px_W) (q : Int32 × px_W), fX15_turnBy_103 X  a0 a1 w = some q → EV X mX15_turnBy 103 [(0, .ref a0), (1, .int a1)] [] w (some (.int q.1)) q.2 := by
  intro a0 a1 w q h
  unfold fX15_turnBy_103 at h
  refine EV.iconst (1) dX15_turnBy_103 (by decide) ?_
  refine EV.goto 108 dX15_turnBy_104 (by decide) ?_
  refine EV.sub [0, 1] rfl ?_
  exact eX15_turnBy_108  _ _ _ _ _ h
set_option maxRecDepth 100000 in
set_option maxHeartbeats 4000000 in
theorem eX15_turnBy_90 {X : px_X}  : ∀ (a0 : Nat) (a1 : Int32) (a2 : Int32) (a3 : Int32) (w : px_W) (q : Int32 × px_W), fX15_turnBy_90 X  a0 a1 a2 a3 w = some q → EV X mX15_turnBy 90 [(0, .ref a0), (1, .int a1), (2, .int a2), (3, .int a3)] [] w (some (.int q.1)) q.2 := by
  intro a0 a1 a2 a3 w q h
  unfold fX15_turnBy_90 at h
  refine EV.iload_n 1 dX15_turnBy_90 rfl rfl ?_
  refine EV.iconst (4) dX15_turnBy_91 (by decide) ?_
  refine EV.icmp_ne 107 dX15_turnBy_92 (by decide) (fun c28 => ?_) (fun c28 => ?_)
  · rw [if_neg c28] at h
    refine EV.sub [0, 1] rfl ?_
    exact eX15_turnBy_107  _ _ _ _ h
  · rw [if_pos c28] at h
    refine EV.iload_n 2 dX15_turnBy_95 rfl rfl ?_
    refine EV.if_eq 107 dX15_turnBy_96 (by decide) (fun c29 => ?_) (fun c29 => ?_)
    · rw [if_pos c29] at h
      refine EV.sub [0, 1] rfl ?_
      exact eX15_turnBy_107  _ _ _ _ h
    · rw [if_neg c29] at h
      refine EV.iload_n 3 dX15_turnBy_99 rfl rfl ?_
      refine EV.if_eq 107 dX15_turnBy_100 (by decide) (fun c30 => ?_) (fun c30 => ?_)
      · rw [if_pos c30] at h
        refine EV.sub [0, 1] rfl ?_
        exact eX15_turnBy_107  _ _ _ _ h
      · rw [if_neg c30] at h
        refine EV.sub [0, 1] rfl ?_
        exact eX15_turnBy_103  _ _ _ _ h
set_option maxRecDepth 100000 in
set_option maxHeartbeats 4000000 in
theorem eX15_turnBy_86 {X : px_X}  : ∀ (a0 : Nat) (a1 : Int32) (a2 : Int32) (a3 : Int32) (w : px_W) (q : Int32 × px_W), fX15_turnBy_86 X  a0 a1 a2 a3 w = some q → EV X mX15_turnBy 86 [(0, .ref a0), (1, .int a1), (2, .int a2), (3, .int a3)] [] w (some (.int q.1)) q.2 := by
  intro a0 a1 a2 a3 w q h
  unfold fX15_turnBy_86 at h
  refine EV.iload_n 3 dX15_turnBy_86 rfl rfl ?_
  refine EV.if_ne 103 dX15_turnBy_87 (by decide) (fun c31 => ?_) (fun c31 => ?_)
  · rw [if_neg c31] at h
    refine EV.sub [0, 1] rfl ?_
    exact eX15_turnBy_103  _ _ _ _ h
  · rw [if_pos c31] at h
    refine EV.sub [0, 1, 2, 3] rfl ?_
    exact eX15_turnBy_90  _ _ _ _ _ _ h
set_option maxRecDepth 100000 in
set_option maxHeartbeats 4000000 in
theorem eX15_turnBy_76 {X : px_X}  : ∀ (a0 : Nat) (a1 : Int32) (a2 : Int32) (a3 : Int32) (w : px_W) (q : Int32 × px_W), fX15_turnBy_76 X  a0 a1 a2 a3 w = some q → EV X mX15_turnBy 76 [(0, .ref a0), (1, .int a1), (2, .int a2), (3, .int a3)] [] w (some (.int q.1)) q.2 := by
  intro a0 a1 a2 a3 w q h
  unfold fX15_turnBy_76 at h
  refine EV.iload_n 1 dX15_turnBy_76 rfl rfl ?_
  refine EV.iconst (2) dX15_turnBy_77 (by decide) ?_
  refine EV.icmp_eq 86 dX15_turnBy_78 (by decide) (fun c32 => ?_) (fun c32 => ?_)
  · rw [if_pos c32] at h
    refine EV.sub [0, 1, 2, 3] rfl ?_
    exact eX15_turnBy_86  _ _ _ _ _ _ h
  · rw [if_neg c32] at h
    refine EV.iload_n 1 dX15_turnBy_81 rfl rfl ?_
    refine EV.iconst (3) dX15_turnBy_82 (by decide) ?_
    refine EV.icmp_ne 90 dX15_turnBy_83 (by decide) (fun c33 => ?_) (fun c33 => ?_)
    · rw [if_neg c33] at h
      refine EV.sub [0, 1, 2, 3] rfl ?_
      exact eX15_turnBy_90  _ _ _ _ _ _ h
    · rw [if_pos c33] at h
      refine EV.sub [0, 1, 2, 3] rfl ?_
      exact eX15_turnBy_86  _ _ _ _ _ _ h
set_option maxRecDepth 100000 in
set_option maxHeartbeats 4000000 in
theorem eX15_turnBy_72 {X : px_X}  : ∀ (a0 : Nat) (a1 : Int32) (a2 : Int32) (a3 : Int32) (w : px_W) (q : Int32 × px_W), fX15_turnBy_72 X  a0 a1 a2 a3 w = some q → EV X mX15_turnBy 72 [(0, .ref a0), (1, .int a1), (2, .int a2), (3, .int a3)] [] w (some (.int q.1)) q.2 := by
  intro a0 a1 a2 a3 w q h
  unfold fX15_turnBy_72 at h
  refine EV.iload_n 2 dX15_turnBy_72 rfl rfl ?_
  refine EV.if_ne 103 dX15_turnBy_73 (by decide) (fun c34 => ?_) (fun c34 => ?_)
  · rw [if_neg c34] at h
    refine EV.sub [0, 1] rfl ?_
    exact eX15_turnBy_103  _ _ _ _ h
  · rw [if_pos c34] at h
    refine EV.sub [0, 1, 2, 3] rfl ?_
    exact eX15_turnBy_76  _ _ _ _ _ _ h
set_option maxRecDepth 100000 in
set_option maxHeartbeats 4000000 in
theorem eX15_turnBy_57 {X : px_X}  : ∀ (a0 : Nat) (a1 : Int32) (a2 : Int32) (s0 : Int32) (w : px_W) (q : Int32 × px_W), fX15_turnBy_57 X  a0 a1 a2 s0 w = some q → EV X mX15_turnBy 57 [(0, .ref a0), (1, .int a1), (2, .int a2)] [.int s0] w (some (.int q.1)) q.2 := by
  intro a0 a1 a2 s0 w q h
  unfold fX15_turnBy_57 at h
  refine EV.istore_n [(3, .int s0), (0, .ref a0), (1, .int a1), (2, .int a2)] dX15_turnBy_57 rfl (by decide) rfl ?_
  refine EV.iload_n 2 dX15_turnBy_58 rfl rfl ?_
  refine EV.if_eq 103 dX15_turnBy_59 (by decide) (fun c35 => ?_) (fun c35 => ?_)
  · rw [if_pos c35] at h
    refine EV.sub [1, 2] rfl ?_
    exact eX15_turnBy_103  _ _ _ _ h
  · rw [if_neg c35] at h
    refine EV.iload_n 2 dX15_turnBy_62 rfl rfl ?_
    refine EV.iconst (1) dX15_turnBy_63 (by decide) ?_
    refine EV.icmp_eq 72 dX15_turnBy_64 (by decide) (fun c36 => ?_) (fun c36 => ?_)
    · rw [if_pos c36] at h
      refine EV.sub [1, 2, 3, 0] rfl ?_
      exact eX15_turnBy_72  _ _ _ _ _ _ h
    · rw [if_neg c36] at h
      refine EV.iload_n 2 dX15_turnBy_67 rfl rfl ?_
      refine EV.iconst (5) dX15_turnBy_68 (by decide) ?_
      refine EV.icmp_ne 76 dX15_turnBy_69 (by decide) (fun c37 => ?_) (fun c37 => ?_)
      · rw [if_neg c37] at h
        refine EV.sub [1, 2, 3, 0] rfl ?_
        exact eX15_turnBy_76  _ _ _ _ _ _ h
      · rw [if_pos c37] at h
        refine EV.sub [1, 2, 3, 0] rfl ?_
        exact eX15_turnBy_72  _ _ _ _ _ _ h
set_option maxRecDepth 100000 in
set_option maxHeartbeats 4000000 in
theorem eX15_turnBy_37 {X : px_X}  : ∀ (a0 : Nat) (a1 : Int32) (s0 : Int32) (w : px_W) (q : Int32 × px_W), fX15_turnBy_37 X  a0 a1 s0 w = some q → EV X mX15_turnBy 37 [(0, .ref a0), (1, .int a1)] [.int s0] w (some (.int q.1)) q.2 := by
  intro a0 a1 s0 w q h
  unfold fX15_turnBy_37 at h
  refine EV.istore_n [(2, .int s0), (0, .ref a0), (1, .int a1)] dX15_turnBy_37 rfl (by decide) rfl ?_
  refine EV.aload_n 1 dX15_turnBy_38 rfl rfl ?_
  obtain ⟨v38, gv38, h⟩ := px_bs h
  refine ev_gI dX15_turnBy_39 flRX15_139 gv38 ?_
  refine EV.bipush (8) dX15_turnBy_42 (by decide) ?_
  refine EV.aload_n 1 dX15_turnBy_44 rfl rfl ?_
  obtain ⟨v39, gv39, h⟩ := px_bs h
  refine ev_gI dX15_turnBy_45 flRX15_123 gv39 ?_
  refine EV.imul dX15_turnBy_48 ?_
  refine EV.icmp_lt 56 dX15_turnBy_49 (by decide) (fun c40 => ?_) (fun c40 => ?_)
  · rw [if_pos c40] at h
    refine EV.iconst (0) dX15_turnBy_56 (by decide) ?_
    refine EV.sub [1, 2, 0] rfl ?_
    exact eX15_turnBy_57  _ _ _ _ _ _ h
  · rw [if_neg c40] at h
    refine EV.iconst (1) dX15_turnBy_52 (by decide) ?_
    refine EV.goto 57 dX15_turnBy_53 (by decide) ?_
    refine EV.sub [1, 2, 0] rfl ?_
    exact eX15_turnBy_57  _ _ _ _ _ _ h
set_option maxRecDepth 100000 in
set_option maxHeartbeats 4000000 in
theorem eX15_turnBy {X : px_X} {w : px_W} {a0 : Nat} {a1 : Int32} {q : Int32 × px_W} (h : fX15_turnBy X w a0 a1 = some q) : EV X mX15_turnBy 0 (lv_args 0 [.ref a0, .int a1]) [] w (some (.int q.1)) q.2 := by
  unfold fX15_turnBy at h
  show EV X mX15_turnBy 0 [(0, .ref a0), (1, .int a1)] [] w (some (.int q.1)) q.2
  refine EV.aload_n 0 dX15_turnBy_0 rfl rfl ?_
  obtain ⟨v41, gv41, h⟩ := px_bs h
  refine ev_gI dX15_turnBy_1 flRX15_235 gv41 ?_
  refine EV.if_eq 16 dX15_turnBy_4 (by decide) (fun c42 => ?_) (fun c42 => ?_)
  · rw [if_pos c42] at h
    refine EV.iconst (0) dX15_turnBy_16 (by decide) ?_
    cases h
    exact EV.reti dX15_turnBy_17 rfl
  · rw [if_neg c42] at h
    refine EV.iload_n 1 dX15_turnBy_7 rfl rfl ?_
    refine EV.if_lt 16 dX15_turnBy_8 (by decide) (fun c43 => ?_) (fun c43 => ?_)
    · rw [if_pos c43] at h
      refine EV.iconst (0) dX15_turnBy_16 (by decide) ?_
      cases h
      exact EV.reti dX15_turnBy_17 rfl
    · rw [if_neg c43] at h
      refine EV.iload_n 1 dX15_turnBy_11 rfl rfl ?_
      refine EV.iconst (5) dX15_turnBy_12 (by decide) ?_
      refine EV.icmp_le 18 dX15_turnBy_13 (by decide) (fun c44 => ?_) (fun c44 => ?_)
      · rw [if_pos c44] at h
        refine EV.aload_n 0 dX15_turnBy_18 rfl rfl ?_
        obtain ⟨v45, gv45, h⟩ := px_bs h
        refine ev_gI dX15_turnBy_19 flRX15_129 gv45 ?_
        refine EV.bipush (8) dX15_turnBy_22 (by decide) ?_
        refine EV.aload_n 0 dX15_turnBy_24 rfl rfl ?_
        obtain ⟨v46, gv46, h⟩ := px_bs h
        refine ev_gI dX15_turnBy_25 flRX15_120 gv46 ?_
        refine EV.imul dX15_turnBy_28 ?_
        refine EV.icmp_lt 36 dX15_turnBy_29 (by decide) (fun c47 => ?_) (fun c47 => ?_)
        · rw [if_pos c47] at h
          refine EV.iconst (0) dX15_turnBy_36 (by decide) ?_
          refine EV.sub [0, 1] rfl ?_
          exact eX15_turnBy_37  _ _ _ _ _ h
        · rw [if_neg c47] at h
          refine EV.iconst (1) dX15_turnBy_32 (by decide) ?_
          refine EV.goto 37 dX15_turnBy_33 (by decide) ?_
          refine EV.sub [0, 1] rfl ?_
          exact eX15_turnBy_37  _ _ _ _ _ h
      · rw [if_neg c44] at h
        refine EV.iconst (0) dX15_turnBy_16 (by decide) ?_
        cases h
        exact EV.reti dX15_turnBy_17 rfl
