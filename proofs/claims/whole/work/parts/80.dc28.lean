/-! WavePicturesLaw.law([I)Z -/
theorem dL_law_0 : decode cL_law 0 = .ok (.new 7, 3) := by decide +kernel
theorem dL_law_3 : decode cL_law 3 = .ok (.dup, 1) := by decide +kernel
theorem dL_law_4 : decode cL_law 4 = .ok (.invokespecial 9, 3) := by decide +kernel
theorem dL_law_7 : decode cL_law 7 = .ok (.astore_n 1, 1) := by decide +kernel
theorem dL_law_8 : decode cL_law 8 = .ok (.new 10, 3) := by decide +kernel
theorem dL_law_11 : decode cL_law 11 = .ok (.dup, 1) := by decide +kernel
theorem dL_law_12 : decode cL_law 12 = .ok (.invokespecial 12, 3) := by decide +kernel
theorem dL_law_15 : decode cL_law 15 = .ok (.astore_n 2, 1) := by decide +kernel
theorem dL_law_16 : decode cL_law 16 = .ok (.iconst 0, 1) := by decide +kernel
theorem dL_law_17 : decode cL_law 17 = .ok (.istore_n 3, 1) := by decide +kernel
theorem dL_law_18 : decode cL_law 18 = .ok (.iload_n 3, 1) := by decide +kernel
theorem dL_law_19 : decode cL_law 19 = .ok (.aload_n 0, 1) := by decide +kernel
theorem dL_law_20 : decode cL_law 20 = .ok (.arraylength, 1) := by decide +kernel
theorem dL_law_21 : decode cL_law 21 = .ok (.bipush 6, 2) := by decide +kernel
theorem dL_law_23 : decode cL_law 23 = .ok (.isub, 1) := by decide +kernel
theorem dL_law_24 : decode cL_law 24 = .ok (.if_icmp .gt 836, 3) := by decide +kernel
theorem dL_law_27 : decode cL_law 27 = .ok (.aload_n 0, 1) := by decide +kernel
theorem dL_law_28 : decode cL_law 28 = .ok (.iload_n 3, 1) := by decide +kernel
theorem dL_law_29 : decode cL_law 29 = .ok (.iaload, 1) := by decide +kernel
theorem dL_law_30 : decode cL_law 30 = .ok (.bipush 31, 2) := by decide +kernel
theorem dL_law_32 : decode cL_law 32 = .ok (.iand, 1) := by decide +kernel
theorem dL_law_33 : decode cL_law 33 = .ok (.tableswitch 821 0 18 #[91, 154, 165, 176, 189, 222, 285, 334, 357, 410, 473, 526, 559, 602, 685, 729, 752, 775, 798], 91) := by decide +kernel
theorem dL_law_124 : decode cL_law 124 = .ok (.aload_n 1, 1) := by decide +kernel
theorem dL_law_125 : decode cL_law 125 = .ok (.aload_n 0, 1) := by decide +kernel
theorem dL_law_126 : decode cL_law 126 = .ok (.iload_n 3, 1) := by decide +kernel
theorem dL_law_127 : decode cL_law 127 = .ok (.iconst 1, 1) := by decide +kernel
theorem dL_law_128 : decode cL_law 128 = .ok (.iadd, 1) := by decide +kernel
theorem dL_law_129 : decode cL_law 129 = .ok (.iaload, 1) := by decide +kernel
theorem dL_law_130 : decode cL_law 130 = .ok (.i2l, 1) := by decide +kernel
theorem dL_law_131 : decode cL_law 131 = .ok (.bipush 32, 2) := by decide +kernel
theorem dL_law_133 : decode cL_law 133 = .ok (.lshl, 1) := by decide +kernel
theorem dL_law_134 : decode cL_law 134 = .ok (.aload_n 0, 1) := by decide +kernel
theorem dL_law_135 : decode cL_law 135 = .ok (.iload_n 3, 1) := by decide +kernel
theorem dL_law_136 : decode cL_law 136 = .ok (.iconst 2, 1) := by decide +kernel
theorem dL_law_137 : decode cL_law 137 = .ok (.iadd, 1) := by decide +kernel
theorem dL_law_138 : decode cL_law 138 = .ok (.iaload, 1) := by decide +kernel
theorem dL_law_139 : decode cL_law 139 = .ok (.i2l, 1) := by decide +kernel
theorem dL_law_140 : decode cL_law 140 = .ok (.ldc2_w 13, 3) := by decide +kernel
theorem dL_law_143 : decode cL_law 143 = .ok (.land, 1) := by decide +kernel
theorem dL_law_144 : decode cL_law 144 = .ok (.lor, 1) := by decide +kernel
theorem dL_law_145 : decode cL_law 145 = .ok (.aload_n 0, 1) := by decide +kernel
theorem dL_law_146 : decode cL_law 146 = .ok (.iload_n 3, 1) := by decide +kernel
theorem dL_law_147 : decode cL_law 147 = .ok (.iconst 3, 1) := by decide +kernel
theorem dL_law_148 : decode cL_law 148 = .ok (.iadd, 1) := by decide +kernel
theorem dL_law_149 : decode cL_law 149 = .ok (.iaload, 1) := by decide +kernel
theorem dL_law_150 : decode cL_law 150 = .ok (.invokevirtual 15, 3) := by decide +kernel
theorem dL_law_153 : decode cL_law 153 = .ok (.aload_n 2, 1) := by decide +kernel
theorem dL_law_154 : decode cL_law 154 = .ok (.aload_n 0, 1) := by decide +kernel
theorem dL_law_155 : decode cL_law 155 = .ok (.iload_n 3, 1) := by decide +kernel
theorem dL_law_156 : decode cL_law 156 = .ok (.iconst 1, 1) := by decide +kernel
theorem dL_law_157 : decode cL_law 157 = .ok (.iadd, 1) := by decide +kernel
theorem dL_law_158 : decode cL_law 158 = .ok (.iaload, 1) := by decide +kernel
theorem dL_law_159 : decode cL_law 159 = .ok (.i2l, 1) := by decide +kernel
theorem dL_law_160 : decode cL_law 160 = .ok (.bipush 32, 2) := by decide +kernel
theorem dL_law_162 : decode cL_law 162 = .ok (.lshl, 1) := by decide +kernel
theorem dL_law_163 : decode cL_law 163 = .ok (.aload_n 0, 1) := by decide +kernel
theorem dL_law_164 : decode cL_law 164 = .ok (.iload_n 3, 1) := by decide +kernel
theorem dL_law_165 : decode cL_law 165 = .ok (.iconst 2, 1) := by decide +kernel
theorem dL_law_166 : decode cL_law 166 = .ok (.iadd, 1) := by decide +kernel
theorem dL_law_167 : decode cL_law 167 = .ok (.iaload, 1) := by decide +kernel
theorem dL_law_168 : decode cL_law 168 = .ok (.i2l, 1) := by decide +kernel
theorem dL_law_169 : decode cL_law 169 = .ok (.ldc2_w 13, 3) := by decide +kernel
theorem dL_law_172 : decode cL_law 172 = .ok (.land, 1) := by decide +kernel
theorem dL_law_173 : decode cL_law 173 = .ok (.lor, 1) := by decide +kernel
theorem dL_law_174 : decode cL_law 174 = .ok (.aload_n 0, 1) := by decide +kernel
theorem dL_law_175 : decode cL_law 175 = .ok (.iload_n 3, 1) := by decide +kernel
theorem dL_law_176 : decode cL_law 176 = .ok (.iconst 3, 1) := by decide +kernel
theorem dL_law_177 : decode cL_law 177 = .ok (.iadd, 1) := by decide +kernel
theorem dL_law_178 : decode cL_law 178 = .ok (.iaload, 1) := by decide +kernel
theorem dL_law_179 : decode cL_law 179 = .ok (.invokevirtual 19, 3) := by decide +kernel
theorem dL_law_182 : decode cL_law 182 = .ok (.if_icmp .eq 672, 3) := by decide +kernel
theorem dL_law_185 : decode cL_law 185 = .ok (.iconst 0, 1) := by decide +kernel
theorem dL_law_186 : decode cL_law 186 = .ok (.ireturn, 1) := by decide +kernel
theorem dL_law_187 : decode cL_law 187 = .ok (.aload_n 1, 1) := by decide +kernel
theorem dL_law_188 : decode cL_law 188 = .ok (.invokevirtual 20, 3) := by decide +kernel
theorem dL_law_191 : decode cL_law 191 = .ok (.aload_n 2, 1) := by decide +kernel
theorem dL_law_192 : decode cL_law 192 = .ok (.invokevirtual 23, 3) := by decide +kernel
theorem dL_law_195 : decode cL_law 195 = .ok (.goto 659, 3) := by decide +kernel
theorem dL_law_198 : decode cL_law 198 = .ok (.aload_n 1, 1) := by decide +kernel
theorem dL_law_199 : decode cL_law 199 = .ok (.invokevirtual 24, 3) := by decide +kernel
theorem dL_law_202 : decode cL_law 202 = .ok (.aload_n 2, 1) := by decide +kernel
theorem dL_law_203 : decode cL_law 203 = .ok (.invokevirtual 27, 3) := by decide +kernel
theorem dL_law_206 : decode cL_law 206 = .ok (.goto 648, 3) := by decide +kernel
theorem dL_law_209 : decode cL_law 209 = .ok (.aload_n 1, 1) := by decide +kernel
theorem dL_law_210 : decode cL_law 210 = .ok (.invokevirtual 28, 3) := by decide +kernel
theorem dL_law_213 : decode cL_law 213 = .ok (.aload_n 2, 1) := by decide +kernel
theorem dL_law_214 : decode cL_law 214 = .ok (.invokevirtual 32, 3) := by decide +kernel
theorem dL_law_217 : decode cL_law 217 = .ok (.if_icmp .eq 637, 3) := by decide +kernel
theorem dL_law_220 : decode cL_law 220 = .ok (.iconst 0, 1) := by decide +kernel
theorem dL_law_221 : decode cL_law 221 = .ok (.ireturn, 1) := by decide +kernel
theorem dL_law_222 : decode cL_law 222 = .ok (.aload_n 1, 1) := by decide +kernel
theorem dL_law_223 : decode cL_law 223 = .ok (.aload_n 0, 1) := by decide +kernel
theorem dL_law_224 : decode cL_law 224 = .ok (.iload_n 3, 1) := by decide +kernel
theorem dL_law_225 : decode cL_law 225 = .ok (.iconst 1, 1) := by decide +kernel
theorem dL_law_226 : decode cL_law 226 = .ok (.iadd, 1) := by decide +kernel
theorem dL_law_227 : decode cL_law 227 = .ok (.iaload, 1) := by decide +kernel
theorem dL_law_228 : decode cL_law 228 = .ok (.aload_n 0, 1) := by decide +kernel
theorem dL_law_229 : decode cL_law 229 = .ok (.iload_n 3, 1) := by decide +kernel
theorem dL_law_230 : decode cL_law 230 = .ok (.iconst 2, 1) := by decide +kernel
theorem dL_law_231 : decode cL_law 231 = .ok (.iadd, 1) := by decide +kernel
theorem dL_law_232 : decode cL_law 232 = .ok (.iaload, 1) := by decide +kernel
theorem dL_law_233 : decode cL_law 233 = .ok (.invokevirtual 33, 3) := by decide +kernel
theorem dL_law_236 : decode cL_law 236 = .ok (.aload_n 2, 1) := by decide +kernel
theorem dL_law_237 : decode cL_law 237 = .ok (.aload_n 0, 1) := by decide +kernel
theorem dL_law_238 : decode cL_law 238 = .ok (.iload_n 3, 1) := by decide +kernel
theorem dL_law_239 : decode cL_law 239 = .ok (.iconst 1, 1) := by decide +kernel
theorem dL_law_240 : decode cL_law 240 = .ok (.iadd, 1) := by decide +kernel
theorem dL_law_241 : decode cL_law 241 = .ok (.iaload, 1) := by decide +kernel
theorem dL_law_242 : decode cL_law 242 = .ok (.aload_n 0, 1) := by decide +kernel
theorem dL_law_243 : decode cL_law 243 = .ok (.iload_n 3, 1) := by decide +kernel
theorem dL_law_244 : decode cL_law 244 = .ok (.iconst 2, 1) := by decide +kernel
theorem dL_law_245 : decode cL_law 245 = .ok (.iadd, 1) := by decide +kernel
theorem dL_law_246 : decode cL_law 246 = .ok (.iaload, 1) := by decide +kernel
theorem dL_law_247 : decode cL_law 247 = .ok (.invokevirtual 37, 3) := by decide +kernel
theorem dL_law_250 : decode cL_law 250 = .ok (.if_icmp .eq 604, 3) := by decide +kernel
theorem dL_law_253 : decode cL_law 253 = .ok (.iconst 0, 1) := by decide +kernel
theorem dL_law_254 : decode cL_law 254 = .ok (.ireturn, 1) := by decide +kernel
theorem dL_law_255 : decode cL_law 255 = .ok (.aload_n 1, 1) := by decide +kernel
theorem dL_law_256 : decode cL_law 256 = .ok (.aload_n 0, 1) := by decide +kernel
theorem dL_law_257 : decode cL_law 257 = .ok (.iload_n 3, 1) := by decide +kernel
theorem dL_law_258 : decode cL_law 258 = .ok (.iconst 1, 1) := by decide +kernel
theorem dL_law_259 : decode cL_law 259 = .ok (.iadd, 1) := by decide +kernel
theorem dL_law_260 : decode cL_law 260 = .ok (.iaload, 1) := by decide +kernel
theorem dL_law_261 : decode cL_law 261 = .ok (.aload_n 0, 1) := by decide +kernel
theorem dL_law_262 : decode cL_law 262 = .ok (.iload_n 3, 1) := by decide +kernel
theorem dL_law_263 : decode cL_law 263 = .ok (.iconst 2, 1) := by decide +kernel
theorem dL_law_264 : decode cL_law 264 = .ok (.iadd, 1) := by decide +kernel
theorem dL_law_265 : decode cL_law 265 = .ok (.iaload, 1) := by decide +kernel
theorem dL_law_266 : decode cL_law 266 = .ok (.aload_n 0, 1) := by decide +kernel
theorem dL_law_267 : decode cL_law 267 = .ok (.iload_n 3, 1) := by decide +kernel
theorem dL_law_268 : decode cL_law 268 = .ok (.iconst 3, 1) := by decide +kernel
theorem dL_law_269 : decode cL_law 269 = .ok (.iadd, 1) := by decide +kernel
theorem dL_law_270 : decode cL_law 270 = .ok (.iaload, 1) := by decide +kernel
theorem dL_law_271 : decode cL_law 271 = .ok (.aload_n 0, 1) := by decide +kernel
theorem dL_law_272 : decode cL_law 272 = .ok (.iload_n 3, 1) := by decide +kernel
theorem dL_law_273 : decode cL_law 273 = .ok (.iconst 4, 1) := by decide +kernel
theorem dL_law_274 : decode cL_law 274 = .ok (.iadd, 1) := by decide +kernel
theorem dL_law_275 : decode cL_law 275 = .ok (.iaload, 1) := by decide +kernel
theorem dL_law_276 : decode cL_law 276 = .ok (.aload_n 0, 1) := by decide +kernel
theorem dL_law_277 : decode cL_law 277 = .ok (.iload_n 3, 1) := by decide +kernel
theorem dL_law_278 : decode cL_law 278 = .ok (.iconst 5, 1) := by decide +kernel
theorem dL_law_279 : decode cL_law 279 = .ok (.iadd, 1) := by decide +kernel
theorem dL_law_280 : decode cL_law 280 = .ok (.iaload, 1) := by decide +kernel
theorem dL_law_281 : decode cL_law 281 = .ok (.invokevirtual 38, 3) := by decide +kernel
theorem dL_law_284 : decode cL_law 284 = .ok (.aload_n 2, 1) := by decide +kernel
theorem dL_law_285 : decode cL_law 285 = .ok (.aload_n 0, 1) := by decide +kernel
theorem dL_law_286 : decode cL_law 286 = .ok (.iload_n 3, 1) := by decide +kernel
theorem dL_law_287 : decode cL_law 287 = .ok (.iconst 1, 1) := by decide +kernel
theorem dL_law_288 : decode cL_law 288 = .ok (.iadd, 1) := by decide +kernel
theorem dL_law_289 : decode cL_law 289 = .ok (.iaload, 1) := by decide +kernel
theorem dL_law_290 : decode cL_law 290 = .ok (.aload_n 0, 1) := by decide +kernel
theorem dL_law_291 : decode cL_law 291 = .ok (.iload_n 3, 1) := by decide +kernel
theorem dL_law_292 : decode cL_law 292 = .ok (.iconst 2, 1) := by decide +kernel
theorem dL_law_293 : decode cL_law 293 = .ok (.iadd, 1) := by decide +kernel
theorem dL_law_294 : decode cL_law 294 = .ok (.iaload, 1) := by decide +kernel
theorem dL_law_295 : decode cL_law 295 = .ok (.aload_n 0, 1) := by decide +kernel
theorem dL_law_296 : decode cL_law 296 = .ok (.iload_n 3, 1) := by decide +kernel
theorem dL_law_297 : decode cL_law 297 = .ok (.iconst 3, 1) := by decide +kernel
theorem dL_law_298 : decode cL_law 298 = .ok (.iadd, 1) := by decide +kernel
theorem dL_law_299 : decode cL_law 299 = .ok (.iaload, 1) := by decide +kernel
theorem dL_law_300 : decode cL_law 300 = .ok (.aload_n 0, 1) := by decide +kernel
theorem dL_law_301 : decode cL_law 301 = .ok (.iload_n 3, 1) := by decide +kernel
theorem dL_law_302 : decode cL_law 302 = .ok (.iconst 4, 1) := by decide +kernel
theorem dL_law_303 : decode cL_law 303 = .ok (.iadd, 1) := by decide +kernel
theorem dL_law_304 : decode cL_law 304 = .ok (.iaload, 1) := by decide +kernel
theorem dL_law_305 : decode cL_law 305 = .ok (.aload_n 0, 1) := by decide +kernel
theorem dL_law_306 : decode cL_law 306 = .ok (.iload_n 3, 1) := by decide +kernel
theorem dL_law_307 : decode cL_law 307 = .ok (.iconst 5, 1) := by decide +kernel
theorem dL_law_308 : decode cL_law 308 = .ok (.iadd, 1) := by decide +kernel
theorem dL_law_309 : decode cL_law 309 = .ok (.iaload, 1) := by decide +kernel
theorem dL_law_310 : decode cL_law 310 = .ok (.invokevirtual 42, 3) := by decide +kernel
theorem dL_law_313 : decode cL_law 313 = .ok (.if_icmp .eq 541, 3) := by decide +kernel
theorem dL_law_316 : decode cL_law 316 = .ok (.iconst 0, 1) := by decide +kernel
theorem dL_law_317 : decode cL_law 317 = .ok (.ireturn, 1) := by decide +kernel
theorem dL_law_318 : decode cL_law 318 = .ok (.aload_n 1, 1) := by decide +kernel
theorem dL_law_319 : decode cL_law 319 = .ok (.aload_n 0, 1) := by decide +kernel
theorem dL_law_320 : decode cL_law 320 = .ok (.iload_n 3, 1) := by decide +kernel
theorem dL_law_321 : decode cL_law 321 = .ok (.iconst 1, 1) := by decide +kernel
theorem dL_law_322 : decode cL_law 322 = .ok (.iadd, 1) := by decide +kernel
theorem dL_law_323 : decode cL_law 323 = .ok (.iaload, 1) := by decide +kernel
theorem dL_law_324 : decode cL_law 324 = .ok (.aload_n 0, 1) := by decide +kernel
theorem dL_law_325 : decode cL_law 325 = .ok (.iload_n 3, 1) := by decide +kernel
theorem dL_law_326 : decode cL_law 326 = .ok (.iconst 2, 1) := by decide +kernel
theorem dL_law_327 : decode cL_law 327 = .ok (.iadd, 1) := by decide +kernel
theorem dL_law_328 : decode cL_law 328 = .ok (.iaload, 1) := by decide +kernel
theorem dL_law_329 : decode cL_law 329 = .ok (.ifCond .eq 7, 3) := by decide +kernel
theorem dL_law_332 : decode cL_law 332 = .ok (.iconst 1, 1) := by decide +kernel
theorem dL_law_333 : decode cL_law 333 = .ok (.goto 4, 3) := by decide +kernel
theorem dL_law_336 : decode cL_law 336 = .ok (.iconst 0, 1) := by decide +kernel
theorem dL_law_337 : decode cL_law 337 = .ok (.invokevirtual 43, 3) := by decide +kernel
theorem dL_law_340 : decode cL_law 340 = .ok (.aload_n 2, 1) := by decide +kernel
theorem dL_law_341 : decode cL_law 341 = .ok (.aload_n 0, 1) := by decide +kernel
theorem dL_law_342 : decode cL_law 342 = .ok (.iload_n 3, 1) := by decide +kernel
theorem dL_law_343 : decode cL_law 343 = .ok (.iconst 1, 1) := by decide +kernel
theorem dL_law_344 : decode cL_law 344 = .ok (.iadd, 1) := by decide +kernel
theorem dL_law_345 : decode cL_law 345 = .ok (.iaload, 1) := by decide +kernel
theorem dL_law_346 : decode cL_law 346 = .ok (.aload_n 0, 1) := by decide +kernel
theorem dL_law_347 : decode cL_law 347 = .ok (.iload_n 3, 1) := by decide +kernel
theorem dL_law_348 : decode cL_law 348 = .ok (.iconst 2, 1) := by decide +kernel
theorem dL_law_349 : decode cL_law 349 = .ok (.iadd, 1) := by decide +kernel
theorem dL_law_350 : decode cL_law 350 = .ok (.iaload, 1) := by decide +kernel
theorem dL_law_351 : decode cL_law 351 = .ok (.ifCond .eq 7, 3) := by decide +kernel
theorem dL_law_354 : decode cL_law 354 = .ok (.iconst 1, 1) := by decide +kernel
theorem dL_law_355 : decode cL_law 355 = .ok (.goto 4, 3) := by decide +kernel
theorem dL_law_358 : decode cL_law 358 = .ok (.iconst 0, 1) := by decide +kernel
theorem dL_law_359 : decode cL_law 359 = .ok (.invokevirtual 47, 3) := by decide +kernel
theorem dL_law_362 : decode cL_law 362 = .ok (.if_icmp .eq 492, 3) := by decide +kernel
theorem dL_law_365 : decode cL_law 365 = .ok (.iconst 0, 1) := by decide +kernel
theorem dL_law_366 : decode cL_law 366 = .ok (.ireturn, 1) := by decide +kernel
theorem dL_law_367 : decode cL_law 367 = .ok (.aload_n 1, 1) := by decide +kernel
theorem dL_law_368 : decode cL_law 368 = .ok (.aload_n 0, 1) := by decide +kernel
theorem dL_law_369 : decode cL_law 369 = .ok (.iload_n 3, 1) := by decide +kernel
theorem dL_law_370 : decode cL_law 370 = .ok (.iconst 1, 1) := by decide +kernel
theorem dL_law_371 : decode cL_law 371 = .ok (.iadd, 1) := by decide +kernel
theorem dL_law_372 : decode cL_law 372 = .ok (.iaload, 1) := by decide +kernel
theorem dL_law_373 : decode cL_law 373 = .ok (.invokevirtual 48, 3) := by decide +kernel
theorem dL_law_376 : decode cL_law 376 = .ok (.aload_n 2, 1) := by decide +kernel
theorem dL_law_377 : decode cL_law 377 = .ok (.aload_n 0, 1) := by decide +kernel
theorem dL_law_378 : decode cL_law 378 = .ok (.iload_n 3, 1) := by decide +kernel
theorem dL_law_379 : decode cL_law 379 = .ok (.iconst 1, 1) := by decide +kernel
theorem dL_law_380 : decode cL_law 380 = .ok (.iadd, 1) := by decide +kernel
theorem dL_law_381 : decode cL_law 381 = .ok (.iaload, 1) := by decide +kernel
theorem dL_law_382 : decode cL_law 382 = .ok (.invokevirtual 52, 3) := by decide +kernel
theorem dL_law_385 : decode cL_law 385 = .ok (.if_icmp .eq 469, 3) := by decide +kernel
theorem dL_law_388 : decode cL_law 388 = .ok (.iconst 0, 1) := by decide +kernel
theorem dL_law_389 : decode cL_law 389 = .ok (.ireturn, 1) := by decide +kernel
theorem dL_law_390 : decode cL_law 390 = .ok (.aload_n 1, 1) := by decide +kernel
theorem dL_law_391 : decode cL_law 391 = .ok (.aload_n 0, 1) := by decide +kernel
theorem dL_law_392 : decode cL_law 392 = .ok (.iload_n 3, 1) := by decide +kernel
theorem dL_law_393 : decode cL_law 393 = .ok (.iconst 1, 1) := by decide +kernel
theorem dL_law_394 : decode cL_law 394 = .ok (.iadd, 1) := by decide +kernel
theorem dL_law_395 : decode cL_law 395 = .ok (.iaload, 1) := by decide +kernel
theorem dL_law_396 : decode cL_law 396 = .ok (.aload_n 0, 1) := by decide +kernel
theorem dL_law_397 : decode cL_law 397 = .ok (.iload_n 3, 1) := by decide +kernel
theorem dL_law_398 : decode cL_law 398 = .ok (.iconst 2, 1) := by decide +kernel
theorem dL_law_399 : decode cL_law 399 = .ok (.iadd, 1) := by decide +kernel
theorem dL_law_400 : decode cL_law 400 = .ok (.iaload, 1) := by decide +kernel
theorem dL_law_401 : decode cL_law 401 = .ok (.aload_n 0, 1) := by decide +kernel
theorem dL_law_402 : decode cL_law 402 = .ok (.iload_n 3, 1) := by decide +kernel
theorem dL_law_403 : decode cL_law 403 = .ok (.iconst 3, 1) := by decide +kernel
theorem dL_law_404 : decode cL_law 404 = .ok (.iadd, 1) := by decide +kernel
theorem dL_law_405 : decode cL_law 405 = .ok (.iaload, 1) := by decide +kernel
theorem dL_law_406 : decode cL_law 406 = .ok (.aload_n 0, 1) := by decide +kernel
theorem dL_law_407 : decode cL_law 407 = .ok (.iload_n 3, 1) := by decide +kernel
theorem dL_law_408 : decode cL_law 408 = .ok (.iconst 4, 1) := by decide +kernel
theorem dL_law_409 : decode cL_law 409 = .ok (.iadd, 1) := by decide +kernel
theorem dL_law_410 : decode cL_law 410 = .ok (.iaload, 1) := by decide +kernel
theorem dL_law_411 : decode cL_law 411 = .ok (.invokevirtual 53, 3) := by decide +kernel
theorem dL_law_414 : decode cL_law 414 = .ok (.aload_n 2, 1) := by decide +kernel
theorem dL_law_415 : decode cL_law 415 = .ok (.aload_n 0, 1) := by decide +kernel
theorem dL_law_416 : decode cL_law 416 = .ok (.iload_n 3, 1) := by decide +kernel
theorem dL_law_417 : decode cL_law 417 = .ok (.iconst 1, 1) := by decide +kernel
theorem dL_law_418 : decode cL_law 418 = .ok (.iadd, 1) := by decide +kernel
theorem dL_law_419 : decode cL_law 419 = .ok (.iaload, 1) := by decide +kernel
theorem dL_law_420 : decode cL_law 420 = .ok (.aload_n 0, 1) := by decide +kernel
theorem dL_law_421 : decode cL_law 421 = .ok (.iload_n 3, 1) := by decide +kernel
theorem dL_law_422 : decode cL_law 422 = .ok (.iconst 2, 1) := by decide +kernel
theorem dL_law_423 : decode cL_law 423 = .ok (.iadd, 1) := by decide +kernel
theorem dL_law_424 : decode cL_law 424 = .ok (.iaload, 1) := by decide +kernel
theorem dL_law_425 : decode cL_law 425 = .ok (.aload_n 0, 1) := by decide +kernel
theorem dL_law_426 : decode cL_law 426 = .ok (.iload_n 3, 1) := by decide +kernel
theorem dL_law_427 : decode cL_law 427 = .ok (.iconst 3, 1) := by decide +kernel
theorem dL_law_428 : decode cL_law 428 = .ok (.iadd, 1) := by decide +kernel
theorem dL_law_429 : decode cL_law 429 = .ok (.iaload, 1) := by decide +kernel
theorem dL_law_430 : decode cL_law 430 = .ok (.aload_n 0, 1) := by decide +kernel
theorem dL_law_431 : decode cL_law 431 = .ok (.iload_n 3, 1) := by decide +kernel
theorem dL_law_432 : decode cL_law 432 = .ok (.iconst 4, 1) := by decide +kernel
theorem dL_law_433 : decode cL_law 433 = .ok (.iadd, 1) := by decide +kernel
theorem dL_law_434 : decode cL_law 434 = .ok (.iaload, 1) := by decide +kernel
theorem dL_law_435 : decode cL_law 435 = .ok (.invokevirtual 57, 3) := by decide +kernel
theorem dL_law_438 : decode cL_law 438 = .ok (.if_icmp .eq 416, 3) := by decide +kernel
theorem dL_law_441 : decode cL_law 441 = .ok (.iconst 0, 1) := by decide +kernel
theorem dL_law_442 : decode cL_law 442 = .ok (.ireturn, 1) := by decide +kernel
theorem dL_law_443 : decode cL_law 443 = .ok (.aload_n 1, 1) := by decide +kernel
theorem dL_law_444 : decode cL_law 444 = .ok (.aload_n 0, 1) := by decide +kernel
theorem dL_law_445 : decode cL_law 445 = .ok (.iload_n 3, 1) := by decide +kernel
theorem dL_law_446 : decode cL_law 446 = .ok (.iconst 1, 1) := by decide +kernel
theorem dL_law_447 : decode cL_law 447 = .ok (.iadd, 1) := by decide +kernel
theorem dL_law_448 : decode cL_law 448 = .ok (.iaload, 1) := by decide +kernel
theorem dL_law_449 : decode cL_law 449 = .ok (.aload_n 0, 1) := by decide +kernel
theorem dL_law_450 : decode cL_law 450 = .ok (.iload_n 3, 1) := by decide +kernel
theorem dL_law_451 : decode cL_law 451 = .ok (.iconst 2, 1) := by decide +kernel
theorem dL_law_452 : decode cL_law 452 = .ok (.iadd, 1) := by decide +kernel
theorem dL_law_453 : decode cL_law 453 = .ok (.iaload, 1) := by decide +kernel
theorem dL_law_454 : decode cL_law 454 = .ok (.aload_n 0, 1) := by decide +kernel
theorem dL_law_455 : decode cL_law 455 = .ok (.iload_n 3, 1) := by decide +kernel
theorem dL_law_456 : decode cL_law 456 = .ok (.iconst 3, 1) := by decide +kernel
theorem dL_law_457 : decode cL_law 457 = .ok (.iadd, 1) := by decide +kernel
theorem dL_law_458 : decode cL_law 458 = .ok (.iaload, 1) := by decide +kernel
theorem dL_law_459 : decode cL_law 459 = .ok (.aload_n 0, 1) := by decide +kernel
theorem dL_law_460 : decode cL_law 460 = .ok (.iload_n 3, 1) := by decide +kernel
theorem dL_law_461 : decode cL_law 461 = .ok (.iconst 4, 1) := by decide +kernel
theorem dL_law_462 : decode cL_law 462 = .ok (.iadd, 1) := by decide +kernel
theorem dL_law_463 : decode cL_law 463 = .ok (.iaload, 1) := by decide +kernel
theorem dL_law_464 : decode cL_law 464 = .ok (.aload_n 0, 1) := by decide +kernel
theorem dL_law_465 : decode cL_law 465 = .ok (.iload_n 3, 1) := by decide +kernel
theorem dL_law_466 : decode cL_law 466 = .ok (.iconst 5, 1) := by decide +kernel
theorem dL_law_467 : decode cL_law 467 = .ok (.iadd, 1) := by decide +kernel
theorem dL_law_468 : decode cL_law 468 = .ok (.iaload, 1) := by decide +kernel
theorem dL_law_469 : decode cL_law 469 = .ok (.invokevirtual 58, 3) := by decide +kernel
theorem dL_law_472 : decode cL_law 472 = .ok (.aload_n 2, 1) := by decide +kernel
theorem dL_law_473 : decode cL_law 473 = .ok (.aload_n 0, 1) := by decide +kernel
theorem dL_law_474 : decode cL_law 474 = .ok (.iload_n 3, 1) := by decide +kernel
theorem dL_law_475 : decode cL_law 475 = .ok (.iconst 1, 1) := by decide +kernel
theorem dL_law_476 : decode cL_law 476 = .ok (.iadd, 1) := by decide +kernel
theorem dL_law_477 : decode cL_law 477 = .ok (.iaload, 1) := by decide +kernel
theorem dL_law_478 : decode cL_law 478 = .ok (.aload_n 0, 1) := by decide +kernel
theorem dL_law_479 : decode cL_law 479 = .ok (.iload_n 3, 1) := by decide +kernel
theorem dL_law_480 : decode cL_law 480 = .ok (.iconst 2, 1) := by decide +kernel
theorem dL_law_481 : decode cL_law 481 = .ok (.iadd, 1) := by decide +kernel
theorem dL_law_482 : decode cL_law 482 = .ok (.iaload, 1) := by decide +kernel
theorem dL_law_483 : decode cL_law 483 = .ok (.aload_n 0, 1) := by decide +kernel
theorem dL_law_484 : decode cL_law 484 = .ok (.iload_n 3, 1) := by decide +kernel
theorem dL_law_485 : decode cL_law 485 = .ok (.iconst 3, 1) := by decide +kernel
theorem dL_law_486 : decode cL_law 486 = .ok (.iadd, 1) := by decide +kernel
theorem dL_law_487 : decode cL_law 487 = .ok (.iaload, 1) := by decide +kernel
theorem dL_law_488 : decode cL_law 488 = .ok (.aload_n 0, 1) := by decide +kernel
theorem dL_law_489 : decode cL_law 489 = .ok (.iload_n 3, 1) := by decide +kernel
theorem dL_law_490 : decode cL_law 490 = .ok (.iconst 4, 1) := by decide +kernel
theorem dL_law_491 : decode cL_law 491 = .ok (.iadd, 1) := by decide +kernel
theorem dL_law_492 : decode cL_law 492 = .ok (.iaload, 1) := by decide +kernel
theorem dL_law_493 : decode cL_law 493 = .ok (.aload_n 0, 1) := by decide +kernel
theorem dL_law_494 : decode cL_law 494 = .ok (.iload_n 3, 1) := by decide +kernel
theorem dL_law_495 : decode cL_law 495 = .ok (.iconst 5, 1) := by decide +kernel
theorem dL_law_496 : decode cL_law 496 = .ok (.iadd, 1) := by decide +kernel
theorem dL_law_497 : decode cL_law 497 = .ok (.iaload, 1) := by decide +kernel
theorem dL_law_498 : decode cL_law 498 = .ok (.invokevirtual 61, 3) := by decide +kernel
theorem dL_law_501 : decode cL_law 501 = .ok (.if_icmp .eq 353, 3) := by decide +kernel
theorem dL_law_504 : decode cL_law 504 = .ok (.iconst 0, 1) := by decide +kernel
theorem dL_law_505 : decode cL_law 505 = .ok (.ireturn, 1) := by decide +kernel
theorem dL_law_506 : decode cL_law 506 = .ok (.aload_n 1, 1) := by decide +kernel
theorem dL_law_507 : decode cL_law 507 = .ok (.aload_n 0, 1) := by decide +kernel
theorem dL_law_508 : decode cL_law 508 = .ok (.iload_n 3, 1) := by decide +kernel
theorem dL_law_509 : decode cL_law 509 = .ok (.iconst 1, 1) := by decide +kernel
theorem dL_law_510 : decode cL_law 510 = .ok (.iadd, 1) := by decide +kernel
theorem dL_law_511 : decode cL_law 511 = .ok (.iaload, 1) := by decide +kernel
theorem dL_law_512 : decode cL_law 512 = .ok (.aload_n 0, 1) := by decide +kernel
theorem dL_law_513 : decode cL_law 513 = .ok (.iload_n 3, 1) := by decide +kernel
theorem dL_law_514 : decode cL_law 514 = .ok (.iconst 2, 1) := by decide +kernel
theorem dL_law_515 : decode cL_law 515 = .ok (.iadd, 1) := by decide +kernel
theorem dL_law_516 : decode cL_law 516 = .ok (.iaload, 1) := by decide +kernel
theorem dL_law_517 : decode cL_law 517 = .ok (.aload_n 0, 1) := by decide +kernel
theorem dL_law_518 : decode cL_law 518 = .ok (.iload_n 3, 1) := by decide +kernel
theorem dL_law_519 : decode cL_law 519 = .ok (.iconst 3, 1) := by decide +kernel
theorem dL_law_520 : decode cL_law 520 = .ok (.iadd, 1) := by decide +kernel
theorem dL_law_521 : decode cL_law 521 = .ok (.iaload, 1) := by decide +kernel
theorem dL_law_522 : decode cL_law 522 = .ok (.aload_n 0, 1) := by decide +kernel
theorem dL_law_523 : decode cL_law 523 = .ok (.iload_n 3, 1) := by decide +kernel
theorem dL_law_524 : decode cL_law 524 = .ok (.iconst 4, 1) := by decide +kernel
theorem dL_law_525 : decode cL_law 525 = .ok (.iadd, 1) := by decide +kernel
theorem dL_law_526 : decode cL_law 526 = .ok (.iaload, 1) := by decide +kernel
theorem dL_law_527 : decode cL_law 527 = .ok (.invokevirtual 62, 3) := by decide +kernel
theorem dL_law_530 : decode cL_law 530 = .ok (.aload_n 2, 1) := by decide +kernel
theorem dL_law_531 : decode cL_law 531 = .ok (.aload_n 0, 1) := by decide +kernel
theorem dL_law_532 : decode cL_law 532 = .ok (.iload_n 3, 1) := by decide +kernel
theorem dL_law_533 : decode cL_law 533 = .ok (.iconst 1, 1) := by decide +kernel
theorem dL_law_534 : decode cL_law 534 = .ok (.iadd, 1) := by decide +kernel
theorem dL_law_535 : decode cL_law 535 = .ok (.iaload, 1) := by decide +kernel
theorem dL_law_536 : decode cL_law 536 = .ok (.aload_n 0, 1) := by decide +kernel
theorem dL_law_537 : decode cL_law 537 = .ok (.iload_n 3, 1) := by decide +kernel
theorem dL_law_538 : decode cL_law 538 = .ok (.iconst 2, 1) := by decide +kernel
theorem dL_law_539 : decode cL_law 539 = .ok (.iadd, 1) := by decide +kernel
theorem dL_law_540 : decode cL_law 540 = .ok (.iaload, 1) := by decide +kernel
theorem dL_law_541 : decode cL_law 541 = .ok (.aload_n 0, 1) := by decide +kernel
theorem dL_law_542 : decode cL_law 542 = .ok (.iload_n 3, 1) := by decide +kernel
theorem dL_law_543 : decode cL_law 543 = .ok (.iconst 3, 1) := by decide +kernel
theorem dL_law_544 : decode cL_law 544 = .ok (.iadd, 1) := by decide +kernel
theorem dL_law_545 : decode cL_law 545 = .ok (.iaload, 1) := by decide +kernel
theorem dL_law_546 : decode cL_law 546 = .ok (.aload_n 0, 1) := by decide +kernel
theorem dL_law_547 : decode cL_law 547 = .ok (.iload_n 3, 1) := by decide +kernel
theorem dL_law_548 : decode cL_law 548 = .ok (.iconst 4, 1) := by decide +kernel
theorem dL_law_549 : decode cL_law 549 = .ok (.iadd, 1) := by decide +kernel
theorem dL_law_550 : decode cL_law 550 = .ok (.iaload, 1) := by decide +kernel
theorem dL_law_551 : decode cL_law 551 = .ok (.invokevirtual 66, 3) := by decide +kernel
theorem dL_law_554 : decode cL_law 554 = .ok (.if_icmp .eq 300, 3) := by decide +kernel
theorem dL_law_557 : decode cL_law 557 = .ok (.iconst 0, 1) := by decide +kernel
theorem dL_law_558 : decode cL_law 558 = .ok (.ireturn, 1) := by decide +kernel
theorem dL_law_559 : decode cL_law 559 = .ok (.aload_n 1, 1) := by decide +kernel
theorem dL_law_560 : decode cL_law 560 = .ok (.aload_n 0, 1) := by decide +kernel
theorem dL_law_561 : decode cL_law 561 = .ok (.iload_n 3, 1) := by decide +kernel
theorem dL_law_562 : decode cL_law 562 = .ok (.iconst 1, 1) := by decide +kernel
theorem dL_law_563 : decode cL_law 563 = .ok (.iadd, 1) := by decide +kernel
theorem dL_law_564 : decode cL_law 564 = .ok (.iaload, 1) := by decide +kernel
theorem dL_law_565 : decode cL_law 565 = .ok (.aload_n 0, 1) := by decide +kernel
theorem dL_law_566 : decode cL_law 566 = .ok (.iload_n 3, 1) := by decide +kernel
theorem dL_law_567 : decode cL_law 567 = .ok (.iconst 2, 1) := by decide +kernel
theorem dL_law_568 : decode cL_law 568 = .ok (.iadd, 1) := by decide +kernel
theorem dL_law_569 : decode cL_law 569 = .ok (.iaload, 1) := by decide +kernel
theorem dL_law_570 : decode cL_law 570 = .ok (.invokevirtual 67, 3) := by decide +kernel
theorem dL_law_573 : decode cL_law 573 = .ok (.aload_n 2, 1) := by decide +kernel
theorem dL_law_574 : decode cL_law 574 = .ok (.aload_n 0, 1) := by decide +kernel
theorem dL_law_575 : decode cL_law 575 = .ok (.iload_n 3, 1) := by decide +kernel
theorem dL_law_576 : decode cL_law 576 = .ok (.iconst 1, 1) := by decide +kernel
theorem dL_law_577 : decode cL_law 577 = .ok (.iadd, 1) := by decide +kernel
theorem dL_law_578 : decode cL_law 578 = .ok (.iaload, 1) := by decide +kernel
theorem dL_law_579 : decode cL_law 579 = .ok (.aload_n 0, 1) := by decide +kernel
theorem dL_law_580 : decode cL_law 580 = .ok (.iload_n 3, 1) := by decide +kernel
theorem dL_law_581 : decode cL_law 581 = .ok (.iconst 2, 1) := by decide +kernel
theorem dL_law_582 : decode cL_law 582 = .ok (.iadd, 1) := by decide +kernel
theorem dL_law_583 : decode cL_law 583 = .ok (.iaload, 1) := by decide +kernel
theorem dL_law_584 : decode cL_law 584 = .ok (.invokevirtual 70, 3) := by decide +kernel
theorem dL_law_587 : decode cL_law 587 = .ok (.if_icmp .eq 267, 3) := by decide +kernel
theorem dL_law_590 : decode cL_law 590 = .ok (.iconst 0, 1) := by decide +kernel
theorem dL_law_591 : decode cL_law 591 = .ok (.ireturn, 1) := by decide +kernel
theorem dL_law_592 : decode cL_law 592 = .ok (.aload_n 1, 1) := by decide +kernel
theorem dL_law_593 : decode cL_law 593 = .ok (.aload_n 0, 1) := by decide +kernel
theorem dL_law_594 : decode cL_law 594 = .ok (.iload_n 3, 1) := by decide +kernel
theorem dL_law_595 : decode cL_law 595 = .ok (.iconst 1, 1) := by decide +kernel
theorem dL_law_596 : decode cL_law 596 = .ok (.iadd, 1) := by decide +kernel
theorem dL_law_597 : decode cL_law 597 = .ok (.iaload, 1) := by decide +kernel
theorem dL_law_598 : decode cL_law 598 = .ok (.aload_n 0, 1) := by decide +kernel
theorem dL_law_599 : decode cL_law 599 = .ok (.iload_n 3, 1) := by decide +kernel
theorem dL_law_600 : decode cL_law 600 = .ok (.iconst 2, 1) := by decide +kernel
theorem dL_law_601 : decode cL_law 601 = .ok (.iadd, 1) := by decide +kernel
theorem dL_law_602 : decode cL_law 602 = .ok (.iaload, 1) := by decide +kernel
theorem dL_law_603 : decode cL_law 603 = .ok (.aload_n 0, 1) := by decide +kernel
theorem dL_law_604 : decode cL_law 604 = .ok (.iload_n 3, 1) := by decide +kernel
theorem dL_law_605 : decode cL_law 605 = .ok (.iconst 3, 1) := by decide +kernel
theorem dL_law_606 : decode cL_law 606 = .ok (.iadd, 1) := by decide +kernel
theorem dL_law_607 : decode cL_law 607 = .ok (.iaload, 1) := by decide +kernel
theorem dL_law_608 : decode cL_law 608 = .ok (.invokevirtual 71, 3) := by decide +kernel
theorem dL_law_611 : decode cL_law 611 = .ok (.aload_n 2, 1) := by decide +kernel
theorem dL_law_612 : decode cL_law 612 = .ok (.aload_n 0, 1) := by decide +kernel
theorem dL_law_613 : decode cL_law 613 = .ok (.iload_n 3, 1) := by decide +kernel
theorem dL_law_614 : decode cL_law 614 = .ok (.iconst 1, 1) := by decide +kernel
theorem dL_law_615 : decode cL_law 615 = .ok (.iadd, 1) := by decide +kernel
theorem dL_law_616 : decode cL_law 616 = .ok (.iaload, 1) := by decide +kernel
theorem dL_law_617 : decode cL_law 617 = .ok (.aload_n 0, 1) := by decide +kernel
theorem dL_law_618 : decode cL_law 618 = .ok (.iload_n 3, 1) := by decide +kernel
theorem dL_law_619 : decode cL_law 619 = .ok (.iconst 2, 1) := by decide +kernel
theorem dL_law_620 : decode cL_law 620 = .ok (.iadd, 1) := by decide +kernel
theorem dL_law_621 : decode cL_law 621 = .ok (.iaload, 1) := by decide +kernel
theorem dL_law_622 : decode cL_law 622 = .ok (.aload_n 0, 1) := by decide +kernel
theorem dL_law_623 : decode cL_law 623 = .ok (.iload_n 3, 1) := by decide +kernel
theorem dL_law_624 : decode cL_law 624 = .ok (.iconst 3, 1) := by decide +kernel
theorem dL_law_625 : decode cL_law 625 = .ok (.iadd, 1) := by decide +kernel
theorem dL_law_626 : decode cL_law 626 = .ok (.iaload, 1) := by decide +kernel
theorem dL_law_627 : decode cL_law 627 = .ok (.invokevirtual 75, 3) := by decide +kernel
theorem dL_law_630 : decode cL_law 630 = .ok (.if_icmp .eq 224, 3) := by decide +kernel
theorem dL_law_633 : decode cL_law 633 = .ok (.iconst 0, 1) := by decide +kernel
theorem dL_law_634 : decode cL_law 634 = .ok (.ireturn, 1) := by decide +kernel
theorem dL_law_635 : decode cL_law 635 = .ok (.aload_n 1, 1) := by decide +kernel
theorem dL_law_636 : decode cL_law 636 = .ok (.aload_n 0, 1) := by decide +kernel
theorem dL_law_637 : decode cL_law 637 = .ok (.iload_n 3, 1) := by decide +kernel
theorem dL_law_638 : decode cL_law 638 = .ok (.iconst 1, 1) := by decide +kernel
theorem dL_law_639 : decode cL_law 639 = .ok (.iadd, 1) := by decide +kernel
theorem dL_law_640 : decode cL_law 640 = .ok (.iaload, 1) := by decide +kernel
theorem dL_law_641 : decode cL_law 641 = .ok (.aload_n 0, 1) := by decide +kernel
theorem dL_law_642 : decode cL_law 642 = .ok (.iload_n 3, 1) := by decide +kernel
theorem dL_law_643 : decode cL_law 643 = .ok (.iconst 2, 1) := by decide +kernel
theorem dL_law_644 : decode cL_law 644 = .ok (.iadd, 1) := by decide +kernel
theorem dL_law_645 : decode cL_law 645 = .ok (.iaload, 1) := by decide +kernel
theorem dL_law_646 : decode cL_law 646 = .ok (.aload_n 0, 1) := by decide +kernel
theorem dL_law_647 : decode cL_law 647 = .ok (.iload_n 3, 1) := by decide +kernel
theorem dL_law_648 : decode cL_law 648 = .ok (.iconst 3, 1) := by decide +kernel
theorem dL_law_649 : decode cL_law 649 = .ok (.iadd, 1) := by decide +kernel
theorem dL_law_650 : decode cL_law 650 = .ok (.iaload, 1) := by decide +kernel
theorem dL_law_651 : decode cL_law 651 = .ok (.aload_n 0, 1) := by decide +kernel
theorem dL_law_652 : decode cL_law 652 = .ok (.iload_n 3, 1) := by decide +kernel
theorem dL_law_653 : decode cL_law 653 = .ok (.iconst 4, 1) := by decide +kernel
theorem dL_law_654 : decode cL_law 654 = .ok (.iadd, 1) := by decide +kernel
theorem dL_law_655 : decode cL_law 655 = .ok (.iaload, 1) := by decide +kernel
theorem dL_law_656 : decode cL_law 656 = .ok (.i2l, 1) := by decide +kernel
theorem dL_law_657 : decode cL_law 657 = .ok (.bipush 32, 2) := by decide +kernel
theorem dL_law_659 : decode cL_law 659 = .ok (.lshl, 1) := by decide +kernel
theorem dL_law_660 : decode cL_law 660 = .ok (.aload_n 0, 1) := by decide +kernel
theorem dL_law_661 : decode cL_law 661 = .ok (.iload_n 3, 1) := by decide +kernel
theorem dL_law_662 : decode cL_law 662 = .ok (.iconst 5, 1) := by decide +kernel
theorem dL_law_663 : decode cL_law 663 = .ok (.iadd, 1) := by decide +kernel
theorem dL_law_664 : decode cL_law 664 = .ok (.iaload, 1) := by decide +kernel
theorem dL_law_665 : decode cL_law 665 = .ok (.i2l, 1) := by decide +kernel
theorem dL_law_666 : decode cL_law 666 = .ok (.ldc2_w 13, 3) := by decide +kernel
theorem dL_law_669 : decode cL_law 669 = .ok (.land, 1) := by decide +kernel
theorem dL_law_670 : decode cL_law 670 = .ok (.lor, 1) := by decide +kernel
theorem dL_law_671 : decode cL_law 671 = .ok (.invokevirtual 76, 3) := by decide +kernel
theorem dL_law_674 : decode cL_law 674 = .ok (.aload_n 2, 1) := by decide +kernel
theorem dL_law_675 : decode cL_law 675 = .ok (.aload_n 0, 1) := by decide +kernel
theorem dL_law_676 : decode cL_law 676 = .ok (.iload_n 3, 1) := by decide +kernel
theorem dL_law_677 : decode cL_law 677 = .ok (.iconst 1, 1) := by decide +kernel
theorem dL_law_678 : decode cL_law 678 = .ok (.iadd, 1) := by decide +kernel
theorem dL_law_679 : decode cL_law 679 = .ok (.iaload, 1) := by decide +kernel
theorem dL_law_680 : decode cL_law 680 = .ok (.aload_n 0, 1) := by decide +kernel
theorem dL_law_681 : decode cL_law 681 = .ok (.iload_n 3, 1) := by decide +kernel
theorem dL_law_682 : decode cL_law 682 = .ok (.iconst 2, 1) := by decide +kernel
theorem dL_law_683 : decode cL_law 683 = .ok (.iadd, 1) := by decide +kernel
theorem dL_law_684 : decode cL_law 684 = .ok (.iaload, 1) := by decide +kernel
theorem dL_law_685 : decode cL_law 685 = .ok (.aload_n 0, 1) := by decide +kernel
theorem dL_law_686 : decode cL_law 686 = .ok (.iload_n 3, 1) := by decide +kernel
theorem dL_law_687 : decode cL_law 687 = .ok (.iconst 3, 1) := by decide +kernel
theorem dL_law_688 : decode cL_law 688 = .ok (.iadd, 1) := by decide +kernel
theorem dL_law_689 : decode cL_law 689 = .ok (.iaload, 1) := by decide +kernel
theorem dL_law_690 : decode cL_law 690 = .ok (.aload_n 0, 1) := by decide +kernel
theorem dL_law_691 : decode cL_law 691 = .ok (.iload_n 3, 1) := by decide +kernel
theorem dL_law_692 : decode cL_law 692 = .ok (.iconst 4, 1) := by decide +kernel
theorem dL_law_693 : decode cL_law 693 = .ok (.iadd, 1) := by decide +kernel
theorem dL_law_694 : decode cL_law 694 = .ok (.iaload, 1) := by decide +kernel
theorem dL_law_695 : decode cL_law 695 = .ok (.i2l, 1) := by decide +kernel
theorem dL_law_696 : decode cL_law 696 = .ok (.bipush 32, 2) := by decide +kernel
theorem dL_law_698 : decode cL_law 698 = .ok (.lshl, 1) := by decide +kernel
theorem dL_law_699 : decode cL_law 699 = .ok (.aload_n 0, 1) := by decide +kernel
theorem dL_law_700 : decode cL_law 700 = .ok (.iload_n 3, 1) := by decide +kernel
theorem dL_law_701 : decode cL_law 701 = .ok (.iconst 5, 1) := by decide +kernel
theorem dL_law_702 : decode cL_law 702 = .ok (.iadd, 1) := by decide +kernel
theorem dL_law_703 : decode cL_law 703 = .ok (.iaload, 1) := by decide +kernel
theorem dL_law_704 : decode cL_law 704 = .ok (.i2l, 1) := by decide +kernel
theorem dL_law_705 : decode cL_law 705 = .ok (.ldc2_w 13, 3) := by decide +kernel
theorem dL_law_708 : decode cL_law 708 = .ok (.land, 1) := by decide +kernel
theorem dL_law_709 : decode cL_law 709 = .ok (.lor, 1) := by decide +kernel
theorem dL_law_710 : decode cL_law 710 = .ok (.invokevirtual 80, 3) := by decide +kernel
theorem dL_law_713 : decode cL_law 713 = .ok (.if_icmp .eq 141, 3) := by decide +kernel
theorem dL_law_716 : decode cL_law 716 = .ok (.iconst 0, 1) := by decide +kernel
theorem dL_law_717 : decode cL_law 717 = .ok (.ireturn, 1) := by decide +kernel
theorem dL_law_718 : decode cL_law 718 = .ok (.aload_n 1, 1) := by decide +kernel
theorem dL_law_719 : decode cL_law 719 = .ok (.aload_n 0, 1) := by decide +kernel
theorem dL_law_720 : decode cL_law 720 = .ok (.iload_n 3, 1) := by decide +kernel
theorem dL_law_721 : decode cL_law 721 = .ok (.iconst 1, 1) := by decide +kernel
theorem dL_law_722 : decode cL_law 722 = .ok (.iadd, 1) := by decide +kernel
theorem dL_law_723 : decode cL_law 723 = .ok (.iaload, 1) := by decide +kernel
theorem dL_law_724 : decode cL_law 724 = .ok (.aload_n 0, 1) := by decide +kernel
theorem dL_law_725 : decode cL_law 725 = .ok (.iload_n 3, 1) := by decide +kernel
theorem dL_law_726 : decode cL_law 726 = .ok (.iconst 2, 1) := by decide +kernel
theorem dL_law_727 : decode cL_law 727 = .ok (.iadd, 1) := by decide +kernel
theorem dL_law_728 : decode cL_law 728 = .ok (.iaload, 1) := by decide +kernel
theorem dL_law_729 : decode cL_law 729 = .ok (.aload_n 0, 1) := by decide +kernel
theorem dL_law_730 : decode cL_law 730 = .ok (.iload_n 3, 1) := by decide +kernel
theorem dL_law_731 : decode cL_law 731 = .ok (.iconst 3, 1) := by decide +kernel
theorem dL_law_732 : decode cL_law 732 = .ok (.iadd, 1) := by decide +kernel
theorem dL_law_733 : decode cL_law 733 = .ok (.iaload, 1) := by decide +kernel
theorem dL_law_734 : decode cL_law 734 = .ok (.invokevirtual 81, 3) := by decide +kernel
theorem dL_law_737 : decode cL_law 737 = .ok (.aload_n 2, 1) := by decide +kernel
theorem dL_law_738 : decode cL_law 738 = .ok (.aload_n 0, 1) := by decide +kernel
theorem dL_law_739 : decode cL_law 739 = .ok (.iload_n 3, 1) := by decide +kernel
theorem dL_law_740 : decode cL_law 740 = .ok (.iconst 1, 1) := by decide +kernel
theorem dL_law_741 : decode cL_law 741 = .ok (.iadd, 1) := by decide +kernel
theorem dL_law_742 : decode cL_law 742 = .ok (.iaload, 1) := by decide +kernel
theorem dL_law_743 : decode cL_law 743 = .ok (.aload_n 0, 1) := by decide +kernel
theorem dL_law_744 : decode cL_law 744 = .ok (.iload_n 3, 1) := by decide +kernel
theorem dL_law_745 : decode cL_law 745 = .ok (.iconst 2, 1) := by decide +kernel
theorem dL_law_746 : decode cL_law 746 = .ok (.iadd, 1) := by decide +kernel
theorem dL_law_747 : decode cL_law 747 = .ok (.iaload, 1) := by decide +kernel
theorem dL_law_748 : decode cL_law 748 = .ok (.aload_n 0, 1) := by decide +kernel
theorem dL_law_749 : decode cL_law 749 = .ok (.iload_n 3, 1) := by decide +kernel
theorem dL_law_750 : decode cL_law 750 = .ok (.iconst 3, 1) := by decide +kernel
theorem dL_law_751 : decode cL_law 751 = .ok (.iadd, 1) := by decide +kernel
theorem dL_law_752 : decode cL_law 752 = .ok (.iaload, 1) := by decide +kernel
theorem dL_law_753 : decode cL_law 753 = .ok (.invokevirtual 85, 3) := by decide +kernel
theorem dL_law_756 : decode cL_law 756 = .ok (.lcmp, 1) := by decide +kernel
theorem dL_law_757 : decode cL_law 757 = .ok (.ifCond .eq 97, 3) := by decide +kernel
theorem dL_law_760 : decode cL_law 760 = .ok (.iconst 0, 1) := by decide +kernel
theorem dL_law_761 : decode cL_law 761 = .ok (.ireturn, 1) := by decide +kernel
theorem dL_law_762 : decode cL_law 762 = .ok (.aload_n 1, 1) := by decide +kernel
theorem dL_law_763 : decode cL_law 763 = .ok (.aload_n 0, 1) := by decide +kernel
theorem dL_law_764 : decode cL_law 764 = .ok (.iload_n 3, 1) := by decide +kernel
theorem dL_law_765 : decode cL_law 765 = .ok (.iconst 1, 1) := by decide +kernel
theorem dL_law_766 : decode cL_law 766 = .ok (.iadd, 1) := by decide +kernel
theorem dL_law_767 : decode cL_law 767 = .ok (.iaload, 1) := by decide +kernel
theorem dL_law_768 : decode cL_law 768 = .ok (.invokevirtual 86, 3) := by decide +kernel
theorem dL_law_771 : decode cL_law 771 = .ok (.aload_n 2, 1) := by decide +kernel
theorem dL_law_772 : decode cL_law 772 = .ok (.aload_n 0, 1) := by decide +kernel
theorem dL_law_773 : decode cL_law 773 = .ok (.iload_n 3, 1) := by decide +kernel
theorem dL_law_774 : decode cL_law 774 = .ok (.iconst 1, 1) := by decide +kernel
theorem dL_law_775 : decode cL_law 775 = .ok (.iadd, 1) := by decide +kernel
theorem dL_law_776 : decode cL_law 776 = .ok (.iaload, 1) := by decide +kernel
theorem dL_law_777 : decode cL_law 777 = .ok (.invokevirtual 89, 3) := by decide +kernel
theorem dL_law_780 : decode cL_law 780 = .ok (.if_icmp .eq 74, 3) := by decide +kernel
theorem dL_law_783 : decode cL_law 783 = .ok (.iconst 0, 1) := by decide +kernel
theorem dL_law_784 : decode cL_law 784 = .ok (.ireturn, 1) := by decide +kernel
theorem dL_law_785 : decode cL_law 785 = .ok (.aload_n 1, 1) := by decide +kernel
theorem dL_law_786 : decode cL_law 786 = .ok (.aload_n 0, 1) := by decide +kernel
theorem dL_law_787 : decode cL_law 787 = .ok (.iload_n 3, 1) := by decide +kernel
theorem dL_law_788 : decode cL_law 788 = .ok (.iconst 1, 1) := by decide +kernel
theorem dL_law_789 : decode cL_law 789 = .ok (.iadd, 1) := by decide +kernel
theorem dL_law_790 : decode cL_law 790 = .ok (.iaload, 1) := by decide +kernel
theorem dL_law_791 : decode cL_law 791 = .ok (.invokevirtual 90, 3) := by decide +kernel
theorem dL_law_794 : decode cL_law 794 = .ok (.aload_n 2, 1) := by decide +kernel
theorem dL_law_795 : decode cL_law 795 = .ok (.aload_n 0, 1) := by decide +kernel
theorem dL_law_796 : decode cL_law 796 = .ok (.iload_n 3, 1) := by decide +kernel
theorem dL_law_797 : decode cL_law 797 = .ok (.iconst 1, 1) := by decide +kernel
theorem dL_law_798 : decode cL_law 798 = .ok (.iadd, 1) := by decide +kernel
theorem dL_law_799 : decode cL_law 799 = .ok (.iaload, 1) := by decide +kernel
theorem dL_law_800 : decode cL_law 800 = .ok (.invokevirtual 94, 3) := by decide +kernel
theorem dL_law_803 : decode cL_law 803 = .ok (.if_icmp .eq 51, 3) := by decide +kernel
theorem dL_law_806 : decode cL_law 806 = .ok (.iconst 0, 1) := by decide +kernel
theorem dL_law_807 : decode cL_law 807 = .ok (.ireturn, 1) := by decide +kernel
theorem dL_law_808 : decode cL_law 808 = .ok (.aload_n 1, 1) := by decide +kernel
theorem dL_law_809 : decode cL_law 809 = .ok (.aload_n 0, 1) := by decide +kernel
theorem dL_law_810 : decode cL_law 810 = .ok (.iload_n 3, 1) := by decide +kernel
theorem dL_law_811 : decode cL_law 811 = .ok (.iconst 1, 1) := by decide +kernel
theorem dL_law_812 : decode cL_law 812 = .ok (.iadd, 1) := by decide +kernel
theorem dL_law_813 : decode cL_law 813 = .ok (.iaload, 1) := by decide +kernel
theorem dL_law_814 : decode cL_law 814 = .ok (.invokevirtual 95, 3) := by decide +kernel
theorem dL_law_817 : decode cL_law 817 = .ok (.aload_n 2, 1) := by decide +kernel
theorem dL_law_818 : decode cL_law 818 = .ok (.aload_n 0, 1) := by decide +kernel
theorem dL_law_819 : decode cL_law 819 = .ok (.iload_n 3, 1) := by decide +kernel
theorem dL_law_820 : decode cL_law 820 = .ok (.iconst 1, 1) := by decide +kernel
theorem dL_law_821 : decode cL_law 821 = .ok (.iadd, 1) := by decide +kernel
theorem dL_law_822 : decode cL_law 822 = .ok (.iaload, 1) := by decide +kernel
theorem dL_law_823 : decode cL_law 823 = .ok (.invokevirtual 98, 3) := by decide +kernel
theorem dL_law_826 : decode cL_law 826 = .ok (.if_icmp .eq 28, 3) := by decide +kernel
theorem dL_law_829 : decode cL_law 829 = .ok (.iconst 0, 1) := by decide +kernel
theorem dL_law_830 : decode cL_law 830 = .ok (.ireturn, 1) := by decide +kernel
theorem dL_law_831 : decode cL_law 831 = .ok (.aload_n 1, 1) := by decide +kernel
theorem dL_law_832 : decode cL_law 832 = .ok (.aload_n 0, 1) := by decide +kernel
theorem dL_law_833 : decode cL_law 833 = .ok (.iload_n 3, 1) := by decide +kernel
theorem dL_law_834 : decode cL_law 834 = .ok (.iconst 1, 1) := by decide +kernel
theorem dL_law_835 : decode cL_law 835 = .ok (.iadd, 1) := by decide +kernel
theorem dL_law_836 : decode cL_law 836 = .ok (.iaload, 1) := by decide +kernel
theorem dL_law_837 : decode cL_law 837 = .ok (.invokevirtual 99, 3) := by decide +kernel
theorem dL_law_840 : decode cL_law 840 = .ok (.aload_n 2, 1) := by decide +kernel
theorem dL_law_841 : decode cL_law 841 = .ok (.aload_n 0, 1) := by decide +kernel
theorem dL_law_842 : decode cL_law 842 = .ok (.iload_n 3, 1) := by decide +kernel
theorem dL_law_843 : decode cL_law 843 = .ok (.iconst 1, 1) := by decide +kernel
theorem dL_law_844 : decode cL_law 844 = .ok (.iadd, 1) := by decide +kernel
theorem dL_law_845 : decode cL_law 845 = .ok (.iaload, 1) := by decide +kernel
theorem dL_law_846 : decode cL_law 846 = .ok (.invokevirtual 102, 3) := by decide +kernel
theorem dL_law_849 : decode cL_law 849 = .ok (.if_icmp .eq 5, 3) := by decide +kernel
theorem dL_law_852 : decode cL_law 852 = .ok (.iconst 0, 1) := by decide +kernel
theorem dL_law_853 : decode cL_law 853 = .ok (.ireturn, 1) := by decide +kernel
theorem dL_law_854 : decode cL_law 854 = .ok (.iinc 3 6, 3) := by decide +kernel
theorem dL_law_857 : decode cL_law 857 = .ok (.goto (-839), 3) := by decide +kernel
theorem dL_law_860 : decode cL_law 860 = .ok (.iconst 1, 1) := by decide +kernel
theorem dL_law_861 : decode cL_law 861 = .ok (.ireturn, 1) := by decide +kernel
theorem nd11 : ∀ j, j < 18 → defaultValue (px_fty (RX11, TX11, 18) j) = vp_V [.null, .null, .null, .int 0, .null, .null, .null, .null, .null, .null, .null, .null, .null, .int 0, .int 0, .int 0, .int 0, .int 0] j := by decide +kernel
theorem nd15 : ∀ j, j < 47 → defaultValue (px_fty (RX15, TX15, 47) j) = vp_V [.null, .int 0, .null, .int 0, .null, .int 0, .int 0, .int 0, .int 0, .int 0, .int 0, .int 0, .null, .null, .null, .null, .null, .int 0, .int 0, .int 0, .int 0, .null, .null, .null, .null, .null, .int 0, .int 0, .int 0, .int 0, .null, .null, .null, .null, .null, .null, .null, .null, .null, .null, .null, .null, .null, .null, .int 0, .int 0, .null] j := by decide +kernel
theorem mbX11_init : px_mB mX11_init 0 := ⟨tb1 (List.mem_of_getElem? (i := 25) rfl), by decide +kernel, tb1 (List.mem_of_getElem? (i := 1) rfl), by decide +kernel, by decide +kernel⟩
theorem kcL_law_9 : px_cI mL_law 9 mX11_init 0 := ⟨⟨mbX11_init, by decide, by decide⟩, Or.inl (tb1 (List.mem_of_getElem? (i := 23) rfl)), rfl, tb1 (List.mem_of_getElem? (i := 24) rfl), rfl⟩
theorem mbX15_init : px_mB mX15_init 0 := ⟨tb6 (List.mem_of_getElem? (i := 90) rfl), by decide +kernel, tb1 (List.mem_of_getElem? (i := 13) rfl), by decide +kernel, by decide +kernel⟩
theorem kcL_law_12 : px_cI mL_law 12 mX15_init 0 := ⟨⟨mbX15_init, by decide, by decide⟩, Or.inl (tb6 (List.mem_of_getElem? (i := 88) rfl)), rfl, tb6 (List.mem_of_getElem? (i := 89) rfl), rfl⟩
theorem mbX11_giveInput : px_mB mX11_giveInput 2 := ⟨tb3 (List.mem_of_getElem? (i := 96) rfl), by decide +kernel, tb1 (List.mem_of_getElem? (i := 1) rfl), by decide +kernel, by decide +kernel⟩
theorem vbX11_giveInput : px_vB mX11_giveInput := ⟨tb3 (List.mem_of_getElem? (i := 94) rfl), tb3 (List.mem_of_getElem? (i := 95) rfl)⟩
theorem kcL_law_15 : px_cV mL_law 15 mX11_giveInput 2 := ⟨⟨mbX11_giveInput, by decide, by decide⟩, Or.inl (tb3 (List.mem_of_getElem? (i := 93) rfl)), vbX11_giveInput⟩
theorem mbX15_giveInput : px_mB mX15_giveInput 2 := ⟨tb8 (List.mem_of_getElem? (i := 106) rfl), by decide +kernel, tb1 (List.mem_of_getElem? (i := 13) rfl), by decide +kernel, by decide +kernel⟩
theorem vbX15_giveInput : px_vB mX15_giveInput := ⟨tb8 (List.mem_of_getElem? (i := 104) rfl), tb8 (List.mem_of_getElem? (i := 105) rfl)⟩
theorem kcL_law_19 : px_cV mL_law 19 mX15_giveInput 2 := ⟨⟨mbX15_giveInput, by decide, by decide⟩, Or.inl (tb8 (List.mem_of_getElem? (i := 103) rfl)), vbX15_giveInput⟩
theorem mbX11_wipeInput : px_mB mX11_wipeInput 0 := ⟨tb3 (List.mem_of_getElem? (i := 104) rfl), by decide +kernel, tb1 (List.mem_of_getElem? (i := 1) rfl), by decide +kernel, by decide +kernel⟩
theorem vbX11_wipeInput : px_vB mX11_wipeInput := ⟨tb3 (List.mem_of_getElem? (i := 102) rfl), tb3 (List.mem_of_getElem? (i := 103) rfl)⟩
theorem kcL_law_20 : px_cV mL_law 20 mX11_wipeInput 0 := ⟨⟨mbX11_wipeInput, by decide, by decide⟩, Or.inl (tb3 (List.mem_of_getElem? (i := 101) rfl)), vbX11_wipeInput⟩
theorem mbX15_wipeInput : px_mB mX15_wipeInput 0 := ⟨tb8 (List.mem_of_getElem? (i := 110) rfl), by decide +kernel, tb1 (List.mem_of_getElem? (i := 13) rfl), by decide +kernel, by decide +kernel⟩
theorem vbX15_wipeInput : px_vB mX15_wipeInput := ⟨tb8 (List.mem_of_getElem? (i := 108) rfl), tb8 (List.mem_of_getElem? (i := 109) rfl)⟩
theorem kcL_law_23 : px_cV mL_law 23 mX15_wipeInput 0 := ⟨⟨mbX15_wipeInput, by decide, by decide⟩, Or.inl (tb8 (List.mem_of_getElem? (i := 107) rfl)), vbX15_wipeInput⟩
theorem mbX11_takeOutput : px_mB mX11_takeOutput 0 := ⟨tb3 (List.mem_of_getElem? (i := 112) rfl), by decide +kernel, tb1 (List.mem_of_getElem? (i := 1) rfl), by decide +kernel, by decide +kernel⟩
theorem vbX11_takeOutput : px_vB mX11_takeOutput := ⟨tb3 (List.mem_of_getElem? (i := 110) rfl), tb3 (List.mem_of_getElem? (i := 111) rfl)⟩
theorem kcL_law_24 : px_cV mL_law 24 mX11_takeOutput 0 := ⟨⟨mbX11_takeOutput, by decide, by decide⟩, Or.inl (tb3 (List.mem_of_getElem? (i := 109) rfl)), vbX11_takeOutput⟩
theorem mbX15_takeOutput : px_mB mX15_takeOutput 0 := ⟨tb8 (List.mem_of_getElem? (i := 114) rfl), by decide +kernel, tb1 (List.mem_of_getElem? (i := 13) rfl), by decide +kernel, by decide +kernel⟩
theorem vbX15_takeOutput : px_vB mX15_takeOutput := ⟨tb8 (List.mem_of_getElem? (i := 112) rfl), tb8 (List.mem_of_getElem? (i := 113) rfl)⟩
theorem kcL_law_27 : px_cV mL_law 27 mX15_takeOutput 0 := ⟨⟨mbX15_takeOutput, by decide, by decide⟩, Or.inl (tb8 (List.mem_of_getElem? (i := 111) rfl)), vbX15_takeOutput⟩
theorem mbX11_openInput : px_mB mX11_openInput 0 := ⟨tb3 (List.mem_of_getElem? (i := 131) rfl), by decide +kernel, tb1 (List.mem_of_getElem? (i := 1) rfl), by decide +kernel, by decide +kernel⟩
theorem vbX11_openInput : px_vB mX11_openInput := ⟨tb3 (List.mem_of_getElem? (i := 129) rfl), tb3 (List.mem_of_getElem? (i := 130) rfl)⟩
theorem kcL_law_28 : px_cV mL_law 28 mX11_openInput 0 := ⟨⟨mbX11_openInput, by decide, by decide⟩, Or.inl (tb3 (List.mem_of_getElem? (i := 128) rfl)), vbX11_openInput⟩
theorem mbX15_openInput : px_mB mX15_openInput 0 := ⟨tb8 (List.mem_of_getElem? (i := 118) rfl), by decide +kernel, tb1 (List.mem_of_getElem? (i := 13) rfl), by decide +kernel, by decide +kernel⟩
theorem vbX15_openInput : px_vB mX15_openInput := ⟨tb8 (List.mem_of_getElem? (i := 116) rfl), tb8 (List.mem_of_getElem? (i := 117) rfl)⟩
theorem kcL_law_32 : px_cV mL_law 32 mX15_openInput 0 := ⟨⟨mbX15_openInput, by decide, by decide⟩, Or.inl (tb8 (List.mem_of_getElem? (i := 115) rfl)), vbX15_openInput⟩
theorem mbX11_saveAs : px_mB mX11_saveAs 2 := ⟨tb4 (List.mem_of_getElem? (i := 174) rfl), by decide +kernel, tb1 (List.mem_of_getElem? (i := 1) rfl), by decide +kernel, by decide +kernel⟩
theorem vbX11_saveAs : px_vB mX11_saveAs := ⟨tb4 (List.mem_of_getElem? (i := 172) rfl), tb4 (List.mem_of_getElem? (i := 173) rfl)⟩
theorem kcL_law_33 : px_cV mL_law 33 mX11_saveAs 2 := ⟨⟨mbX11_saveAs, by decide, by decide⟩, Or.inl (tb4 (List.mem_of_getElem? (i := 171) rfl)), vbX11_saveAs⟩
theorem mbX15_saveAs : px_mB mX15_saveAs 2 := ⟨tb9 (List.mem_of_getElem? (i := 121) rfl), by decide +kernel, tb1 (List.mem_of_getElem? (i := 13) rfl), by decide +kernel, by decide +kernel⟩
theorem vbX15_saveAs : px_vB mX15_saveAs := ⟨tb9 (List.mem_of_getElem? (i := 119) rfl), tb9 (List.mem_of_getElem? (i := 120) rfl)⟩
theorem kcL_law_37 : px_cV mL_law 37 mX15_saveAs 2 := ⟨⟨mbX15_saveAs, by decide, by decide⟩, Or.inl (tb9 (List.mem_of_getElem? (i := 118) rfl)), vbX15_saveAs⟩
theorem mbX11_paintFrom : px_mB mX11_paintFrom 5 := ⟨tb5 (List.mem_of_getElem? (i := 106) rfl), by decide +kernel, tb1 (List.mem_of_getElem? (i := 1) rfl), by decide +kernel, by decide +kernel⟩
theorem vbX11_paintFrom : px_vB mX11_paintFrom := ⟨tb5 (List.mem_of_getElem? (i := 104) rfl), tb5 (List.mem_of_getElem? (i := 105) rfl)⟩
theorem kcL_law_38 : px_cV mL_law 38 mX11_paintFrom 5 := ⟨⟨mbX11_paintFrom, by decide, by decide⟩, Or.inl (tb5 (List.mem_of_getElem? (i := 103) rfl)), vbX11_paintFrom⟩
theorem mbX15_paintFrom : px_mB mX15_paintFrom 5 := ⟨tb10 (List.mem_of_getElem? (i := 16) rfl), by decide +kernel, tb1 (List.mem_of_getElem? (i := 13) rfl), by decide +kernel, by decide +kernel⟩
theorem vbX15_paintFrom : px_vB mX15_paintFrom := ⟨tb10 (List.mem_of_getElem? (i := 14) rfl), tb10 (List.mem_of_getElem? (i := 15) rfl)⟩
theorem kcL_law_42 : px_cV mL_law 42 mX15_paintFrom 5 := ⟨⟨mbX15_paintFrom, by decide, by decide⟩, Or.inl (tb10 (List.mem_of_getElem? (i := 13) rfl)), vbX15_paintFrom⟩
theorem mbX11_showAt : px_mB mX11_showAt 2 := ⟨tb5 (List.mem_of_getElem? (i := 160) rfl), by decide +kernel, tb1 (List.mem_of_getElem? (i := 1) rfl), by decide +kernel, by decide +kernel⟩
theorem vbX11_showAt : px_vB mX11_showAt := ⟨tb5 (List.mem_of_getElem? (i := 158) rfl), tb5 (List.mem_of_getElem? (i := 159) rfl)⟩
theorem kcL_law_43 : px_cV mL_law 43 mX11_showAt 2 := ⟨⟨mbX11_showAt, by decide, by decide⟩, Or.inl (tb5 (List.mem_of_getElem? (i := 157) rfl)), vbX11_showAt⟩
theorem mbX15_showAt : px_mB mX15_showAt 2 := ⟨tb10 (List.mem_of_getElem? (i := 57) rfl), by decide +kernel, tb1 (List.mem_of_getElem? (i := 13) rfl), by decide +kernel, by decide +kernel⟩
theorem vbX15_showAt : px_vB mX15_showAt := ⟨tb10 (List.mem_of_getElem? (i := 55) rfl), tb10 (List.mem_of_getElem? (i := 56) rfl)⟩
theorem kcL_law_47 : px_cV mL_law 47 mX15_showAt 2 := ⟨⟨mbX15_showAt, by decide, by decide⟩, Or.inl (tb10 (List.mem_of_getElem? (i := 54) rfl)), vbX15_showAt⟩
theorem mbX11_turnBy : px_mB mX11_turnBy 1 := ⟨tb5 (List.mem_of_getElem? (i := 197) rfl), by decide +kernel, tb1 (List.mem_of_getElem? (i := 1) rfl), by decide +kernel, by decide +kernel⟩
theorem vbX11_turnBy : px_vB mX11_turnBy := ⟨tb5 (List.mem_of_getElem? (i := 195) rfl), tb5 (List.mem_of_getElem? (i := 196) rfl)⟩
theorem kcL_law_48 : px_cV mL_law 48 mX11_turnBy 1 := ⟨⟨mbX11_turnBy, by decide, by decide⟩, Or.inl (tb5 (List.mem_of_getElem? (i := 194) rfl)), vbX11_turnBy⟩
theorem mbX15_turnBy : px_mB mX15_turnBy 1 := ⟨tb10 (List.mem_of_getElem? (i := 74) rfl), by decide +kernel, tb1 (List.mem_of_getElem? (i := 13) rfl), by decide +kernel, by decide +kernel⟩
theorem vbX15_turnBy : px_vB mX15_turnBy := ⟨tb10 (List.mem_of_getElem? (i := 72) rfl), tb10 (List.mem_of_getElem? (i := 73) rfl)⟩
theorem kcL_law_52 : px_cV mL_law 52 mX15_turnBy 1 := ⟨⟨mbX15_turnBy, by decide, by decide⟩, Or.inl (tb10 (List.mem_of_getElem? (i := 71) rfl)), vbX15_turnBy⟩
theorem mbX11_cropTo : px_mB mX11_cropTo 4 := ⟨tb5 (List.mem_of_getElem? (i := 222) rfl), by decide +kernel, tb1 (List.mem_of_getElem? (i := 1) rfl), by decide +kernel, by decide +kernel⟩
theorem vbX11_cropTo : px_vB mX11_cropTo := ⟨tb5 (List.mem_of_getElem? (i := 220) rfl), tb5 (List.mem_of_getElem? (i := 221) rfl)⟩
theorem kcL_law_53 : px_cV mL_law 53 mX11_cropTo 4 := ⟨⟨mbX11_cropTo, by decide, by decide⟩, Or.inl (tb5 (List.mem_of_getElem? (i := 219) rfl)), vbX11_cropTo⟩
theorem mbX15_cropTo : px_mB mX15_cropTo 4 := ⟨tb10 (List.mem_of_getElem? (i := 90) rfl), by decide +kernel, tb1 (List.mem_of_getElem? (i := 13) rfl), by decide +kernel, by decide +kernel⟩
theorem vbX15_cropTo : px_vB mX15_cropTo := ⟨tb10 (List.mem_of_getElem? (i := 88) rfl), tb10 (List.mem_of_getElem? (i := 89) rfl)⟩
theorem kcL_law_57 : px_cV mL_law 57 mX15_cropTo 4 := ⟨⟨mbX15_cropTo, by decide, by decide⟩, Or.inl (tb10 (List.mem_of_getElem? (i := 87) rfl)), vbX15_cropTo⟩
theorem mbX11_setCoefficient : px_mB mX11_setCoefficient 5 := ⟨tb5 (List.mem_of_getElem? (i := 232) rfl), by decide +kernel, tb1 (List.mem_of_getElem? (i := 1) rfl), by decide +kernel, by decide +kernel⟩
theorem vbX11_setCoefficient : px_vB mX11_setCoefficient := ⟨tb5 (List.mem_of_getElem? (i := 230) rfl), tb5 (List.mem_of_getElem? (i := 231) rfl)⟩
theorem kcL_law_58 : px_cV mL_law 58 mX11_setCoefficient 5 := ⟨⟨mbX11_setCoefficient, by decide, by decide⟩, Or.inl (tb5 (List.mem_of_getElem? (i := 229) rfl)), vbX11_setCoefficient⟩
theorem mbX15_setCoefficient : px_mB mX15_setCoefficient 5 := ⟨tb10 (List.mem_of_getElem? (i := 94) rfl), by decide +kernel, tb1 (List.mem_of_getElem? (i := 13) rfl), by decide +kernel, by decide +kernel⟩
theorem vbX15_setCoefficient : px_vB mX15_setCoefficient := ⟨tb10 (List.mem_of_getElem? (i := 92) rfl), tb10 (List.mem_of_getElem? (i := 93) rfl)⟩
theorem kcL_law_61 : px_cV mL_law 61 mX15_setCoefficient 5 := ⟨⟨mbX15_setCoefficient, by decide, by decide⟩, Or.inl (tb10 (List.mem_of_getElem? (i := 91) rfl)), vbX15_setCoefficient⟩
theorem mbX11_coefficientAt : px_mB mX11_coefficientAt 4 := ⟨tb6 (List.mem_of_getElem? (i := 1) rfl), by decide +kernel, tb1 (List.mem_of_getElem? (i := 1) rfl), by decide +kernel, by decide +kernel⟩
theorem vbX11_coefficientAt : px_vB mX11_coefficientAt := ⟨tb5 (List.mem_of_getElem? (i := 239) rfl), tb6 (List.mem_of_getElem? (i := 0) rfl)⟩
theorem kcL_law_62 : px_cV mL_law 62 mX11_coefficientAt 4 := ⟨⟨mbX11_coefficientAt, by decide, by decide⟩, Or.inl (tb5 (List.mem_of_getElem? (i := 238) rfl)), vbX11_coefficientAt⟩
theorem mbX15_coefficientAt : px_mB mX15_coefficientAt 4 := ⟨tb10 (List.mem_of_getElem? (i := 105) rfl), by decide +kernel, tb1 (List.mem_of_getElem? (i := 13) rfl), by decide +kernel, by decide +kernel⟩
theorem vbX15_coefficientAt : px_vB mX15_coefficientAt := ⟨tb10 (List.mem_of_getElem? (i := 103) rfl), tb10 (List.mem_of_getElem? (i := 104) rfl)⟩
theorem kcL_law_66 : px_cV mL_law 66 mX15_coefficientAt 4 := ⟨⟨mbX15_coefficientAt, by decide, by decide⟩, Or.inl (tb10 (List.mem_of_getElem? (i := 102) rfl)), vbX15_coefficientAt⟩
theorem mbX11_stepAt : px_mB mX11_stepAt 2 := ⟨tb6 (List.mem_of_getElem? (i := 5) rfl), by decide +kernel, tb1 (List.mem_of_getElem? (i := 1) rfl), by decide +kernel, by decide +kernel⟩
theorem vbX11_stepAt : px_vB mX11_stepAt := ⟨tb6 (List.mem_of_getElem? (i := 3) rfl), tb6 (List.mem_of_getElem? (i := 4) rfl)⟩
theorem kcL_law_67 : px_cV mL_law 67 mX11_stepAt 2 := ⟨⟨mbX11_stepAt, by decide, by decide⟩, Or.inl (tb6 (List.mem_of_getElem? (i := 2) rfl)), vbX11_stepAt⟩
theorem mbX15_stepAt : px_mB mX15_stepAt 2 := ⟨tb10 (List.mem_of_getElem? (i := 109) rfl), by decide +kernel, tb1 (List.mem_of_getElem? (i := 13) rfl), by decide +kernel, by decide +kernel⟩
theorem vbX15_stepAt : px_vB mX15_stepAt := ⟨tb10 (List.mem_of_getElem? (i := 107) rfl), tb10 (List.mem_of_getElem? (i := 108) rfl)⟩
theorem kcL_law_70 : px_cV mL_law 70 mX15_stepAt 2 := ⟨⟨mbX15_stepAt, by decide, by decide⟩, Or.inl (tb10 (List.mem_of_getElem? (i := 106) rfl)), vbX15_stepAt⟩
theorem mbX11_canvasSize : px_mB mX11_canvasSize 3 := ⟨tb6 (List.mem_of_getElem? (i := 26) rfl), by decide +kernel, tb1 (List.mem_of_getElem? (i := 1) rfl), by decide +kernel, by decide +kernel⟩
theorem vbX11_canvasSize : px_vB mX11_canvasSize := ⟨tb6 (List.mem_of_getElem? (i := 24) rfl), tb6 (List.mem_of_getElem? (i := 25) rfl)⟩
theorem kcL_law_71 : px_cV mL_law 71 mX11_canvasSize 3 := ⟨⟨mbX11_canvasSize, by decide, by decide⟩, Or.inl (tb6 (List.mem_of_getElem? (i := 23) rfl)), vbX11_canvasSize⟩
theorem mbX15_canvasSize : px_mB mX15_canvasSize 3 := ⟨tb10 (List.mem_of_getElem? (i := 113) rfl), by decide +kernel, tb1 (List.mem_of_getElem? (i := 13) rfl), by decide +kernel, by decide +kernel⟩
theorem vbX15_canvasSize : px_vB mX15_canvasSize := ⟨tb10 (List.mem_of_getElem? (i := 111) rfl), tb10 (List.mem_of_getElem? (i := 112) rfl)⟩
theorem kcL_law_75 : px_cV mL_law 75 mX15_canvasSize 3 := ⟨⟨mbX15_canvasSize, by decide, by decide⟩, Or.inl (tb10 (List.mem_of_getElem? (i := 110) rfl)), vbX15_canvasSize⟩
theorem mbX11_canvasRow : px_mB mX11_canvasRow 4 := ⟨tb6 (List.mem_of_getElem? (i := 35) rfl), by decide +kernel, tb1 (List.mem_of_getElem? (i := 1) rfl), by decide +kernel, by decide +kernel⟩
theorem vbX11_canvasRow : px_vB mX11_canvasRow := ⟨tb6 (List.mem_of_getElem? (i := 33) rfl), tb6 (List.mem_of_getElem? (i := 34) rfl)⟩
theorem kcL_law_76 : px_cV mL_law 76 mX11_canvasRow 4 := ⟨⟨mbX11_canvasRow, by decide, by decide⟩, Or.inl (tb6 (List.mem_of_getElem? (i := 32) rfl)), vbX11_canvasRow⟩
theorem mbX15_canvasRow : px_mB mX15_canvasRow 4 := ⟨tb10 (List.mem_of_getElem? (i := 120) rfl), by decide +kernel, tb1 (List.mem_of_getElem? (i := 13) rfl), by decide +kernel, by decide +kernel⟩
theorem vbX15_canvasRow : px_vB mX15_canvasRow := ⟨tb10 (List.mem_of_getElem? (i := 118) rfl), tb10 (List.mem_of_getElem? (i := 119) rfl)⟩
theorem kcL_law_80 : px_cV mL_law 80 mX15_canvasRow 4 := ⟨⟨mbX15_canvasRow, by decide, by decide⟩, Or.inl (tb10 (List.mem_of_getElem? (i := 117) rfl)), vbX15_canvasRow⟩
theorem mbX11_canvasEight : px_mB mX11_canvasEight 3 := ⟨tb6 (List.mem_of_getElem? (i := 39) rfl), by decide +kernel, tb1 (List.mem_of_getElem? (i := 1) rfl), by decide +kernel, by decide +kernel⟩
theorem vbX11_canvasEight : px_vB mX11_canvasEight := ⟨tb6 (List.mem_of_getElem? (i := 37) rfl), tb6 (List.mem_of_getElem? (i := 38) rfl)⟩
theorem kcL_law_81 : px_cV mL_law 81 mX11_canvasEight 3 := ⟨⟨mbX11_canvasEight, by decide, by decide⟩, Or.inl (tb6 (List.mem_of_getElem? (i := 36) rfl)), vbX11_canvasEight⟩
theorem mbX15_canvasEight : px_mB mX15_canvasEight 3 := ⟨tb10 (List.mem_of_getElem? (i := 128) rfl), by decide +kernel, tb1 (List.mem_of_getElem? (i := 13) rfl), by decide +kernel, by decide +kernel⟩
theorem vbX15_canvasEight : px_vB mX15_canvasEight := ⟨tb10 (List.mem_of_getElem? (i := 126) rfl), tb10 (List.mem_of_getElem? (i := 127) rfl)⟩
theorem kcL_law_85 : px_cV mL_law 85 mX15_canvasEight 3 := ⟨⟨mbX15_canvasEight, by decide, by decide⟩, Or.inl (tb10 (List.mem_of_getElem? (i := 125) rfl)), vbX15_canvasEight⟩
theorem mbX11_mixCanvas : px_mB mX11_mixCanvas 1 := ⟨tb6 (List.mem_of_getElem? (i := 43) rfl), by decide +kernel, tb1 (List.mem_of_getElem? (i := 1) rfl), by decide +kernel, by decide +kernel⟩
theorem vbX11_mixCanvas : px_vB mX11_mixCanvas := ⟨tb6 (List.mem_of_getElem? (i := 41) rfl), tb6 (List.mem_of_getElem? (i := 42) rfl)⟩
theorem kcL_law_86 : px_cV mL_law 86 mX11_mixCanvas 1 := ⟨⟨mbX11_mixCanvas, by decide, by decide⟩, Or.inl (tb6 (List.mem_of_getElem? (i := 40) rfl)), vbX11_mixCanvas⟩
theorem mbX15_mixCanvas : px_mB mX15_mixCanvas 1 := ⟨tb10 (List.mem_of_getElem? (i := 132) rfl), by decide +kernel, tb1 (List.mem_of_getElem? (i := 13) rfl), by decide +kernel, by decide +kernel⟩
theorem vbX15_mixCanvas : px_vB mX15_mixCanvas := ⟨tb10 (List.mem_of_getElem? (i := 130) rfl), tb10 (List.mem_of_getElem? (i := 131) rfl)⟩
theorem kcL_law_89 : px_cV mL_law 89 mX15_mixCanvas 1 := ⟨⟨mbX15_mixCanvas, by decide, by decide⟩, Or.inl (tb10 (List.mem_of_getElem? (i := 129) rfl)), vbX15_mixCanvas⟩
theorem mbX11_outputAt : px_mB mX11_outputAt 1 := ⟨tb3 (List.mem_of_getElem? (i := 123) rfl), by decide +kernel, tb1 (List.mem_of_getElem? (i := 1) rfl), by decide +kernel, by decide +kernel⟩
theorem vbX11_outputAt : px_vB mX11_outputAt := ⟨tb3 (List.mem_of_getElem? (i := 121) rfl), tb3 (List.mem_of_getElem? (i := 122) rfl)⟩
theorem kcL_law_90 : px_cV mL_law 90 mX11_outputAt 1 := ⟨⟨mbX11_outputAt, by decide, by decide⟩, Or.inl (tb3 (List.mem_of_getElem? (i := 120) rfl)), vbX11_outputAt⟩
theorem mbX15_outputAt : px_mB mX15_outputAt 1 := ⟨tb10 (List.mem_of_getElem? (i := 151) rfl), by decide +kernel, tb1 (List.mem_of_getElem? (i := 13) rfl), by decide +kernel, by decide +kernel⟩
theorem vbX15_outputAt : px_vB mX15_outputAt := ⟨tb10 (List.mem_of_getElem? (i := 149) rfl), tb10 (List.mem_of_getElem? (i := 150) rfl)⟩
theorem kcL_law_94 : px_cV mL_law 94 mX15_outputAt 1 := ⟨⟨mbX15_outputAt, by decide, by decide⟩, Or.inl (tb10 (List.mem_of_getElem? (i := 148) rfl)), vbX15_outputAt⟩
theorem mbX11_aboutPicture : px_mB mX11_aboutPicture 1 := ⟨tb6 (List.mem_of_getElem? (i := 9) rfl), by decide +kernel, tb1 (List.mem_of_getElem? (i := 1) rfl), by decide +kernel, by decide +kernel⟩
theorem vbX11_aboutPicture : px_vB mX11_aboutPicture := ⟨tb6 (List.mem_of_getElem? (i := 7) rfl), tb6 (List.mem_of_getElem? (i := 8) rfl)⟩
theorem kcL_law_95 : px_cV mL_law 95 mX11_aboutPicture 1 := ⟨⟨mbX11_aboutPicture, by decide, by decide⟩, Or.inl (tb6 (List.mem_of_getElem? (i := 6) rfl)), vbX11_aboutPicture⟩
theorem mbX15_aboutPicture : px_mB mX15_aboutPicture 1 := ⟨tb10 (List.mem_of_getElem? (i := 155) rfl), by decide +kernel, tb1 (List.mem_of_getElem? (i := 13) rfl), by decide +kernel, by decide +kernel⟩
theorem vbX15_aboutPicture : px_vB mX15_aboutPicture := ⟨tb10 (List.mem_of_getElem? (i := 153) rfl), tb10 (List.mem_of_getElem? (i := 154) rfl)⟩
theorem kcL_law_98 : px_cV mL_law 98 mX15_aboutPicture 1 := ⟨⟨mbX15_aboutPicture, by decide, by decide⟩, Or.inl (tb10 (List.mem_of_getElem? (i := 152) rfl)), vbX15_aboutPicture⟩
theorem mbX11_statusOf : px_mB mX11_statusOf 1 := ⟨tb6 (List.mem_of_getElem? (i := 85) rfl), by decide +kernel, tb1 (List.mem_of_getElem? (i := 1) rfl), by decide +kernel, by decide +kernel⟩
theorem vbX11_statusOf : px_vB mX11_statusOf := ⟨tb6 (List.mem_of_getElem? (i := 83) rfl), tb6 (List.mem_of_getElem? (i := 84) rfl)⟩
theorem kcL_law_99 : px_cV mL_law 99 mX11_statusOf 1 := ⟨⟨mbX11_statusOf, by decide, by decide⟩, Or.inl (tb6 (List.mem_of_getElem? (i := 82) rfl)), vbX11_statusOf⟩
theorem mbX15_statusOf : px_mB mX15_statusOf 1 := ⟨tb10 (List.mem_of_getElem? (i := 167) rfl), by decide +kernel, tb1 (List.mem_of_getElem? (i := 13) rfl), by decide +kernel, by decide +kernel⟩
theorem vbX15_statusOf : px_vB mX15_statusOf := ⟨tb10 (List.mem_of_getElem? (i := 165) rfl), tb10 (List.mem_of_getElem? (i := 166) rfl)⟩
theorem kcL_law_102 : px_cV mL_law 102 mX15_statusOf 1 := ⟨⟨mbX15_statusOf, by decide, by decide⟩, Or.inl (tb10 (List.mem_of_getElem? (i := 164) rfl)), vbX15_statusOf⟩
set_option maxRecDepth 100000 in
set_option maxHeartbeats 4000000 in
theorem eL_law_854 {X : px_X} {k18 : Nat → Nat → Nat → Int32 → px_W → Option (Int32 × px_W)} (hk18 : ∀ (a0 : Nat) (a1 : Nat) (a2 : Nat) (a3 : Int32) (w : px_W) (q : Int32 × px_W), k18 a0 a1 a2 a3 w = some q → EV X mL_law 18 [(0, .ref a0), (1, .ref a1), (2, .ref a2), (3, .int a3)] [] w (some (.int q.1)) q.2) : ∀ (a0 : Nat) (a1 : Nat) (a2 : Nat) (a3 : Int32) (w : px_W) (q : Int32 × px_W), fL_law_854 X k18 a0 a1 a2 a3 w = some q → EV X mL_law 854 [(0, .ref a0), (1, .ref a1), (2, .ref a2), (3, .int a3)] [] w (some (.int q.1)) q.2 := by
  intro a0 a1 a2 a3 w q h
  unfold fL_law_854 at h
  refine EV.iinc 3 (a3 + 6) [(3, .int (a3 + 6)), (0, .ref a0), (1, .ref a1), (2, .ref a2)] dL_law_854 rfl rfl (by decide) rfl ?_
  refine EV.goto 18 dL_law_857 (by decide) ?_
  refine EV.sub [1, 2, 3, 0] rfl ?_
  exact hk18 _ _ _ _ _ _ h
set_option maxRecDepth 100000 in
set_option maxHeartbeats 4000000 in
theorem eL_law_359 {X : px_X} {k18 : Nat → Nat → Nat → Int32 → px_W → Option (Int32 × px_W)} (hk18 : ∀ (a0 : Nat) (a1 : Nat) (a2 : Nat) (a3 : Int32) (w : px_W) (q : Int32 × px_W), k18 a0 a1 a2 a3 w = some q → EV X mL_law 18 [(0, .ref a0), (1, .ref a1), (2, .ref a2), (3, .int a3)] [] w (some (.int q.1)) q.2) : ∀ (a0 : Nat) (a1 : Nat) (a2 : Nat) (a3 : Int32) (s0 : Int32) (s1 : Int32) (s2 : Nat) (s3 : Int32) (w : px_W) (q : Int32 × px_W), fL_law_359 X k18 a0 a1 a2 a3 s0 s1 s2 s3 w = some q → EV X mL_law 359 [(0, .ref a0), (1, .ref a1), (2, .ref a2), (3, .int a3)] [.int s0, .int s1, .ref s2, .int s3] w (some (.int q.1)) q.2 := by
  intro a0 a1 a2 a3 s0 s1 s2 s3 w q h
  unfold fL_law_359 at h
  obtain ⟨o169, go169, h⟩ := px_bs h
  obtain ⟨q170, gq170, h⟩ := px_bs h
  refine EV.callV (As := [.int s1, .int s0]) (rest := [.int s3]) dL_law_359 kcL_law_47 (gO_ok go169) rfl rfl rfl (Nat.le_of_ble_eq_true rfl) (Nat.le_of_ble_eq_true rfl) (eX15_showAt gq170) ?_
  refine EV.icmp_eq 854 dL_law_362 (by decide) (fun c171 => ?_) (fun c171 => ?_)
  · rw [if_pos c171] at h
    refine EV.sub [0, 1, 2, 3] rfl ?_
    exact eL_law_854 hk18 _ _ _ _ _ _ h
  · rw [if_neg c171] at h
    refine EV.iconst (0) dL_law_365 (by decide) ?_
    cases h
    exact EV.reti dL_law_366 rfl
set_option maxRecDepth 100000 in
set_option maxHeartbeats 4000000 in
theorem eL_law_337 {X : px_X} {k18 : Nat → Nat → Nat → Int32 → px_W → Option (Int32 × px_W)} (hk18 : ∀ (a0 : Nat) (a1 : Nat) (a2 : Nat) (a3 : Int32) (w : px_W) (q : Int32 × px_W), k18 a0 a1 a2 a3 w = some q → EV X mL_law 18 [(0, .ref a0), (1, .ref a1), (2, .ref a2), (3, .int a3)] [] w (some (.int q.1)) q.2) : ∀ (a0 : Nat) (a1 : Nat) (a2 : Nat) (a3 : Int32) (s0 : Int32) (s1 : Int32) (s2 : Nat) (w : px_W) (q : Int32 × px_W), fL_law_337 X k18 a0 a1 a2 a3 s0 s1 s2 w = some q → EV X mL_law 337 [(0, .ref a0), (1, .ref a1), (2, .ref a2), (3, .int a3)] [.int s0, .int s1, .ref s2] w (some (.int q.1)) q.2 := by
  intro a0 a1 a2 a3 s0 s1 s2 w q h
  unfold fL_law_337 at h
  obtain ⟨o172, go172, h⟩ := px_bs h
  obtain ⟨q173, gq173, h⟩ := px_bs h
  refine EV.callV (As := [.int s1, .int s0]) (rest := []) dL_law_337 kcL_law_43 (gO_ok go172) rfl rfl rfl (Nat.le_of_ble_eq_true rfl) (Nat.le_of_ble_eq_true rfl) (eX11_showAt gq173) ?_
  refine EV.aload_n 2 dL_law_340 rfl rfl ?_
  refine EV.aload_n 0 dL_law_341 rfl rfl ?_
  refine EV.iload_n 3 dL_law_342 rfl rfl ?_
  refine EV.iconst (1) dL_law_343 (by decide) ?_
  refine EV.iadd dL_law_344 ?_
  obtain ⟨v174, gv174, h⟩ := px_bs h
  refine ev_aX dL_law_345 gv174 ?_
  refine EV.aload_n 0 dL_law_346 rfl rfl ?_
  refine EV.iload_n 3 dL_law_347 rfl rfl ?_
  refine EV.iconst (2) dL_law_348 (by decide) ?_
  refine EV.iadd dL_law_349 ?_
  obtain ⟨v175, gv175, h⟩ := px_bs h
  refine ev_aX dL_law_350 gv175 ?_
  refine EV.if_eq 358 dL_law_351 (by decide) (fun c176 => ?_) (fun c176 => ?_)
  · rw [if_pos c176] at h
    refine EV.iconst (0) dL_law_358 (by decide) ?_
    refine EV.sub [0, 1, 2, 3] rfl ?_
    exact eL_law_359 hk18 _ _ _ _ _ _ _ _ _ _ h
  · rw [if_neg c176] at h
    refine EV.iconst (1) dL_law_354 (by decide) ?_
    refine EV.goto 359 dL_law_355 (by decide) ?_
    refine EV.sub [0, 1, 2, 3] rfl ?_
    exact eL_law_359 hk18 _ _ _ _ _ _ _ _ _ _ h
set_option maxRecDepth 100000 in
set_option maxHeartbeats 4000000 in
theorem eL_law_18 {X : px_X}  : ∀ (m : Nat) (a0 : Nat) (a1 : Nat) (a2 : Nat) (a3 : Int32) (w : px_W) (q : Int32 × px_W), fL_law_18 X  m a0 a1 a2 a3 w = some q → EV X mL_law 18 [(0, .ref a0), (1, .ref a1), (2, .ref a2), (3, .int a3)] [] w (some (.int q.1)) q.2 := by
  intro m
  induction m with
  | zero => intro a0 a1 a2 a3 w q h; cases h
  | succ m ih =>
    intro a0 a1 a2 a3 w q h
    rw [fL_law_18.eq_2] at h
    refine EV.iload_n 3 dL_law_18 rfl rfl ?_
    refine EV.aload_n 0 dL_law_19 rfl rfl ?_
    obtain ⟨v177, gv177, h⟩ := px_bs h
    refine ev_aLX dL_law_20 gv177 ?_
    refine EV.bipush (6) dL_law_21 (by decide) ?_
    refine EV.isub dL_law_23 ?_
    refine EV.icmp_gt 860 dL_law_24 (by decide) (fun c178 => ?_) (fun c178 => ?_)
    · rw [if_pos c178] at h
      refine EV.iconst (1) dL_law_860 (by decide) ?_
      cases h
      exact EV.reti dL_law_861 rfl
    · rw [if_neg c178] at h
      refine EV.aload_n 0 dL_law_27 rfl rfl ?_
      refine EV.iload_n 3 dL_law_28 rfl rfl ?_
      obtain ⟨v179, gv179, h⟩ := px_bs h
      refine ev_aX dL_law_29 gv179 ?_
      refine EV.bipush (31) dL_law_30 (by decide) ?_
      refine EV.iand dL_law_32 ?_
      by_cases c180 : (v179 &&& 31) = 0
      · rw [if_pos c180] at h
        refine EV.tableIn 124 dL_law_33 (by rw [c180]; decide) (by rw [c180]; decide) (by rw [c180]; rfl) (by decide) ?_
        refine EV.aload_n 1 dL_law_124 rfl rfl ?_
        refine EV.aload_n 0 dL_law_125 rfl rfl ?_
        refine EV.iload_n 3 dL_law_126 rfl rfl ?_
        refine EV.iconst (1) dL_law_127 (by decide) ?_
        refine EV.iadd dL_law_128 ?_
        obtain ⟨v181, gv181, h⟩ := px_bs h
        refine ev_aX dL_law_129 gv181 ?_
        refine EV.i2l dL_law_130 ?_
        refine EV.bipush (32) dL_law_131 (by decide) ?_
        refine EV.lshl dL_law_133 ?_
        refine EV.aload_n 0 dL_law_134 rfl rfl ?_
        refine EV.iload_n 3 dL_law_135 rfl rfl ?_
        refine EV.iconst (2) dL_law_136 (by decide) ?_
        refine EV.iadd dL_law_137 ?_
        obtain ⟨v182, gv182, h⟩ := px_bs h
        refine ev_aX dL_law_138 gv182 ?_
        refine EV.i2l dL_law_139 ?_
        refine EV.ldc2 (v := 4294967295) dL_law_140 (tb10 (List.mem_of_getElem? (i := 168) rfl)) ?_
        refine EV.land dL_law_143 ?_
        refine EV.lor dL_law_144 ?_
        refine EV.aload_n 0 dL_law_145 rfl rfl ?_
        refine EV.iload_n 3 dL_law_146 rfl rfl ?_
        refine EV.iconst (3) dL_law_147 (by decide) ?_
        refine EV.iadd dL_law_148 ?_
        obtain ⟨v183, gv183, h⟩ := px_bs h
        refine ev_aX dL_law_149 gv183 ?_
        obtain ⟨o184, go184, h⟩ := px_bs h
        obtain ⟨q185, gq185, h⟩ := px_bs h
        refine EV.callV (As := [.long ((v181.toInt64 <<< ((32 : Int32).toInt64 &&& 63)) ||| (v182.toInt64 &&& 4294967295)), .int v183]) (rest := []) dL_law_150 kcL_law_15 (gO_ok go184) rfl rfl rfl (Nat.le_of_ble_eq_true rfl) (Nat.le_of_ble_eq_true rfl) (eX11_giveInput gq185) ?_
        refine EV.aload_n 2 dL_law_153 rfl rfl ?_
        refine EV.aload_n 0 dL_law_154 rfl rfl ?_
        refine EV.iload_n 3 dL_law_155 rfl rfl ?_
        refine EV.iconst (1) dL_law_156 (by decide) ?_
        refine EV.iadd dL_law_157 ?_
        obtain ⟨v186, gv186, h⟩ := px_bs h
        refine ev_aX dL_law_158 gv186 ?_
        refine EV.i2l dL_law_159 ?_
        refine EV.bipush (32) dL_law_160 (by decide) ?_
        refine EV.lshl dL_law_162 ?_
        refine EV.aload_n 0 dL_law_163 rfl rfl ?_
        refine EV.iload_n 3 dL_law_164 rfl rfl ?_
        refine EV.iconst (2) dL_law_165 (by decide) ?_
        refine EV.iadd dL_law_166 ?_
        obtain ⟨v187, gv187, h⟩ := px_bs h
        refine ev_aX dL_law_167 gv187 ?_
        refine EV.i2l dL_law_168 ?_
        refine EV.ldc2 (v := 4294967295) dL_law_169 (tb10 (List.mem_of_getElem? (i := 168) rfl)) ?_
        refine EV.land dL_law_172 ?_
        refine EV.lor dL_law_173 ?_
        refine EV.aload_n 0 dL_law_174 rfl rfl ?_
        refine EV.iload_n 3 dL_law_175 rfl rfl ?_
        refine EV.iconst (3) dL_law_176 (by decide) ?_
        refine EV.iadd dL_law_177 ?_
        obtain ⟨v188, gv188, h⟩ := px_bs h
        refine ev_aX dL_law_178 gv188 ?_
        obtain ⟨o189, go189, h⟩ := px_bs h
        obtain ⟨q190, gq190, h⟩ := px_bs h
        refine EV.callV (As := [.long ((v186.toInt64 <<< ((32 : Int32).toInt64 &&& 63)) ||| (v187.toInt64 &&& 4294967295)), .int v188]) (rest := [.int q185.1]) dL_law_179 kcL_law_19 (gO_ok go189) rfl rfl rfl (Nat.le_of_ble_eq_true rfl) (Nat.le_of_ble_eq_true rfl) (eX15_giveInput gq190) ?_
        refine EV.icmp_eq 854 dL_law_182 (by decide) (fun c191 => ?_) (fun c191 => ?_)
        · rw [if_pos c191] at h
          refine EV.sub [0, 1, 2, 3] rfl ?_
          exact eL_law_854 ih _ _ _ _ _ _ h
        · rw [if_neg c191] at h
          refine EV.iconst (0) dL_law_185 (by decide) ?_
          cases h
          exact EV.reti dL_law_186 rfl
      rw [if_neg c180] at h
      by_cases c192 : (v179 &&& 31) = 1
      · rw [if_pos c192] at h
        refine EV.tableIn 187 dL_law_33 (by rw [c192]; decide) (by rw [c192]; decide) (by rw [c192]; rfl) (by decide) ?_
        refine EV.aload_n 1 dL_law_187 rfl rfl ?_
        obtain ⟨o193, go193, h⟩ := px_bs h
        obtain ⟨q194, gq194, h⟩ := px_bs h
        refine EV.callV (As := []) (rest := []) dL_law_188 kcL_law_20 (gO_ok go193) rfl rfl rfl (Nat.le_of_ble_eq_true rfl) (Nat.le_of_ble_eq_true rfl) (eX11_wipeInput gq194) ?_
        refine EV.aload_n 2 dL_law_191 rfl rfl ?_
        obtain ⟨o195, go195, h⟩ := px_bs h
        obtain ⟨q196, gq196, h⟩ := px_bs h
        refine EV.callV (As := []) (rest := []) dL_law_192 kcL_law_23 (gO_ok go195) rfl rfl rfl (Nat.le_of_ble_eq_true rfl) (Nat.le_of_ble_eq_true rfl) (eX15_wipeInput gq196) ?_
        refine EV.goto 854 dL_law_195 (by decide) ?_
        refine EV.sub [0, 1, 2, 3] rfl ?_
        exact eL_law_854 ih _ _ _ _ _ _ h
      rw [if_neg c192] at h
      by_cases c197 : (v179 &&& 31) = 2
      · rw [if_pos c197] at h
        refine EV.tableIn 198 dL_law_33 (by rw [c197]; decide) (by rw [c197]; decide) (by rw [c197]; rfl) (by decide) ?_
        refine EV.aload_n 1 dL_law_198 rfl rfl ?_
        obtain ⟨o198, go198, h⟩ := px_bs h
        obtain ⟨q199, gq199, h⟩ := px_bs h
        refine EV.callV (As := []) (rest := []) dL_law_199 kcL_law_24 (gO_ok go198) rfl rfl rfl (Nat.le_of_ble_eq_true rfl) (Nat.le_of_ble_eq_true rfl) (eX11_takeOutput gq199) ?_
        refine EV.aload_n 2 dL_law_202 rfl rfl ?_
        obtain ⟨o200, go200, h⟩ := px_bs h
        obtain ⟨q201, gq201, h⟩ := px_bs h
        refine EV.callV (As := []) (rest := []) dL_law_203 kcL_law_27 (gO_ok go200) rfl rfl rfl (Nat.le_of_ble_eq_true rfl) (Nat.le_of_ble_eq_true rfl) (eX15_takeOutput gq201) ?_
        refine EV.goto 854 dL_law_206 (by decide) ?_
        refine EV.sub [0, 1, 2, 3] rfl ?_
        exact eL_law_854 ih _ _ _ _ _ _ h
      rw [if_neg c197] at h
      by_cases c202 : (v179 &&& 31) = 3
      · rw [if_pos c202] at h
        refine EV.tableIn 209 dL_law_33 (by rw [c202]; decide) (by rw [c202]; decide) (by rw [c202]; rfl) (by decide) ?_
        refine EV.aload_n 1 dL_law_209 rfl rfl ?_
        obtain ⟨o203, go203, h⟩ := px_bs h
        obtain ⟨q204, gq204, h⟩ := px_bs h
        refine EV.callV (As := []) (rest := []) dL_law_210 kcL_law_28 (gO_ok go203) rfl rfl rfl (Nat.le_of_ble_eq_true rfl) (Nat.le_of_ble_eq_true rfl) (eX11_openInput gq204) ?_
        refine EV.aload_n 2 dL_law_213 rfl rfl ?_
        obtain ⟨o205, go205, h⟩ := px_bs h
        obtain ⟨q206, gq206, h⟩ := px_bs h
        refine EV.callV (As := []) (rest := [.int q204.1]) dL_law_214 kcL_law_32 (gO_ok go205) rfl rfl rfl (Nat.le_of_ble_eq_true rfl) (Nat.le_of_ble_eq_true rfl) (eX15_openInput gq206) ?_
        refine EV.icmp_eq 854 dL_law_217 (by decide) (fun c207 => ?_) (fun c207 => ?_)
        · rw [if_pos c207] at h
          refine EV.sub [0, 1, 2, 3] rfl ?_
          exact eL_law_854 ih _ _ _ _ _ _ h
        · rw [if_neg c207] at h
          refine EV.iconst (0) dL_law_220 (by decide) ?_
          cases h
          exact EV.reti dL_law_221 rfl
      rw [if_neg c202] at h
      by_cases c208 : (v179 &&& 31) = 4
      · rw [if_pos c208] at h
        refine EV.tableIn 222 dL_law_33 (by rw [c208]; decide) (by rw [c208]; decide) (by rw [c208]; rfl) (by decide) ?_
        refine EV.aload_n 1 dL_law_222 rfl rfl ?_
        refine EV.aload_n 0 dL_law_223 rfl rfl ?_
        refine EV.iload_n 3 dL_law_224 rfl rfl ?_
        refine EV.iconst (1) dL_law_225 (by decide) ?_
        refine EV.iadd dL_law_226 ?_
        obtain ⟨v209, gv209, h⟩ := px_bs h
        refine ev_aX dL_law_227 gv209 ?_
        refine EV.aload_n 0 dL_law_228 rfl rfl ?_
        refine EV.iload_n 3 dL_law_229 rfl rfl ?_
        refine EV.iconst (2) dL_law_230 (by decide) ?_
        refine EV.iadd dL_law_231 ?_
        obtain ⟨v210, gv210, h⟩ := px_bs h
        refine ev_aX dL_law_232 gv210 ?_
        obtain ⟨o211, go211, h⟩ := px_bs h
        obtain ⟨q212, gq212, h⟩ := px_bs h
        refine EV.callV (As := [.int v209, .int v210]) (rest := []) dL_law_233 kcL_law_33 (gO_ok go211) rfl rfl rfl (Nat.le_of_ble_eq_true rfl) (Nat.le_of_ble_eq_true rfl) (eX11_saveAs gq212) ?_
        refine EV.aload_n 2 dL_law_236 rfl rfl ?_
        refine EV.aload_n 0 dL_law_237 rfl rfl ?_
        refine EV.iload_n 3 dL_law_238 rfl rfl ?_
        refine EV.iconst (1) dL_law_239 (by decide) ?_
        refine EV.iadd dL_law_240 ?_
        obtain ⟨v213, gv213, h⟩ := px_bs h
        refine ev_aX dL_law_241 gv213 ?_
        refine EV.aload_n 0 dL_law_242 rfl rfl ?_
        refine EV.iload_n 3 dL_law_243 rfl rfl ?_
        refine EV.iconst (2) dL_law_244 (by decide) ?_
        refine EV.iadd dL_law_245 ?_
        obtain ⟨v214, gv214, h⟩ := px_bs h
        refine ev_aX dL_law_246 gv214 ?_
        obtain ⟨o215, go215, h⟩ := px_bs h
        obtain ⟨q216, gq216, h⟩ := px_bs h
        refine EV.callV (As := [.int v213, .int v214]) (rest := [.int q212.1]) dL_law_247 kcL_law_37 (gO_ok go215) rfl rfl rfl (Nat.le_of_ble_eq_true rfl) (Nat.le_of_ble_eq_true rfl) (eX15_saveAs gq216) ?_
        refine EV.icmp_eq 854 dL_law_250 (by decide) (fun c217 => ?_) (fun c217 => ?_)
        · rw [if_pos c217] at h
          refine EV.sub [0, 1, 2, 3] rfl ?_
          exact eL_law_854 ih _ _ _ _ _ _ h
        · rw [if_neg c217] at h
          refine EV.iconst (0) dL_law_253 (by decide) ?_
          cases h
          exact EV.reti dL_law_254 rfl
      rw [if_neg c208] at h
      by_cases c218 : (v179 &&& 31) = 5
      · rw [if_pos c218] at h
        refine EV.tableIn 255 dL_law_33 (by rw [c218]; decide) (by rw [c218]; decide) (by rw [c218]; rfl) (by decide) ?_
        refine EV.aload_n 1 dL_law_255 rfl rfl ?_
        refine EV.aload_n 0 dL_law_256 rfl rfl ?_
        refine EV.iload_n 3 dL_law_257 rfl rfl ?_
        refine EV.iconst (1) dL_law_258 (by decide) ?_
        refine EV.iadd dL_law_259 ?_
        obtain ⟨v219, gv219, h⟩ := px_bs h
        refine ev_aX dL_law_260 gv219 ?_
        refine EV.aload_n 0 dL_law_261 rfl rfl ?_
        refine EV.iload_n 3 dL_law_262 rfl rfl ?_
        refine EV.iconst (2) dL_law_263 (by decide) ?_
        refine EV.iadd dL_law_264 ?_
        obtain ⟨v220, gv220, h⟩ := px_bs h
        refine ev_aX dL_law_265 gv220 ?_
        refine EV.aload_n 0 dL_law_266 rfl rfl ?_
        refine EV.iload_n 3 dL_law_267 rfl rfl ?_
        refine EV.iconst (3) dL_law_268 (by decide) ?_
        refine EV.iadd dL_law_269 ?_
        obtain ⟨v221, gv221, h⟩ := px_bs h
        refine ev_aX dL_law_270 gv221 ?_
        refine EV.aload_n 0 dL_law_271 rfl rfl ?_
        refine EV.iload_n 3 dL_law_272 rfl rfl ?_
        refine EV.iconst (4) dL_law_273 (by decide) ?_
        refine EV.iadd dL_law_274 ?_
        obtain ⟨v222, gv222, h⟩ := px_bs h
        refine ev_aX dL_law_275 gv222 ?_
        refine EV.aload_n 0 dL_law_276 rfl rfl ?_
        refine EV.iload_n 3 dL_law_277 rfl rfl ?_
        refine EV.iconst (5) dL_law_278 (by decide) ?_
        refine EV.iadd dL_law_279 ?_
        obtain ⟨v223, gv223, h⟩ := px_bs h
        refine ev_aX dL_law_280 gv223 ?_
        obtain ⟨o224, go224, h⟩ := px_bs h
        obtain ⟨q225, gq225, h⟩ := px_bs h
        refine EV.callV (As := [.int v219, .int v220, .int v221, .int v222, .int v223]) (rest := []) dL_law_281 kcL_law_38 (gO_ok go224) rfl rfl rfl (Nat.le_of_ble_eq_true rfl) (Nat.le_of_ble_eq_true rfl) (eX11_paintFrom gq225) ?_
        refine EV.aload_n 2 dL_law_284 rfl rfl ?_
        refine EV.aload_n 0 dL_law_285 rfl rfl ?_
        refine EV.iload_n 3 dL_law_286 rfl rfl ?_
        refine EV.iconst (1) dL_law_287 (by decide) ?_
        refine EV.iadd dL_law_288 ?_
        obtain ⟨v226, gv226, h⟩ := px_bs h
        refine ev_aX dL_law_289 gv226 ?_
        refine EV.aload_n 0 dL_law_290 rfl rfl ?_
        refine EV.iload_n 3 dL_law_291 rfl rfl ?_
        refine EV.iconst (2) dL_law_292 (by decide) ?_
        refine EV.iadd dL_law_293 ?_
        obtain ⟨v227, gv227, h⟩ := px_bs h
        refine ev_aX dL_law_294 gv227 ?_
        refine EV.aload_n 0 dL_law_295 rfl rfl ?_
        refine EV.iload_n 3 dL_law_296 rfl rfl ?_
        refine EV.iconst (3) dL_law_297 (by decide) ?_
        refine EV.iadd dL_law_298 ?_
        obtain ⟨v228, gv228, h⟩ := px_bs h
        refine ev_aX dL_law_299 gv228 ?_
        refine EV.aload_n 0 dL_law_300 rfl rfl ?_
        refine EV.iload_n 3 dL_law_301 rfl rfl ?_
        refine EV.iconst (4) dL_law_302 (by decide) ?_
        refine EV.iadd dL_law_303 ?_
        obtain ⟨v229, gv229, h⟩ := px_bs h
        refine ev_aX dL_law_304 gv229 ?_
        refine EV.aload_n 0 dL_law_305 rfl rfl ?_
        refine EV.iload_n 3 dL_law_306 rfl rfl ?_
        refine EV.iconst (5) dL_law_307 (by decide) ?_
        refine EV.iadd dL_law_308 ?_
        obtain ⟨v230, gv230, h⟩ := px_bs h
        refine ev_aX dL_law_309 gv230 ?_
        obtain ⟨o231, go231, h⟩ := px_bs h
        obtain ⟨q232, gq232, h⟩ := px_bs h
        refine EV.callV (As := [.int v226, .int v227, .int v228, .int v229, .int v230]) (rest := [.int q225.1]) dL_law_310 kcL_law_42 (gO_ok go231) rfl rfl rfl (Nat.le_of_ble_eq_true rfl) (Nat.le_of_ble_eq_true rfl) (eX15_paintFrom gq232) ?_
        refine EV.icmp_eq 854 dL_law_313 (by decide) (fun c233 => ?_) (fun c233 => ?_)
        · rw [if_pos c233] at h
          refine EV.sub [0, 1, 2, 3] rfl ?_
          exact eL_law_854 ih _ _ _ _ _ _ h
        · rw [if_neg c233] at h
          refine EV.iconst (0) dL_law_316 (by decide) ?_
          cases h
          exact EV.reti dL_law_317 rfl
      rw [if_neg c218] at h
      by_cases c234 : (v179 &&& 31) = 6
      · rw [if_pos c234] at h
        refine EV.tableIn 318 dL_law_33 (by rw [c234]; decide) (by rw [c234]; decide) (by rw [c234]; rfl) (by decide) ?_
        refine EV.aload_n 1 dL_law_318 rfl rfl ?_
        refine EV.aload_n 0 dL_law_319 rfl rfl ?_
        refine EV.iload_n 3 dL_law_320 rfl rfl ?_
        refine EV.iconst (1) dL_law_321 (by decide) ?_
        refine EV.iadd dL_law_322 ?_
        obtain ⟨v235, gv235, h⟩ := px_bs h
        refine ev_aX dL_law_323 gv235 ?_
        refine EV.aload_n 0 dL_law_324 rfl rfl ?_
        refine EV.iload_n 3 dL_law_325 rfl rfl ?_
        refine EV.iconst (2) dL_law_326 (by decide) ?_
        refine EV.iadd dL_law_327 ?_
        obtain ⟨v236, gv236, h⟩ := px_bs h
        refine ev_aX dL_law_328 gv236 ?_
        refine EV.if_eq 336 dL_law_329 (by decide) (fun c237 => ?_) (fun c237 => ?_)
        · rw [if_pos c237] at h
          refine EV.iconst (0) dL_law_336 (by decide) ?_
          refine EV.sub [0, 1, 2, 3] rfl ?_
          exact eL_law_337 ih _ _ _ _ _ _ _ _ _ h
        · rw [if_neg c237] at h
          refine EV.iconst (1) dL_law_332 (by decide) ?_
          refine EV.goto 337 dL_law_333 (by decide) ?_
          refine EV.sub [0, 1, 2, 3] rfl ?_
          exact eL_law_337 ih _ _ _ _ _ _ _ _ _ h
      rw [if_neg c234] at h
      by_cases c238 : (v179 &&& 31) = 7
      · rw [if_pos c238] at h
        refine EV.tableIn 367 dL_law_33 (by rw [c238]; decide) (by rw [c238]; decide) (by rw [c238]; rfl) (by decide) ?_
        refine EV.aload_n 1 dL_law_367 rfl rfl ?_
        refine EV.aload_n 0 dL_law_368 rfl rfl ?_
        refine EV.iload_n 3 dL_law_369 rfl rfl ?_
        refine EV.iconst (1) dL_law_370 (by decide) ?_
        refine EV.iadd dL_law_371 ?_
        obtain ⟨v239, gv239, h⟩ := px_bs h
        refine ev_aX dL_law_372 gv239 ?_
        obtain ⟨o240, go240, h⟩ := px_bs h
        obtain ⟨q241, gq241, h⟩ := px_bs h
        refine EV.callV (As := [.int v239]) (rest := []) dL_law_373 kcL_law_48 (gO_ok go240) rfl rfl rfl (Nat.le_of_ble_eq_true rfl) (Nat.le_of_ble_eq_true rfl) (eX11_turnBy gq241) ?_
        refine EV.aload_n 2 dL_law_376 rfl rfl ?_
        refine EV.aload_n 0 dL_law_377 rfl rfl ?_
        refine EV.iload_n 3 dL_law_378 rfl rfl ?_
        refine EV.iconst (1) dL_law_379 (by decide) ?_
        refine EV.iadd dL_law_380 ?_
        obtain ⟨v242, gv242, h⟩ := px_bs h
        refine ev_aX dL_law_381 gv242 ?_
        obtain ⟨o243, go243, h⟩ := px_bs h
        obtain ⟨q244, gq244, h⟩ := px_bs h
        refine EV.callV (As := [.int v242]) (rest := [.int q241.1]) dL_law_382 kcL_law_52 (gO_ok go243) rfl rfl rfl (Nat.le_of_ble_eq_true rfl) (Nat.le_of_ble_eq_true rfl) (eX15_turnBy gq244) ?_
        refine EV.icmp_eq 854 dL_law_385 (by decide) (fun c245 => ?_) (fun c245 => ?_)
        · rw [if_pos c245] at h
          refine EV.sub [0, 1, 2, 3] rfl ?_
          exact eL_law_854 ih _ _ _ _ _ _ h
        · rw [if_neg c245] at h
          refine EV.iconst (0) dL_law_388 (by decide) ?_
          cases h
          exact EV.reti dL_law_389 rfl
      rw [if_neg c238] at h
      by_cases c246 : (v179 &&& 31) = 8
      · rw [if_pos c246] at h
        refine EV.tableIn 390 dL_law_33 (by rw [c246]; decide) (by rw [c246]; decide) (by rw [c246]; rfl) (by decide) ?_
        refine EV.aload_n 1 dL_law_390 rfl rfl ?_
        refine EV.aload_n 0 dL_law_391 rfl rfl ?_
        refine EV.iload_n 3 dL_law_392 rfl rfl ?_
        refine EV.iconst (1) dL_law_393 (by decide) ?_
        refine EV.iadd dL_law_394 ?_
        obtain ⟨v247, gv247, h⟩ := px_bs h
        refine ev_aX dL_law_395 gv247 ?_
        refine EV.aload_n 0 dL_law_396 rfl rfl ?_
        refine EV.iload_n 3 dL_law_397 rfl rfl ?_
        refine EV.iconst (2) dL_law_398 (by decide) ?_
        refine EV.iadd dL_law_399 ?_
        obtain ⟨v248, gv248, h⟩ := px_bs h
        refine ev_aX dL_law_400 gv248 ?_
        refine EV.aload_n 0 dL_law_401 rfl rfl ?_
        refine EV.iload_n 3 dL_law_402 rfl rfl ?_
        refine EV.iconst (3) dL_law_403 (by decide) ?_
        refine EV.iadd dL_law_404 ?_
        obtain ⟨v249, gv249, h⟩ := px_bs h
        refine ev_aX dL_law_405 gv249 ?_
        refine EV.aload_n 0 dL_law_406 rfl rfl ?_
        refine EV.iload_n 3 dL_law_407 rfl rfl ?_
        refine EV.iconst (4) dL_law_408 (by decide) ?_
        refine EV.iadd dL_law_409 ?_
        obtain ⟨v250, gv250, h⟩ := px_bs h
        refine ev_aX dL_law_410 gv250 ?_
        obtain ⟨o251, go251, h⟩ := px_bs h
        obtain ⟨q252, gq252, h⟩ := px_bs h
        refine EV.callV (As := [.int v247, .int v248, .int v249, .int v250]) (rest := []) dL_law_411 kcL_law_53 (gO_ok go251) rfl rfl rfl (Nat.le_of_ble_eq_true rfl) (Nat.le_of_ble_eq_true rfl) (eX11_cropTo gq252) ?_
        refine EV.aload_n 2 dL_law_414 rfl rfl ?_
        refine EV.aload_n 0 dL_law_415 rfl rfl ?_
        refine EV.iload_n 3 dL_law_416 rfl rfl ?_
        refine EV.iconst (1) dL_law_417 (by decide) ?_
        refine EV.iadd dL_law_418 ?_
        obtain ⟨v253, gv253, h⟩ := px_bs h
        refine ev_aX dL_law_419 gv253 ?_
        refine EV.aload_n 0 dL_law_420 rfl rfl ?_
        refine EV.iload_n 3 dL_law_421 rfl rfl ?_
        refine EV.iconst (2) dL_law_422 (by decide) ?_
        refine EV.iadd dL_law_423 ?_
        obtain ⟨v254, gv254, h⟩ := px_bs h
        refine ev_aX dL_law_424 gv254 ?_
        refine EV.aload_n 0 dL_law_425 rfl rfl ?_
        refine EV.iload_n 3 dL_law_426 rfl rfl ?_
        refine EV.iconst (3) dL_law_427 (by decide) ?_
        refine EV.iadd dL_law_428 ?_
        obtain ⟨v255, gv255, h⟩ := px_bs h
        refine ev_aX dL_law_429 gv255 ?_
        refine EV.aload_n 0 dL_law_430 rfl rfl ?_
        refine EV.iload_n 3 dL_law_431 rfl rfl ?_
        refine EV.iconst (4) dL_law_432 (by decide) ?_
        refine EV.iadd dL_law_433 ?_
        obtain ⟨v256, gv256, h⟩ := px_bs h
        refine ev_aX dL_law_434 gv256 ?_
        obtain ⟨o257, go257, h⟩ := px_bs h
        obtain ⟨q258, gq258, h⟩ := px_bs h
        refine EV.callV (As := [.int v253, .int v254, .int v255, .int v256]) (rest := [.int q252.1]) dL_law_435 kcL_law_57 (gO_ok go257) rfl rfl rfl (Nat.le_of_ble_eq_true rfl) (Nat.le_of_ble_eq_true rfl) (eX15_cropTo gq258) ?_
        refine EV.icmp_eq 854 dL_law_438 (by decide) (fun c259 => ?_) (fun c259 => ?_)
        · rw [if_pos c259] at h
          refine EV.sub [0, 1, 2, 3] rfl ?_
          exact eL_law_854 ih _ _ _ _ _ _ h
        · rw [if_neg c259] at h
          refine EV.iconst (0) dL_law_441 (by decide) ?_
          cases h
          exact EV.reti dL_law_442 rfl
      rw [if_neg c246] at h
      by_cases c260 : (v179 &&& 31) = 9
      · rw [if_pos c260] at h
        refine EV.tableIn 443 dL_law_33 (by rw [c260]; decide) (by rw [c260]; decide) (by rw [c260]; rfl) (by decide) ?_
        refine EV.aload_n 1 dL_law_443 rfl rfl ?_
        refine EV.aload_n 0 dL_law_444 rfl rfl ?_
        refine EV.iload_n 3 dL_law_445 rfl rfl ?_
        refine EV.iconst (1) dL_law_446 (by decide) ?_
        refine EV.iadd dL_law_447 ?_
        obtain ⟨v261, gv261, h⟩ := px_bs h
        refine ev_aX dL_law_448 gv261 ?_
        refine EV.aload_n 0 dL_law_449 rfl rfl ?_
        refine EV.iload_n 3 dL_law_450 rfl rfl ?_
        refine EV.iconst (2) dL_law_451 (by decide) ?_
        refine EV.iadd dL_law_452 ?_
        obtain ⟨v262, gv262, h⟩ := px_bs h
        refine ev_aX dL_law_453 gv262 ?_
        refine EV.aload_n 0 dL_law_454 rfl rfl ?_
        refine EV.iload_n 3 dL_law_455 rfl rfl ?_
        refine EV.iconst (3) dL_law_456 (by decide) ?_
        refine EV.iadd dL_law_457 ?_
        obtain ⟨v263, gv263, h⟩ := px_bs h
        refine ev_aX dL_law_458 gv263 ?_
        refine EV.aload_n 0 dL_law_459 rfl rfl ?_
        refine EV.iload_n 3 dL_law_460 rfl rfl ?_
        refine EV.iconst (4) dL_law_461 (by decide) ?_
        refine EV.iadd dL_law_462 ?_
        obtain ⟨v264, gv264, h⟩ := px_bs h
        refine ev_aX dL_law_463 gv264 ?_
        refine EV.aload_n 0 dL_law_464 rfl rfl ?_
        refine EV.iload_n 3 dL_law_465 rfl rfl ?_
        refine EV.iconst (5) dL_law_466 (by decide) ?_
        refine EV.iadd dL_law_467 ?_
        obtain ⟨v265, gv265, h⟩ := px_bs h
        refine ev_aX dL_law_468 gv265 ?_
        obtain ⟨o266, go266, h⟩ := px_bs h
        obtain ⟨q267, gq267, h⟩ := px_bs h
        refine EV.callV (As := [.int v261, .int v262, .int v263, .int v264, .int v265]) (rest := []) dL_law_469 kcL_law_58 (gO_ok go266) rfl rfl rfl (Nat.le_of_ble_eq_true rfl) (Nat.le_of_ble_eq_true rfl) (eX11_setCoefficient gq267) ?_
        refine EV.aload_n 2 dL_law_472 rfl rfl ?_
        refine EV.aload_n 0 dL_law_473 rfl rfl ?_
        refine EV.iload_n 3 dL_law_474 rfl rfl ?_
        refine EV.iconst (1) dL_law_475 (by decide) ?_
        refine EV.iadd dL_law_476 ?_
        obtain ⟨v268, gv268, h⟩ := px_bs h
        refine ev_aX dL_law_477 gv268 ?_
        refine EV.aload_n 0 dL_law_478 rfl rfl ?_
        refine EV.iload_n 3 dL_law_479 rfl rfl ?_
        refine EV.iconst (2) dL_law_480 (by decide) ?_
        refine EV.iadd dL_law_481 ?_
        obtain ⟨v269, gv269, h⟩ := px_bs h
        refine ev_aX dL_law_482 gv269 ?_
        refine EV.aload_n 0 dL_law_483 rfl rfl ?_
        refine EV.iload_n 3 dL_law_484 rfl rfl ?_
        refine EV.iconst (3) dL_law_485 (by decide) ?_
        refine EV.iadd dL_law_486 ?_
        obtain ⟨v270, gv270, h⟩ := px_bs h
        refine ev_aX dL_law_487 gv270 ?_
        refine EV.aload_n 0 dL_law_488 rfl rfl ?_
        refine EV.iload_n 3 dL_law_489 rfl rfl ?_
        refine EV.iconst (4) dL_law_490 (by decide) ?_
        refine EV.iadd dL_law_491 ?_
        obtain ⟨v271, gv271, h⟩ := px_bs h
        refine ev_aX dL_law_492 gv271 ?_
        refine EV.aload_n 0 dL_law_493 rfl rfl ?_
        refine EV.iload_n 3 dL_law_494 rfl rfl ?_
        refine EV.iconst (5) dL_law_495 (by decide) ?_
        refine EV.iadd dL_law_496 ?_
        obtain ⟨v272, gv272, h⟩ := px_bs h
        refine ev_aX dL_law_497 gv272 ?_
        obtain ⟨o273, go273, h⟩ := px_bs h
        obtain ⟨q274, gq274, h⟩ := px_bs h
        refine EV.callV (As := [.int v268, .int v269, .int v270, .int v271, .int v272]) (rest := [.int q267.1]) dL_law_498 kcL_law_61 (gO_ok go273) rfl rfl rfl (Nat.le_of_ble_eq_true rfl) (Nat.le_of_ble_eq_true rfl) (eX15_setCoefficient gq274) ?_
        refine EV.icmp_eq 854 dL_law_501 (by decide) (fun c275 => ?_) (fun c275 => ?_)
        · rw [if_pos c275] at h
          refine EV.sub [0, 1, 2, 3] rfl ?_
          exact eL_law_854 ih _ _ _ _ _ _ h
        · rw [if_neg c275] at h
          refine EV.iconst (0) dL_law_504 (by decide) ?_
          cases h
          exact EV.reti dL_law_505 rfl
      rw [if_neg c260] at h
      by_cases c276 : (v179 &&& 31) = 10
      · rw [if_pos c276] at h
        refine EV.tableIn 506 dL_law_33 (by rw [c276]; decide) (by rw [c276]; decide) (by rw [c276]; rfl) (by decide) ?_
        refine EV.aload_n 1 dL_law_506 rfl rfl ?_
        refine EV.aload_n 0 dL_law_507 rfl rfl ?_
        refine EV.iload_n 3 dL_law_508 rfl rfl ?_
        refine EV.iconst (1) dL_law_509 (by decide) ?_
        refine EV.iadd dL_law_510 ?_
        obtain ⟨v277, gv277, h⟩ := px_bs h
        refine ev_aX dL_law_511 gv277 ?_
        refine EV.aload_n 0 dL_law_512 rfl rfl ?_
        refine EV.iload_n 3 dL_law_513 rfl rfl ?_
        refine EV.iconst (2) dL_law_514 (by decide) ?_
        refine EV.iadd dL_law_515 ?_
        obtain ⟨v278, gv278, h⟩ := px_bs h
        refine ev_aX dL_law_516 gv278 ?_
        refine EV.aload_n 0 dL_law_517 rfl rfl ?_
        refine EV.iload_n 3 dL_law_518 rfl rfl ?_
        refine EV.iconst (3) dL_law_519 (by decide) ?_
        refine EV.iadd dL_law_520 ?_
        obtain ⟨v279, gv279, h⟩ := px_bs h
        refine ev_aX dL_law_521 gv279 ?_
        refine EV.aload_n 0 dL_law_522 rfl rfl ?_
        refine EV.iload_n 3 dL_law_523 rfl rfl ?_
        refine EV.iconst (4) dL_law_524 (by decide) ?_
        refine EV.iadd dL_law_525 ?_
        obtain ⟨v280, gv280, h⟩ := px_bs h
        refine ev_aX dL_law_526 gv280 ?_
        obtain ⟨o281, go281, h⟩ := px_bs h
        obtain ⟨q282, gq282, h⟩ := px_bs h
        refine EV.callV (As := [.int v277, .int v278, .int v279, .int v280]) (rest := []) dL_law_527 kcL_law_62 (gO_ok go281) rfl rfl rfl (Nat.le_of_ble_eq_true rfl) (Nat.le_of_ble_eq_true rfl) (eX11_coefficientAt gq282) ?_
        refine EV.aload_n 2 dL_law_530 rfl rfl ?_
        refine EV.aload_n 0 dL_law_531 rfl rfl ?_
        refine EV.iload_n 3 dL_law_532 rfl rfl ?_
        refine EV.iconst (1) dL_law_533 (by decide) ?_
        refine EV.iadd dL_law_534 ?_
        obtain ⟨v283, gv283, h⟩ := px_bs h
        refine ev_aX dL_law_535 gv283 ?_
        refine EV.aload_n 0 dL_law_536 rfl rfl ?_
        refine EV.iload_n 3 dL_law_537 rfl rfl ?_
        refine EV.iconst (2) dL_law_538 (by decide) ?_
        refine EV.iadd dL_law_539 ?_
        obtain ⟨v284, gv284, h⟩ := px_bs h
        refine ev_aX dL_law_540 gv284 ?_
        refine EV.aload_n 0 dL_law_541 rfl rfl ?_
        refine EV.iload_n 3 dL_law_542 rfl rfl ?_
        refine EV.iconst (3) dL_law_543 (by decide) ?_
        refine EV.iadd dL_law_544 ?_
        obtain ⟨v285, gv285, h⟩ := px_bs h
        refine ev_aX dL_law_545 gv285 ?_
        refine EV.aload_n 0 dL_law_546 rfl rfl ?_
        refine EV.iload_n 3 dL_law_547 rfl rfl ?_
        refine EV.iconst (4) dL_law_548 (by decide) ?_
        refine EV.iadd dL_law_549 ?_
        obtain ⟨v286, gv286, h⟩ := px_bs h
        refine ev_aX dL_law_550 gv286 ?_
        obtain ⟨o287, go287, h⟩ := px_bs h
        obtain ⟨q288, gq288, h⟩ := px_bs h
        refine EV.callV (As := [.int v283, .int v284, .int v285, .int v286]) (rest := [.int q282.1]) dL_law_551 kcL_law_66 (gO_ok go287) rfl rfl rfl (Nat.le_of_ble_eq_true rfl) (Nat.le_of_ble_eq_true rfl) (eX15_coefficientAt gq288) ?_
        refine EV.icmp_eq 854 dL_law_554 (by decide) (fun c289 => ?_) (fun c289 => ?_)
        · rw [if_pos c289] at h
          refine EV.sub [0, 1, 2, 3] rfl ?_
          exact eL_law_854 ih _ _ _ _ _ _ h
        · rw [if_neg c289] at h
          refine EV.iconst (0) dL_law_557 (by decide) ?_
          cases h
          exact EV.reti dL_law_558 rfl
      rw [if_neg c276] at h
      by_cases c290 : (v179 &&& 31) = 11
      · rw [if_pos c290] at h
        refine EV.tableIn 559 dL_law_33 (by rw [c290]; decide) (by rw [c290]; decide) (by rw [c290]; rfl) (by decide) ?_
        refine EV.aload_n 1 dL_law_559 rfl rfl ?_
        refine EV.aload_n 0 dL_law_560 rfl rfl ?_
        refine EV.iload_n 3 dL_law_561 rfl rfl ?_
        refine EV.iconst (1) dL_law_562 (by decide) ?_
        refine EV.iadd dL_law_563 ?_
        obtain ⟨v291, gv291, h⟩ := px_bs h
        refine ev_aX dL_law_564 gv291 ?_
        refine EV.aload_n 0 dL_law_565 rfl rfl ?_
        refine EV.iload_n 3 dL_law_566 rfl rfl ?_
        refine EV.iconst (2) dL_law_567 (by decide) ?_
        refine EV.iadd dL_law_568 ?_
        obtain ⟨v292, gv292, h⟩ := px_bs h
        refine ev_aX dL_law_569 gv292 ?_
        obtain ⟨o293, go293, h⟩ := px_bs h
        obtain ⟨q294, gq294, h⟩ := px_bs h
        refine EV.callV (As := [.int v291, .int v292]) (rest := []) dL_law_570 kcL_law_67 (gO_ok go293) rfl rfl rfl (Nat.le_of_ble_eq_true rfl) (Nat.le_of_ble_eq_true rfl) (eX11_stepAt gq294) ?_
        refine EV.aload_n 2 dL_law_573 rfl rfl ?_
        refine EV.aload_n 0 dL_law_574 rfl rfl ?_
        refine EV.iload_n 3 dL_law_575 rfl rfl ?_
        refine EV.iconst (1) dL_law_576 (by decide) ?_
        refine EV.iadd dL_law_577 ?_
        obtain ⟨v295, gv295, h⟩ := px_bs h
        refine ev_aX dL_law_578 gv295 ?_
        refine EV.aload_n 0 dL_law_579 rfl rfl ?_
        refine EV.iload_n 3 dL_law_580 rfl rfl ?_
        refine EV.iconst (2) dL_law_581 (by decide) ?_
        refine EV.iadd dL_law_582 ?_
        obtain ⟨v296, gv296, h⟩ := px_bs h
        refine ev_aX dL_law_583 gv296 ?_
        obtain ⟨o297, go297, h⟩ := px_bs h
        obtain ⟨q298, gq298, h⟩ := px_bs h
        refine EV.callV (As := [.int v295, .int v296]) (rest := [.int q294.1]) dL_law_584 kcL_law_70 (gO_ok go297) rfl rfl rfl (Nat.le_of_ble_eq_true rfl) (Nat.le_of_ble_eq_true rfl) (eX15_stepAt gq298) ?_
        refine EV.icmp_eq 854 dL_law_587 (by decide) (fun c299 => ?_) (fun c299 => ?_)
        · rw [if_pos c299] at h
          refine EV.sub [0, 1, 2, 3] rfl ?_
          exact eL_law_854 ih _ _ _ _ _ _ h
        · rw [if_neg c299] at h
          refine EV.iconst (0) dL_law_590 (by decide) ?_
          cases h
          exact EV.reti dL_law_591 rfl
      rw [if_neg c290] at h
      by_cases c300 : (v179 &&& 31) = 12
      · rw [if_pos c300] at h
        refine EV.tableIn 592 dL_law_33 (by rw [c300]; decide) (by rw [c300]; decide) (by rw [c300]; rfl) (by decide) ?_
        refine EV.aload_n 1 dL_law_592 rfl rfl ?_
        refine EV.aload_n 0 dL_law_593 rfl rfl ?_
        refine EV.iload_n 3 dL_law_594 rfl rfl ?_
        refine EV.iconst (1) dL_law_595 (by decide) ?_
        refine EV.iadd dL_law_596 ?_
        obtain ⟨v301, gv301, h⟩ := px_bs h
        refine ev_aX dL_law_597 gv301 ?_
        refine EV.aload_n 0 dL_law_598 rfl rfl ?_
        refine EV.iload_n 3 dL_law_599 rfl rfl ?_
        refine EV.iconst (2) dL_law_600 (by decide) ?_
        refine EV.iadd dL_law_601 ?_
        obtain ⟨v302, gv302, h⟩ := px_bs h
        refine ev_aX dL_law_602 gv302 ?_
        refine EV.aload_n 0 dL_law_603 rfl rfl ?_
        refine EV.iload_n 3 dL_law_604 rfl rfl ?_
        refine EV.iconst (3) dL_law_605 (by decide) ?_
        refine EV.iadd dL_law_606 ?_
        obtain ⟨v303, gv303, h⟩ := px_bs h
        refine ev_aX dL_law_607 gv303 ?_
        obtain ⟨o304, go304, h⟩ := px_bs h
        obtain ⟨q305, gq305, h⟩ := px_bs h
        refine EV.callV (As := [.int v301, .int v302, .int v303]) (rest := []) dL_law_608 kcL_law_71 (gO_ok go304) rfl rfl rfl (Nat.le_of_ble_eq_true rfl) (Nat.le_of_ble_eq_true rfl) (eX11_canvasSize gq305) ?_
        refine EV.aload_n 2 dL_law_611 rfl rfl ?_
        refine EV.aload_n 0 dL_law_612 rfl rfl ?_
        refine EV.iload_n 3 dL_law_613 rfl rfl ?_
        refine EV.iconst (1) dL_law_614 (by decide) ?_
        refine EV.iadd dL_law_615 ?_
        obtain ⟨v306, gv306, h⟩ := px_bs h
        refine ev_aX dL_law_616 gv306 ?_
        refine EV.aload_n 0 dL_law_617 rfl rfl ?_
        refine EV.iload_n 3 dL_law_618 rfl rfl ?_
        refine EV.iconst (2) dL_law_619 (by decide) ?_
        refine EV.iadd dL_law_620 ?_
        obtain ⟨v307, gv307, h⟩ := px_bs h
        refine ev_aX dL_law_621 gv307 ?_
        refine EV.aload_n 0 dL_law_622 rfl rfl ?_
        refine EV.iload_n 3 dL_law_623 rfl rfl ?_
        refine EV.iconst (3) dL_law_624 (by decide) ?_
        refine EV.iadd dL_law_625 ?_
        obtain ⟨v308, gv308, h⟩ := px_bs h
        refine ev_aX dL_law_626 gv308 ?_
        obtain ⟨o309, go309, h⟩ := px_bs h
        obtain ⟨q310, gq310, h⟩ := px_bs h
        refine EV.callV (As := [.int v306, .int v307, .int v308]) (rest := [.int q305.1]) dL_law_627 kcL_law_75 (gO_ok go309) rfl rfl rfl (Nat.le_of_ble_eq_true rfl) (Nat.le_of_ble_eq_true rfl) (eX15_canvasSize gq310) ?_
        refine EV.icmp_eq 854 dL_law_630 (by decide) (fun c311 => ?_) (fun c311 => ?_)
        · rw [if_pos c311] at h
          refine EV.sub [0, 1, 2, 3] rfl ?_
          exact eL_law_854 ih _ _ _ _ _ _ h
        · rw [if_neg c311] at h
          refine EV.iconst (0) dL_law_633 (by decide) ?_
          cases h
          exact EV.reti dL_law_634 rfl
      rw [if_neg c300] at h
      by_cases c312 : (v179 &&& 31) = 13
      · rw [if_pos c312] at h
        refine EV.tableIn 635 dL_law_33 (by rw [c312]; decide) (by rw [c312]; decide) (by rw [c312]; rfl) (by decide) ?_
        refine EV.aload_n 1 dL_law_635 rfl rfl ?_
        refine EV.aload_n 0 dL_law_636 rfl rfl ?_
        refine EV.iload_n 3 dL_law_637 rfl rfl ?_
        refine EV.iconst (1) dL_law_638 (by decide) ?_
        refine EV.iadd dL_law_639 ?_
        obtain ⟨v313, gv313, h⟩ := px_bs h
        refine ev_aX dL_law_640 gv313 ?_
        refine EV.aload_n 0 dL_law_641 rfl rfl ?_
        refine EV.iload_n 3 dL_law_642 rfl rfl ?_
        refine EV.iconst (2) dL_law_643 (by decide) ?_
        refine EV.iadd dL_law_644 ?_
        obtain ⟨v314, gv314, h⟩ := px_bs h
        refine ev_aX dL_law_645 gv314 ?_
        refine EV.aload_n 0 dL_law_646 rfl rfl ?_
        refine EV.iload_n 3 dL_law_647 rfl rfl ?_
        refine EV.iconst (3) dL_law_648 (by decide) ?_
        refine EV.iadd dL_law_649 ?_
        obtain ⟨v315, gv315, h⟩ := px_bs h
        refine ev_aX dL_law_650 gv315 ?_
        refine EV.aload_n 0 dL_law_651 rfl rfl ?_
        refine EV.iload_n 3 dL_law_652 rfl rfl ?_
        refine EV.iconst (4) dL_law_653 (by decide) ?_
        refine EV.iadd dL_law_654 ?_
        obtain ⟨v316, gv316, h⟩ := px_bs h
        refine ev_aX dL_law_655 gv316 ?_
        refine EV.i2l dL_law_656 ?_
        refine EV.bipush (32) dL_law_657 (by decide) ?_
        refine EV.lshl dL_law_659 ?_
        refine EV.aload_n 0 dL_law_660 rfl rfl ?_
        refine EV.iload_n 3 dL_law_661 rfl rfl ?_
        refine EV.iconst (5) dL_law_662 (by decide) ?_
        refine EV.iadd dL_law_663 ?_
        obtain ⟨v317, gv317, h⟩ := px_bs h
        refine ev_aX dL_law_664 gv317 ?_
        refine EV.i2l dL_law_665 ?_
        refine EV.ldc2 (v := 4294967295) dL_law_666 (tb10 (List.mem_of_getElem? (i := 168) rfl)) ?_
        refine EV.land dL_law_669 ?_
        refine EV.lor dL_law_670 ?_
        obtain ⟨o318, go318, h⟩ := px_bs h
        obtain ⟨q319, gq319, h⟩ := px_bs h
        refine EV.callV (As := [.int v313, .int v314, .int v315, .long ((v316.toInt64 <<< ((32 : Int32).toInt64 &&& 63)) ||| (v317.toInt64 &&& 4294967295))]) (rest := []) dL_law_671 kcL_law_76 (gO_ok go318) rfl rfl rfl (Nat.le_of_ble_eq_true rfl) (Nat.le_of_ble_eq_true rfl) (eX11_canvasRow gq319) ?_
        refine EV.aload_n 2 dL_law_674 rfl rfl ?_
        refine EV.aload_n 0 dL_law_675 rfl rfl ?_
        refine EV.iload_n 3 dL_law_676 rfl rfl ?_
        refine EV.iconst (1) dL_law_677 (by decide) ?_
        refine EV.iadd dL_law_678 ?_
        obtain ⟨v320, gv320, h⟩ := px_bs h
        refine ev_aX dL_law_679 gv320 ?_
        refine EV.aload_n 0 dL_law_680 rfl rfl ?_
        refine EV.iload_n 3 dL_law_681 rfl rfl ?_
        refine EV.iconst (2) dL_law_682 (by decide) ?_
        refine EV.iadd dL_law_683 ?_
        obtain ⟨v321, gv321, h⟩ := px_bs h
        refine ev_aX dL_law_684 gv321 ?_
        refine EV.aload_n 0 dL_law_685 rfl rfl ?_
        refine EV.iload_n 3 dL_law_686 rfl rfl ?_
        refine EV.iconst (3) dL_law_687 (by decide) ?_
        refine EV.iadd dL_law_688 ?_
        obtain ⟨v322, gv322, h⟩ := px_bs h
        refine ev_aX dL_law_689 gv322 ?_
        refine EV.aload_n 0 dL_law_690 rfl rfl ?_
        refine EV.iload_n 3 dL_law_691 rfl rfl ?_
        refine EV.iconst (4) dL_law_692 (by decide) ?_
        refine EV.iadd dL_law_693 ?_
        obtain ⟨v323, gv323, h⟩ := px_bs h
        refine ev_aX dL_law_694 gv323 ?_
        refine EV.i2l dL_law_695 ?_
        refine EV.bipush (32) dL_law_696 (by decide) ?_
        refine EV.lshl dL_law_698 ?_
        refine EV.aload_n 0 dL_law_699 rfl rfl ?_
        refine EV.iload_n 3 dL_law_700 rfl rfl ?_
        refine EV.iconst (5) dL_law_701 (by decide) ?_
        refine EV.iadd dL_law_702 ?_
        obtain ⟨v324, gv324, h⟩ := px_bs h
        refine ev_aX dL_law_703 gv324 ?_
        refine EV.i2l dL_law_704 ?_
        refine EV.ldc2 (v := 4294967295) dL_law_705 (tb10 (List.mem_of_getElem? (i := 168) rfl)) ?_
        refine EV.land dL_law_708 ?_
        refine EV.lor dL_law_709 ?_
        obtain ⟨o325, go325, h⟩ := px_bs h
        obtain ⟨q326, gq326, h⟩ := px_bs h
        refine EV.callV (As := [.int v320, .int v321, .int v322, .long ((v323.toInt64 <<< ((32 : Int32).toInt64 &&& 63)) ||| (v324.toInt64 &&& 4294967295))]) (rest := [.int q319.1]) dL_law_710 kcL_law_80 (gO_ok go325) rfl rfl rfl (Nat.le_of_ble_eq_true rfl) (Nat.le_of_ble_eq_true rfl) (eX15_canvasRow gq326) ?_
        refine EV.icmp_eq 854 dL_law_713 (by decide) (fun c327 => ?_) (fun c327 => ?_)
        · rw [if_pos c327] at h
          refine EV.sub [0, 1, 2, 3] rfl ?_
          exact eL_law_854 ih _ _ _ _ _ _ h
        · rw [if_neg c327] at h
          refine EV.iconst (0) dL_law_716 (by decide) ?_
          cases h
          exact EV.reti dL_law_717 rfl
      rw [if_neg c312] at h
      by_cases c328 : (v179 &&& 31) = 14
      · rw [if_pos c328] at h
        refine EV.tableIn 718 dL_law_33 (by rw [c328]; decide) (by rw [c328]; decide) (by rw [c328]; rfl) (by decide) ?_
        refine EV.aload_n 1 dL_law_718 rfl rfl ?_
        refine EV.aload_n 0 dL_law_719 rfl rfl ?_
        refine EV.iload_n 3 dL_law_720 rfl rfl ?_
        refine EV.iconst (1) dL_law_721 (by decide) ?_
        refine EV.iadd dL_law_722 ?_
        obtain ⟨v329, gv329, h⟩ := px_bs h
        refine ev_aX dL_law_723 gv329 ?_
        refine EV.aload_n 0 dL_law_724 rfl rfl ?_
        refine EV.iload_n 3 dL_law_725 rfl rfl ?_
        refine EV.iconst (2) dL_law_726 (by decide) ?_
        refine EV.iadd dL_law_727 ?_
        obtain ⟨v330, gv330, h⟩ := px_bs h
        refine ev_aX dL_law_728 gv330 ?_
        refine EV.aload_n 0 dL_law_729 rfl rfl ?_
        refine EV.iload_n 3 dL_law_730 rfl rfl ?_
        refine EV.iconst (3) dL_law_731 (by decide) ?_
        refine EV.iadd dL_law_732 ?_
        obtain ⟨v331, gv331, h⟩ := px_bs h
        refine ev_aX dL_law_733 gv331 ?_
        obtain ⟨o332, go332, h⟩ := px_bs h
        obtain ⟨q333, gq333, h⟩ := px_bs h
        refine EV.callV (As := [.int v329, .int v330, .int v331]) (rest := []) dL_law_734 kcL_law_81 (gO_ok go332) rfl rfl rfl (Nat.le_of_ble_eq_true rfl) (Nat.le_of_ble_eq_true rfl) (eX11_canvasEight gq333) ?_
        refine EV.aload_n 2 dL_law_737 rfl rfl ?_
        refine EV.aload_n 0 dL_law_738 rfl rfl ?_
        refine EV.iload_n 3 dL_law_739 rfl rfl ?_
        refine EV.iconst (1) dL_law_740 (by decide) ?_
        refine EV.iadd dL_law_741 ?_
        obtain ⟨v334, gv334, h⟩ := px_bs h
        refine ev_aX dL_law_742 gv334 ?_
        refine EV.aload_n 0 dL_law_743 rfl rfl ?_
        refine EV.iload_n 3 dL_law_744 rfl rfl ?_
        refine EV.iconst (2) dL_law_745 (by decide) ?_
        refine EV.iadd dL_law_746 ?_
        obtain ⟨v335, gv335, h⟩ := px_bs h
        refine ev_aX dL_law_747 gv335 ?_
        refine EV.aload_n 0 dL_law_748 rfl rfl ?_
        refine EV.iload_n 3 dL_law_749 rfl rfl ?_
        refine EV.iconst (3) dL_law_750 (by decide) ?_
        refine EV.iadd dL_law_751 ?_
        obtain ⟨v336, gv336, h⟩ := px_bs h
        refine ev_aX dL_law_752 gv336 ?_
        obtain ⟨o337, go337, h⟩ := px_bs h
        obtain ⟨q338, gq338, h⟩ := px_bs h
        refine EV.callV (As := [.int v334, .int v335, .int v336]) (rest := [.long q333.1]) dL_law_753 kcL_law_85 (gO_ok go337) rfl rfl rfl (Nat.le_of_ble_eq_true rfl) (Nat.le_of_ble_eq_true rfl) (eX15_canvasEight gq338) ?_
        refine EV.lcmp dL_law_756 ?_
        refine EV.if_eq 854 dL_law_757 (by decide) (fun c339 => ?_) (fun c339 => ?_)
        · rw [if_pos c339] at h
          refine EV.sub [0, 1, 2, 3] rfl ?_
          exact eL_law_854 ih _ _ _ _ _ _ h
        · rw [if_neg c339] at h
          refine EV.iconst (0) dL_law_760 (by decide) ?_
          cases h
          exact EV.reti dL_law_761 rfl
      rw [if_neg c328] at h
      by_cases c340 : (v179 &&& 31) = 15
      · rw [if_pos c340] at h
        refine EV.tableIn 762 dL_law_33 (by rw [c340]; decide) (by rw [c340]; decide) (by rw [c340]; rfl) (by decide) ?_
        refine EV.aload_n 1 dL_law_762 rfl rfl ?_
        refine EV.aload_n 0 dL_law_763 rfl rfl ?_
        refine EV.iload_n 3 dL_law_764 rfl rfl ?_
        refine EV.iconst (1) dL_law_765 (by decide) ?_
        refine EV.iadd dL_law_766 ?_
        obtain ⟨v341, gv341, h⟩ := px_bs h
        refine ev_aX dL_law_767 gv341 ?_
        obtain ⟨o342, go342, h⟩ := px_bs h
        obtain ⟨q343, gq343, h⟩ := px_bs h
        refine EV.callV (As := [.int v341]) (rest := []) dL_law_768 kcL_law_86 (gO_ok go342) rfl rfl rfl (Nat.le_of_ble_eq_true rfl) (Nat.le_of_ble_eq_true rfl) (eX11_mixCanvas gq343) ?_
        refine EV.aload_n 2 dL_law_771 rfl rfl ?_
        refine EV.aload_n 0 dL_law_772 rfl rfl ?_
        refine EV.iload_n 3 dL_law_773 rfl rfl ?_
        refine EV.iconst (1) dL_law_774 (by decide) ?_
        refine EV.iadd dL_law_775 ?_
        obtain ⟨v344, gv344, h⟩ := px_bs h
        refine ev_aX dL_law_776 gv344 ?_
        obtain ⟨o345, go345, h⟩ := px_bs h
        obtain ⟨q346, gq346, h⟩ := px_bs h
        refine EV.callV (As := [.int v344]) (rest := [.int q343.1]) dL_law_777 kcL_law_89 (gO_ok go345) rfl rfl rfl (Nat.le_of_ble_eq_true rfl) (Nat.le_of_ble_eq_true rfl) (eX15_mixCanvas gq346) ?_
        refine EV.icmp_eq 854 dL_law_780 (by decide) (fun c347 => ?_) (fun c347 => ?_)
        · rw [if_pos c347] at h
          refine EV.sub [0, 1, 2, 3] rfl ?_
          exact eL_law_854 ih _ _ _ _ _ _ h
        · rw [if_neg c347] at h
          refine EV.iconst (0) dL_law_783 (by decide) ?_
          cases h
          exact EV.reti dL_law_784 rfl
      rw [if_neg c340] at h
      by_cases c348 : (v179 &&& 31) = 16
      · rw [if_pos c348] at h
        refine EV.tableIn 785 dL_law_33 (by rw [c348]; decide) (by rw [c348]; decide) (by rw [c348]; rfl) (by decide) ?_
        refine EV.aload_n 1 dL_law_785 rfl rfl ?_
        refine EV.aload_n 0 dL_law_786 rfl rfl ?_
        refine EV.iload_n 3 dL_law_787 rfl rfl ?_
        refine EV.iconst (1) dL_law_788 (by decide) ?_
        refine EV.iadd dL_law_789 ?_
        obtain ⟨v349, gv349, h⟩ := px_bs h
        refine ev_aX dL_law_790 gv349 ?_
        obtain ⟨o350, go350, h⟩ := px_bs h
        obtain ⟨q351, gq351, h⟩ := px_bs h
        refine EV.callV (As := [.int v349]) (rest := []) dL_law_791 kcL_law_90 (gO_ok go350) rfl rfl rfl (Nat.le_of_ble_eq_true rfl) (Nat.le_of_ble_eq_true rfl) (eX11_outputAt gq351) ?_
        refine EV.aload_n 2 dL_law_794 rfl rfl ?_
        refine EV.aload_n 0 dL_law_795 rfl rfl ?_
        refine EV.iload_n 3 dL_law_796 rfl rfl ?_
        refine EV.iconst (1) dL_law_797 (by decide) ?_
        refine EV.iadd dL_law_798 ?_
        obtain ⟨v352, gv352, h⟩ := px_bs h
        refine ev_aX dL_law_799 gv352 ?_
        obtain ⟨o353, go353, h⟩ := px_bs h
        obtain ⟨q354, gq354, h⟩ := px_bs h
        refine EV.callV (As := [.int v352]) (rest := [.int q351.1]) dL_law_800 kcL_law_94 (gO_ok go353) rfl rfl rfl (Nat.le_of_ble_eq_true rfl) (Nat.le_of_ble_eq_true rfl) (eX15_outputAt gq354) ?_
        refine EV.icmp_eq 854 dL_law_803 (by decide) (fun c355 => ?_) (fun c355 => ?_)
        · rw [if_pos c355] at h
          refine EV.sub [0, 1, 2, 3] rfl ?_
          exact eL_law_854 ih _ _ _ _ _ _ h
        · rw [if_neg c355] at h
          refine EV.iconst (0) dL_law_806 (by decide) ?_
          cases h
          exact EV.reti dL_law_807 rfl
      rw [if_neg c348] at h
      by_cases c356 : (v179 &&& 31) = 17
      · rw [if_pos c356] at h
        refine EV.tableIn 808 dL_law_33 (by rw [c356]; decide) (by rw [c356]; decide) (by rw [c356]; rfl) (by decide) ?_
        refine EV.aload_n 1 dL_law_808 rfl rfl ?_
        refine EV.aload_n 0 dL_law_809 rfl rfl ?_
        refine EV.iload_n 3 dL_law_810 rfl rfl ?_
        refine EV.iconst (1) dL_law_811 (by decide) ?_
        refine EV.iadd dL_law_812 ?_
        obtain ⟨v357, gv357, h⟩ := px_bs h
        refine ev_aX dL_law_813 gv357 ?_
        obtain ⟨o358, go358, h⟩ := px_bs h
        obtain ⟨q359, gq359, h⟩ := px_bs h
        refine EV.callV (As := [.int v357]) (rest := []) dL_law_814 kcL_law_95 (gO_ok go358) rfl rfl rfl (Nat.le_of_ble_eq_true rfl) (Nat.le_of_ble_eq_true rfl) (eX11_aboutPicture gq359) ?_
        refine EV.aload_n 2 dL_law_817 rfl rfl ?_
        refine EV.aload_n 0 dL_law_818 rfl rfl ?_
        refine EV.iload_n 3 dL_law_819 rfl rfl ?_
        refine EV.iconst (1) dL_law_820 (by decide) ?_
        refine EV.iadd dL_law_821 ?_
        obtain ⟨v360, gv360, h⟩ := px_bs h
        refine ev_aX dL_law_822 gv360 ?_
        obtain ⟨o361, go361, h⟩ := px_bs h
        obtain ⟨q362, gq362, h⟩ := px_bs h
        refine EV.callV (As := [.int v360]) (rest := [.int q359.1]) dL_law_823 kcL_law_98 (gO_ok go361) rfl rfl rfl (Nat.le_of_ble_eq_true rfl) (Nat.le_of_ble_eq_true rfl) (eX15_aboutPicture gq362) ?_
        refine EV.icmp_eq 854 dL_law_826 (by decide) (fun c363 => ?_) (fun c363 => ?_)
        · rw [if_pos c363] at h
          refine EV.sub [0, 1, 2, 3] rfl ?_
          exact eL_law_854 ih _ _ _ _ _ _ h
        · rw [if_neg c363] at h
          refine EV.iconst (0) dL_law_829 (by decide) ?_
          cases h
          exact EV.reti dL_law_830 rfl
      rw [if_neg c356] at h
      by_cases c364 : (v179 &&& 31) = 18
      · rw [if_pos c364] at h
        refine EV.tableIn 831 dL_law_33 (by rw [c364]; decide) (by rw [c364]; decide) (by rw [c364]; rfl) (by decide) ?_
        refine EV.aload_n 1 dL_law_831 rfl rfl ?_
        refine EV.aload_n 0 dL_law_832 rfl rfl ?_
        refine EV.iload_n 3 dL_law_833 rfl rfl ?_
        refine EV.iconst (1) dL_law_834 (by decide) ?_
        refine EV.iadd dL_law_835 ?_
        obtain ⟨v365, gv365, h⟩ := px_bs h
        refine ev_aX dL_law_836 gv365 ?_
        obtain ⟨o366, go366, h⟩ := px_bs h
        obtain ⟨q367, gq367, h⟩ := px_bs h
        refine EV.callV (As := [.int v365]) (rest := []) dL_law_837 kcL_law_99 (gO_ok go366) rfl rfl rfl (Nat.le_of_ble_eq_true rfl) (Nat.le_of_ble_eq_true rfl) (eX11_statusOf gq367) ?_
        refine EV.aload_n 2 dL_law_840 rfl rfl ?_
        refine EV.aload_n 0 dL_law_841 rfl rfl ?_
        refine EV.iload_n 3 dL_law_842 rfl rfl ?_
        refine EV.iconst (1) dL_law_843 (by decide) ?_
        refine EV.iadd dL_law_844 ?_
        obtain ⟨v368, gv368, h⟩ := px_bs h
        refine ev_aX dL_law_845 gv368 ?_
        obtain ⟨o369, go369, h⟩ := px_bs h
        obtain ⟨q370, gq370, h⟩ := px_bs h
        refine EV.callV (As := [.int v368]) (rest := [.int q367.1]) dL_law_846 kcL_law_102 (gO_ok go369) rfl rfl rfl (Nat.le_of_ble_eq_true rfl) (Nat.le_of_ble_eq_true rfl) (eX15_statusOf gq370) ?_
        refine EV.icmp_eq 854 dL_law_849 (by decide) (fun c371 => ?_) (fun c371 => ?_)
        · rw [if_pos c371] at h
          refine EV.sub [0, 1, 2, 3] rfl ?_
          exact eL_law_854 ih _ _ _ _ _ _ h
        · rw [if_neg c371] at h
          refine EV.iconst (0) dL_law_852 (by decide) ?_
          cases h
          exact EV.reti dL_law_853 rfl
      rw [if_neg c364] at h
      have nc180 : (v179 &&& 31).toInt ≠ 0 := fun z => c180 (Int32.toInt_inj.mp (z.trans (by decide)))
      have nc192 : (v179 &&& 31).toInt ≠ 1 := fun z => c192 (Int32.toInt_inj.mp (z.trans (by decide)))
      have nc197 : (v179 &&& 31).toInt ≠ 2 := fun z => c197 (Int32.toInt_inj.mp (z.trans (by decide)))
      have nc202 : (v179 &&& 31).toInt ≠ 3 := fun z => c202 (Int32.toInt_inj.mp (z.trans (by decide)))
      have nc208 : (v179 &&& 31).toInt ≠ 4 := fun z => c208 (Int32.toInt_inj.mp (z.trans (by decide)))
      have nc218 : (v179 &&& 31).toInt ≠ 5 := fun z => c218 (Int32.toInt_inj.mp (z.trans (by decide)))
      have nc234 : (v179 &&& 31).toInt ≠ 6 := fun z => c234 (Int32.toInt_inj.mp (z.trans (by decide)))
      have nc238 : (v179 &&& 31).toInt ≠ 7 := fun z => c238 (Int32.toInt_inj.mp (z.trans (by decide)))
      have nc246 : (v179 &&& 31).toInt ≠ 8 := fun z => c246 (Int32.toInt_inj.mp (z.trans (by decide)))
      have nc260 : (v179 &&& 31).toInt ≠ 9 := fun z => c260 (Int32.toInt_inj.mp (z.trans (by decide)))
      have nc276 : (v179 &&& 31).toInt ≠ 10 := fun z => c276 (Int32.toInt_inj.mp (z.trans (by decide)))
      have nc290 : (v179 &&& 31).toInt ≠ 11 := fun z => c290 (Int32.toInt_inj.mp (z.trans (by decide)))
      have nc300 : (v179 &&& 31).toInt ≠ 12 := fun z => c300 (Int32.toInt_inj.mp (z.trans (by decide)))
      have nc312 : (v179 &&& 31).toInt ≠ 13 := fun z => c312 (Int32.toInt_inj.mp (z.trans (by decide)))
      have nc328 : (v179 &&& 31).toInt ≠ 14 := fun z => c328 (Int32.toInt_inj.mp (z.trans (by decide)))
      have nc340 : (v179 &&& 31).toInt ≠ 15 := fun z => c340 (Int32.toInt_inj.mp (z.trans (by decide)))
      have nc348 : (v179 &&& 31).toInt ≠ 16 := fun z => c348 (Int32.toInt_inj.mp (z.trans (by decide)))
      have nc356 : (v179 &&& 31).toInt ≠ 17 := fun z => c356 (Int32.toInt_inj.mp (z.trans (by decide)))
      have nc364 : (v179 &&& 31).toInt ≠ 18 := fun z => c364 (Int32.toInt_inj.mp (z.trans (by decide)))
      refine EV.tableOut 854 dL_law_33 (by omega) (by decide) ?_
      refine EV.sub [0, 1, 2, 3] rfl ?_
      exact eL_law_854 ih _ _ _ _ _ _ h
set_option maxRecDepth 100000 in
set_option maxHeartbeats 4000000 in
theorem eL_law {X : px_X} {w : px_W} {a0 : Nat} {q : Int32 × px_W} (h : fL_law X w a0 = some q) : EV X mL_law 0 (lv_args 0 [.ref a0]) [] w (some (.int q.1)) q.2 := by
  unfold fL_law at h
  show EV X mL_law 0 [(0, .ref a0)] [] w (some (.int q.1)) q.2
  obtain ⟨q372, gq372, h⟩ := px_bs h
  refine ev_nO (q := (RX11, TX11, 18)) dL_law_0 rfl rfl (tb1 (List.mem_of_getElem? (i := 21) rfl)) (tb1 (List.mem_of_getElem? (i := 22) rfl)) (tb1 (List.mem_of_getElem? (i := 1) rfl)) nd11 gq372 ?_
  refine EV.dup dL_law_3 rfl ?_
  obtain ⟨q373, gq373, h⟩ := px_bs h
  refine EV.callI (As := []) (rest := [.ref q372.1]) dL_law_4 kcL_law_9 rfl (Nat.le_of_ble_eq_true rfl) (Nat.le_of_ble_eq_true rfl) (eX11_init gq373) ?_
  refine EV.astore_n [(1, .ref q372.1), (0, .ref a0)] dL_law_7 rfl (by decide) rfl ?_
  obtain ⟨q374, gq374, h⟩ := px_bs h
  refine ev_nO (q := (RX15, TX15, 47)) dL_law_8 rfl rfl (tb6 (List.mem_of_getElem? (i := 86) rfl)) (tb6 (List.mem_of_getElem? (i := 87) rfl)) (tb1 (List.mem_of_getElem? (i := 13) rfl)) nd15 gq374 ?_
  refine EV.dup dL_law_11 rfl ?_
  obtain ⟨q375, gq375, h⟩ := px_bs h
  refine EV.callI (As := []) (rest := [.ref q374.1]) dL_law_12 kcL_law_12 rfl (Nat.le_of_ble_eq_true rfl) (Nat.le_of_ble_eq_true rfl) (eX15_init gq375) ?_
  refine EV.astore_n [(2, .ref q374.1), (1, .ref q372.1), (0, .ref a0)] dL_law_15 rfl (by decide) rfl ?_
  refine EV.iconst (0) dL_law_16 (by decide) ?_
  refine EV.istore_n [(3, .int 0), (2, .ref q374.1), (1, .ref q372.1), (0, .ref a0)] dL_law_17 rfl (by decide) rfl ?_
  refine EV.sub [3, 2, 1, 0] rfl ?_
  exact eL_law_18  FU _ _ _ _ _ _ h
