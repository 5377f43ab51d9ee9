/-! WavePicturesModel.cropTo(IIII)Z -/
theorem dX15_cropTo_0 : decode cX15_cropTo 0 = .ok (.aload_n 0, 1) := by decide +kernel
theorem dX15_cropTo_1 : decode cX15_cropTo 1 = .ok (.getfield 235, 3) := by decide +kernel
theorem dX15_cropTo_4 : decode cX15_cropTo 4 = .ok (.ifCond .eq 51, 3) := by decide +kernel
theorem dX15_cropTo_7 : decode cX15_cropTo 7 = .ok (.iload_n 3, 1) := by decide +kernel
theorem dX15_cropTo_8 : decode cX15_cropTo 8 = .ok (.iconst 1, 1) := by decide +kernel
theorem dX15_cropTo_9 : decode cX15_cropTo 9 = .ok (.if_icmp .lt 46, 3) := by decide +kernel
theorem dX15_cropTo_12 : decode cX15_cropTo 12 = .ok (.iload 4, 2) := by decide +kernel
theorem dX15_cropTo_14 : decode cX15_cropTo 14 = .ok (.iconst 1, 1) := by decide +kernel
theorem dX15_cropTo_15 : decode cX15_cropTo 15 = .ok (.if_icmp .lt 40, 3) := by decide +kernel
theorem dX15_cropTo_18 : decode cX15_cropTo 18 = .ok (.iload_n 1, 1) := by decide +kernel
theorem dX15_cropTo_19 : decode cX15_cropTo 19 = .ok (.ifCond .lt 36, 3) := by decide +kernel
theorem dX15_cropTo_22 : decode cX15_cropTo 22 = .ok (.iload_n 2, 1) := by decide +kernel
theorem dX15_cropTo_23 : decode cX15_cropTo 23 = .ok (.ifCond .lt 32, 3) := by decide +kernel
theorem dX15_cropTo_26 : decode cX15_cropTo 26 = .ok (.iload_n 1, 1) := by decide +kernel
theorem dX15_cropTo_27 : decode cX15_cropTo 27 = .ok (.i2l, 1) := by decide +kernel
theorem dX15_cropTo_28 : decode cX15_cropTo 28 = .ok (.iload_n 3, 1) := by decide +kernel
theorem dX15_cropTo_29 : decode cX15_cropTo 29 = .ok (.i2l, 1) := by decide +kernel
theorem dX15_cropTo_30 : decode cX15_cropTo 30 = .ok (.ladd, 1) := by decide +kernel
theorem dX15_cropTo_31 : decode cX15_cropTo 31 = .ok (.aload_n 0, 1) := by decide +kernel
theorem dX15_cropTo_32 : decode cX15_cropTo 32 = .ok (.getfield 136, 3) := by decide +kernel
theorem dX15_cropTo_35 : decode cX15_cropTo 35 = .ok (.i2l, 1) := by decide +kernel
theorem dX15_cropTo_36 : decode cX15_cropTo 36 = .ok (.lcmp, 1) := by decide +kernel
theorem dX15_cropTo_37 : decode cX15_cropTo 37 = .ok (.ifCond .gt 18, 3) := by decide +kernel
theorem dX15_cropTo_40 : decode cX15_cropTo 40 = .ok (.iload_n 2, 1) := by decide +kernel
theorem dX15_cropTo_41 : decode cX15_cropTo 41 = .ok (.i2l, 1) := by decide +kernel
theorem dX15_cropTo_42 : decode cX15_cropTo 42 = .ok (.iload 4, 2) := by decide +kernel
theorem dX15_cropTo_44 : decode cX15_cropTo 44 = .ok (.i2l, 1) := by decide +kernel
theorem dX15_cropTo_45 : decode cX15_cropTo 45 = .ok (.ladd, 1) := by decide +kernel
theorem dX15_cropTo_46 : decode cX15_cropTo 46 = .ok (.aload_n 0, 1) := by decide +kernel
theorem dX15_cropTo_47 : decode cX15_cropTo 47 = .ok (.getfield 142, 3) := by decide +kernel
theorem dX15_cropTo_50 : decode cX15_cropTo 50 = .ok (.i2l, 1) := by decide +kernel
theorem dX15_cropTo_51 : decode cX15_cropTo 51 = .ok (.lcmp, 1) := by decide +kernel
theorem dX15_cropTo_52 : decode cX15_cropTo 52 = .ok (.ifCond .le 5, 3) := by decide +kernel
theorem dX15_cropTo_55 : decode cX15_cropTo 55 = .ok (.iconst 0, 1) := by decide +kernel
theorem dX15_cropTo_56 : decode cX15_cropTo 56 = .ok (.ireturn, 1) := by decide +kernel
theorem dX15_cropTo_57 : decode cX15_cropTo 57 = .ok (.aload_n 0, 1) := by decide +kernel
theorem dX15_cropTo_58 : decode cX15_cropTo 58 = .ok (.invokevirtual 378, 3) := by decide +kernel
theorem dX15_cropTo_61 : decode cX15_cropTo 61 = .ok (.aload_n 0, 1) := by decide +kernel
theorem dX15_cropTo_62 : decode cX15_cropTo 62 = .ok (.getfield 129, 3) := by decide +kernel
theorem dX15_cropTo_65 : decode cX15_cropTo 65 = .ok (.bipush 8, 2) := by decide +kernel
theorem dX15_cropTo_67 : decode cX15_cropTo 67 = .ok (.aload_n 0, 1) := by decide +kernel
theorem dX15_cropTo_68 : decode cX15_cropTo 68 = .ok (.getfield 120, 3) := by decide +kernel
theorem dX15_cropTo_71 : decode cX15_cropTo 71 = .ok (.imul, 1) := by decide +kernel
theorem dX15_cropTo_72 : decode cX15_cropTo 72 = .ok (.iload_n 1, 1) := by decide +kernel
theorem dX15_cropTo_73 : decode cX15_cropTo 73 = .ok (.imul, 1) := by decide +kernel
theorem dX15_cropTo_74 : decode cX15_cropTo 74 = .ok (.isub, 1) := by decide +kernel
theorem dX15_cropTo_75 : decode cX15_cropTo 75 = .ok (.istore 5, 2) := by decide +kernel
theorem dX15_cropTo_77 : decode cX15_cropTo 77 = .ok (.aload_n 0, 1) := by decide +kernel
theorem dX15_cropTo_78 : decode cX15_cropTo 78 = .ok (.getfield 139, 3) := by decide +kernel
theorem dX15_cropTo_81 : decode cX15_cropTo 81 = .ok (.bipush 8, 2) := by decide +kernel
theorem dX15_cropTo_83 : decode cX15_cropTo 83 = .ok (.aload_n 0, 1) := by decide +kernel
theorem dX15_cropTo_84 : decode cX15_cropTo 84 = .ok (.getfield 123, 3) := by decide +kernel
theorem dX15_cropTo_87 : decode cX15_cropTo 87 = .ok (.imul, 1) := by decide +kernel
theorem dX15_cropTo_88 : decode cX15_cropTo 88 = .ok (.iload_n 2, 1) := by decide +kernel
theorem dX15_cropTo_89 : decode cX15_cropTo 89 = .ok (.imul, 1) := by decide +kernel
theorem dX15_cropTo_90 : decode cX15_cropTo 90 = .ok (.isub, 1) := by decide +kernel
theorem dX15_cropTo_91 : decode cX15_cropTo 91 = .ok (.istore 6, 2) := by decide +kernel
theorem dX15_cropTo_93 : decode cX15_cropTo 93 = .ok (.aload_n 0, 1) := by decide +kernel
theorem dX15_cropTo_94 : decode cX15_cropTo 94 = .ok (.iload 5, 2) := by decide +kernel
theorem dX15_cropTo_96 : decode cX15_cropTo 96 = .ok (.bipush 8, 2) := by decide +kernel
theorem dX15_cropTo_98 : decode cX15_cropTo 98 = .ok (.aload_n 0, 1) := by decide +kernel
theorem dX15_cropTo_99 : decode cX15_cropTo 99 = .ok (.getfield 120, 3) := by decide +kernel
theorem dX15_cropTo_102 : decode cX15_cropTo 102 = .ok (.imul, 1) := by decide +kernel
theorem dX15_cropTo_103 : decode cX15_cropTo 103 = .ok (.iload_n 3, 1) := by decide +kernel
theorem dX15_cropTo_104 : decode cX15_cropTo 104 = .ok (.imul, 1) := by decide +kernel
theorem dX15_cropTo_105 : decode cX15_cropTo 105 = .ok (.if_icmp .ge 8, 3) := by decide +kernel
theorem dX15_cropTo_108 : decode cX15_cropTo 108 = .ok (.iload 5, 2) := by decide +kernel
theorem dX15_cropTo_110 : decode cX15_cropTo 110 = .ok (.goto 12, 3) := by decide +kernel
theorem dX15_cropTo_113 : decode cX15_cropTo 113 = .ok (.bipush 8, 2) := by decide +kernel
theorem dX15_cropTo_115 : decode cX15_cropTo 115 = .ok (.aload_n 0, 1) := by decide +kernel
theorem dX15_cropTo_116 : decode cX15_cropTo 116 = .ok (.getfield 120, 3) := by decide +kernel
theorem dX15_cropTo_119 : decode cX15_cropTo 119 = .ok (.imul, 1) := by decide +kernel
theorem dX15_cropTo_120 : decode cX15_cropTo 120 = .ok (.iload_n 3, 1) := by decide +kernel
theorem dX15_cropTo_121 : decode cX15_cropTo 121 = .ok (.imul, 1) := by decide +kernel
theorem dX15_cropTo_122 : decode cX15_cropTo 122 = .ok (.putfield 129, 3) := by decide +kernel
theorem dX15_cropTo_125 : decode cX15_cropTo 125 = .ok (.aload_n 0, 1) := by decide +kernel
theorem dX15_cropTo_126 : decode cX15_cropTo 126 = .ok (.iload 6, 2) := by decide +kernel
theorem dX15_cropTo_128 : decode cX15_cropTo 128 = .ok (.bipush 8, 2) := by decide +kernel
theorem dX15_cropTo_130 : decode cX15_cropTo 130 = .ok (.aload_n 0, 1) := by decide +kernel
theorem dX15_cropTo_131 : decode cX15_cropTo 131 = .ok (.getfield 123, 3) := by decide +kernel
theorem dX15_cropTo_134 : decode cX15_cropTo 134 = .ok (.imul, 1) := by decide +kernel
theorem dX15_cropTo_135 : decode cX15_cropTo 135 = .ok (.iload 4, 2) := by decide +kernel
theorem dX15_cropTo_137 : decode cX15_cropTo 137 = .ok (.imul, 1) := by decide +kernel
theorem dX15_cropTo_138 : decode cX15_cropTo 138 = .ok (.if_icmp .ge 8, 3) := by decide +kernel
theorem dX15_cropTo_141 : decode cX15_cropTo 141 = .ok (.iload 6, 2) := by decide +kernel
theorem dX15_cropTo_143 : decode cX15_cropTo 143 = .ok (.goto 13, 3) := by decide +kernel
theorem dX15_cropTo_146 : decode cX15_cropTo 146 = .ok (.bipush 8, 2) := by decide +kernel
theorem dX15_cropTo_148 : decode cX15_cropTo 148 = .ok (.aload_n 0, 1) := by decide +kernel
theorem dX15_cropTo_149 : decode cX15_cropTo 149 = .ok (.getfield 123, 3) := by decide +kernel
theorem dX15_cropTo_152 : decode cX15_cropTo 152 = .ok (.imul, 1) := by decide +kernel
theorem dX15_cropTo_153 : decode cX15_cropTo 153 = .ok (.iload 4, 2) := by decide +kernel
theorem dX15_cropTo_155 : decode cX15_cropTo 155 = .ok (.imul, 1) := by decide +kernel
theorem dX15_cropTo_156 : decode cX15_cropTo 156 = .ok (.putfield 139, 3) := by decide +kernel
theorem dX15_cropTo_159 : decode cX15_cropTo 159 = .ok (.aload_n 0, 1) := by decide +kernel
theorem dX15_cropTo_160 : decode cX15_cropTo 160 = .ok (.invokevirtual 239, 3) := by decide +kernel
theorem dX15_cropTo_163 : decode cX15_cropTo 163 = .ok (.iconst 0, 1) := by decide +kernel
theorem dX15_cropTo_164 : decode cX15_cropTo 164 = .ok (.istore 7, 2) := by decide +kernel
theorem dX15_cropTo_166 : decode cX15_cropTo 166 = .ok (.iload 7, 2) := by decide +kernel
theorem dX15_cropTo_168 : decode cX15_cropTo 168 = .ok (.aload_n 0, 1) := by decide +kernel
theorem dX15_cropTo_169 : decode cX15_cropTo 169 = .ok (.getfield 126, 3) := by decide +kernel
theorem dX15_cropTo_172 : decode cX15_cropTo 172 = .ok (.if_icmp .ge 147, 3) := by decide +kernel
theorem dX15_cropTo_175 : decode cX15_cropTo 175 = .ok (.iconst 0, 1) := by decide +kernel
theorem dX15_cropTo_176 : decode cX15_cropTo 176 = .ok (.istore 8, 2) := by decide +kernel
theorem dX15_cropTo_178 : decode cX15_cropTo 178 = .ok (.iload 8, 2) := by decide +kernel
theorem dX15_cropTo_180 : decode cX15_cropTo 180 = .ok (.aload_n 0, 1) := by decide +kernel
theorem dX15_cropTo_181 : decode cX15_cropTo 181 = .ok (.getfield 58, 3) := by decide +kernel
theorem dX15_cropTo_184 : decode cX15_cropTo 184 = .ok (.iload 7, 2) := by decide +kernel
theorem dX15_cropTo_186 : decode cX15_cropTo 186 = .ok (.iaload, 1) := by decide +kernel
theorem dX15_cropTo_187 : decode cX15_cropTo 187 = .ok (.aload_n 0, 1) := by decide +kernel
theorem dX15_cropTo_188 : decode cX15_cropTo 188 = .ok (.getfield 61, 3) := by decide +kernel
theorem dX15_cropTo_191 : decode cX15_cropTo 191 = .ok (.iload 7, 2) := by decide +kernel
theorem dX15_cropTo_193 : decode cX15_cropTo 193 = .ok (.iaload, 1) := by decide +kernel
theorem dX15_cropTo_194 : decode cX15_cropTo 194 = .ok (.imul, 1) := by decide +kernel
theorem dX15_cropTo_195 : decode cX15_cropTo 195 = .ok (.if_icmp .ge 118, 3) := by decide +kernel
theorem dX15_cropTo_198 : decode cX15_cropTo 198 = .ok (.aload_n 0, 1) := by decide +kernel
theorem dX15_cropTo_199 : decode cX15_cropTo 199 = .ok (.getfield 80, 3) := by decide +kernel
theorem dX15_cropTo_202 : decode cX15_cropTo 202 = .ok (.iload 7, 2) := by decide +kernel
theorem dX15_cropTo_204 : decode cX15_cropTo 204 = .ok (.iaload, 1) := by decide +kernel
theorem dX15_cropTo_205 : decode cX15_cropTo 205 = .ok (.iload 8, 2) := by decide +kernel
theorem dX15_cropTo_207 : decode cX15_cropTo 207 = .ok (.aload_n 0, 1) := by decide +kernel
theorem dX15_cropTo_208 : decode cX15_cropTo 208 = .ok (.getfield 58, 3) := by decide +kernel
theorem dX15_cropTo_211 : decode cX15_cropTo 211 = .ok (.iload 7, 2) := by decide +kernel
theorem dX15_cropTo_213 : decode cX15_cropTo 213 = .ok (.iaload, 1) := by decide +kernel
theorem dX15_cropTo_214 : decode cX15_cropTo 214 = .ok (.idiv, 1) := by decide +kernel
theorem dX15_cropTo_215 : decode cX15_cropTo 215 = .ok (.iload_n 2, 1) := by decide +kernel
theorem dX15_cropTo_216 : decode cX15_cropTo 216 = .ok (.aload_n 0, 1) := by decide +kernel
theorem dX15_cropTo_217 : decode cX15_cropTo 217 = .ok (.getfield 55, 3) := by decide +kernel
theorem dX15_cropTo_220 : decode cX15_cropTo 220 = .ok (.iload 7, 2) := by decide +kernel
theorem dX15_cropTo_222 : decode cX15_cropTo 222 = .ok (.iaload, 1) := by decide +kernel
theorem dX15_cropTo_223 : decode cX15_cropTo 223 = .ok (.imul, 1) := by decide +kernel
theorem dX15_cropTo_224 : decode cX15_cropTo 224 = .ok (.iadd, 1) := by decide +kernel
theorem dX15_cropTo_225 : decode cX15_cropTo 225 = .ok (.aload_n 0, 1) := by decide +kernel
theorem dX15_cropTo_226 : decode cX15_cropTo 226 = .ok (.getfield 77, 3) := by decide +kernel
theorem dX15_cropTo_229 : decode cX15_cropTo 229 = .ok (.iload 7, 2) := by decide +kernel
theorem dX15_cropTo_231 : decode cX15_cropTo 231 = .ok (.iaload, 1) := by decide +kernel
theorem dX15_cropTo_232 : decode cX15_cropTo 232 = .ok (.imul, 1) := by decide +kernel
theorem dX15_cropTo_233 : decode cX15_cropTo 233 = .ok (.iadd, 1) := by decide +kernel
theorem dX15_cropTo_234 : decode cX15_cropTo 234 = .ok (.iload 8, 2) := by decide +kernel
theorem dX15_cropTo_236 : decode cX15_cropTo 236 = .ok (.aload_n 0, 1) := by decide +kernel
theorem dX15_cropTo_237 : decode cX15_cropTo 237 = .ok (.getfield 58, 3) := by decide +kernel
theorem dX15_cropTo_240 : decode cX15_cropTo 240 = .ok (.iload 7, 2) := by decide +kernel
theorem dX15_cropTo_242 : decode cX15_cropTo 242 = .ok (.iaload, 1) := by decide +kernel
theorem dX15_cropTo_243 : decode cX15_cropTo 243 = .ok (.irem, 1) := by decide +kernel
theorem dX15_cropTo_244 : decode cX15_cropTo 244 = .ok (.iadd, 1) := by decide +kernel
theorem dX15_cropTo_245 : decode cX15_cropTo 245 = .ok (.iload_n 1, 1) := by decide +kernel
theorem dX15_cropTo_246 : decode cX15_cropTo 246 = .ok (.aload_n 0, 1) := by decide +kernel
theorem dX15_cropTo_247 : decode cX15_cropTo 247 = .ok (.getfield 52, 3) := by decide +kernel
theorem dX15_cropTo_250 : decode cX15_cropTo 250 = .ok (.iload 7, 2) := by decide +kernel
theorem dX15_cropTo_252 : decode cX15_cropTo 252 = .ok (.iaload, 1) := by decide +kernel
theorem dX15_cropTo_253 : decode cX15_cropTo 253 = .ok (.imul, 1) := by decide +kernel
theorem dX15_cropTo_254 : decode cX15_cropTo 254 = .ok (.iadd, 1) := by decide +kernel
theorem dX15_cropTo_255 : decode cX15_cropTo 255 = .ok (.istore 9, 2) := by decide +kernel
theorem dX15_cropTo_257 : decode cX15_cropTo 257 = .ok (.iconst 0, 1) := by decide +kernel
theorem dX15_cropTo_258 : decode cX15_cropTo 258 = .ok (.istore 10, 2) := by decide +kernel
theorem dX15_cropTo_260 : decode cX15_cropTo 260 = .ok (.iload 10, 2) := by decide +kernel
theorem dX15_cropTo_262 : decode cX15_cropTo 262 = .ok (.bipush 64, 2) := by decide +kernel
theorem dX15_cropTo_264 : decode cX15_cropTo 264 = .ok (.if_icmp .ge 43, 3) := by decide +kernel
theorem dX15_cropTo_267 : decode cX15_cropTo 267 = .ok (.aload_n 0, 1) := by decide +kernel
theorem dX15_cropTo_268 : decode cX15_cropTo 268 = .ok (.getfield 70, 3) := by decide +kernel
theorem dX15_cropTo_271 : decode cX15_cropTo 271 = .ok (.bipush 64, 2) := by decide +kernel
theorem dX15_cropTo_273 : decode cX15_cropTo 273 = .ok (.aload_n 0, 1) := by decide +kernel
theorem dX15_cropTo_274 : decode cX15_cropTo 274 = .ok (.getfield 64, 3) := by decide +kernel
theorem dX15_cropTo_277 : decode cX15_cropTo 277 = .ok (.iload 7, 2) := by decide +kernel
theorem dX15_cropTo_279 : decode cX15_cropTo 279 = .ok (.iaload, 1) := by decide +kernel
theorem dX15_cropTo_280 : decode cX15_cropTo 280 = .ok (.iload 8, 2) := by decide +kernel
theorem dX15_cropTo_282 : decode cX15_cropTo 282 = .ok (.iadd, 1) := by decide +kernel
theorem dX15_cropTo_283 : decode cX15_cropTo 283 = .ok (.imul, 1) := by decide +kernel
theorem dX15_cropTo_284 : decode cX15_cropTo 284 = .ok (.iload 10, 2) := by decide +kernel
theorem dX15_cropTo_286 : decode cX15_cropTo 286 = .ok (.iadd, 1) := by decide +kernel
theorem dX15_cropTo_287 : decode cX15_cropTo 287 = .ok (.aload_n 0, 1) := by decide +kernel
theorem dX15_cropTo_288 : decode cX15_cropTo 288 = .ok (.getfield 74, 3) := by decide +kernel
theorem dX15_cropTo_291 : decode cX15_cropTo 291 = .ok (.bipush 64, 2) := by decide +kernel
theorem dX15_cropTo_293 : decode cX15_cropTo 293 = .ok (.iload 9, 2) := by decide +kernel
theorem dX15_cropTo_295 : decode cX15_cropTo 295 = .ok (.imul, 1) := by decide +kernel
theorem dX15_cropTo_296 : decode cX15_cropTo 296 = .ok (.iload 10, 2) := by decide +kernel
theorem dX15_cropTo_298 : decode cX15_cropTo 298 = .ok (.iadd, 1) := by decide +kernel
theorem dX15_cropTo_299 : decode cX15_cropTo 299 = .ok (.saload, 1) := by decide +kernel
theorem dX15_cropTo_300 : decode cX15_cropTo 300 = .ok (.sastore, 1) := by decide +kernel
theorem dX15_cropTo_301 : decode cX15_cropTo 301 = .ok (.iinc 10 1, 3) := by decide +kernel
theorem dX15_cropTo_304 : decode cX15_cropTo 304 = .ok (.goto (-44), 3) := by decide +kernel
theorem dX15_cropTo_307 : decode cX15_cropTo 307 = .ok (.iinc 8 1, 3) := by decide +kernel
theorem dX15_cropTo_310 : decode cX15_cropTo 310 = .ok (.goto (-132), 3) := by decide +kernel
theorem dX15_cropTo_313 : decode cX15_cropTo 313 = .ok (.iinc 7 1, 3) := by decide +kernel
theorem dX15_cropTo_316 : decode cX15_cropTo 316 = .ok (.goto (-150), 3) := by decide +kernel
theorem dX15_cropTo_319 : decode cX15_cropTo 319 = .ok (.iconst 1, 1) := by decide +kernel
theorem dX15_cropTo_320 : decode cX15_cropTo 320 = .ok (.ireturn, 1) := by decide +kernel
theorem kcX15_cropTo_239 : px_cV mX15_cropTo 239 mX15_layOut 0 := ⟨⟨mbX15_layOut, by decide, by decide⟩, Or.inl (tb9 (List.mem_of_getElem? (i := 111) rfl)), vbX15_layOut⟩
theorem kcX15_cropTo_378 : px_cV mX15_cropTo 378 mX15_keep 0 := ⟨⟨mbX15_keep, by decide, by decide⟩, Or.inl (tb10 (List.mem_of_getElem? (i := 79) rfl)), vbX15_keep⟩
set_option maxRecDepth 100000 in
set_option maxHeartbeats 4000000 in
theorem eX15_cropTo_313 {X : px_X} {k166 : Nat → Int32 → Int32 → Int32 → px_W → Option (Int32 × px_W)} (hk166 : ∀ (a0 : Nat) (a1 : Int32) (a2 : Int32) (a7 : Int32) (w : px_W) (q : Int32 × px_W), k166 a0 a1 a2 a7 w = some q → EV X mX15_cropTo 166 [(0, .ref a0), (1, .int a1), (2, .int a2), (7, .int a7)] [] w (some (.int q.1)) q.2) : ∀ (a0 : Nat) (a1 : Int32) (a2 : Int32) (a7 : Int32) (w : px_W) (q : Int32 × px_W), fX15_cropTo_313 X k166 a0 a1 a2 a7 w = some q → EV X mX15_cropTo 313 [(0, .ref a0), (1, .int a1), (2, .int a2), (7, .int a7)] [] w (some (.int q.1)) q.2 := by
  intro a0 a1 a2 a7 w q h
  unfold fX15_cropTo_313 at h
  refine EV.iinc 3 (a7 + 1) [(7, .int (a7 + 1)), (0, .ref a0), (1, .int a1), (2, .int a2)] dX15_cropTo_313 rfl rfl (by decide) rfl ?_
  refine EV.goto 166 dX15_cropTo_316 (by decide) ?_
  refine EV.sub [1, 2, 3, 0] rfl ?_
  exact hk166 _ _ _ _ _ _ h
set_option maxRecDepth 100000 in
set_option maxHeartbeats 4000000 in
theorem eX15_cropTo_307 {X : px_X} {k166 : Nat → Int32 → Int32 → Int32 → px_W → Option (Int32 × px_W)} (hk166 : ∀ (a0 : Nat) (a1 : Int32) (a2 : Int32) (a7 : Int32) (w : px_W) (q : Int32 × px_W), k166 a0 a1 a2 a7 w = some q → EV X mX15_cropTo 166 [(0, .ref a0), (1, .int a1), (2, .int a2), (7, .int a7)] [] w (some (.int q.1)) q.2) {k178 : Nat → Int32 → Int32 → Int32 → Int32 → px_W → Option (Int32 × px_W)} (hk178 : ∀ (a0 : Nat) (a1 : Int32) (a2 : Int32) (a7 : Int32) (a8 : Int32) (w : px_W) (q : Int32 × px_W), k178 a0 a1 a2 a7 a8 w = some q → EV X mX15_cropTo 178 [(0, .ref a0), (1, .int a1), (2, .int a2), (7, .int a7), (8, .int a8)] [] w (some (.int q.1)) q.2) : ∀ (a0 : Nat) (a1 : Int32) (a2 : Int32) (a7 : Int32) (a8 : Int32) (w : px_W) (q : Int32 × px_W), fX15_cropTo_307 X k166 k178 a0 a1 a2 a7 a8 w = some q → EV X mX15_cropTo 307 [(0, .ref a0), (1, .int a1), (2, .int a2), (7, .int a7), (8, .int a8)] [] w (some (.int q.1)) q.2 := by
  intro a0 a1 a2 a7 a8 w q h
  unfold fX15_cropTo_307 at h
  refine EV.iinc 4 (a8 + 1) [(8, .int (a8 + 1)), (0, .ref a0), (1, .int a1), (2, .int a2), (7, .int a7)] dX15_cropTo_307 rfl rfl (by decide) rfl ?_
  refine EV.goto 178 dX15_cropTo_310 (by decide) ?_
  refine EV.sub [1, 2, 3, 4, 0] rfl ?_
  exact hk178 _ _ _ _ _ _ _ h
set_option maxRecDepth 100000 in
set_option maxHeartbeats 4000000 in
theorem eX15_cropTo_260 {X : px_X} {k166 : Nat → Int32 → Int32 → Int32 → px_W → Option (Int32 × px_W)} (hk166 : ∀ (a0 : Nat) (a1 : Int32) (a2 : Int32) (a7 : Int32) (w : px_W) (q : Int32 × px_W), k166 a0 a1 a2 a7 w = some q → EV X mX15_cropTo 166 [(0, .ref a0), (1, .int a1), (2, .int a2), (7, .int a7)] [] w (some (.int q.1)) q.2) {k178 : Nat → Int32 → Int32 → Int32 → Int32 → px_W → Option (Int32 × px_W)} (hk178 : ∀ (a0 : Nat) (a1 : Int32) (a2 : Int32) (a7 : Int32) (a8 : Int32) (w : px_W) (q : Int32 × px_W), k178 a0 a1 a2 a7 a8 w = some q → EV X mX15_cropTo 178 [(0, .ref a0), (1, .int a1), (2, .int a2), (7, .int a7), (8, .int a8)] [] w (some (.int q.1)) q.2) : ∀ (m : Nat) (a0 : Nat) (a1 : Int32) (a2 : Int32) (a7 : Int32) (a8 : Int32) (a9 : Int32) (a10 : Int32) (w : px_W) (q : Int32 × px_W), fX15_cropTo_260 X k166 k178 m a0 a1 a2 a7 a8 a9 a10 w = some q → EV X mX15_cropTo 260 [(0, .ref a0), (1, .int a1), (2, .int a2), (7, .int a7), (8, .int a8), (9, .int a9), (10, .int a10)] [] w (some (.int q.1)) q.2 := by
  intro m
  induction m with
  | zero => intro a0 a1 a2 a7 a8 a9 a10 w q h; cases h
  | succ m ih =>
    intro a0 a1 a2 a7 a8 a9 a10 w q h
    rw [fX15_cropTo_260.eq_2] at h
    refine EV.iload 6 dX15_cropTo_260 rfl ?_
    refine EV.bipush (64) dX15_cropTo_262 (by decide) ?_
    refine EV.icmp_ge 307 dX15_cropTo_264 (by decide) (fun c43 => ?_) (fun c43 => ?_)
    · rw [if_pos c43] at h
      refine EV.sub [0, 1, 2, 3, 4] rfl ?_
      exact eX15_cropTo_307 hk166 hk178 _ _ _ _ _ _ _ h
    · rw [if_neg c43] at h
      refine EV.aload_n 0 dX15_cropTo_267 rfl rfl ?_
      obtain ⟨v44, gv44, h⟩ := px_bs h
      refine ev_gR dX15_cropTo_268 flRX15_70 gv44 ?_
      refine EV.bipush (64) dX15_cropTo_271 (by decide) ?_
      refine EV.aload_n 0 dX15_cropTo_273 rfl rfl ?_
      obtain ⟨v45, gv45, h⟩ := px_bs h
      refine ev_gR dX15_cropTo_274 flRX15_64 gv45 ?_
      refine EV.iload 3 dX15_cropTo_277 rfl ?_
      obtain ⟨v46, gv46, h⟩ := px_bs h
      refine ev_aI dX15_cropTo_279 gv46 ?_
      refine EV.iload 4 dX15_cropTo_280 rfl ?_
      refine EV.iadd dX15_cropTo_282 ?_
      refine EV.imul dX15_cropTo_283 ?_
      refine EV.iload 6 dX15_cropTo_284 rfl ?_
      refine EV.iadd dX15_cropTo_286 ?_
      refine EV.aload_n 0 dX15_cropTo_287 rfl rfl ?_
      obtain ⟨v47, gv47, h⟩ := px_bs h
      refine ev_gR dX15_cropTo_288 flRX15_74 gv47 ?_
      refine EV.bipush (64) dX15_cropTo_291 (by decide) ?_
      refine EV.iload 5 dX15_cropTo_293 rfl ?_
      refine EV.imul dX15_cropTo_295 ?_
      refine EV.iload 6 dX15_cropTo_296 rfl ?_
      refine EV.iadd dX15_cropTo_298 ?_
      obtain ⟨v48, gv48, h⟩ := px_bs h
      refine ev_aS dX15_cropTo_299 gv48 ?_
      obtain ⟨w49, gw49, h⟩ := px_bs h
      refine ev_sS dX15_cropTo_300 gw49 ?_
      refine EV.iinc 6 (a10 + 1) [(10, .int (a10 + 1)), (0, .ref a0), (1, .int a1), (2, .int a2), (7, .int a7), (8, .int a8), (9, .int a9)] dX15_cropTo_301 rfl rfl (by decide) rfl ?_
      refine EV.goto 260 dX15_cropTo_304 (by decide) ?_
      refine EV.sub [1, 2, 3, 4, 5, 6, 0] rfl ?_
      exact ih _ _ _ _ _ _ _ _ _ h
set_option maxRecDepth 100000 in
set_option maxHeartbeats 4000000 in
theorem eX15_cropTo_178 {X : px_X} {k166 : Nat → Int32 → Int32 → Int32 → px_W → Option (Int32 × px_W)} (hk166 : ∀ (a0 : Nat) (a1 : Int32) (a2 : Int32) (a7 : Int32) (w : px_W) (q : Int32 × px_W), k166 a0 a1 a2 a7 w = some q → EV X mX15_cropTo 166 [(0, .ref a0), (1, .int a1), (2, .int a2), (7, .int a7)] [] w (some (.int q.1)) q.2) : ∀ (m : Nat) (a0 : Nat) (a1 : Int32) (a2 : Int32) (a7 : Int32) (a8 : Int32) (w : px_W) (q : Int32 × px_W), fX15_cropTo_178 X k166 m a0 a1 a2 a7 a8 w = some q → EV X mX15_cropTo 178 [(0, .ref a0), (1, .int a1), (2, .int a2), (7, .int a7), (8, .int a8)] [] w (some (.int q.1)) q.2 := by
  intro m
  induction m with
  | zero => intro a0 a1 a2 a7 a8 w q h; cases h
  | succ m ih =>
    intro a0 a1 a2 a7 a8 w q h
    rw [fX15_cropTo_178.eq_2] at h
    refine EV.iload 4 dX15_cropTo_178 rfl ?_
    refine EV.aload_n 0 dX15_cropTo_180 rfl rfl ?_
    obtain ⟨v50, gv50, h⟩ := px_bs h
    refine ev_gR dX15_cropTo_181 flRX15_58 gv50 ?_
    refine EV.iload 3 dX15_cropTo_184 rfl ?_
    obtain ⟨v51, gv51, h⟩ := px_bs h
    refine ev_aI dX15_cropTo_186 gv51 ?_
    refine EV.aload_n 0 dX15_cropTo_187 rfl rfl ?_
    obtain ⟨v52, gv52, h⟩ := px_bs h
    refine ev_gR dX15_cropTo_188 flRX15_61 gv52 ?_
    refine EV.iload 3 dX15_cropTo_191 rfl ?_
    obtain ⟨v53, gv53, h⟩ := px_bs h
    refine ev_aI dX15_cropTo_193 gv53 ?_
    refine EV.imul dX15_cropTo_194 ?_
    refine EV.icmp_ge 313 dX15_cropTo_195 (by decide) (fun c54 => ?_) (fun c54 => ?_)
    · rw [if_pos c54] at h
      refine EV.sub [0, 1, 2, 3] rfl ?_
      exact eX15_cropTo_313 hk166 _ _ _ _ _ _ h
    · rw [if_neg c54] at h
      refine EV.aload_n 0 dX15_cropTo_198 rfl rfl ?_
      obtain ⟨v55, gv55, h⟩ := px_bs h
      refine ev_gR dX15_cropTo_199 flRX15_80 gv55 ?_
      refine EV.iload 3 dX15_cropTo_202 rfl ?_
      obtain ⟨v56, gv56, h⟩ := px_bs h
      refine ev_aI dX15_cropTo_204 gv56 ?_
      refine EV.iload 4 dX15_cropTo_205 rfl ?_
      refine EV.aload_n 0 dX15_cropTo_207 rfl rfl ?_
      obtain ⟨v57, gv57, h⟩ := px_bs h
      refine ev_gR dX15_cropTo_208 flRX15_58 gv57 ?_
      refine EV.iload 3 dX15_cropTo_211 rfl ?_
      obtain ⟨v58, gv58, h⟩ := px_bs h
      refine ev_aI dX15_cropTo_213 gv58 ?_
      obtain ⟨v59, gv59, h⟩ := px_bs h
      refine ev_dI dX15_cropTo_214 gv59 ?_
      refine EV.iload_n 2 dX15_cropTo_215 rfl rfl ?_
      refine EV.aload_n 0 dX15_cropTo_216 rfl rfl ?_
      obtain ⟨v60, gv60, h⟩ := px_bs h
      refine ev_gR dX15_cropTo_217 flRX15_55 gv60 ?_
      refine EV.iload 3 dX15_cropTo_220 rfl ?_
      obtain ⟨v61, gv61, h⟩ := px_bs h
      refine ev_aI dX15_cropTo_222 gv61 ?_
      refine EV.imul dX15_cropTo_223 ?_
      refine EV.iadd dX15_cropTo_224 ?_
      refine EV.aload_n 0 dX15_cropTo_225 rfl rfl ?_
      obtain ⟨v62, gv62, h⟩ := px_bs h
      refine ev_gR dX15_cropTo_226 flRX15_77 gv62 ?_
      refine EV.iload 3 dX15_cropTo_229 rfl ?_
      obtain ⟨v63, gv63, h⟩ := px_bs h
      refine ev_aI dX15_cropTo_231 gv63 ?_
      refine EV.imul dX15_cropTo_232 ?_
      refine EV.iadd dX15_cropTo_233 ?_
      refine EV.iload 4 dX15_cropTo_234 rfl ?_
      refine EV.aload_n 0 dX15_cropTo_236 rfl rfl ?_
      obtain ⟨v64, gv64, h⟩ := px_bs h
      refine ev_gR dX15_cropTo_237 flRX15_58 gv64 ?_
      refine EV.iload 3 dX15_cropTo_240 rfl ?_
      obtain ⟨v65, gv65, h⟩ := px_bs h
      refine ev_aI dX15_cropTo_242 gv65 ?_
      obtain ⟨v66, gv66, h⟩ := px_bs h
      refine ev_rI dX15_cropTo_243 gv66 ?_
      refine EV.iadd dX15_cropTo_244 ?_
      refine EV.iload_n 1 dX15_cropTo_245 rfl rfl ?_
      refine EV.aload_n 0 dX15_cropTo_246 rfl rfl ?_
      obtain ⟨v67, gv67, h⟩ := px_bs h
      refine ev_gR dX15_cropTo_247 flRX15_52 gv67 ?_
      refine EV.iload 3 dX15_cropTo_250 rfl ?_
      obtain ⟨v68, gv68, h⟩ := px_bs h
      refine ev_aI dX15_cropTo_252 gv68 ?_
      refine EV.imul dX15_cropTo_253 ?_
      refine EV.iadd dX15_cropTo_254 ?_
      refine EV.istore [(9, .int (((v56 + ((v59 + (a2 * v61)) * v63)) + v66) + (a1 * v68))), (0, .ref a0), (1, .int a1), (2, .int a2), (7, .int a7), (8, .int a8)] dX15_cropTo_255 (by decide) rfl ?_
      refine EV.iconst (0) dX15_cropTo_257 (by decide) ?_
      refine EV.istore [(10, .int 0), (9, .int (((v56 + ((v59 + (a2 * v61)) * v63)) + v66) + (a1 * v68))), (0, .ref a0), (1, .int a1), (2, .int a2), (7, .int a7), (8, .int a8)] dX15_cropTo_258 (by decide) rfl ?_
      refine EV.sub [2, 3, 4, 5, 6, 1, 0] rfl ?_
      exact eX15_cropTo_260 hk166 ih FU _ _ _ _ _ _ _ _ _ h
set_option maxRecDepth 100000 in
set_option maxHeartbeats 4000000 in
theorem eX15_cropTo_166 {X : px_X}  : ∀ (m : Nat) (a0 : Nat) (a1 : Int32) (a2 : Int32) (a7 : Int32) (w : px_W) (q : Int32 × px_W), fX15_cropTo_166 X  m a0 a1 a2 a7 w = some q → EV X mX15_cropTo 166 [(0, .ref a0), (1, .int a1), (2, .int a2), (7, .int a7)] [] w (some (.int q.1)) q.2 := by
  intro m
  induction m with
  | zero => intro a0 a1 a2 a7 w q h; cases h
  | succ m ih =>
    intro a0 a1 a2 a7 w q h
    rw [fX15_cropTo_166.eq_2] at h
    refine EV.iload 3 dX15_cropTo_166 rfl ?_
    refine EV.aload_n 0 dX15_cropTo_168 rfl rfl ?_
    obtain ⟨v69, gv69, h⟩ := px_bs h
    refine ev_gI dX15_cropTo_169 flRX15_126 gv69 ?_
    refine EV.icmp_ge 319 dX15_cropTo_172 (by decide) (fun c70 => ?_) (fun c70 => ?_)
    · rw [if_pos c70] at h
      refine EV.iconst (1) dX15_cropTo_319 (by decide) ?_
      cases h
      exact EV.reti dX15_cropTo_320 rfl
    · rw [if_neg c70] at h
      refine EV.iconst (0) dX15_cropTo_175 (by decide) ?_
      refine EV.istore [(8, .int 0), (0, .ref a0), (1, .int a1), (2, .int a2), (7, .int a7)] dX15_cropTo_176 (by decide) rfl ?_
      refine EV.sub [1, 2, 3, 4, 0] rfl ?_
      exact eX15_cropTo_178 ih FU _ _ _ _ _ _ _ h
set_option maxRecDepth 100000 in
set_option maxHeartbeats 4000000 in
theorem eX15_cropTo_156 {X : px_X}  : ∀ (a0 : Nat) (a1 : Int32) (a2 : Int32) (s0 : Int32) (s1 : Nat) (w : px_W) (q : Int32 × px_W), fX15_cropTo_156 X  a0 a1 a2 s0 s1 w = some q → EV X mX15_cropTo 156 [(0, .ref a0), (1, .int a1), (2, .int a2)] [.int s0, .ref s1] w (some (.int q.1)) q.2 := by
  intro a0 a1 a2 s0 s1 w q h
  unfold fX15_cropTo_156 at h
  obtain ⟨w71, gw71, h⟩ := px_bs h
  refine ev_pV dX15_cropTo_156 flRX15_139 rfl rfl rfl rfl gw71 ?_
  refine EV.aload_n 0 dX15_cropTo_159 rfl rfl ?_
  obtain ⟨o72, go72, h⟩ := px_bs h
  obtain ⟨q73, gq73, h⟩ := px_bs h
  refine EV.callV (As := []) (rest := []) dX15_cropTo_160 kcX15_cropTo_239 (gO_ok go72) rfl rfl rfl (Nat.le_of_ble_eq_true rfl) (Nat.le_of_ble_eq_true rfl) (eX15_layOut gq73) ?_
  refine EV.iconst (0) dX15_cropTo_163 (by decide) ?_
  refine EV.istore [(7, .int 0), (0, .ref a0), (1, .int a1), (2, .int a2)] dX15_cropTo_164 (by decide) rfl ?_
  refine EV.sub [1, 2, 3, 0] rfl ?_
  exact eX15_cropTo_166  FU _ _ _ _ _ _ h
set_option maxRecDepth 100000 in
set_option maxHeartbeats 4000000 in
theorem eX15_cropTo_122 {X : px_X}  : ∀ (a0 : Nat) (a1 : Int32) (a2 : Int32) (a4 : Int32) (a6 : Int32) (s0 : Int32) (s1 : Nat) (w : px_W) (q : Int32 × px_W), fX15_cropTo_122 X  a0 a1 a2 a4 a6 s0 s1 w = some q → EV X mX15_cropTo 122 [(0, .ref a0), (1, .int a1), (2, .int a2), (4, .int a4), (6, .int a6)] [.int s0, .ref s1] w (some (.int q.1)) q.2 := by
  intro a0 a1 a2 a4 a6 s0 s1 w q h
  unfold fX15_cropTo_122 at h
  obtain ⟨w74, gw74, h⟩ := px_bs h
  refine ev_pV dX15_cropTo_122 flRX15_129 rfl rfl rfl rfl gw74 ?_
  refine EV.aload_n 0 dX15_cropTo_125 rfl rfl ?_
  refine EV.iload 4 dX15_cropTo_126 rfl ?_
  refine EV.bipush (8) dX15_cropTo_128 (by decide) ?_
  refine EV.aload_n 0 dX15_cropTo_130 rfl rfl ?_
  obtain ⟨v75, gv75, h⟩ := px_bs h
  refine ev_gI dX15_cropTo_131 flRX15_123 gv75 ?_
  refine EV.imul dX15_cropTo_134 ?_
  refine EV.iload 3 dX15_cropTo_135 rfl ?_
  refine EV.imul dX15_cropTo_137 ?_
  refine EV.icmp_ge 146 dX15_cropTo_138 (by decide) (fun c76 => ?_) (fun c76 => ?_)
  · rw [if_pos c76] at h
    refine EV.bipush (8) dX15_cropTo_146 (by decide) ?_
    refine EV.aload_n 0 dX15_cropTo_148 rfl rfl ?_
    obtain ⟨v77, gv77, h⟩ := px_bs h
    refine ev_gI dX15_cropTo_149 flRX15_123 gv77 ?_
    refine EV.imul dX15_cropTo_152 ?_
    refine EV.iload 3 dX15_cropTo_153 rfl ?_
    refine EV.imul dX15_cropTo_155 ?_
    refine EV.sub [0, 1, 2] rfl ?_
    exact eX15_cropTo_156  _ _ _ _ _ _ _ h
  · rw [if_neg c76] at h
    refine EV.iload 4 dX15_cropTo_141 rfl ?_
    refine EV.goto 156 dX15_cropTo_143 (by decide) ?_
    refine EV.sub [0, 1, 2] rfl ?_
    exact eX15_cropTo_156  _ _ _ _ _ _ _ h
set_option maxRecDepth 100000 in
set_option maxHeartbeats 4000000 in
theorem eX15_cropTo {X : px_X} {w : px_W} {a0 : Nat} {a1 : Int32} {a2 : Int32} {a3 : Int32} {a4 : Int32} {q : Int32 × px_W} (h : fX15_cropTo X w a0 a1 a2 a3 a4 = some q) : EV X mX15_cropTo 0 (lv_args 0 [.ref a0, .int a1, .int a2, .int a3, .int a4]) [] w (some (.int q.1)) q.2 := by
  unfold fX15_cropTo at h
  show EV X mX15_cropTo 0 [(0, .ref a0), (1, .int a1), (2, .int a2), (3, .int a3), (4, .int a4)] [] w (some (.int q.1)) q.2
  refine EV.aload_n 0 dX15_cropTo_0 rfl rfl ?_
  obtain ⟨v78, gv78, h⟩ := px_bs h
  refine ev_gI dX15_cropTo_1 flRX15_235 gv78 ?_
  refine EV.if_eq 55 dX15_cropTo_4 (by decide) (fun c79 => ?_) (fun c79 => ?_)
  · rw [if_pos c79] at h
    refine EV.iconst (0) dX15_cropTo_55 (by decide) ?_
    cases h
    exact EV.reti dX15_cropTo_56 rfl
  · rw [if_neg c79] at h
    refine EV.iload_n 3 dX15_cropTo_7 rfl rfl ?_
    refine EV.iconst (1) dX15_cropTo_8 (by decide) ?_
    refine EV.icmp_lt 55 dX15_cropTo_9 (by decide) (fun c80 => ?_) (fun c80 => ?_)
    · rw [if_pos c80] at h
      refine EV.iconst (0) dX15_cropTo_55 (by decide) ?_
      cases h
      exact EV.reti dX15_cropTo_56 rfl
    · rw [if_neg c80] at h
      refine EV.iload 4 dX15_cropTo_12 rfl ?_
      refine EV.iconst (1) dX15_cropTo_14 (by decide) ?_
      refine EV.icmp_lt 55 dX15_cropTo_15 (by decide) (fun c81 => ?_) (fun c81 => ?_)
      · rw [if_pos c81] at h
        refine EV.iconst (0) dX15_cropTo_55 (by decide) ?_
        cases h
        exact EV.reti dX15_cropTo_56 rfl
      · rw [if_neg c81] at h
        refine EV.iload_n 1 dX15_cropTo_18 rfl rfl ?_
        refine EV.if_lt 55 dX15_cropTo_19 (by decide) (fun c82 => ?_) (fun c82 => ?_)
        · rw [if_pos c82] at h
          refine EV.iconst (0) dX15_cropTo_55 (by decide) ?_
          cases h
          exact EV.reti dX15_cropTo_56 rfl
        · rw [if_neg c82] at h
          refine EV.iload_n 2 dX15_cropTo_22 rfl rfl ?_
          refine EV.if_lt 55 dX15_cropTo_23 (by decide) (fun c83 => ?_) (fun c83 => ?_)
          · rw [if_pos c83] at h
            refine EV.iconst (0) dX15_cropTo_55 (by decide) ?_
            cases h
            exact EV.reti dX15_cropTo_56 rfl
          · rw [if_neg c83] at h
            refine EV.iload_n 1 dX15_cropTo_26 rfl rfl ?_
            refine EV.i2l dX15_cropTo_27 ?_
            refine EV.iload_n 3 dX15_cropTo_28 rfl rfl ?_
            refine EV.i2l dX15_cropTo_29 ?_
            refine EV.ladd dX15_cropTo_30 ?_
            refine EV.aload_n 0 dX15_cropTo_31 rfl rfl ?_
            obtain ⟨v84, gv84, h⟩ := px_bs h
            refine ev_gI dX15_cropTo_32 flRX15_136 gv84 ?_
            refine EV.i2l dX15_cropTo_35 ?_
            refine EV.lcmp dX15_cropTo_36 ?_
            refine EV.if_gt 55 dX15_cropTo_37 (by decide) (fun c85 => ?_) (fun c85 => ?_)
            · rw [if_pos c85] at h
              refine EV.iconst (0) dX15_cropTo_55 (by decide) ?_
              cases h
              exact EV.reti dX15_cropTo_56 rfl
            · rw [if_neg c85] at h
              refine EV.iload_n 2 dX15_cropTo_40 rfl rfl ?_
              refine EV.i2l dX15_cropTo_41 ?_
              refine EV.iload 4 dX15_cropTo_42 rfl ?_
              refine EV.i2l dX15_cropTo_44 ?_
              refine EV.ladd dX15_cropTo_45 ?_
              refine EV.aload_n 0 dX15_cropTo_46 rfl rfl ?_
              obtain ⟨v86, gv86, h⟩ := px_bs h
              refine ev_gI dX15_cropTo_47 flRX15_142 gv86 ?_
              refine EV.i2l dX15_cropTo_50 ?_
              refine EV.lcmp dX15_cropTo_51 ?_
              refine EV.if_le 57 dX15_cropTo_52 (by decide) (fun c87 => ?_) (fun c87 => ?_)
              · rw [if_pos c87] at h
                refine EV.aload_n 0 dX15_cropTo_57 rfl rfl ?_
                obtain ⟨o88, go88, h⟩ := px_bs h
                obtain ⟨q89, gq89, h⟩ := px_bs h
                refine EV.callV (As := []) (rest := []) dX15_cropTo_58 kcX15_cropTo_378 (gO_ok go88) rfl rfl rfl (Nat.le_of_ble_eq_true rfl) (Nat.le_of_ble_eq_true rfl) (eX15_keep gq89) ?_
                refine EV.aload_n 0 dX15_cropTo_61 rfl rfl ?_
                obtain ⟨v90, gv90, h⟩ := px_bs h
                refine ev_gI dX15_cropTo_62 flRX15_129 gv90 ?_
                refine EV.bipush (8) dX15_cropTo_65 (by decide) ?_
                refine EV.aload_n 0 dX15_cropTo_67 rfl rfl ?_
                obtain ⟨v91, gv91, h⟩ := px_bs h
                refine ev_gI dX15_cropTo_68 flRX15_120 gv91 ?_
                refine EV.imul dX15_cropTo_71 ?_
                refine EV.iload_n 1 dX15_cropTo_72 rfl rfl ?_
                refine EV.imul dX15_cropTo_73 ?_
                refine EV.isub dX15_cropTo_74 ?_
                refine EV.istore [(5, .int (v90 - ((8 * v91) * a1))), (0, .ref a0), (1, .int a1), (2, .int a2), (3, .int a3), (4, .int a4)] dX15_cropTo_75 (by decide) rfl ?_
                refine EV.aload_n 1 dX15_cropTo_77 rfl rfl ?_
                obtain ⟨v92, gv92, h⟩ := px_bs h
                refine ev_gI dX15_cropTo_78 flRX15_139 gv92 ?_
                refine EV.bipush (8) dX15_cropTo_81 (by decide) ?_
                refine EV.aload_n 1 dX15_cropTo_83 rfl rfl ?_
                obtain ⟨v93, gv93, h⟩ := px_bs h
                refine ev_gI dX15_cropTo_84 flRX15_123 gv93 ?_
                refine EV.imul dX15_cropTo_87 ?_
                refine EV.iload_n 3 dX15_cropTo_88 rfl rfl ?_
                refine EV.imul dX15_cropTo_89 ?_
                refine EV.isub dX15_cropTo_90 ?_
                refine EV.istore [(6, .int (v92 - ((8 * v93) * a2))), (5, .int (v90 - ((8 * v91) * a1))), (0, .ref a0), (1, .int a1), (2, .int a2), (3, .int a3), (4, .int a4)] dX15_cropTo_91 (by decide) rfl ?_
                refine EV.aload_n 2 dX15_cropTo_93 rfl rfl ?_
                refine EV.iload 1 dX15_cropTo_94 rfl ?_
                refine EV.bipush (8) dX15_cropTo_96 (by decide) ?_
                refine EV.aload_n 2 dX15_cropTo_98 rfl rfl ?_
                obtain ⟨v94, gv94, h⟩ := px_bs h
                refine ev_gI dX15_cropTo_99 flRX15_120 gv94 ?_
                refine EV.imul dX15_cropTo_102 ?_
                refine EV.iload_n 5 dX15_cropTo_103 rfl rfl ?_
                refine EV.imul dX15_cropTo_104 ?_
                refine EV.icmp_ge 113 dX15_cropTo_105 (by decide) (fun c95 => ?_) (fun c95 => ?_)
                · rw [if_pos c95] at h
                  refine EV.bipush (8) dX15_cropTo_113 (by decide) ?_
                  refine EV.aload_n 2 dX15_cropTo_115 rfl rfl ?_
                  obtain ⟨v96, gv96, h⟩ := px_bs h
                  refine ev_gI dX15_cropTo_116 flRX15_120 gv96 ?_
                  refine EV.imul dX15_cropTo_119 ?_
                  refine EV.iload_n 5 dX15_cropTo_120 rfl rfl ?_
                  refine EV.imul dX15_cropTo_121 ?_
                  refine EV.sub [2, 3, 4, 6, 0] rfl ?_
                  exact eX15_cropTo_122  _ _ _ _ _ _ _ _ _ h
                · rw [if_neg c95] at h
                  refine EV.iload 1 dX15_cropTo_108 rfl ?_
                  refine EV.goto 122 dX15_cropTo_110 (by decide) ?_
                  refine EV.sub [2, 3, 4, 6, 0] rfl ?_
                  exact eX15_cropTo_122  _ _ _ _ _ _ _ _ _ h
              · rw [if_neg c87] at h
                refine EV.iconst (0) dX15_cropTo_55 (by decide) ?_
                cases h
                exact EV.reti dX15_cropTo_56 rfl
/-! WavePicturesModel.isBlock(III)Z -/
theorem dX15_isBlock_0 : decode cX15_isBlock 0 = .ok (.aload_n 0, 1) := by decide +kernel
theorem dX15_isBlock_1 : decode cX15_isBlock 1 = .ok (.getfield 235, 3) := by decide +kernel
theorem dX15_isBlock_4 : decode cX15_isBlock 4 = .ok (.ifCond .eq 73, 3) := by decide +kernel
theorem dX15_isBlock_7 : decode cX15_isBlock 7 = .ok (.iload_n 1, 1) := by decide +kernel
theorem dX15_isBlock_8 : decode cX15_isBlock 8 = .ok (.ifCond .lt 69, 3) := by decide +kernel
theorem dX15_isBlock_11 : decode cX15_isBlock 11 = .ok (.iload_n 1, 1) := by decide +kernel
theorem dX15_isBlock_12 : decode cX15_isBlock 12 = .ok (.aload_n 0, 1) := by decide +kernel
theorem dX15_isBlock_13 : decode cX15_isBlock 13 = .ok (.getfield 126, 3) := by decide +kernel
theorem dX15_isBlock_16 : decode cX15_isBlock 16 = .ok (.if_icmp .ge 61, 3) := by decide +kernel
theorem dX15_isBlock_19 : decode cX15_isBlock 19 = .ok (.iload_n 2, 1) := by decide +kernel
theorem dX15_isBlock_20 : decode cX15_isBlock 20 = .ok (.ifCond .lt 57, 3) := by decide +kernel
theorem dX15_isBlock_23 : decode cX15_isBlock 23 = .ok (.iload_n 2, 1) := by decide +kernel
theorem dX15_isBlock_24 : decode cX15_isBlock 24 = .ok (.aload_n 0, 1) := by decide +kernel
theorem dX15_isBlock_25 : decode cX15_isBlock 25 = .ok (.getfield 58, 3) := by decide +kernel
theorem dX15_isBlock_28 : decode cX15_isBlock 28 = .ok (.iload_n 1, 1) := by decide +kernel
theorem dX15_isBlock_29 : decode cX15_isBlock 29 = .ok (.ifCond .lt 12, 3) := by decide +kernel
theorem dX15_isBlock_32 : decode cX15_isBlock 32 = .ok (.iload_n 1, 1) := by decide +kernel
theorem dX15_isBlock_33 : decode cX15_isBlock 33 = .ok (.iconst 4, 1) := by decide +kernel
theorem dX15_isBlock_34 : decode cX15_isBlock 34 = .ok (.if_icmp .ge 7, 3) := by decide +kernel
theorem dX15_isBlock_37 : decode cX15_isBlock 37 = .ok (.iload_n 1, 1) := by decide +kernel
theorem dX15_isBlock_38 : decode cX15_isBlock 38 = .ok (.goto 4, 3) := by decide +kernel
theorem dX15_isBlock_41 : decode cX15_isBlock 41 = .ok (.iconst 0, 1) := by decide +kernel
theorem dX15_isBlock_42 : decode cX15_isBlock 42 = .ok (.iaload, 1) := by decide +kernel
theorem dX15_isBlock_43 : decode cX15_isBlock 43 = .ok (.if_icmp .ge 34, 3) := by decide +kernel
theorem dX15_isBlock_46 : decode cX15_isBlock 46 = .ok (.iload_n 3, 1) := by decide +kernel
theorem dX15_isBlock_47 : decode cX15_isBlock 47 = .ok (.ifCond .lt 30, 3) := by decide +kernel
theorem dX15_isBlock_50 : decode cX15_isBlock 50 = .ok (.iload_n 3, 1) := by decide +kernel
theorem dX15_isBlock_51 : decode cX15_isBlock 51 = .ok (.aload_n 0, 1) := by decide +kernel
theorem dX15_isBlock_52 : decode cX15_isBlock 52 = .ok (.getfield 61, 3) := by decide +kernel
theorem dX15_isBlock_55 : decode cX15_isBlock 55 = .ok (.iload_n 1, 1) := by decide +kernel
theorem dX15_isBlock_56 : decode cX15_isBlock 56 = .ok (.ifCond .lt 12, 3) := by decide +kernel
theorem dX15_isBlock_59 : decode cX15_isBlock 59 = .ok (.iload_n 1, 1) := by decide +kernel
theorem dX15_isBlock_60 : decode cX15_isBlock 60 = .ok (.iconst 4, 1) := by decide +kernel
theorem dX15_isBlock_61 : decode cX15_isBlock 61 = .ok (.if_icmp .ge 7, 3) := by decide +kernel
theorem dX15_isBlock_64 : decode cX15_isBlock 64 = .ok (.iload_n 1, 1) := by decide +kernel
theorem dX15_isBlock_65 : decode cX15_isBlock 65 = .ok (.goto 4, 3) := by decide +kernel
theorem dX15_isBlock_68 : decode cX15_isBlock 68 = .ok (.iconst 0, 1) := by decide +kernel
theorem dX15_isBlock_69 : decode cX15_isBlock 69 = .ok (.iaload, 1) := by decide +kernel
theorem dX15_isBlock_70 : decode cX15_isBlock 70 = .ok (.if_icmp .ge 7, 3) := by decide +kernel
theorem dX15_isBlock_73 : decode cX15_isBlock 73 = .ok (.iconst 1, 1) := by decide +kernel
theorem dX15_isBlock_74 : decode cX15_isBlock 74 = .ok (.goto 4, 3) := by decide +kernel
theorem dX15_isBlock_77 : decode cX15_isBlock 77 = .ok (.iconst 0, 1) := by decide +kernel
theorem dX15_isBlock_78 : decode cX15_isBlock 78 = .ok (.ireturn, 1) := by decide +kernel
set_option maxRecDepth 100000 in
set_option maxHeartbeats 4000000 in
theorem eX15_isBlock_69 {X : px_X}  : ∀ (s0 : Int32) (s1 : Nat) (s2 : Int32) (w : px_W) (q : Int32 × px_W), fX15_isBlock_69 X  s0 s1 s2 w = some q → EV X mX15_isBlock 69 [] [.int s0, .ref s1, .int s2] w (some (.int q.1)) q.2 := by
  intro s0 s1 s2 w q h
  unfold fX15_isBlock_69 at h
  obtain ⟨v7, gv7, h⟩ := px_bs h
  refine ev_aI dX15_isBlock_69 gv7 ?_
  refine EV.icmp_ge 77 dX15_isBlock_70 (by decide) (fun c8 => ?_) (fun c8 => ?_)
  · rw [if_pos c8] at h
    refine EV.iconst (0) dX15_isBlock_77 (by decide) ?_
    cases h
    exact EV.reti dX15_isBlock_78 rfl
  · rw [if_neg c8] at h
    refine EV.iconst (1) dX15_isBlock_73 (by decide) ?_
    refine EV.goto 78 dX15_isBlock_74 (by decide) ?_
    cases h
    exact EV.reti dX15_isBlock_78 rfl
set_option maxRecDepth 100000 in
set_option maxHeartbeats 4000000 in
theorem eX15_isBlock_68 {X : px_X}  : ∀ (s0 : Nat) (s1 : Int32) (w : px_W) (q : Int32 × px_W), fX15_isBlock_68 X  s0 s1 w = some q → EV X mX15_isBlock 68 [] [.ref s0, .int s1] w (some (.int q.1)) q.2 := by
  intro s0 s1 w q h
  unfold fX15_isBlock_68 at h
  refine EV.iconst (0) dX15_isBlock_68 (by decide) ?_
  refine EV.sub [] rfl ?_
  exact eX15_isBlock_69  _ _ _ _ _ h
set_option maxRecDepth 100000 in
set_option maxHeartbeats 4000000 in
theorem eX15_isBlock_42 {X : px_X}  : ∀ (a0 : Nat) (a1 : Int32) (a3 : Int32) (s0 : Int32) (s1 : Nat) (s2 : Int32) (w : px_W) (q : Int32 × px_W), fX15_isBlock_42 X  a0 a1 a3 s0 s1 s2 w = some q → EV X mX15_isBlock 42 [(0, .ref a0), (1, .int a1), (3, .int a3)] [.int s0, .ref s1, .int s2] w (some (.int q.1)) q.2 := by
  intro a0 a1 a3 s0 s1 s2 w q h
  unfold fX15_isBlock_42 at h
  obtain ⟨v9, gv9, h⟩ := px_bs h
  refine ev_aI dX15_isBlock_42 gv9 ?_
  refine EV.icmp_ge 77 dX15_isBlock_43 (by decide) (fun c10 => ?_) (fun c10 => ?_)
  · rw [if_pos c10] at h
    refine EV.iconst (0) dX15_isBlock_77 (by decide) ?_
    cases h
    exact EV.reti dX15_isBlock_78 rfl
  · rw [if_neg c10] at h
    refine EV.iload_n 2 dX15_isBlock_46 rfl rfl ?_
    refine EV.if_lt 77 dX15_isBlock_47 (by decide) (fun c11 => ?_) (fun c11 => ?_)
    · rw [if_pos c11] at h
      refine EV.iconst (0) dX15_isBlock_77 (by decide) ?_
      cases h
      exact EV.reti dX15_isBlock_78 rfl
    · rw [if_neg c11] at h
      refine EV.iload_n 2 dX15_isBlock_50 rfl rfl ?_
      refine EV.aload_n 0 dX15_isBlock_51 rfl rfl ?_
      obtain ⟨v12, gv12, h⟩ := px_bs h
      refine ev_gR dX15_isBlock_52 flRX15_61 gv12 ?_
      refine EV.iload_n 1 dX15_isBlock_55 rfl rfl ?_
      refine EV.if_lt 68 dX15_isBlock_56 (by decide) (fun c13 => ?_) (fun c13 => ?_)
      · rw [if_pos c13] at h
        refine EV.sub [] rfl ?_
        exact eX15_isBlock_68  _ _ _ _ h
      · rw [if_neg c13] at h
        refine EV.iload_n 1 dX15_isBlock_59 rfl rfl ?_
        refine EV.iconst (4) dX15_isBlock_60 (by decide) ?_
        refine EV.icmp_ge 68 dX15_isBlock_61 (by decide) (fun c14 => ?_) (fun c14 => ?_)
        · rw [if_pos c14] at h
          refine EV.sub [] rfl ?_
          exact eX15_isBlock_68  _ _ _ _ h
        · rw [if_neg c14] at h
          refine EV.iload_n 1 dX15_isBlock_64 rfl rfl ?_
          refine EV.goto 69 dX15_isBlock_65 (by decide) ?_
          refine EV.sub [] rfl ?_
          exact eX15_isBlock_69  _ _ _ _ _ h
set_option maxRecDepth 100000 in
set_option maxHeartbeats 4000000 in
theorem eX15_isBlock_41 {X : px_X}  : ∀ (a0 : Nat) (a1 : Int32) (a3 : Int32) (s0 : Nat) (s1 : Int32) (w : px_W) (q : Int32 × px_W), fX15_isBlock_41 X  a0 a1 a3 s0 s1 w = some q → EV X mX15_isBlock 41 [(0, .ref a0), (1, .int a1), (3, .int a3)] [.ref s0, .int s1] w (some (.int q.1)) q.2 := by
  intro a0 a1 a3 s0 s1 w q h
  unfold fX15_isBlock_41 at h
  refine EV.iconst (0) dX15_isBlock_41 (by decide) ?_
  refine EV.sub [0, 1, 2] rfl ?_
  exact eX15_isBlock_42  _ _ _ _ _ _ _ _ h
set_option maxRecDepth 100000 in
set_option maxHeartbeats 4000000 in
theorem eX15_isBlock {X : px_X} {w : px_W} {a0 : Nat} {a1 : Int32} {a2 : Int32} {a3 : Int32} {q : Int32 × px_W} (h : fX15_isBlock X w a0 a1 a2 a3 = some q) : EV X mX15_isBlock 0 (lv_args 0 [.ref a0, .int a1, .int a2, .int a3]) [] w (some (.int q.1)) q.2 := by
  unfold fX15_isBlock at h
  show EV X mX15_isBlock 0 [(0, .ref a0), (1, .int a1), (2, .int a2), (3, .int a3)] [] w (some (.int q.1)) q.2
  refine EV.aload_n 0 dX15_isBlock_0 rfl rfl ?_
  obtain ⟨v15, gv15, h⟩ := px_bs h
  refine ev_gI dX15_isBlock_1 flRX15_235 gv15 ?_
  refine EV.if_eq 77 dX15_isBlock_4 (by decide) (fun c16 => ?_) (fun c16 => ?_)
  · rw [if_pos c16] at h
    refine EV.iconst (0) dX15_isBlock_77 (by decide) ?_
    cases h
    exact EV.reti dX15_isBlock_78 rfl
  · rw [if_neg c16] at h
    refine EV.iload_n 1 dX15_isBlock_7 rfl rfl ?_
    refine EV.if_lt 77 dX15_isBlock_8 (by decide) (fun c17 => ?_) (fun c17 => ?_)
    · rw [if_pos c17] at h
      refine EV.iconst (0) dX15_isBlock_77 (by decide) ?_
      cases h
      exact EV.reti dX15_isBlock_78 rfl
    · rw [if_neg c17] at h
      refine EV.iload_n 1 dX15_isBlock_11 rfl rfl ?_
      refine EV.aload_n 0 dX15_isBlock_12 rfl rfl ?_
      obtain ⟨v18, gv18, h⟩ := px_bs h
      refine ev_gI dX15_isBlock_13 flRX15_126 gv18 ?_
      refine EV.icmp_ge 77 dX15_isBlock_16 (by decide) (fun c19 => ?_) (fun c19 => ?_)
      · rw [if_pos c19] at h
        refine EV.iconst (0) dX15_isBlock_77 (by decide) ?_
        cases h
        exact EV.reti dX15_isBlock_78 rfl
      · rw [if_neg c19] at h
        refine EV.iload_n 2 dX15_isBlock_19 rfl rfl ?_
        refine EV.if_lt 77 dX15_isBlock_20 (by decide) (fun c20 => ?_) (fun c20 => ?_)
        · rw [if_pos c20] at h
          refine EV.iconst (0) dX15_isBlock_77 (by decide) ?_
          cases h
          exact EV.reti dX15_isBlock_78 rfl
        · rw [if_neg c20] at h
          refine EV.iload_n 2 dX15_isBlock_23 rfl rfl ?_
          refine EV.aload_n 0 dX15_isBlock_24 rfl rfl ?_
          obtain ⟨v21, gv21, h⟩ := px_bs h
          refine ev_gR dX15_isBlock_25 flRX15_58 gv21 ?_
          refine EV.iload_n 1 dX15_isBlock_28 rfl rfl ?_
          refine EV.if_lt 41 dX15_isBlock_29 (by decide) (fun c22 => ?_) (fun c22 => ?_)
          · rw [if_pos c22] at h
            refine EV.sub [0, 1, 3] rfl ?_
            exact eX15_isBlock_41  _ _ _ _ _ _ _ h
          · rw [if_neg c22] at h
            refine EV.iload_n 1 dX15_isBlock_32 rfl rfl ?_
            refine EV.iconst (4) dX15_isBlock_33 (by decide) ?_
            refine EV.icmp_ge 41 dX15_isBlock_34 (by decide) (fun c23 => ?_) (fun c23 => ?_)
            · rw [if_pos c23] at h
              refine EV.sub [0, 1, 3] rfl ?_
              exact eX15_isBlock_41  _ _ _ _ _ _ _ h
            · rw [if_neg c23] at h
              refine EV.iload_n 1 dX15_isBlock_37 rfl rfl ?_
              refine EV.goto 42 dX15_isBlock_38 (by decide) ?_
              refine EV.sub [0, 1, 3] rfl ?_
              exact eX15_isBlock_42  _ _ _ _ _ _ _ _ h
/-! WavePicturesModel.setCoefficient(IIIII)Z -/
theorem dX15_setCoefficient_0 : decode cX15_setCoefficient 0 = .ok (.aload_n 0, 1) := by decide +kernel
theorem dX15_setCoefficient_1 : decode cX15_setCoefficient 1 = .ok (.iload_n 1, 1) := by decide +kernel
theorem dX15_setCoefficient_2 : decode cX15_setCoefficient 2 = .ok (.iload_n 2, 1) := by decide +kernel
theorem dX15_setCoefficient_3 : decode cX15_setCoefficient 3 = .ok (.iload_n 3, 1) := by decide +kernel
theorem dX15_setCoefficient_4 : decode cX15_setCoefficient 4 = .ok (.invokevirtual 388, 3) := by decide +kernel
theorem dX15_setCoefficient_7 : decode cX15_setCoefficient 7 = .ok (.ifCond .eq 25, 3) := by decide +kernel
theorem dX15_setCoefficient_10 : decode cX15_setCoefficient 10 = .ok (.iload 4, 2) := by decide +kernel
theorem dX15_setCoefficient_12 : decode cX15_setCoefficient 12 = .ok (.ifCond .lt 20, 3) := by decide +kernel
theorem dX15_setCoefficient_15 : decode cX15_setCoefficient 15 = .ok (.iload 4, 2) := by decide +kernel
theorem dX15_setCoefficient_17 : decode cX15_setCoefficient 17 = .ok (.bipush 63, 2) := by decide +kernel
theorem dX15_setCoefficient_19 : decode cX15_setCoefficient 19 = .ok (.if_icmp .gt 13, 3) := by decide +kernel
theorem dX15_setCoefficient_22 : decode cX15_setCoefficient 22 = .ok (.iload 4, 2) := by decide +kernel
theorem dX15_setCoefficient_24 : decode cX15_setCoefficient 24 = .ok (.iload 5, 2) := by decide +kernel
theorem dX15_setCoefficient_26 : decode cX15_setCoefficient 26 = .ok (.invokestatic 391, 3) := by decide +kernel
theorem dX15_setCoefficient_29 : decode cX15_setCoefficient 29 = .ok (.ifCond .ne 5, 3) := by decide +kernel
theorem dX15_setCoefficient_32 : decode cX15_setCoefficient 32 = .ok (.iconst 0, 1) := by decide +kernel
theorem dX15_setCoefficient_33 : decode cX15_setCoefficient 33 = .ok (.ireturn, 1) := by decide +kernel
theorem dX15_setCoefficient_34 : decode cX15_setCoefficient 34 = .ok (.aload_n 0, 1) := by decide +kernel
theorem dX15_setCoefficient_35 : decode cX15_setCoefficient 35 = .ok (.getfield 70, 3) := by decide +kernel
theorem dX15_setCoefficient_38 : decode cX15_setCoefficient 38 = .ok (.bipush 64, 2) := by decide +kernel
theorem dX15_setCoefficient_40 : decode cX15_setCoefficient 40 = .ok (.aload_n 0, 1) := by decide +kernel
theorem dX15_setCoefficient_41 : decode cX15_setCoefficient 41 = .ok (.getfield 64, 3) := by decide +kernel
theorem dX15_setCoefficient_44 : decode cX15_setCoefficient 44 = .ok (.iload_n 1, 1) := by decide +kernel
theorem dX15_setCoefficient_45 : decode cX15_setCoefficient 45 = .ok (.iaload, 1) := by decide +kernel
theorem dX15_setCoefficient_46 : decode cX15_setCoefficient 46 = .ok (.iload_n 3, 1) := by decide +kernel
theorem dX15_setCoefficient_47 : decode cX15_setCoefficient 47 = .ok (.aload_n 0, 1) := by decide +kernel
theorem dX15_setCoefficient_48 : decode cX15_setCoefficient 48 = .ok (.getfield 58, 3) := by decide +kernel
theorem dX15_setCoefficient_51 : decode cX15_setCoefficient 51 = .ok (.iload_n 1, 1) := by decide +kernel
theorem dX15_setCoefficient_52 : decode cX15_setCoefficient 52 = .ok (.iaload, 1) := by decide +kernel
theorem dX15_setCoefficient_53 : decode cX15_setCoefficient 53 = .ok (.imul, 1) := by decide +kernel
theorem dX15_setCoefficient_54 : decode cX15_setCoefficient 54 = .ok (.iadd, 1) := by decide +kernel
theorem dX15_setCoefficient_55 : decode cX15_setCoefficient 55 = .ok (.iload_n 2, 1) := by decide +kernel
theorem dX15_setCoefficient_56 : decode cX15_setCoefficient 56 = .ok (.iadd, 1) := by decide +kernel
theorem dX15_setCoefficient_57 : decode cX15_setCoefficient 57 = .ok (.imul, 1) := by decide +kernel
theorem dX15_setCoefficient_58 : decode cX15_setCoefficient 58 = .ok (.iload 4, 2) := by decide +kernel
theorem dX15_setCoefficient_60 : decode cX15_setCoefficient 60 = .ok (.iadd, 1) := by decide +kernel
theorem dX15_setCoefficient_61 : decode cX15_setCoefficient 61 = .ok (.iload 5, 2) := by decide +kernel
theorem dX15_setCoefficient_63 : decode cX15_setCoefficient 63 = .ok (.i2s, 1) := by decide +kernel
theorem dX15_setCoefficient_64 : decode cX15_setCoefficient 64 = .ok (.sastore, 1) := by decide +kernel
theorem dX15_setCoefficient_65 : decode cX15_setCoefficient 65 = .ok (.iconst 1, 1) := by decide +kernel
theorem dX15_setCoefficient_66 : decode cX15_setCoefficient 66 = .ok (.ireturn, 1) := by decide +kernel
theorem mbX15_isBlock : px_mB mX15_isBlock 3 := ⟨tb10 (List.mem_of_getElem? (i := 98) rfl), by decide +kernel, tb1 (List.mem_of_getElem? (i := 13) rfl), by decide +kernel, by decide +kernel⟩
theorem vbX15_isBlock : px_vB mX15_isBlock := ⟨tb10 (List.mem_of_getElem? (i := 97) rfl), List.mem_append_left _ (List.mem_of_getElem? (i := 173) (by decide +kernel))⟩
theorem kcX15_setCoefficient_388 : px_cV mX15_setCoefficient 388 mX15_isBlock 3 := ⟨⟨mbX15_isBlock, by decide, by decide⟩, Or.inl (tb10 (List.mem_of_getElem? (i := 95) rfl)), vbX15_isBlock⟩
theorem mbX15_canBe : px_mB mX15_canBe 2 := ⟨tb10 (List.mem_of_getElem? (i := 101) rfl), by decide +kernel, tb1 (List.mem_of_getElem? (i := 13) rfl), by decide +kernel, by decide +kernel⟩
theorem kcX15_setCoefficient_391 : px_cS mX15_setCoefficient 391 mX15_canBe 2 := ⟨⟨mbX15_canBe, by decide, by decide⟩, Or.inl (tb10 (List.mem_of_getElem? (i := 99) rfl)), tb10 (List.mem_of_getElem? (i := 100) rfl)⟩
set_option maxRecDepth 100000 in
set_option maxHeartbeats 4000000 in
theorem eX15_setCoefficient {X : px_X} {w : px_W} {a0 : Nat} {a1 : Int32} {a2 : Int32} {a3 : Int32} {a4 : Int32} {a5 : Int32} {q : Int32 × px_W} (h : fX15_setCoefficient X w a0 a1 a2 a3 a4 a5 = some q) : EV X mX15_setCoefficient 0 (lv_args 0 [.ref a0, .int a1, .int a2, .int a3, .int a4, .int a5]) [] w (some (.int q.1)) q.2 := by
  unfold fX15_setCoefficient at h
  show EV X mX15_setCoefficient 0 [(0, .ref a0), (1, .int a1), (2, .int a2), (3, .int a3), (4, .int a4), (5, .int a5)] [] w (some (.int q.1)) q.2
  refine EV.aload_n 0 dX15_setCoefficient_0 rfl rfl ?_
  refine EV.iload_n 1 dX15_setCoefficient_1 rfl rfl ?_
  refine EV.iload_n 2 dX15_setCoefficient_2 rfl rfl ?_
  refine EV.iload_n 3 dX15_setCoefficient_3 rfl rfl ?_
  obtain ⟨o10, go10, h⟩ := px_bs h
  obtain ⟨q11, gq11, h⟩ := px_bs h
  refine EV.callV (As := [.int a1, .int a2, .int a3]) (rest := []) dX15_setCoefficient_4 kcX15_setCoefficient_388 (gO_ok go10) rfl rfl rfl (Nat.le_of_ble_eq_true rfl) (Nat.le_of_ble_eq_true rfl) (eX15_isBlock gq11) ?_
  refine EV.if_eq 32 dX15_setCoefficient_7 (by decide) (fun c12 => ?_) (fun c12 => ?_)
  · rw [if_pos c12] at h
    refine EV.iconst (0) dX15_setCoefficient_32 (by decide) ?_
    cases h
    exact EV.reti dX15_setCoefficient_33 rfl
  · rw [if_neg c12] at h
    refine EV.iload 4 dX15_setCoefficient_10 rfl ?_
    refine EV.if_lt 32 dX15_setCoefficient_12 (by decide) (fun c13 => ?_) (fun c13 => ?_)
    · rw [if_pos c13] at h
      refine EV.iconst (0) dX15_setCoefficient_32 (by decide) ?_
      cases h
      exact EV.reti dX15_setCoefficient_33 rfl
    · rw [if_neg c13] at h
      refine EV.iload 4 dX15_setCoefficient_15 rfl ?_
      refine EV.bipush (63) dX15_setCoefficient_17 (by decide) ?_
      refine EV.icmp_gt 32 dX15_setCoefficient_19 (by decide) (fun c14 => ?_) (fun c14 => ?_)
      · rw [if_pos c14] at h
        refine EV.iconst (0) dX15_setCoefficient_32 (by decide) ?_
        cases h
        exact EV.reti dX15_setCoefficient_33 rfl
      · rw [if_neg c14] at h
        refine EV.iload 4 dX15_setCoefficient_22 rfl ?_
        refine EV.iload 5 dX15_setCoefficient_24 rfl ?_
        obtain ⟨q15, gq15, h⟩ := px_bs h
        refine EV.callS (As := [.int a4, .int a5]) (rest := []) dX15_setCoefficient_26 kcX15_setCoefficient_391 rfl (Nat.le_of_ble_eq_true rfl) (Nat.le_of_ble_eq_true rfl) (eX15_canBe gq15) ?_
        refine EV.if_ne 34 dX15_setCoefficient_29 (by decide) (fun c16 => ?_) (fun c16 => ?_)
        · rw [if_neg c16] at h
          refine EV.aload_n 0 dX15_setCoefficient_34 rfl rfl ?_
          obtain ⟨v17, gv17, h⟩ := px_bs h
          refine ev_gR dX15_setCoefficient_35 flRX15_70 gv17 ?_
          refine EV.bipush (64) dX15_setCoefficient_38 (by decide) ?_
          refine EV.aload_n 0 dX15_setCoefficient_40 rfl rfl ?_
          obtain ⟨v18, gv18, h⟩ := px_bs h
          refine ev_gR dX15_setCoefficient_41 flRX15_64 gv18 ?_
          refine EV.iload_n 1 dX15_setCoefficient_44 rfl rfl ?_
          obtain ⟨v19, gv19, h⟩ := px_bs h
          refine ev_aI dX15_setCoefficient_45 gv19 ?_
          refine EV.iload_n 3 dX15_setCoefficient_46 rfl rfl ?_
          refine EV.aload_n 0 dX15_setCoefficient_47 rfl rfl ?_
          obtain ⟨v20, gv20, h⟩ := px_bs h
          refine ev_gR dX15_setCoefficient_48 flRX15_58 gv20 ?_
          refine EV.iload_n 1 dX15_setCoefficient_51 rfl rfl ?_
          obtain ⟨v21, gv21, h⟩ := px_bs h
          refine ev_aI dX15_setCoefficient_52 gv21 ?_
          refine EV.imul dX15_setCoefficient_53 ?_
          refine EV.iadd dX15_setCoefficient_54 ?_
          refine EV.iload_n 2 dX15_setCoefficient_55 rfl rfl ?_
          refine EV.iadd dX15_setCoefficient_56 ?_
          refine EV.imul dX15_setCoefficient_57 ?_
          refine EV.iload 4 dX15_setCoefficient_58 rfl ?_
          refine EV.iadd dX15_setCoefficient_60 ?_
          refine EV.iload 5 dX15_setCoefficient_61 rfl ?_
          refine EV.i2s dX15_setCoefficient_63 ?_
          obtain ⟨w22, gw22, h⟩ := px_bs h
          refine ev_sS dX15_setCoefficient_64 gw22 ?_
          refine EV.iconst (1) dX15_setCoefficient_65 (by decide) ?_
          cases h
          exact EV.reti dX15_setCoefficient_66 rfl
        · rw [if_pos c16] at h
          refine EV.iconst (0) dX15_setCoefficient_32 (by decide) ?_
          cases h
          exact EV.reti dX15_setCoefficient_33 rfl
/-! WavePicturesModel.coefficientAt(IIII)I -/
theorem dX15_coefficientAt_0 : decode cX15_coefficientAt 0 = .ok (.aload_n 0, 1) := by decide +kernel
theorem dX15_coefficientAt_1 : decode cX15_coefficientAt 1 = .ok (.iload_n 1, 1) := by decide +kernel
theorem dX15_coefficientAt_2 : decode cX15_coefficientAt 2 = .ok (.iload_n 2, 1) := by decide +kernel
theorem dX15_coefficientAt_3 : decode cX15_coefficientAt 3 = .ok (.iload_n 3, 1) := by decide +kernel
theorem dX15_coefficientAt_4 : decode cX15_coefficientAt 4 = .ok (.invokevirtual 388, 3) := by decide +kernel
theorem dX15_coefficientAt_7 : decode cX15_coefficientAt 7 = .ok (.ifCond .eq 15, 3) := by decide +kernel
theorem dX15_coefficientAt_10 : decode cX15_coefficientAt 10 = .ok (.iload 4, 2) := by decide +kernel
theorem dX15_coefficientAt_12 : decode cX15_coefficientAt 12 = .ok (.ifCond .lt 10, 3) := by decide +kernel
theorem dX15_coefficientAt_15 : decode cX15_coefficientAt 15 = .ok (.iload 4, 2) := by decide +kernel
theorem dX15_coefficientAt_17 : decode cX15_coefficientAt 17 = .ok (.bipush 63, 2) := by decide +kernel
theorem dX15_coefficientAt_19 : decode cX15_coefficientAt 19 = .ok (.if_icmp .le 7, 3) := by decide +kernel
theorem dX15_coefficientAt_22 : decode cX15_coefficientAt 22 = .ok (.iconst 0, 1) := by decide +kernel
theorem dX15_coefficientAt_23 : decode cX15_coefficientAt 23 = .ok (.goto 31, 3) := by decide +kernel
theorem dX15_coefficientAt_26 : decode cX15_coefficientAt 26 = .ok (.aload_n 0, 1) := by decide +kernel
theorem dX15_coefficientAt_27 : decode cX15_coefficientAt 27 = .ok (.getfield 70, 3) := by decide +kernel
theorem dX15_coefficientAt_30 : decode cX15_coefficientAt 30 = .ok (.bipush 64, 2) := by decide +kernel
theorem dX15_coefficientAt_32 : decode cX15_coefficientAt 32 = .ok (.aload_n 0, 1) := by decide +kernel
theorem dX15_coefficientAt_33 : decode cX15_coefficientAt 33 = .ok (.getfield 64, 3) := by decide +kernel
theorem dX15_coefficientAt_36 : decode cX15_coefficientAt 36 = .ok (.iload_n 1, 1) := by decide +kernel
theorem dX15_coefficientAt_37 : decode cX15_coefficientAt 37 = .ok (.iaload, 1) := by decide +kernel
theorem dX15_coefficientAt_38 : decode cX15_coefficientAt 38 = .ok (.iload_n 3, 1) := by decide +kernel
theorem dX15_coefficientAt_39 : decode cX15_coefficientAt 39 = .ok (.aload_n 0, 1) := by decide +kernel
theorem dX15_coefficientAt_40 : decode cX15_coefficientAt 40 = .ok (.getfield 58, 3) := by decide +kernel
theorem dX15_coefficientAt_43 : decode cX15_coefficientAt 43 = .ok (.iload_n 1, 1) := by decide +kernel
theorem dX15_coefficientAt_44 : decode cX15_coefficientAt 44 = .ok (.iaload, 1) := by decide +kernel
theorem dX15_coefficientAt_45 : decode cX15_coefficientAt 45 = .ok (.imul, 1) := by decide +kernel
theorem dX15_coefficientAt_46 : decode cX15_coefficientAt 46 = .ok (.iadd, 1) := by decide +kernel
theorem dX15_coefficientAt_47 : decode cX15_coefficientAt 47 = .ok (.iload_n 2, 1) := by decide +kernel
theorem dX15_coefficientAt_48 : decode cX15_coefficientAt 48 = .ok (.iadd, 1) := by decide +kernel
theorem dX15_coefficientAt_49 : decode cX15_coefficientAt 49 = .ok (.imul, 1) := by decide +kernel
theorem dX15_coefficientAt_50 : decode cX15_coefficientAt 50 = .ok (.iload 4, 2) := by decide +kernel
theorem dX15_coefficientAt_52 : decode cX15_coefficientAt 52 = .ok (.iadd, 1) := by decide +kernel
theorem dX15_coefficientAt_53 : decode cX15_coefficientAt 53 = .ok (.saload, 1) := by decide +kernel
theorem dX15_coefficientAt_54 : decode cX15_coefficientAt 54 = .ok (.ireturn, 1) := by decide +kernel
theorem kcX15_coefficientAt_388 : px_cV mX15_coefficientAt 388 mX15_isBlock 3 := ⟨⟨mbX15_isBlock, by decide, by decide⟩, Or.inl (tb10 (List.mem_of_getElem? (i := 95) rfl)), vbX15_isBlock⟩
set_option maxRecDepth 100000 in
set_option maxHeartbeats 4000000 in
theorem eX15_coefficientAt {X : px_X} {w : px_W} {a0 : Nat} {a1 : Int32} {a2 : Int32} {a3 : Int32} {a4 : Int32} {q : Int32 × px_W} (h : fX15_coefficientAt X w a0 a1 a2 a3 a4 = some q) : EV X mX15_coefficientAt 0 (lv_args 0 [.ref a0, .int a1, .int a2, .int a3, .int a4]) [] w (some (.int q.1)) q.2 := by
  unfold fX15_coefficientAt at h
  show EV X mX15_coefficientAt 0 [(0, .ref a0), (1, .int a1), (2, .int a2), (3, .int a3), (4, .int a4)] [] w (some (.int q.1)) q.2
  refine EV.aload_n 0 dX15_coefficientAt_0 rfl rfl ?_
  refine EV.iload_n 1 dX15_coefficientAt_1 rfl rfl ?_
  refine EV.iload_n 2 dX15_coefficientAt_2 rfl rfl ?_
  refine EV.iload_n 3 dX15_coefficientAt_3 rfl rfl ?_
  obtain ⟨o9, go9, h⟩ := px_bs h
  obtain ⟨q10, gq10, h⟩ := px_bs h
  refine EV.callV (As := [.int a1, .int a2, .int a3]) (rest := []) dX15_coefficientAt_4 kcX15_coefficientAt_388 (gO_ok go9) rfl rfl rfl (Nat.le_of_ble_eq_true rfl) (Nat.le_of_ble_eq_true rfl) (eX15_isBlock gq10) ?_
  refine EV.if_eq 22 dX15_coefficientAt_7 (by decide) (fun c11 => ?_) (fun c11 => ?_)
  · rw [if_pos c11] at h
    refine EV.iconst (0) dX15_coefficientAt_22 (by decide) ?_
    refine EV.goto 54 dX15_coefficientAt_23 (by decide) ?_
    cases h
    exact EV.reti dX15_coefficientAt_54 rfl
  · rw [if_neg c11] at h
    refine EV.iload 4 dX15_coefficientAt_10 rfl ?_
    refine EV.if_lt 22 dX15_coefficientAt_12 (by decide) (fun c12 => ?_) (fun c12 => ?_)
    · rw [if_pos c12] at h
      refine EV.iconst (0) dX15_coefficientAt_22 (by decide) ?_
      refine EV.goto 54 dX15_coefficientAt_23 (by decide) ?_
      cases h
      exact EV.reti dX15_coefficientAt_54 rfl
    · rw [if_neg c12] at h
      refine EV.iload 4 dX15_coefficientAt_15 rfl ?_
      refine EV.bipush (63) dX15_coefficientAt_17 (by decide) ?_
      refine EV.icmp_le 26 dX15_coefficientAt_19 (by decide) (fun c13 => ?_) (fun c13 => ?_)
      · rw [if_pos c13] at h
        refine EV.aload_n 0 dX15_coefficientAt_26 rfl rfl ?_
        obtain ⟨v14, gv14, h⟩ := px_bs h
        refine ev_gR dX15_coefficientAt_27 flRX15_70 gv14 ?_
        refine EV.bipush (64) dX15_coefficientAt_30 (by decide) ?_
        refine EV.aload_n 0 dX15_coefficientAt_32 rfl rfl ?_
        obtain ⟨v15, gv15, h⟩ := px_bs h
        refine ev_gR dX15_coefficientAt_33 flRX15_64 gv15 ?_
        refine EV.iload_n 1 dX15_coefficientAt_36 rfl rfl ?_
        obtain ⟨v16, gv16, h⟩ := px_bs h
        refine ev_aI dX15_coefficientAt_37 gv16 ?_
        refine EV.iload_n 3 dX15_coefficientAt_38 rfl rfl ?_
        refine EV.aload_n 0 dX15_coefficientAt_39 rfl rfl ?_
        obtain ⟨v17, gv17, h⟩ := px_bs h
        refine ev_gR dX15_coefficientAt_40 flRX15_58 gv17 ?_
        refine EV.iload_n 1 dX15_coefficientAt_43 rfl rfl ?_
        obtain ⟨v18, gv18, h⟩ := px_bs h
        refine ev_aI dX15_coefficientAt_44 gv18 ?_
        refine EV.imul dX15_coefficientAt_45 ?_
        refine EV.iadd dX15_coefficientAt_46 ?_
        refine EV.iload_n 2 dX15_coefficientAt_47 rfl rfl ?_
        refine EV.iadd dX15_coefficientAt_48 ?_
        refine EV.imul dX15_coefficientAt_49 ?_
        refine EV.iload 4 dX15_coefficientAt_50 rfl ?_
        refine EV.iadd dX15_coefficientAt_52 ?_
        obtain ⟨v19, gv19, h⟩ := px_bs h
        refine ev_aS dX15_coefficientAt_53 gv19 ?_
        cases h
        exact EV.reti dX15_coefficientAt_54 rfl
      · rw [if_neg c13] at h
        refine EV.iconst (0) dX15_coefficientAt_22 (by decide) ?_
        refine EV.goto 54 dX15_coefficientAt_23 (by decide) ?_
        cases h
        exact EV.reti dX15_coefficientAt_54 rfl
/-! WavePicturesModel.stepAt(II)I -/
theorem dX15_stepAt_0 : decode cX15_stepAt 0 = .ok (.aload_n 0, 1) := by decide +kernel
theorem dX15_stepAt_1 : decode cX15_stepAt 1 = .ok (.getfield 235, 3) := by decide +kernel
theorem dX15_stepAt_4 : decode cX15_stepAt 4 = .ok (.ifCond .eq 25, 3) := by decide +kernel
theorem dX15_stepAt_7 : decode cX15_stepAt 7 = .ok (.iload_n 1, 1) := by decide +kernel
theorem dX15_stepAt_8 : decode cX15_stepAt 8 = .ok (.ifCond .lt 21, 3) := by decide +kernel
theorem dX15_stepAt_11 : decode cX15_stepAt 11 = .ok (.iload_n 1, 1) := by decide +kernel
theorem dX15_stepAt_12 : decode cX15_stepAt 12 = .ok (.aload_n 0, 1) := by decide +kernel
theorem dX15_stepAt_13 : decode cX15_stepAt 13 = .ok (.getfield 126, 3) := by decide +kernel
theorem dX15_stepAt_16 : decode cX15_stepAt 16 = .ok (.if_icmp .ge 13, 3) := by decide +kernel
theorem dX15_stepAt_19 : decode cX15_stepAt 19 = .ok (.iload_n 2, 1) := by decide +kernel
theorem dX15_stepAt_20 : decode cX15_stepAt 20 = .ok (.ifCond .lt 9, 3) := by decide +kernel
theorem dX15_stepAt_23 : decode cX15_stepAt 23 = .ok (.iload_n 2, 1) := by decide +kernel
theorem dX15_stepAt_24 : decode cX15_stepAt 24 = .ok (.bipush 63, 2) := by decide +kernel
theorem dX15_stepAt_26 : decode cX15_stepAt 26 = .ok (.if_icmp .le 7, 3) := by decide +kernel
theorem dX15_stepAt_29 : decode cX15_stepAt 29 = .ok (.iconst (-1), 1) := by decide +kernel
theorem dX15_stepAt_30 : decode cX15_stepAt 30 = .ok (.goto 14, 3) := by decide +kernel
theorem dX15_stepAt_33 : decode cX15_stepAt 33 = .ok (.aload_n 0, 1) := by decide +kernel
theorem dX15_stepAt_34 : decode cX15_stepAt 34 = .ok (.getfield 67, 3) := by decide +kernel
theorem dX15_stepAt_37 : decode cX15_stepAt 37 = .ok (.bipush 64, 2) := by decide +kernel
theorem dX15_stepAt_39 : decode cX15_stepAt 39 = .ok (.iload_n 1, 1) := by decide +kernel
theorem dX15_stepAt_40 : decode cX15_stepAt 40 = .ok (.imul, 1) := by decide +kernel
theorem dX15_stepAt_41 : decode cX15_stepAt 41 = .ok (.iload_n 2, 1) := by decide +kernel
theorem dX15_stepAt_42 : decode cX15_stepAt 42 = .ok (.iadd, 1) := by decide +kernel
theorem dX15_stepAt_43 : decode cX15_stepAt 43 = .ok (.iaload, 1) := by decide +kernel
theorem dX15_stepAt_44 : decode cX15_stepAt 44 = .ok (.ireturn, 1) := by decide +kernel
set_option maxRecDepth 100000 in
set_option maxHeartbeats 4000000 in
theorem eX15_stepAt {X : px_X} {w : px_W} {a0 : Nat} {a1 : Int32} {a2 : Int32} {q : Int32 × px_W} (h : fX15_stepAt X w a0 a1 a2 = some q) : EV X mX15_stepAt 0 (lv_args 0 [.ref a0, .int a1, .int a2]) [] w (some (.int q.1)) q.2 := by
  unfold fX15_stepAt at h
  show EV X mX15_stepAt 0 [(0, .ref a0), (1, .int a1), (2, .int a2)] [] w (some (.int q.1)) q.2
  refine EV.aload_n 0 dX15_stepAt_0 rfl rfl ?_
  obtain ⟨v5, gv5, h⟩ := px_bs h
  refine ev_gI dX15_stepAt_1 flRX15_235 gv5 ?_
  refine EV.if_eq 29 dX15_stepAt_4 (by decide) (fun c6 => ?_) (fun c6 => ?_)
  · rw [if_pos c6] at h
    refine EV.iconst ((-1)) dX15_stepAt_29 (by decide) ?_
    refine EV.goto 44 dX15_stepAt_30 (by decide) ?_
    cases h
    exact EV.reti dX15_stepAt_44 rfl
  · rw [if_neg c6] at h
    refine EV.iload_n 1 dX15_stepAt_7 rfl rfl ?_
    refine EV.if_lt 29 dX15_stepAt_8 (by decide) (fun c7 => ?_) (fun c7 => ?_)
    · rw [if_pos c7] at h
      refine EV.iconst ((-1)) dX15_stepAt_29 (by decide) ?_
      refine EV.goto 44 dX15_stepAt_30 (by decide) ?_
      cases h
      exact EV.reti dX15_stepAt_44 rfl
    · rw [if_neg c7] at h
      refine EV.iload_n 1 dX15_stepAt_11 rfl rfl ?_
      refine EV.aload_n 0 dX15_stepAt_12 rfl rfl ?_
      obtain ⟨v8, gv8, h⟩ := px_bs h
      refine ev_gI dX15_stepAt_13 flRX15_126 gv8 ?_
      refine EV.icmp_ge 29 dX15_stepAt_16 (by decide) (fun c9 => ?_) (fun c9 => ?_)
      · rw [if_pos c9] at h
        refine EV.iconst ((-1)) dX15_stepAt_29 (by decide) ?_
        refine EV.goto 44 dX15_stepAt_30 (by decide) ?_
        cases h
        exact EV.reti dX15_stepAt_44 rfl
      · rw [if_neg c9] at h
        refine EV.iload_n 2 dX15_stepAt_19 rfl rfl ?_
        refine EV.if_lt 29 dX15_stepAt_20 (by decide) (fun c10 => ?_) (fun c10 => ?_)
        · rw [if_pos c10] at h
          refine EV.iconst ((-1)) dX15_stepAt_29 (by decide) ?_
          refine EV.goto 44 dX15_stepAt_30 (by decide) ?_
          cases h
          exact EV.reti dX15_stepAt_44 rfl
        · rw [if_neg c10] at h
          refine EV.iload_n 2 dX15_stepAt_23 rfl rfl ?_
          refine EV.bipush (63) dX15_stepAt_24 (by decide) ?_
          refine EV.icmp_le 33 dX15_stepAt_26 (by decide) (fun c11 => ?_) (fun c11 => ?_)
          · rw [if_pos c11] at h
            refine EV.aload_n 0 dX15_stepAt_33 rfl rfl ?_
            obtain ⟨v12, gv12, h⟩ := px_bs h
            refine ev_gR dX15_stepAt_34 flRX15_67 gv12 ?_
            refine EV.bipush (64) dX15_stepAt_37 (by decide) ?_
            refine EV.iload_n 1 dX15_stepAt_39 rfl rfl ?_
            refine EV.imul dX15_stepAt_40 ?_
            refine EV.iload_n 2 dX15_stepAt_41 rfl rfl ?_
            refine EV.iadd dX15_stepAt_42 ?_
            obtain ⟨v13, gv13, h⟩ := px_bs h
            refine ev_aI dX15_stepAt_43 gv13 ?_
            cases h
            exact EV.reti dX15_stepAt_44 rfl
          · rw [if_neg c11] at h
            refine EV.iconst ((-1)) dX15_stepAt_29 (by decide) ?_
            refine EV.goto 44 dX15_stepAt_30 (by decide) ?_
            cases h
            exact EV.reti dX15_stepAt_44 rfl
/-! WavePicturesModel.isPlane(I)Z -/
theorem dX15_isPlane_0 : decode cX15_isPlane 0 = .ok (.iload_n 0, 1) := by decide +kernel
theorem dX15_isPlane_1 : decode cX15_isPlane 1 = .ok (.ifCond .lt 12, 3) := by decide +kernel
theorem dX15_isPlane_4 : decode cX15_isPlane 4 = .ok (.iload_n 0, 1) := by decide +kernel
theorem dX15_isPlane_5 : decode cX15_isPlane 5 = .ok (.iconst 4, 1) := by decide +kernel
theorem dX15_isPlane_6 : decode cX15_isPlane 6 = .ok (.if_icmp .ge 7, 3) := by decide +kernel
theorem dX15_isPlane_9 : decode cX15_isPlane 9 = .ok (.iconst 1, 1) := by decide +kernel
theorem dX15_isPlane_10 : decode cX15_isPlane 10 = .ok (.goto 4, 3) := by decide +kernel
theorem dX15_isPlane_13 : decode cX15_isPlane 13 = .ok (.iconst 0, 1) := by decide +kernel
theorem dX15_isPlane_14 : decode cX15_isPlane 14 = .ok (.ireturn, 1) := by decide +kernel
set_option maxRecDepth 100000 in
set_option maxHeartbeats 4000000 in
theorem eX15_isPlane {X : px_X} {w : px_W} {a0 : Int32} {q : Int32 × px_W} (h : fX15_isPlane X w a0 = some q) : EV X mX15_isPlane 0 (lv_args 0 [.int a0]) [] w (some (.int q.1)) q.2 := by
  unfold fX15_isPlane at h
  show EV X mX15_isPlane 0 [(0, .int a0)] [] w (some (.int q.1)) q.2
  refine EV.iload_n 0 dX15_isPlane_0 rfl rfl ?_
  refine EV.if_lt 13 dX15_isPlane_1 (by decide) (fun c1 => ?_) (fun c1 => ?_)
  · rw [if_pos c1] at h
    refine EV.iconst (0) dX15_isPlane_13 (by decide) ?_
    cases h
    exact EV.reti dX15_isPlane_14 rfl
  · rw [if_neg c1] at h
    refine EV.iload_n 0 dX15_isPlane_4 rfl rfl ?_
    refine EV.iconst (4) dX15_isPlane_5 (by decide) ?_
    refine EV.icmp_ge 13 dX15_isPlane_6 (by decide) (fun c2 => ?_) (fun c2 => ?_)
    · rw [if_pos c2] at h
      refine EV.iconst (0) dX15_isPlane_13 (by decide) ?_
      cases h
      exact EV.reti dX15_isPlane_14 rfl
    · rw [if_neg c2] at h
      refine EV.iconst (1) dX15_isPlane_9 (by decide) ?_
      refine EV.goto 14 dX15_isPlane_10 (by decide) ?_
      cases h
      exact EV.reti dX15_isPlane_14 rfl
/-! WavePicturesModel.canvasSize(III)Z -/
theorem dX15_canvasSize_0 : decode cX15_canvasSize 0 = .ok (.iload_n 1, 1) := by decide +kernel
theorem dX15_canvasSize_1 : decode cX15_canvasSize 1 = .ok (.invokestatic 395, 3) := by decide +kernel
theorem dX15_canvasSize_4 : decode cX15_canvasSize 4 = .ok (.ifCond .eq 25, 3) := by decide +kernel
theorem dX15_canvasSize_7 : decode cX15_canvasSize 7 = .ok (.iload_n 2, 1) := by decide +kernel
theorem dX15_canvasSize_8 : decode cX15_canvasSize 8 = .ok (.iconst 1, 1) := by decide +kernel
theorem dX15_canvasSize_9 : decode cX15_canvasSize 9 = .ok (.if_icmp .lt 20, 3) := by decide +kernel
theorem dX15_canvasSize_12 : decode cX15_canvasSize 12 = .ok (.iload_n 2, 1) := by decide +kernel
theorem dX15_canvasSize_13 : decode cX15_canvasSize 13 = .ok (.bipush 32, 2) := by decide +kernel
theorem dX15_canvasSize_15 : decode cX15_canvasSize 15 = .ok (.if_icmp .gt 14, 3) := by decide +kernel
theorem dX15_canvasSize_18 : decode cX15_canvasSize 18 = .ok (.iload_n 3, 1) := by decide +kernel
theorem dX15_canvasSize_19 : decode cX15_canvasSize 19 = .ok (.iconst 1, 1) := by decide +kernel
theorem dX15_canvasSize_20 : decode cX15_canvasSize 20 = .ok (.if_icmp .lt 9, 3) := by decide +kernel
theorem dX15_canvasSize_23 : decode cX15_canvasSize 23 = .ok (.iload_n 3, 1) := by decide +kernel
theorem dX15_canvasSize_24 : decode cX15_canvasSize 24 = .ok (.bipush 32, 2) := by decide +kernel
theorem dX15_canvasSize_26 : decode cX15_canvasSize 26 = .ok (.if_icmp .le 5, 3) := by decide +kernel
theorem dX15_canvasSize_29 : decode cX15_canvasSize 29 = .ok (.iconst 0, 1) := by decide +kernel
theorem dX15_canvasSize_30 : decode cX15_canvasSize 30 = .ok (.ireturn, 1) := by decide +kernel
theorem dX15_canvasSize_31 : decode cX15_canvasSize 31 = .ok (.aload_n 0, 1) := by decide +kernel
theorem dX15_canvasSize_32 : decode cX15_canvasSize 32 = .ok (.getfield 98, 3) := by decide +kernel
theorem dX15_canvasSize_35 : decode cX15_canvasSize 35 = .ok (.iload_n 1, 1) := by decide +kernel
theorem dX15_canvasSize_36 : decode cX15_canvasSize 36 = .ok (.iload_n 2, 1) := by decide +kernel
theorem dX15_canvasSize_37 : decode cX15_canvasSize 37 = .ok (.iastore, 1) := by decide +kernel
theorem dX15_canvasSize_38 : decode cX15_canvasSize 38 = .ok (.aload_n 0, 1) := by decide +kernel
theorem dX15_canvasSize_39 : decode cX15_canvasSize 39 = .ok (.getfield 101, 3) := by decide +kernel
theorem dX15_canvasSize_42 : decode cX15_canvasSize 42 = .ok (.iload_n 1, 1) := by decide +kernel
theorem dX15_canvasSize_43 : decode cX15_canvasSize 43 = .ok (.iload_n 3, 1) := by decide +kernel
theorem dX15_canvasSize_44 : decode cX15_canvasSize 44 = .ok (.iastore, 1) := by decide +kernel
theorem dX15_canvasSize_45 : decode cX15_canvasSize 45 = .ok (.iconst 0, 1) := by decide +kernel
theorem dX15_canvasSize_46 : decode cX15_canvasSize 46 = .ok (.istore 4, 2) := by decide +kernel
theorem dX15_canvasSize_48 : decode cX15_canvasSize 48 = .ok (.iload 4, 2) := by decide +kernel
theorem dX15_canvasSize_50 : decode cX15_canvasSize 50 = .ok (.sipush 1024, 3) := by decide +kernel
theorem dX15_canvasSize_53 : decode cX15_canvasSize 53 = .ok (.if_icmp .ge 23, 3) := by decide +kernel
theorem dX15_canvasSize_56 : decode cX15_canvasSize 56 = .ok (.aload_n 0, 1) := by decide +kernel
theorem dX15_canvasSize_57 : decode cX15_canvasSize 57 = .ok (.getfield 95, 3) := by decide +kernel
theorem dX15_canvasSize_60 : decode cX15_canvasSize 60 = .ok (.sipush 1024, 3) := by decide +kernel
theorem dX15_canvasSize_63 : decode cX15_canvasSize 63 = .ok (.iload_n 1, 1) := by decide +kernel
theorem dX15_canvasSize_64 : decode cX15_canvasSize 64 = .ok (.imul, 1) := by decide +kernel
theorem dX15_canvasSize_65 : decode cX15_canvasSize 65 = .ok (.iload 4, 2) := by decide +kernel
theorem dX15_canvasSize_67 : decode cX15_canvasSize 67 = .ok (.iadd, 1) := by decide +kernel
theorem dX15_canvasSize_68 : decode cX15_canvasSize 68 = .ok (.iconst 0, 1) := by decide +kernel
theorem dX15_canvasSize_69 : decode cX15_canvasSize 69 = .ok (.iastore, 1) := by decide +kernel
theorem dX15_canvasSize_70 : decode cX15_canvasSize 70 = .ok (.iinc 4 1, 3) := by decide +kernel
theorem dX15_canvasSize_73 : decode cX15_canvasSize 73 = .ok (.goto (-25), 3) := by decide +kernel
theorem dX15_canvasSize_76 : decode cX15_canvasSize 76 = .ok (.iconst 1, 1) := by decide +kernel
theorem dX15_canvasSize_77 : decode cX15_canvasSize 77 = .ok (.ireturn, 1) := by decide +kernel
theorem mbX15_isPlane : px_mB mX15_isPlane 1 := ⟨tb10 (List.mem_of_getElem? (i := 116) rfl), by decide +kernel, tb1 (List.mem_of_getElem? (i := 13) rfl), by decide +kernel, by decide +kernel⟩
theorem kcX15_canvasSize_395 : px_cS mX15_canvasSize 395 mX15_isPlane 1 := ⟨⟨mbX15_isPlane, by decide, by decide⟩, Or.inl (tb10 (List.mem_of_getElem? (i := 114) rfl)), tb10 (List.mem_of_getElem? (i := 115) rfl)⟩
set_option maxRecDepth 100000 in
set_option maxHeartbeats 4000000 in
theorem eX15_canvasSize_48 {X : px_X}  : ∀ (m : Nat) (a0 : Nat) (a1 : Int32) (a4 : Int32) (w : px_W) (q : Int32 × px_W), fX15_canvasSize_48 X  m a0 a1 a4 w = some q → EV X mX15_canvasSize 48 [(0, .ref a0), (1, .int a1), (4, .int a4)] [] w (some (.int q.1)) q.2 := by
  intro m
  induction m with
  | zero => intro a0 a1 a4 w q h; cases h
  | succ m ih =>
    intro a0 a1 a4 w q h
    rw [fX15_canvasSize_48.eq_2] at h
    refine EV.iload 2 dX15_canvasSize_48 rfl ?_
    refine EV.sipush (1024) dX15_canvasSize_50 (by decide) ?_
    refine EV.icmp_ge 76 dX15_canvasSize_53 (by decide) (fun c8 => ?_) (fun c8 => ?_)
    · rw [if_pos c8] at h
      refine EV.iconst (1) dX15_canvasSize_76 (by decide) ?_
      cases h
      exact EV.reti dX15_canvasSize_77 rfl
    · rw [if_neg c8] at h
      refine EV.aload_n 0 dX15_canvasSize_56 rfl rfl ?_
      obtain ⟨v9, gv9, h⟩ := px_bs h
      refine ev_gR dX15_canvasSize_57 flRX15_95 gv9 ?_
      refine EV.sipush (1024) dX15_canvasSize_60 (by decide) ?_
      refine EV.iload_n 1 dX15_canvasSize_63 rfl rfl ?_
      refine EV.imul dX15_canvasSize_64 ?_
      refine EV.iload 2 dX15_canvasSize_65 rfl ?_
      refine EV.iadd dX15_canvasSize_67 ?_
      refine EV.iconst (0) dX15_canvasSize_68 (by decide) ?_
      obtain ⟨w10, gw10, h⟩ := px_bs h
      refine ev_sI dX15_canvasSize_69 gw10 ?_
      refine EV.iinc 2 (a4 + 1) [(4, .int (a4 + 1)), (0, .ref a0), (1, .int a1)] dX15_canvasSize_70 rfl rfl (by decide) rfl ?_
      refine EV.goto 48 dX15_canvasSize_73 (by decide) ?_
      refine EV.sub [1, 2, 0] rfl ?_
      exact ih _ _ _ _ _ h
set_option maxRecDepth 100000 in
set_option maxHeartbeats 4000000 in
theorem eX15_canvasSize {X : px_X} {w : px_W} {a0 : Nat} {a1 : Int32} {a2 : Int32} {a3 : Int32} {q : Int32 × px_W} (h : fX15_canvasSize X w a0 a1 a2 a3 = some q) : EV X mX15_canvasSize 0 (lv_args 0 [.ref a0, .int a1, .int a2, .int a3]) [] w (some (.int q.1)) q.2 := by
  unfold fX15_canvasSize at h
  show EV X mX15_canvasSize 0 [(0, .ref a0), (1, .int a1), (2, .int a2), (3, .int a3)] [] w (some (.int q.1)) q.2
  refine EV.iload_n 1 dX15_canvasSize_0 rfl rfl ?_
  obtain ⟨q11, gq11, h⟩ := px_bs h
  refine EV.callS (As := [.int a1]) (rest := []) dX15_canvasSize_1 kcX15_canvasSize_395 rfl (Nat.le_of_ble_eq_true rfl) (Nat.le_of_ble_eq_true rfl) (eX15_isPlane gq11) ?_
  refine EV.if_eq 29 dX15_canvasSize_4 (by decide) (fun c12 => ?_) (fun c12 => ?_)
  · rw [if_pos c12] at h
    refine EV.iconst (0) dX15_canvasSize_29 (by decide) ?_
    cases h
    exact EV.reti dX15_canvasSize_30 rfl
  · rw [if_neg c12] at h
    refine EV.iload_n 2 dX15_canvasSize_7 rfl rfl ?_
    refine EV.iconst (1) dX15_canvasSize_8 (by decide) ?_
    refine EV.icmp_lt 29 dX15_canvasSize_9 (by decide) (fun c13 => ?_) (fun c13 => ?_)
    · rw [if_pos c13] at h
      refine EV.iconst (0) dX15_canvasSize_29 (by decide) ?_
      cases h
      exact EV.reti dX15_canvasSize_30 rfl
    · rw [if_neg c13] at h
      refine EV.iload_n 2 dX15_canvasSize_12 rfl rfl ?_
      refine EV.bipush (32) dX15_canvasSize_13 (by decide) ?_
      refine EV.icmp_gt 29 dX15_canvasSize_15 (by decide) (fun c14 => ?_) (fun c14 => ?_)
      · rw [if_pos c14] at h
        refine EV.iconst (0) dX15_canvasSize_29 (by decide) ?_
        cases h
        exact EV.reti dX15_canvasSize_30 rfl
      · rw [if_neg c14] at h
        refine EV.iload_n 3 dX15_canvasSize_18 rfl rfl ?_
        refine EV.iconst (1) dX15_canvasSize_19 (by decide) ?_
        refine EV.icmp_lt 29 dX15_canvasSize_20 (by decide) (fun c15 => ?_) (fun c15 => ?_)
        · rw [if_pos c15] at h
          refine EV.iconst (0) dX15_canvasSize_29 (by decide) ?_
          cases h
          exact EV.reti dX15_canvasSize_30 rfl
        · rw [if_neg c15] at h
          refine EV.iload_n 3 dX15_canvasSize_23 rfl rfl ?_
          refine EV.bipush (32) dX15_canvasSize_24 (by decide) ?_
          refine EV.icmp_le 31 dX15_canvasSize_26 (by decide) (fun c16 => ?_) (fun c16 => ?_)
          · rw [if_pos c16] at h
            refine EV.aload_n 0 dX15_canvasSize_31 rfl rfl ?_
            obtain ⟨v17, gv17, h⟩ := px_bs h
            refine ev_gR dX15_canvasSize_32 flRX15_98 gv17 ?_
            refine EV.iload_n 1 dX15_canvasSize_35 rfl rfl ?_
            refine EV.iload_n 2 dX15_canvasSize_36 rfl rfl ?_
            obtain ⟨w18, gw18, h⟩ := px_bs h
            refine ev_sI dX15_canvasSize_37 gw18 ?_
            refine EV.aload_n 0 dX15_canvasSize_38 rfl rfl ?_
            obtain ⟨v19, gv19, h⟩ := px_bs h
            refine ev_gR dX15_canvasSize_39 flRX15_101 gv19 ?_
            refine EV.iload_n 1 dX15_canvasSize_42 rfl rfl ?_
            refine EV.iload_n 3 dX15_canvasSize_43 rfl rfl ?_
            obtain ⟨w20, gw20, h⟩ := px_bs h
            refine ev_sI dX15_canvasSize_44 gw20 ?_
            refine EV.iconst (0) dX15_canvasSize_45 (by decide) ?_
            refine EV.istore [(4, .int 0), (0, .ref a0), (1, .int a1), (2, .int a2), (3, .int a3)] dX15_canvasSize_46 (by decide) rfl ?_
            refine EV.sub [1, 2, 0] rfl ?_
            exact eX15_canvasSize_48  FU _ _ _ _ _ h
          · rw [if_neg c16] at h
            refine EV.iconst (0) dX15_canvasSize_29 (by decide) ?_
            cases h
            exact EV.reti dX15_canvasSize_30 rfl
/-! WavePicturesModel.isSample(IJJ)Z -/
theorem dX15_isSample_0 : decode cX15_isSample 0 = .ok (.iload_n 1, 1) := by decide +kernel
theorem dX15_isSample_1 : decode cX15_isSample 1 = .ok (.invokestatic 395, 3) := by decide +kernel
theorem dX15_isSample_4 : decode cX15_isSample 4 = .ok (.ifCond .eq 45, 3) := by decide +kernel
theorem dX15_isSample_7 : decode cX15_isSample 7 = .ok (.lload_n 2, 1) := by decide +kernel
theorem dX15_isSample_8 : decode cX15_isSample 8 = .ok (.lconst 0, 1) := by decide +kernel
theorem dX15_isSample_9 : decode cX15_isSample 9 = .ok (.lcmp, 1) := by decide +kernel
theorem dX15_isSample_10 : decode cX15_isSample 10 = .ok (.ifCond .lt 39, 3) := by decide +kernel
theorem dX15_isSample_13 : decode cX15_isSample 13 = .ok (.lload_n 2, 1) := by decide +kernel
theorem dX15_isSample_14 : decode cX15_isSample 14 = .ok (.aload_n 0, 1) := by decide +kernel
theorem dX15_isSample_15 : decode cX15_isSample 15 = .ok (.getfield 98, 3) := by decide +kernel
theorem dX15_isSample_18 : decode cX15_isSample 18 = .ok (.iload_n 1, 1) := by decide +kernel
theorem dX15_isSample_19 : decode cX15_isSample 19 = .ok (.iaload, 1) := by decide +kernel
theorem dX15_isSample_20 : decode cX15_isSample 20 = .ok (.i2l, 1) := by decide +kernel
theorem dX15_isSample_21 : decode cX15_isSample 21 = .ok (.lcmp, 1) := by decide +kernel
theorem dX15_isSample_22 : decode cX15_isSample 22 = .ok (.ifCond .ge 27, 3) := by decide +kernel
theorem dX15_isSample_25 : decode cX15_isSample 25 = .ok (.lload 4, 2) := by decide +kernel
theorem dX15_isSample_27 : decode cX15_isSample 27 = .ok (.lconst 0, 1) := by decide +kernel
theorem dX15_isSample_28 : decode cX15_isSample 28 = .ok (.lcmp, 1) := by decide +kernel
theorem dX15_isSample_29 : decode cX15_isSample 29 = .ok (.ifCond .lt 20, 3) := by decide +kernel
theorem dX15_isSample_32 : decode cX15_isSample 32 = .ok (.lload 4, 2) := by decide +kernel
theorem dX15_isSample_34 : decode cX15_isSample 34 = .ok (.aload_n 0, 1) := by decide +kernel
theorem dX15_isSample_35 : decode cX15_isSample 35 = .ok (.getfield 101, 3) := by decide +kernel
theorem dX15_isSample_38 : decode cX15_isSample 38 = .ok (.iload_n 1, 1) := by decide +kernel
theorem dX15_isSample_39 : decode cX15_isSample 39 = .ok (.iaload, 1) := by decide +kernel
theorem dX15_isSample_40 : decode cX15_isSample 40 = .ok (.i2l, 1) := by decide +kernel
theorem dX15_isSample_41 : decode cX15_isSample 41 = .ok (.lcmp, 1) := by decide +kernel
theorem dX15_isSample_42 : decode cX15_isSample 42 = .ok (.ifCond .ge 7, 3) := by decide +kernel
theorem dX15_isSample_45 : decode cX15_isSample 45 = .ok (.iconst 1, 1) := by decide +kernel
theorem dX15_isSample_46 : decode cX15_isSample 46 = .ok (.goto 4, 3) := by decide +kernel
theorem dX15_isSample_49 : decode cX15_isSample 49 = .ok (.iconst 0, 1) := by decide +kernel
theorem dX15_isSample_50 : decode cX15_isSample 50 = .ok (.ireturn, 1) := by decide +kernel
theorem kcX15_isSample_395 : px_cS mX15_isSample 395 mX15_isPlane 1 := ⟨⟨mbX15_isPlane, by decide, by decide⟩, Or.inl (tb10 (List.mem_of_getElem? (i := 114) rfl)), tb10 (List.mem_of_getElem? (i := 115) rfl)⟩
set_option maxRecDepth 100000 in
set_option maxHeartbeats 4000000 in
theorem eX15_isSample {X : px_X} {w : px_W} {a0 : Nat} {a1 : Int32} {a2 : Int64} {a4 : Int64} {q : Int32 × px_W} (h : fX15_isSample X w a0 a1 a2 a4 = some q) : EV X mX15_isSample 0 (lv_args 0 [.ref a0, .int a1, .long a2, .long a4]) [] w (some (.int q.1)) q.2 := by
  unfold fX15_isSample at h
  show EV X mX15_isSample 0 [(0, .ref a0), (1, .int a1), (2, .long a2), (4, .long a4)] [] w (some (.int q.1)) q.2
  refine EV.iload_n 1 dX15_isSample_0 rfl rfl ?_
  obtain ⟨q6, gq6, h⟩ := px_bs h
  refine EV.callS (As := [.int a1]) (rest := []) dX15_isSample_1 kcX15_isSample_395 rfl (Nat.le_of_ble_eq_true rfl) (Nat.le_of_ble_eq_true rfl) (eX15_isPlane gq6) ?_
  refine EV.if_eq 49 dX15_isSample_4 (by decide) (fun c7 => ?_) (fun c7 => ?_)
  · rw [if_pos c7] at h
    refine EV.iconst (0) dX15_isSample_49 (by decide) ?_
    cases h
    exact EV.reti dX15_isSample_50 rfl
  · rw [if_neg c7] at h
    refine EV.lload_n 2 dX15_isSample_7 rfl rfl ?_
    refine EV.lconst (0) dX15_isSample_8 (by decide) ?_
    refine EV.lcmp dX15_isSample_9 ?_
    refine EV.if_lt 49 dX15_isSample_10 (by decide) (fun c8 => ?_) (fun c8 => ?_)
    · rw [if_pos c8] at h
      refine EV.iconst (0) dX15_isSample_49 (by decide) ?_
      cases h
      exact EV.reti dX15_isSample_50 rfl
    · rw [if_neg c8] at h
      refine EV.lload_n 2 dX15_isSample_13 rfl rfl ?_
      refine EV.aload_n 0 dX15_isSample_14 rfl rfl ?_
      obtain ⟨v9, gv9, h⟩ := px_bs h
      refine ev_gR dX15_isSample_15 flRX15_98 gv9 ?_
      refine EV.iload_n 1 dX15_isSample_18 rfl rfl ?_
      obtain ⟨v10, gv10, h⟩ := px_bs h
      refine ev_aI dX15_isSample_19 gv10 ?_
      refine EV.i2l dX15_isSample_20 ?_
      refine EV.lcmp dX15_isSample_21 ?_
      refine EV.if_ge 49 dX15_isSample_22 (by decide) (fun c11 => ?_) (fun c11 => ?_)
      · rw [if_pos c11] at h
        refine EV.iconst (0) dX15_isSample_49 (by decide) ?_
        cases h
        exact EV.reti dX15_isSample_50 rfl
      · rw [if_neg c11] at h
        refine EV.lload 3 dX15_isSample_25 rfl ?_
        refine EV.lconst (0) dX15_isSample_27 (by decide) ?_
        refine EV.lcmp dX15_isSample_28 ?_
        refine EV.if_lt 49 dX15_isSample_29 (by decide) (fun c12 => ?_) (fun c12 => ?_)
        · rw [if_pos c12] at h
          refine EV.iconst (0) dX15_isSample_49 (by decide) ?_
          cases h
          exact EV.reti dX15_isSample_50 rfl
        · rw [if_neg c12] at h
          refine EV.lload 3 dX15_isSample_32 rfl ?_
          refine EV.aload_n 0 dX15_isSample_34 rfl rfl ?_
          obtain ⟨v13, gv13, h⟩ := px_bs h
          refine ev_gR dX15_isSample_35 flRX15_101 gv13 ?_
          refine EV.iload_n 1 dX15_isSample_38 rfl rfl ?_
          obtain ⟨v14, gv14, h⟩ := px_bs h
          refine ev_aI dX15_isSample_39 gv14 ?_
          refine EV.i2l dX15_isSample_40 ?_
          refine EV.lcmp dX15_isSample_41 ?_
          refine EV.if_ge 49 dX15_isSample_42 (by decide) (fun c15 => ?_) (fun c15 => ?_)
          · rw [if_pos c15] at h
            refine EV.iconst (0) dX15_isSample_49 (by decide) ?_
            cases h
            exact EV.reti dX15_isSample_50 rfl
          · rw [if_neg c15] at h
            refine EV.iconst (1) dX15_isSample_45 (by decide) ?_
            refine EV.goto 50 dX15_isSample_46 (by decide) ?_
            cases h
            exact EV.reti dX15_isSample_50 rfl
/-! WavePicturesModel.canvasRow(IIIJ)Z -/
theorem dX15_canvasRow_0 : decode cX15_canvasRow 0 = .ok (.aload_n 0, 1) := by decide +kernel
theorem dX15_canvasRow_1 : decode cX15_canvasRow 1 = .ok (.iload_n 1, 1) := by decide +kernel
theorem dX15_canvasRow_2 : decode cX15_canvasRow 2 = .ok (.iload_n 2, 1) := by decide +kernel
theorem dX15_canvasRow_3 : decode cX15_canvasRow 3 = .ok (.i2l, 1) := by decide +kernel
theorem dX15_canvasRow_4 : decode cX15_canvasRow 4 = .ok (.iload_n 3, 1) := by decide +kernel
theorem dX15_canvasRow_5 : decode cX15_canvasRow 5 = .ok (.i2l, 1) := by decide +kernel
theorem dX15_canvasRow_6 : decode cX15_canvasRow 6 = .ok (.invokevirtual 398, 3) := by decide +kernel
theorem dX15_canvasRow_9 : decode cX15_canvasRow 9 = .ok (.ifCond .ne 5, 3) := by decide +kernel
theorem dX15_canvasRow_12 : decode cX15_canvasRow 12 = .ok (.iconst 0, 1) := by decide +kernel
theorem dX15_canvasRow_13 : decode cX15_canvasRow 13 = .ok (.ireturn, 1) := by decide +kernel
theorem dX15_canvasRow_14 : decode cX15_canvasRow 14 = .ok (.iconst 0, 1) := by decide +kernel
theorem dX15_canvasRow_15 : decode cX15_canvasRow 15 = .ok (.istore 6, 2) := by decide +kernel
theorem dX15_canvasRow_17 : decode cX15_canvasRow 17 = .ok (.iload 6, 2) := by decide +kernel
theorem dX15_canvasRow_19 : decode cX15_canvasRow 19 = .ok (.bipush 8, 2) := by decide +kernel
theorem dX15_canvasRow_21 : decode cX15_canvasRow 21 = .ok (.if_icmp .ge 62, 3) := by decide +kernel
theorem dX15_canvasRow_24 : decode cX15_canvasRow 24 = .ok (.iload_n 2, 1) := by decide +kernel
theorem dX15_canvasRow_25 : decode cX15_canvasRow 25 = .ok (.iload 6, 2) := by decide +kernel
theorem dX15_canvasRow_27 : decode cX15_canvasRow 27 = .ok (.iadd, 1) := by decide +kernel
theorem dX15_canvasRow_28 : decode cX15_canvasRow 28 = .ok (.aload_n 0, 1) := by decide +kernel
theorem dX15_canvasRow_29 : decode cX15_canvasRow 29 = .ok (.getfield 98, 3) := by decide +kernel
theorem dX15_canvasRow_32 : decode cX15_canvasRow 32 = .ok (.iload_n 1, 1) := by decide +kernel
theorem dX15_canvasRow_33 : decode cX15_canvasRow 33 = .ok (.iaload, 1) := by decide +kernel
theorem dX15_canvasRow_34 : decode cX15_canvasRow 34 = .ok (.if_icmp .ge 49, 3) := by decide +kernel
theorem dX15_canvasRow_37 : decode cX15_canvasRow 37 = .ok (.aload_n 0, 1) := by decide +kernel
theorem dX15_canvasRow_38 : decode cX15_canvasRow 38 = .ok (.getfield 95, 3) := by decide +kernel
theorem dX15_canvasRow_41 : decode cX15_canvasRow 41 = .ok (.sipush 1024, 3) := by decide +kernel
theorem dX15_canvasRow_44 : decode cX15_canvasRow 44 = .ok (.iload_n 1, 1) := by decide +kernel
theorem dX15_canvasRow_45 : decode cX15_canvasRow 45 = .ok (.imul, 1) := by decide +kernel
theorem dX15_canvasRow_46 : decode cX15_canvasRow 46 = .ok (.aload_n 0, 1) := by decide +kernel
theorem dX15_canvasRow_47 : decode cX15_canvasRow 47 = .ok (.getfield 98, 3) := by decide +kernel
theorem dX15_canvasRow_50 : decode cX15_canvasRow 50 = .ok (.iload_n 1, 1) := by decide +kernel
theorem dX15_canvasRow_51 : decode cX15_canvasRow 51 = .ok (.iaload, 1) := by decide +kernel
theorem dX15_canvasRow_52 : decode cX15_canvasRow 52 = .ok (.iload_n 3, 1) := by decide +kernel
theorem dX15_canvasRow_53 : decode cX15_canvasRow 53 = .ok (.imul, 1) := by decide +kernel
theorem dX15_canvasRow_54 : decode cX15_canvasRow 54 = .ok (.iadd, 1) := by decide +kernel
theorem dX15_canvasRow_55 : decode cX15_canvasRow 55 = .ok (.iload_n 2, 1) := by decide +kernel
theorem dX15_canvasRow_56 : decode cX15_canvasRow 56 = .ok (.iadd, 1) := by decide +kernel
theorem dX15_canvasRow_57 : decode cX15_canvasRow 57 = .ok (.iload 6, 2) := by decide +kernel
theorem dX15_canvasRow_59 : decode cX15_canvasRow 59 = .ok (.iadd, 1) := by decide +kernel
theorem dX15_canvasRow_60 : decode cX15_canvasRow 60 = .ok (.lload 4, 2) := by decide +kernel
theorem dX15_canvasRow_62 : decode cX15_canvasRow 62 = .ok (.bipush 56, 2) := by decide +kernel
theorem dX15_canvasRow_64 : decode cX15_canvasRow 64 = .ok (.bipush 8, 2) := by decide +kernel
theorem dX15_canvasRow_66 : decode cX15_canvasRow 66 = .ok (.iload 6, 2) := by decide +kernel
theorem dX15_canvasRow_68 : decode cX15_canvasRow 68 = .ok (.imul, 1) := by decide +kernel
theorem dX15_canvasRow_69 : decode cX15_canvasRow 69 = .ok (.isub, 1) := by decide +kernel
theorem dX15_canvasRow_70 : decode cX15_canvasRow 70 = .ok (.lshr, 1) := by decide +kernel
theorem dX15_canvasRow_71 : decode cX15_canvasRow 71 = .ok (.ldc2_w 323, 3) := by decide +kernel
theorem dX15_canvasRow_74 : decode cX15_canvasRow 74 = .ok (.land, 1) := by decide +kernel
theorem dX15_canvasRow_75 : decode cX15_canvasRow 75 = .ok (.l2i, 1) := by decide +kernel
theorem dX15_canvasRow_76 : decode cX15_canvasRow 76 = .ok (.iastore, 1) := by decide +kernel
theorem dX15_canvasRow_77 : decode cX15_canvasRow 77 = .ok (.iinc 6 1, 3) := by decide +kernel
theorem dX15_canvasRow_80 : decode cX15_canvasRow 80 = .ok (.goto (-63), 3) := by decide +kernel
theorem dX15_canvasRow_83 : decode cX15_canvasRow 83 = .ok (.iconst 1, 1) := by decide +kernel
theorem dX15_canvasRow_84 : decode cX15_canvasRow 84 = .ok (.ireturn, 1) := by decide +kernel
theorem mbX15_isSample : px_mB mX15_isSample 3 := ⟨tb10 (List.mem_of_getElem? (i := 124) rfl), by decide +kernel, tb1 (List.mem_of_getElem? (i := 13) rfl), by decide +kernel, by decide +kernel⟩
theorem vbX15_isSample : px_vB mX15_isSample := ⟨tb10 (List.mem_of_getElem? (i := 123) rfl), List.mem_append_left _ (List.mem_of_getElem? (i := 174) (by decide +kernel))⟩
theorem kcX15_canvasRow_398 : px_cV mX15_canvasRow 398 mX15_isSample 3 := ⟨⟨mbX15_isSample, by decide, by decide⟩, Or.inl (tb10 (List.mem_of_getElem? (i := 121) rfl)), vbX15_isSample⟩
set_option maxRecDepth 100000 in
set_option maxHeartbeats 4000000 in
theorem eX15_canvasRow_17 {X : px_X}  : ∀ (m : Nat) (a0 : Nat) (a1 : Int32) (a2 : Int32) (a3 : Int32) (a4 : Int64) (a6 : Int32) (w : px_W) (q : Int32 × px_W), fX15_canvasRow_17 X  m a0 a1 a2 a3 a4 a6 w = some q → EV X mX15_canvasRow 17 [(0, .ref a0), (1, .int a1), (2, .int a2), (3, .int a3), (4, .long a4), (6, .int a6)] [] w (some (.int q.1)) q.2 := by
  intro m
  induction m with
  | zero => intro a0 a1 a2 a3 a4 a6 w q h; cases h
  | succ m ih =>
    intro a0 a1 a2 a3 a4 a6 w q h
    rw [fX15_canvasRow_17.eq_2] at h
    refine EV.iload 5 dX15_canvasRow_17 rfl ?_
    refine EV.bipush (8) dX15_canvasRow_19 (by decide) ?_
    refine EV.icmp_ge 83 dX15_canvasRow_21 (by decide) (fun c9 => ?_) (fun c9 => ?_)
    · rw [if_pos c9] at h
      refine EV.iconst (1) dX15_canvasRow_83 (by decide) ?_
      cases h
      exact EV.reti dX15_canvasRow_84 rfl
    · rw [if_neg c9] at h
      refine EV.iload_n 2 dX15_canvasRow_24 rfl rfl ?_
      refine EV.iload 5 dX15_canvasRow_25 rfl ?_
      refine EV.iadd dX15_canvasRow_27 ?_
      refine EV.aload_n 0 dX15_canvasRow_28 rfl rfl ?_
      obtain ⟨v10, gv10, h⟩ := px_bs h
      refine ev_gR dX15_canvasRow_29 flRX15_98 gv10 ?_
      refine EV.iload_n 1 dX15_canvasRow_32 rfl rfl ?_
      obtain ⟨v11, gv11, h⟩ := px_bs h
      refine ev_aI dX15_canvasRow_33 gv11 ?_
      refine EV.icmp_ge 83 dX15_canvasRow_34 (by decide) (fun c12 => ?_) (fun c12 => ?_)
      · rw [if_pos c12] at h
        refine EV.iconst (1) dX15_canvasRow_83 (by decide) ?_
        cases h
        exact EV.reti dX15_canvasRow_84 rfl
      · rw [if_neg c12] at h
        refine EV.aload_n 0 dX15_canvasRow_37 rfl rfl ?_
        obtain ⟨v13, gv13, h⟩ := px_bs h
        refine ev_gR dX15_canvasRow_38 flRX15_95 gv13 ?_
        refine EV.sipush (1024) dX15_canvasRow_41 (by decide) ?_
        refine EV.iload_n 1 dX15_canvasRow_44 rfl rfl ?_
        refine EV.imul dX15_canvasRow_45 ?_
        refine EV.aload_n 0 dX15_canvasRow_46 rfl rfl ?_
        obtain ⟨v14, gv14, h⟩ := px_bs h
        refine ev_gR dX15_canvasRow_47 flRX15_98 gv14 ?_
        refine EV.iload_n 1 dX15_canvasRow_50 rfl rfl ?_
        obtain ⟨v15, gv15, h⟩ := px_bs h
        refine ev_aI dX15_canvasRow_51 gv15 ?_
        refine EV.iload_n 3 dX15_canvasRow_52 rfl rfl ?_
        refine EV.imul dX15_canvasRow_53 ?_
        refine EV.iadd dX15_canvasRow_54 ?_
        refine EV.iload_n 2 dX15_canvasRow_55 rfl rfl ?_
        refine EV.iadd dX15_canvasRow_56 ?_
        refine EV.iload 5 dX15_canvasRow_57 rfl ?_
        refine EV.iadd dX15_canvasRow_59 ?_
        refine EV.lload 4 dX15_canvasRow_60 rfl ?_
        refine EV.bipush (56) dX15_canvasRow_62 (by decide) ?_
        refine EV.bipush (8) dX15_canvasRow_64 (by decide) ?_
        refine EV.iload 5 dX15_canvasRow_66 rfl ?_
        refine EV.imul dX15_canvasRow_68 ?_
        refine EV.isub dX15_canvasRow_69 ?_
        refine EV.lshr dX15_canvasRow_70 ?_
        refine EV.ldc2 (v := 255) dX15_canvasRow_71 (tb10 (List.mem_of_getElem? (i := 66) rfl)) ?_
        refine EV.land dX15_canvasRow_74 ?_
        refine EV.l2i dX15_canvasRow_75 ?_
        obtain ⟨w16, gw16, h⟩ := px_bs h
        refine ev_sI dX15_canvasRow_76 gw16 ?_
        refine EV.iinc 5 (a6 + 1) [(6, .int (a6 + 1)), (0, .ref a0), (1, .int a1), (2, .int a2), (3, .int a3), (4, .long a4)] dX15_canvasRow_77 rfl rfl (by decide) rfl ?_
        refine EV.goto 17 dX15_canvasRow_80 (by decide) ?_
        refine EV.sub [1, 2, 3, 4, 5, 0] rfl ?_
        exact ih _ _ _ _ _ _ _ _ h
set_option maxRecDepth 100000 in
set_option maxHeartbeats 4000000 in
theorem eX15_canvasRow {X : px_X} {w : px_W} {a0 : Nat} {a1 : Int32} {a2 : Int32} {a3 : Int32} {a4 : Int64} {q : Int32 × px_W} (h : fX15_canvasRow X w a0 a1 a2 a3 a4 = some q) : EV X mX15_canvasRow 0 (lv_args 0 [.ref a0, .int a1, .int a2, .int a3, .long a4]) [] w (some (.int q.1)) q.2 := by
  unfold fX15_canvasRow at h
  show EV X mX15_canvasRow 0 [(0, .ref a0), (1, .int a1), (2, .int a2), (3, .int a3), (4, .long a4)] [] w (some (.int q.1)) q.2
  refine EV.aload_n 0 dX15_canvasRow_0 rfl rfl ?_
  refine EV.iload_n 1 dX15_canvasRow_1 rfl rfl ?_
  refine EV.iload_n 2 dX15_canvasRow_2 rfl rfl ?_
  refine EV.i2l dX15_canvasRow_3 ?_
  refine EV.iload_n 3 dX15_canvasRow_4 rfl rfl ?_
  refine EV.i2l dX15_canvasRow_5 ?_
  obtain ⟨o17, go17, h⟩ := px_bs h
  obtain ⟨q18, gq18, h⟩ := px_bs h
  refine EV.callV (As := [.int a1, .long a2.toInt64, .long a3.toInt64]) (rest := []) dX15_canvasRow_6 kcX15_canvasRow_398 (gO_ok go17) rfl rfl rfl (Nat.le_of_ble_eq_true rfl) (Nat.le_of_ble_eq_true rfl) (eX15_isSample gq18) ?_
  refine EV.if_ne 14 dX15_canvasRow_9 (by decide) (fun c19 => ?_) (fun c19 => ?_)
  · rw [if_neg c19] at h
    refine EV.iconst (0) dX15_canvasRow_14 (by decide) ?_
    refine EV.istore [(6, .int 0), (0, .ref a0), (1, .int a1), (2, .int a2), (3, .int a3), (4, .long a4)] dX15_canvasRow_15 (by decide) rfl ?_
    refine EV.sub [1, 2, 3, 4, 5, 0] rfl ?_
    exact eX15_canvasRow_17  FU _ _ _ _ _ _ _ _ h
  · rw [if_pos c19] at h
    refine EV.iconst (0) dX15_canvasRow_12 (by decide) ?_
    cases h
    exact EV.reti dX15_canvasRow_13 rfl
/-! WavePicturesModel.canvasEight(III)J -/
theorem dX15_canvasEight_0 : decode cX15_canvasEight 0 = .ok (.lconst 0, 1) := by decide +kernel
theorem dX15_canvasEight_1 : decode cX15_canvasEight 1 = .ok (.lstore 4, 2) := by decide +kernel
theorem dX15_canvasEight_3 : decode cX15_canvasEight 3 = .ok (.iconst 0, 1) := by decide +kernel
theorem dX15_canvasEight_4 : decode cX15_canvasEight 4 = .ok (.istore 6, 2) := by decide +kernel
theorem dX15_canvasEight_6 : decode cX15_canvasEight 6 = .ok (.iload 6, 2) := by decide +kernel
theorem dX15_canvasEight_8 : decode cX15_canvasEight 8 = .ok (.bipush 8, 2) := by decide +kernel
theorem dX15_canvasEight_10 : decode cX15_canvasEight 10 = .ok (.if_icmp .ge 62, 3) := by decide +kernel
theorem dX15_canvasEight_13 : decode cX15_canvasEight 13 = .ok (.lload 4, 2) := by decide +kernel
theorem dX15_canvasEight_15 : decode cX15_canvasEight 15 = .ok (.bipush 8, 2) := by decide +kernel
theorem dX15_canvasEight_17 : decode cX15_canvasEight 17 = .ok (.lshl, 1) := by decide +kernel
theorem dX15_canvasEight_18 : decode cX15_canvasEight 18 = .ok (.aload_n 0, 1) := by decide +kernel
theorem dX15_canvasEight_19 : decode cX15_canvasEight 19 = .ok (.iload_n 1, 1) := by decide +kernel
theorem dX15_canvasEight_20 : decode cX15_canvasEight 20 = .ok (.iload_n 2, 1) := by decide +kernel
theorem dX15_canvasEight_21 : decode cX15_canvasEight 21 = .ok (.i2l, 1) := by decide +kernel
theorem dX15_canvasEight_22 : decode cX15_canvasEight 22 = .ok (.iload 6, 2) := by decide +kernel
theorem dX15_canvasEight_24 : decode cX15_canvasEight 24 = .ok (.i2l, 1) := by decide +kernel
theorem dX15_canvasEight_25 : decode cX15_canvasEight 25 = .ok (.ladd, 1) := by decide +kernel
theorem dX15_canvasEight_26 : decode cX15_canvasEight 26 = .ok (.iload_n 3, 1) := by decide +kernel
theorem dX15_canvasEight_27 : decode cX15_canvasEight 27 = .ok (.i2l, 1) := by decide +kernel
theorem dX15_canvasEight_28 : decode cX15_canvasEight 28 = .ok (.invokevirtual 398, 3) := by decide +kernel
theorem dX15_canvasEight_31 : decode cX15_canvasEight 31 = .ok (.ifCond .eq 30, 3) := by decide +kernel
theorem dX15_canvasEight_34 : decode cX15_canvasEight 34 = .ok (.aload_n 0, 1) := by decide +kernel
theorem dX15_canvasEight_35 : decode cX15_canvasEight 35 = .ok (.getfield 95, 3) := by decide +kernel
theorem dX15_canvasEight_38 : decode cX15_canvasEight 38 = .ok (.sipush 1024, 3) := by decide +kernel
theorem dX15_canvasEight_41 : decode cX15_canvasEight 41 = .ok (.iload_n 1, 1) := by decide +kernel
theorem dX15_canvasEight_42 : decode cX15_canvasEight 42 = .ok (.imul, 1) := by decide +kernel
theorem dX15_canvasEight_43 : decode cX15_canvasEight 43 = .ok (.aload_n 0, 1) := by decide +kernel
theorem dX15_canvasEight_44 : decode cX15_canvasEight 44 = .ok (.getfield 98, 3) := by decide +kernel
theorem dX15_canvasEight_47 : decode cX15_canvasEight 47 = .ok (.iload_n 1, 1) := by decide +kernel
theorem dX15_canvasEight_48 : decode cX15_canvasEight 48 = .ok (.iaload, 1) := by decide +kernel
theorem dX15_canvasEight_49 : decode cX15_canvasEight 49 = .ok (.iload_n 3, 1) := by decide +kernel
theorem dX15_canvasEight_50 : decode cX15_canvasEight 50 = .ok (.imul, 1) := by decide +kernel
theorem dX15_canvasEight_51 : decode cX15_canvasEight 51 = .ok (.iadd, 1) := by decide +kernel
theorem dX15_canvasEight_52 : decode cX15_canvasEight 52 = .ok (.iload_n 2, 1) := by decide +kernel
theorem dX15_canvasEight_53 : decode cX15_canvasEight 53 = .ok (.iadd, 1) := by decide +kernel
theorem dX15_canvasEight_54 : decode cX15_canvasEight 54 = .ok (.iload 6, 2) := by decide +kernel
theorem dX15_canvasEight_56 : decode cX15_canvasEight 56 = .ok (.iadd, 1) := by decide +kernel
theorem dX15_canvasEight_57 : decode cX15_canvasEight 57 = .ok (.iaload, 1) := by decide +kernel
theorem dX15_canvasEight_58 : decode cX15_canvasEight 58 = .ok (.goto 4, 3) := by decide +kernel
theorem dX15_canvasEight_61 : decode cX15_canvasEight 61 = .ok (.iconst 0, 1) := by decide +kernel
theorem dX15_canvasEight_62 : decode cX15_canvasEight 62 = .ok (.i2l, 1) := by decide +kernel
theorem dX15_canvasEight_63 : decode cX15_canvasEight 63 = .ok (.lor, 1) := by decide +kernel
theorem dX15_canvasEight_64 : decode cX15_canvasEight 64 = .ok (.lstore 4, 2) := by decide +kernel
theorem dX15_canvasEight_66 : decode cX15_canvasEight 66 = .ok (.iinc 6 1, 3) := by decide +kernel
theorem dX15_canvasEight_69 : decode cX15_canvasEight 69 = .ok (.goto (-63), 3) := by decide +kernel
theorem dX15_canvasEight_72 : decode cX15_canvasEight 72 = .ok (.lload 4, 2) := by decide +kernel
theorem dX15_canvasEight_74 : decode cX15_canvasEight 74 = .ok (.lreturn, 1) := by decide +kernel
theorem kcX15_canvasEight_398 : px_cV mX15_canvasEight 398 mX15_isSample 3 := ⟨⟨mbX15_isSample, by decide, by decide⟩, Or.inl (tb10 (List.mem_of_getElem? (i := 121) rfl)), vbX15_isSample⟩
set_option maxRecDepth 100000 in
set_option maxHeartbeats 4000000 in
theorem eX15_canvasEight_62 {X : px_X} {k6 : Nat → Int32 → Int32 → Int32 → Int64 → Int32 → px_W → Option (Int64 × px_W)} (hk6 : ∀ (a0 : Nat) (a1 : Int32) (a2 : Int32) (a3 : Int32) (a4 : Int64) (a6 : Int32) (w : px_W) (q : Int64 × px_W), k6 a0 a1 a2 a3 a4 a6 w = some q → EV X mX15_canvasEight 6 [(0, .ref a0), (1, .int a1), (2, .int a2), (3, .int a3), (4, .long a4), (6, .int a6)] [] w (some (.long q.1)) q.2) : ∀ (a0 : Nat) (a1 : Int32) (a2 : Int32) (a3 : Int32) (a6 : Int32) (s0 : Int32) (s1 : Int64) (w : px_W) (q : Int64 × px_W), fX15_canvasEight_62 X k6 a0 a1 a2 a3 a6 s0 s1 w = some q → EV X mX15_canvasEight 62 [(0, .ref a0), (1, .int a1), (2, .int a2), (3, .int a3), (6, .int a6)] [.int s0, .long s1] w (some (.long q.1)) q.2 := by
  intro a0 a1 a2 a3 a6 s0 s1 w q h
  unfold fX15_canvasEight_62 at h
  refine EV.i2l dX15_canvasEight_62 ?_
  refine EV.lor dX15_canvasEight_63 ?_
  refine EV.lstore [(4, .long (s1 ||| s0.toInt64)), (0, .ref a0), (1, .int a1), (2, .int a2), (3, .int a3), (6, .int a6)] dX15_canvasEight_64 (by decide) rfl ?_
  refine EV.iinc 5 (a6 + 1) [(6, .int (a6 + 1)), (4, .long (s1 ||| s0.toInt64)), (0, .ref a0), (1, .int a1), (2, .int a2), (3, .int a3)] dX15_canvasEight_66 rfl rfl (by decide) rfl ?_
  refine EV.goto 6 dX15_canvasEight_69 (by decide) ?_
  refine EV.sub [2, 3, 4, 5, 1, 0] rfl ?_
  exact hk6 _ _ _ _ _ _ _ _ h
set_option maxRecDepth 100000 in
set_option maxHeartbeats 4000000 in
theorem eX15_canvasEight_6 {X : px_X}  : ∀ (m : Nat) (a0 : Nat) (a1 : Int32) (a2 : Int32) (a3 : Int32) (a4 : Int64) (a6 : Int32) (w : px_W) (q : Int64 × px_W), fX15_canvasEight_6 X  m a0 a1 a2 a3 a4 a6 w = some q → EV X mX15_canvasEight 6 [(0, .ref a0), (1, .int a1), (2, .int a2), (3, .int a3), (4, .long a4), (6, .int a6)] [] w (some (.long q.1)) q.2 := by
  intro m
  induction m with
  | zero => intro a0 a1 a2 a3 a4 a6 w q h; cases h
  | succ m ih =>
    intro a0 a1 a2 a3 a4 a6 w q h
    rw [fX15_canvasEight_6.eq_2] at h
    refine EV.iload 5 dX15_canvasEight_6 rfl ?_
    refine EV.bipush (8) dX15_canvasEight_8 (by decide) ?_
    refine EV.icmp_ge 72 dX15_canvasEight_10 (by decide) (fun c7 => ?_) (fun c7 => ?_)
    · rw [if_pos c7] at h
      refine EV.lload 4 dX15_canvasEight_72 rfl ?_
      cases h
      exact EV.retl dX15_canvasEight_74 trivial
    · rw [if_neg c7] at h
      refine EV.lload 4 dX15_canvasEight_13 rfl ?_
      refine EV.bipush (8) dX15_canvasEight_15 (by decide) ?_
      refine EV.lshl dX15_canvasEight_17 ?_
      refine EV.aload_n 0 dX15_canvasEight_18 rfl rfl ?_
      refine EV.iload_n 1 dX15_canvasEight_19 rfl rfl ?_
      refine EV.iload_n 2 dX15_canvasEight_20 rfl rfl ?_
      refine EV.i2l dX15_canvasEight_21 ?_
      refine EV.iload 5 dX15_canvasEight_22 rfl ?_
      refine EV.i2l dX15_canvasEight_24 ?_
      refine EV.ladd dX15_canvasEight_25 ?_
      refine EV.iload_n 3 dX15_canvasEight_26 rfl rfl ?_
      refine EV.i2l dX15_canvasEight_27 ?_
      obtain ⟨o8, go8, h⟩ := px_bs h
      obtain ⟨q9, gq9, h⟩ := px_bs h
      refine EV.callV (As := [.int a1, .long (a2.toInt64 + a6.toInt64), .long a3.toInt64]) (rest := [.long (a4 <<< ((8 : Int32).toInt64 &&& 63))]) dX15_canvasEight_28 kcX15_canvasEight_398 (gO_ok go8) rfl rfl rfl (Nat.le_of_ble_eq_true rfl) (Nat.le_of_ble_eq_true rfl) (eX15_isSample gq9) ?_
      refine EV.if_eq 61 dX15_canvasEight_31 (by decide) (fun c10 => ?_) (fun c10 => ?_)
      · rw [if_pos c10] at h
        refine EV.iconst (0) dX15_canvasEight_61 (by decide) ?_
        refine EV.sub [0, 1, 2, 3, 5] rfl ?_
        exact eX15_canvasEight_62 ih _ _ _ _ _ _ _ _ _ h
      · rw [if_neg c10] at h
        refine EV.aload_n 0 dX15_canvasEight_34 rfl rfl ?_
        obtain ⟨v11, gv11, h⟩ := px_bs h
        refine ev_gR dX15_canvasEight_35 flRX15_95 gv11 ?_
        refine EV.sipush (1024) dX15_canvasEight_38 (by decide) ?_
        refine EV.iload_n 1 dX15_canvasEight_41 rfl rfl ?_
        refine EV.imul dX15_canvasEight_42 ?_
        refine EV.aload_n 0 dX15_canvasEight_43 rfl rfl ?_
        obtain ⟨v12, gv12, h⟩ := px_bs h
        refine ev_gR dX15_canvasEight_44 flRX15_98 gv12 ?_
        refine EV.iload_n 1 dX15_canvasEight_47 rfl rfl ?_
        obtain ⟨v13, gv13, h⟩ := px_bs h
        refine ev_aI dX15_canvasEight_48 gv13 ?_
        refine EV.iload_n 3 dX15_canvasEight_49 rfl rfl ?_
        refine EV.imul dX15_canvasEight_50 ?_
        refine EV.iadd dX15_canvasEight_51 ?_
        refine EV.iload_n 2 dX15_canvasEight_52 rfl rfl ?_
        refine EV.iadd dX15_canvasEight_53 ?_
        refine EV.iload 5 dX15_canvasEight_54 rfl ?_
        refine EV.iadd dX15_canvasEight_56 ?_
        obtain ⟨v14, gv14, h⟩ := px_bs h
        refine ev_aI dX15_canvasEight_57 gv14 ?_
        refine EV.goto 62 dX15_canvasEight_58 (by decide) ?_
        refine EV.sub [0, 1, 2, 3, 5] rfl ?_
        exact eX15_canvasEight_62 ih _ _ _ _ _ _ _ _ _ h
set_option maxRecDepth 100000 in
set_option maxHeartbeats 4000000 in
theorem eX15_canvasEight {X : px_X} {w : px_W} {a0 : Nat} {a1 : Int32} {a2 : Int32} {a3 : Int32} {q : Int64 × px_W} (h : fX15_canvasEight X w a0 a1 a2 a3 = some q) : EV X mX15_canvasEight 0 (lv_args 0 [.ref a0, .int a1, .int a2, .int a3]) [] w (some (.long q.1)) q.2 := by
  unfold fX15_canvasEight at h
  show EV X mX15_canvasEight 0 [(0, .ref a0), (1, .int a1), (2, .int a2), (3, .int a3)] [] w (some (.long q.1)) q.2
  refine EV.lconst (0) dX15_canvasEight_0 (by decide) ?_
  refine EV.lstore [(4, .long 0), (0, .ref a0), (1, .int a1), (2, .int a2), (3, .int a3)] dX15_canvasEight_1 (by decide) rfl ?_
  refine EV.iconst (0) dX15_canvasEight_3 (by decide) ?_
  refine EV.istore [(6, .int 0), (4, .long 0), (0, .ref a0), (1, .int a1), (2, .int a2), (3, .int a3)] dX15_canvasEight_4 (by decide) rfl ?_
  refine EV.sub [2, 3, 4, 5, 1, 0] rfl ?_
  exact eX15_canvasEight_6  FU _ _ _ _ _ _ _ _ h
/-! WavePicturesModel.openTone(IIII)I -/
theorem dX15_openTone_0 : decode cX15_openTone 0 = .ok (.iload_n 2, 1) := by decide +kernel
theorem dX15_openTone_1 : decode cX15_openTone 1 = .ok (.sipush 128, 3) := by decide +kernel
theorem dX15_openTone_4 : decode cX15_openTone 4 = .ok (.isub, 1) := by decide +kernel
theorem dX15_openTone_5 : decode cX15_openTone 5 = .ok (.istore 4, 2) := by decide +kernel
theorem dX15_openTone_7 : decode cX15_openTone 7 = .ok (.iload_n 3, 1) := by decide +kernel
theorem dX15_openTone_8 : decode cX15_openTone 8 = .ok (.sipush 128, 3) := by decide +kernel
theorem dX15_openTone_11 : decode cX15_openTone 11 = .ok (.isub, 1) := by decide +kernel
theorem dX15_openTone_12 : decode cX15_openTone 12 = .ok (.istore 5, 2) := by decide +kernel
theorem dX15_openTone_14 : decode cX15_openTone 14 = .ok (.iload_n 0, 1) := by decide +kernel
theorem dX15_openTone_15 : decode cX15_openTone 15 = .ok (.ifCond .ne 22, 3) := by decide +kernel
theorem dX15_openTone_18 : decode cX15_openTone 18 = .ok (.iload_n 1, 1) := by decide +kernel
theorem dX15_openTone_19 : decode cX15_openTone 19 = .ok (.ldc_w 402, 3) := by decide +kernel
theorem dX15_openTone_22 : decode cX15_openTone 22 = .ok (.iload 5, 2) := by decide +kernel
theorem dX15_openTone_24 : decode cX15_openTone 24 = .ok (.imul, 1) := by decide +kernel
theorem dX15_openTone_25 : decode cX15_openTone 25 = .ok (.ldc_w 403, 3) := by decide +kernel
theorem dX15_openTone_28 : decode cX15_openTone 28 = .ok (.iadd, 1) := by decide +kernel
theorem dX15_openTone_29 : decode cX15_openTone 29 = .ok (.bipush 16, 2) := by decide +kernel
theorem dX15_openTone_31 : decode cX15_openTone 31 = .ok (.ishr, 1) := by decide +kernel
theorem dX15_openTone_32 : decode cX15_openTone 32 = .ok (.iadd, 1) := by decide +kernel
theorem dX15_openTone_33 : decode cX15_openTone 33 = .ok (.i2l, 1) := by decide +kernel
theorem dX15_openTone_34 : decode cX15_openTone 34 = .ok (.goto 50, 3) := by decide +kernel
theorem dX15_openTone_37 : decode cX15_openTone 37 = .ok (.iload_n 0, 1) := by decide +kernel
theorem dX15_openTone_38 : decode cX15_openTone 38 = .ok (.iconst 1, 1) := by decide +kernel
theorem dX15_openTone_39 : decode cX15_openTone 39 = .ok (.if_icmp .ne 29, 3) := by decide +kernel
theorem dX15_openTone_42 : decode cX15_openTone 42 = .ok (.iload_n 1, 1) := by decide +kernel
theorem dX15_openTone_43 : decode cX15_openTone 43 = .ok (.sipush (-22554), 3) := by decide +kernel
theorem dX15_openTone_46 : decode cX15_openTone 46 = .ok (.iload 4, 2) := by decide +kernel
theorem dX15_openTone_48 : decode cX15_openTone 48 = .ok (.imul, 1) := by decide +kernel
theorem dX15_openTone_49 : decode cX15_openTone 49 = .ok (.ldc_w 404, 3) := by decide +kernel
theorem dX15_openTone_52 : decode cX15_openTone 52 = .ok (.iload 5, 2) := by decide +kernel
theorem dX15_openTone_54 : decode cX15_openTone 54 = .ok (.imul, 1) := by decide +kernel
theorem dX15_openTone_55 : decode cX15_openTone 55 = .ok (.isub, 1) := by decide +kernel
theorem dX15_openTone_56 : decode cX15_openTone 56 = .ok (.ldc_w 403, 3) := by decide +kernel
theorem dX15_openTone_59 : decode cX15_openTone 59 = .ok (.iadd, 1) := by decide +kernel
theorem dX15_openTone_60 : decode cX15_openTone 60 = .ok (.bipush 16, 2) := by decide +kernel
theorem dX15_openTone_62 : decode cX15_openTone 62 = .ok (.ishr, 1) := by decide +kernel
theorem dX15_openTone_63 : decode cX15_openTone 63 = .ok (.iadd, 1) := by decide +kernel
theorem dX15_openTone_64 : decode cX15_openTone 64 = .ok (.i2l, 1) := by decide +kernel
theorem dX15_openTone_65 : decode cX15_openTone 65 = .ok (.goto 19, 3) := by decide +kernel
theorem dX15_openTone_68 : decode cX15_openTone 68 = .ok (.iload_n 1, 1) := by decide +kernel
theorem dX15_openTone_69 : decode cX15_openTone 69 = .ok (.ldc_w 405, 3) := by decide +kernel
theorem dX15_openTone_72 : decode cX15_openTone 72 = .ok (.iload 4, 2) := by decide +kernel
theorem dX15_openTone_74 : decode cX15_openTone 74 = .ok (.imul, 1) := by decide +kernel
theorem dX15_openTone_75 : decode cX15_openTone 75 = .ok (.ldc_w 403, 3) := by decide +kernel
theorem dX15_openTone_78 : decode cX15_openTone 78 = .ok (.iadd, 1) := by decide +kernel
theorem dX15_openTone_79 : decode cX15_openTone 79 = .ok (.bipush 16, 2) := by decide +kernel
theorem dX15_openTone_81 : decode cX15_openTone 81 = .ok (.ishr, 1) := by decide +kernel
theorem dX15_openTone_82 : decode cX15_openTone 82 = .ok (.iadd, 1) := by decide +kernel
theorem dX15_openTone_83 : decode cX15_openTone 83 = .ok (.i2l, 1) := by decide +kernel
theorem dX15_openTone_84 : decode cX15_openTone 84 = .ok (.invokestatic 338, 3) := by decide +kernel
theorem dX15_openTone_87 : decode cX15_openTone 87 = .ok (.ireturn, 1) := by decide +kernel
theorem kcX15_openTone_338 : px_cS mX15_openTone 338 mX15_limit 1 := ⟨⟨mbX15_limit, by decide, by decide⟩, Or.inl (tb10 (List.mem_of_getElem? (i := 63) rfl)), tb10 (List.mem_of_getElem? (i := 64) rfl)⟩
set_option maxRecDepth 100000 in
set_option maxHeartbeats 4000000 in
theorem eX15_openTone_84 {X : px_X}  : ∀ (s0 : Int64) (w : px_W) (q : Int32 × px_W), fX15_openTone_84 X  s0 w = some q → EV X mX15_openTone 84 [] [.long s0] w (some (.int q.1)) q.2 := by
  intro s0 w q h
  unfold fX15_openTone_84 at h
  obtain ⟨q2, gq2, h⟩ := px_bs h
  refine EV.callS (As := [.long s0]) (rest := []) dX15_openTone_84 kcX15_openTone_338 rfl (Nat.le_of_ble_eq_true rfl) (Nat.le_of_ble_eq_true rfl) (eX15_limit gq2) ?_
  cases h
  exact EV.reti dX15_openTone_87 rfl
set_option maxRecDepth 100000 in
set_option maxHeartbeats 4000000 in
theorem eX15_openTone {X : px_X} {w : px_W} {a0 : Int32} {a1 : Int32} {a2 : Int32} {a3 : Int32} {q : Int32 × px_W} (h : fX15_openTone X w a0 a1 a2 a3 = some q) : EV X mX15_openTone 0 (lv_args 0 [.int a0, .int a1, .int a2, .int a3]) [] w (some (.int q.1)) q.2 := by
  unfold fX15_openTone at h
  show EV X mX15_openTone 0 [(0, .int a0), (1, .int a1), (2, .int a2), (3, .int a3)] [] w (some (.int q.1)) q.2
  refine EV.iload_n 2 dX15_openTone_0 rfl rfl ?_
  refine EV.sipush (128) dX15_openTone_1 (by decide) ?_
  refine EV.isub dX15_openTone_4 ?_
  refine EV.istore [(4, .int (a2 - 128)), (0, .int a0), (1, .int a1), (2, .int a2), (3, .int a3)] dX15_openTone_5 (by decide) rfl ?_
  refine EV.iload_n 4 dX15_openTone_7 rfl rfl ?_
  refine EV.sipush (128) dX15_openTone_8 (by decide) ?_
  refine EV.isub dX15_openTone_11 ?_
  refine EV.istore [(5, .int (a3 - 128)), (4, .int (a2 - 128)), (0, .int a0), (1, .int a1), (2, .int a2), (3, .int a3)] dX15_openTone_12 (by decide) rfl ?_
  refine EV.iload_n 2 dX15_openTone_14 rfl rfl ?_
  refine EV.if_ne 37 dX15_openTone_15 (by decide) (fun c3 => ?_) (fun c3 => ?_)
  · rw [if_neg c3] at h
    refine EV.iload_n 2 dX15_openTone_37 rfl rfl ?_
    refine EV.iconst (1) dX15_openTone_38 (by decide) ?_
    refine EV.icmp_ne 68 dX15_openTone_39 (by decide) (fun c4 => ?_) (fun c4 => ?_)
    · rw [if_neg c4] at h
      refine EV.iload_n 3 dX15_openTone_68 rfl rfl ?_
      refine EV.ldcw (v := 116130) dX15_openTone_69 (tb10 (List.mem_of_getElem? (i := 142) rfl)) ?_
      refine EV.iload 1 dX15_openTone_72 rfl ?_
      refine EV.imul dX15_openTone_74 ?_
      refine EV.ldcw (v := 32768) dX15_openTone_75 (tb10 (List.mem_of_getElem? (i := 140) rfl)) ?_
      refine EV.iadd dX15_openTone_78 ?_
      refine EV.bipush (16) dX15_openTone_79 (by decide) ?_
      refine EV.ishr dX15_openTone_81 ?_
      refine EV.iadd dX15_openTone_82 ?_
      refine EV.i2l dX15_openTone_83 ?_
      refine EV.sub [] rfl ?_
      exact eX15_openTone_84  _ _ _ h
    · rw [if_pos c4] at h
      refine EV.iload_n 3 dX15_openTone_42 rfl rfl ?_
      refine EV.sipush ((-22554)) dX15_openTone_43 (by decide) ?_
      refine EV.iload 1 dX15_openTone_46 rfl ?_
      refine EV.imul dX15_openTone_48 ?_
      refine EV.ldcw (v := 46802) dX15_openTone_49 (tb10 (List.mem_of_getElem? (i := 141) rfl)) ?_
      refine EV.iload 0 dX15_openTone_52 rfl ?_
      refine EV.imul dX15_openTone_54 ?_
      refine EV.isub dX15_openTone_55 ?_
      refine EV.ldcw (v := 32768) dX15_openTone_56 (tb10 (List.mem_of_getElem? (i := 140) rfl)) ?_
      refine EV.iadd dX15_openTone_59 ?_
      refine EV.bipush (16) dX15_openTone_60 (by decide) ?_
      refine EV.ishr dX15_openTone_62 ?_
      refine EV.iadd dX15_openTone_63 ?_
      refine EV.i2l dX15_openTone_64 ?_
      refine EV.goto 84 dX15_openTone_65 (by decide) ?_
      refine EV.sub [] rfl ?_
      exact eX15_openTone_84  _ _ _ h
  · rw [if_pos c3] at h
    refine EV.iload_n 3 dX15_openTone_18 rfl rfl ?_
    refine EV.ldcw (v := 91881) dX15_openTone_19 (tb10 (List.mem_of_getElem? (i := 139) rfl)) ?_
    refine EV.iload 0 dX15_openTone_22 rfl ?_
    refine EV.imul dX15_openTone_24 ?_
    refine EV.ldcw (v := 32768) dX15_openTone_25 (tb10 (List.mem_of_getElem? (i := 140) rfl)) ?_
    refine EV.iadd dX15_openTone_28 ?_
    refine EV.bipush (16) dX15_openTone_29 (by decide) ?_
    refine EV.ishr dX15_openTone_31 ?_
    refine EV.iadd dX15_openTone_32 ?_
    refine EV.i2l dX15_openTone_33 ?_
    refine EV.goto 84 dX15_openTone_34 (by decide) ?_
    refine EV.sub [] rfl ?_
    exact eX15_openTone_84  _ _ _ h
/-! WavePicturesModel.closeTone(IIII)I -/
theorem dX15_closeTone_0 : decode cX15_closeTone 0 = .ok (.iload_n 0, 1) := by decide +kernel
theorem dX15_closeTone_1 : decode cX15_closeTone 1 = .ok (.ifCond .ne 30, 3) := by decide +kernel
theorem dX15_closeTone_4 : decode cX15_closeTone 4 = .ok (.sipush 19595, 3) := by decide +kernel
theorem dX15_closeTone_7 : decode cX15_closeTone 7 = .ok (.iload_n 1, 1) := by decide +kernel
theorem dX15_closeTone_8 : decode cX15_closeTone 8 = .ok (.imul, 1) := by decide +kernel
theorem dX15_closeTone_9 : decode cX15_closeTone 9 = .ok (.ldc_w 406, 3) := by decide +kernel
theorem dX15_closeTone_12 : decode cX15_closeTone 12 = .ok (.iload_n 2, 1) := by decide +kernel
theorem dX15_closeTone_13 : decode cX15_closeTone 13 = .ok (.imul, 1) := by decide +kernel
theorem dX15_closeTone_14 : decode cX15_closeTone 14 = .ok (.iadd, 1) := by decide +kernel
theorem dX15_closeTone_15 : decode cX15_closeTone 15 = .ok (.sipush 7471, 3) := by decide +kernel
theorem dX15_closeTone_18 : decode cX15_closeTone 18 = .ok (.iload_n 3, 1) := by decide +kernel
theorem dX15_closeTone_19 : decode cX15_closeTone 19 = .ok (.imul, 1) := by decide +kernel
theorem dX15_closeTone_20 : decode cX15_closeTone 20 = .ok (.iadd, 1) := by decide +kernel
theorem dX15_closeTone_21 : decode cX15_closeTone 21 = .ok (.ldc_w 403, 3) := by decide +kernel
theorem dX15_closeTone_24 : decode cX15_closeTone 24 = .ok (.iadd, 1) := by decide +kernel
theorem dX15_closeTone_25 : decode cX15_closeTone 25 = .ok (.bipush 16, 2) := by decide +kernel
theorem dX15_closeTone_27 : decode cX15_closeTone 27 = .ok (.ishr, 1) := by decide +kernel
theorem dX15_closeTone_28 : decode cX15_closeTone 28 = .ok (.goto 59, 3) := by decide +kernel
theorem dX15_closeTone_31 : decode cX15_closeTone 31 = .ok (.iload_n 0, 1) := by decide +kernel
theorem dX15_closeTone_32 : decode cX15_closeTone 32 = .ok (.iconst 1, 1) := by decide +kernel
theorem dX15_closeTone_33 : decode cX15_closeTone 33 = .ok (.if_icmp .ne 30, 3) := by decide +kernel
theorem dX15_closeTone_36 : decode cX15_closeTone 36 = .ok (.sipush (-11059), 3) := by decide +kernel
theorem dX15_closeTone_39 : decode cX15_closeTone 39 = .ok (.iload_n 1, 1) := by decide +kernel
theorem dX15_closeTone_40 : decode cX15_closeTone 40 = .ok (.imul, 1) := by decide +kernel
theorem dX15_closeTone_41 : decode cX15_closeTone 41 = .ok (.sipush 21709, 3) := by decide +kernel
theorem dX15_closeTone_44 : decode cX15_closeTone 44 = .ok (.iload_n 2, 1) := by decide +kernel
theorem dX15_closeTone_45 : decode cX15_closeTone 45 = .ok (.imul, 1) := by decide +kernel
theorem dX15_closeTone_46 : decode cX15_closeTone 46 = .ok (.isub, 1) := by decide +kernel
theorem dX15_closeTone_47 : decode cX15_closeTone 47 = .ok (.ldc_w 403, 3) := by decide +kernel
theorem dX15_closeTone_50 : decode cX15_closeTone 50 = .ok (.iload_n 3, 1) := by decide +kernel
theorem dX15_closeTone_51 : decode cX15_closeTone 51 = .ok (.imul, 1) := by decide +kernel
theorem dX15_closeTone_52 : decode cX15_closeTone 52 = .ok (.iadd, 1) := by decide +kernel
theorem dX15_closeTone_53 : decode cX15_closeTone 53 = .ok (.ldc_w 407, 3) := by decide +kernel
theorem dX15_closeTone_56 : decode cX15_closeTone 56 = .ok (.iadd, 1) := by decide +kernel
theorem dX15_closeTone_57 : decode cX15_closeTone 57 = .ok (.bipush 16, 2) := by decide +kernel
theorem dX15_closeTone_59 : decode cX15_closeTone 59 = .ok (.ishr, 1) := by decide +kernel
theorem dX15_closeTone_60 : decode cX15_closeTone 60 = .ok (.goto 27, 3) := by decide +kernel
theorem dX15_closeTone_63 : decode cX15_closeTone 63 = .ok (.ldc_w 403, 3) := by decide +kernel
theorem dX15_closeTone_66 : decode cX15_closeTone 66 = .ok (.iload_n 1, 1) := by decide +kernel
theorem dX15_closeTone_67 : decode cX15_closeTone 67 = .ok (.imul, 1) := by decide +kernel
theorem dX15_closeTone_68 : decode cX15_closeTone 68 = .ok (.sipush 27439, 3) := by decide +kernel
theorem dX15_closeTone_71 : decode cX15_closeTone 71 = .ok (.iload_n 2, 1) := by decide +kernel
theorem dX15_closeTone_72 : decode cX15_closeTone 72 = .ok (.imul, 1) := by decide +kernel
theorem dX15_closeTone_73 : decode cX15_closeTone 73 = .ok (.isub, 1) := by decide +kernel
theorem dX15_closeTone_74 : decode cX15_closeTone 74 = .ok (.sipush 5329, 3) := by decide +kernel
theorem dX15_closeTone_77 : decode cX15_closeTone 77 = .ok (.iload_n 3, 1) := by decide +kernel
theorem dX15_closeTone_78 : decode cX15_closeTone 78 = .ok (.imul, 1) := by decide +kernel
theorem dX15_closeTone_79 : decode cX15_closeTone 79 = .ok (.isub, 1) := by decide +kernel
theorem dX15_closeTone_80 : decode cX15_closeTone 80 = .ok (.ldc_w 407, 3) := by decide +kernel
theorem dX15_closeTone_83 : decode cX15_closeTone 83 = .ok (.iadd, 1) := by decide +kernel
theorem dX15_closeTone_84 : decode cX15_closeTone 84 = .ok (.bipush 16, 2) := by decide +kernel
theorem dX15_closeTone_86 : decode cX15_closeTone 86 = .ok (.ishr, 1) := by decide +kernel
theorem dX15_closeTone_87 : decode cX15_closeTone 87 = .ok (.ireturn, 1) := by decide +kernel
set_option maxRecDepth 100000 in
set_option maxHeartbeats 4000000 in
theorem eX15_closeTone {X : px_X} {w : px_W} {a0 : Int32} {a1 : Int32} {a2 : Int32} {a3 : Int32} {q : Int32 × px_W} (h : fX15_closeTone X w a0 a1 a2 a3 = some q) : EV X mX15_closeTone 0 (lv_args 0 [.int a0, .int a1, .int a2, .int a3]) [] w (some (.int q.1)) q.2 := by
  unfold fX15_closeTone at h
  show EV X mX15_closeTone 0 [(0, .int a0), (1, .int a1), (2, .int a2), (3, .int a3)] [] w (some (.int q.1)) q.2
  refine EV.iload_n 0 dX15_closeTone_0 rfl rfl ?_
  refine EV.if_ne 31 dX15_closeTone_1 (by decide) (fun c1 => ?_) (fun c1 => ?_)
  · rw [if_neg c1] at h
    refine EV.iload_n 0 dX15_closeTone_31 rfl rfl ?_
    refine EV.iconst (1) dX15_closeTone_32 (by decide) ?_
    refine EV.icmp_ne 63 dX15_closeTone_33 (by decide) (fun c2 => ?_) (fun c2 => ?_)
    · rw [if_neg c2] at h
      refine EV.ldcw (v := 32768) dX15_closeTone_63 (tb10 (List.mem_of_getElem? (i := 140) rfl)) ?_
      refine EV.iload_n 1 dX15_closeTone_66 rfl rfl ?_
      refine EV.imul dX15_closeTone_67 ?_
      refine EV.sipush (27439) dX15_closeTone_68 (by decide) ?_
      refine EV.iload_n 2 dX15_closeTone_71 rfl rfl ?_
      refine EV.imul dX15_closeTone_72 ?_
      refine EV.isub dX15_closeTone_73 ?_
      refine EV.sipush (5329) dX15_closeTone_74 (by decide) ?_
      refine EV.iload_n 3 dX15_closeTone_77 rfl rfl ?_
      refine EV.imul dX15_closeTone_78 ?_
      refine EV.isub dX15_closeTone_79 ?_
      refine EV.ldcw (v := 8421375) dX15_closeTone_80 (tb10 (List.mem_of_getElem? (i := 147) rfl)) ?_
      refine EV.iadd dX15_closeTone_83 ?_
      refine EV.bipush (16) dX15_closeTone_84 (by decide) ?_
      refine EV.ishr dX15_closeTone_86 ?_
      obtain rfl := Option.some.inj h
      exact EV.reti dX15_closeTone_87 rfl
    · rw [if_pos c2] at h
      refine EV.sipush ((-11059)) dX15_closeTone_36 (by decide) ?_
      refine EV.iload_n 1 dX15_closeTone_39 rfl rfl ?_
      refine EV.imul dX15_closeTone_40 ?_
      refine EV.sipush (21709) dX15_closeTone_41 (by decide) ?_
      refine EV.iload_n 2 dX15_closeTone_44 rfl rfl ?_
      refine EV.imul dX15_closeTone_45 ?_
      refine EV.isub dX15_closeTone_46 ?_
      refine EV.ldcw (v := 32768) dX15_closeTone_47 (tb10 (List.mem_of_getElem? (i := 140) rfl)) ?_
      refine EV.iload_n 3 dX15_closeTone_50 rfl rfl ?_
      refine EV.imul dX15_closeTone_51 ?_
      refine EV.iadd dX15_closeTone_52 ?_
      refine EV.ldcw (v := 8421375) dX15_closeTone_53 (tb10 (List.mem_of_getElem? (i := 147) rfl)) ?_
      refine EV.iadd dX15_closeTone_56 ?_
      refine EV.bipush (16) dX15_closeTone_57 (by decide) ?_
      refine EV.ishr dX15_closeTone_59 ?_
      refine EV.goto 87 dX15_closeTone_60 (by decide) ?_
      obtain rfl := Option.some.inj h
      exact EV.reti dX15_closeTone_87 rfl
  · rw [if_pos c1] at h
    refine EV.sipush (19595) dX15_closeTone_4 (by decide) ?_
    refine EV.iload_n 1 dX15_closeTone_7 rfl rfl ?_
    refine EV.imul dX15_closeTone_8 ?_
    refine EV.ldcw (v := 38470) dX15_closeTone_9 (tb10 (List.mem_of_getElem? (i := 146) rfl)) ?_
    refine EV.iload_n 2 dX15_closeTone_12 rfl rfl ?_
    refine EV.imul dX15_closeTone_13 ?_
    refine EV.iadd dX15_closeTone_14 ?_
    refine EV.sipush (7471) dX15_closeTone_15 (by decide) ?_
    refine EV.iload_n 3 dX15_closeTone_18 rfl rfl ?_
    refine EV.imul dX15_closeTone_19 ?_
    refine EV.iadd dX15_closeTone_20 ?_
    refine EV.ldcw (v := 32768) dX15_closeTone_21 (tb10 (List.mem_of_getElem? (i := 140) rfl)) ?_
    refine EV.iadd dX15_closeTone_24 ?_
    refine EV.bipush (16) dX15_closeTone_25 (by decide) ?_
    refine EV.ishr dX15_closeTone_27 ?_
    refine EV.goto 87 dX15_closeTone_28 (by decide) ?_
    cases h
    exact EV.reti dX15_closeTone_87 rfl
/-! WavePicturesModel.tone(IIIIII)I -/
theorem dX15_tone_0 : decode cX15_tone 0 = .ok (.iload_n 1, 1) := by decide +kernel
theorem dX15_tone_1 : decode cX15_tone 1 = .ok (.ifCond .ne 7, 3) := by decide +kernel
theorem dX15_tone_4 : decode cX15_tone 4 = .ok (.iload_n 2, 1) := by decide +kernel
theorem dX15_tone_5 : decode cX15_tone 5 = .ok (.goto 14, 3) := by decide +kernel
theorem dX15_tone_8 : decode cX15_tone 8 = .ok (.iload_n 1, 1) := by decide +kernel
theorem dX15_tone_9 : decode cX15_tone 9 = .ok (.iconst 1, 1) := by decide +kernel
theorem dX15_tone_10 : decode cX15_tone 10 = .ok (.if_icmp .ne 7, 3) := by decide +kernel
theorem dX15_tone_13 : decode cX15_tone 13 = .ok (.iload_n 3, 1) := by decide +kernel
theorem dX15_tone_14 : decode cX15_tone 14 = .ok (.goto 5, 3) := by decide +kernel
theorem dX15_tone_17 : decode cX15_tone 17 = .ok (.iload 4, 2) := by decide +kernel
theorem dX15_tone_19 : decode cX15_tone 19 = .ok (.istore 6, 2) := by decide +kernel
theorem dX15_tone_21 : decode cX15_tone 21 = .ok (.iload_n 0, 1) := by decide +kernel
theorem dX15_tone_22 : decode cX15_tone 22 = .ok (.tableswitch 102 0 5 #[38, 47, 56, 63, 80, 89], 38) := by decide +kernel
theorem dX15_tone_60 : decode cX15_tone 60 = .ok (.iload_n 1, 1) := by decide +kernel
theorem dX15_tone_61 : decode cX15_tone 61 = .ok (.iload_n 2, 1) := by decide +kernel
theorem dX15_tone_62 : decode cX15_tone 62 = .ok (.iload_n 3, 1) := by decide +kernel
theorem dX15_tone_63 : decode cX15_tone 63 = .ok (.iload 4, 2) := by decide +kernel
theorem dX15_tone_65 : decode cX15_tone 65 = .ok (.invokestatic 408, 3) := by decide +kernel
theorem dX15_tone_68 : decode cX15_tone 68 = .ok (.ireturn, 1) := by decide +kernel
theorem dX15_tone_69 : decode cX15_tone 69 = .ok (.iload_n 1, 1) := by decide +kernel
theorem dX15_tone_70 : decode cX15_tone 70 = .ok (.iload_n 2, 1) := by decide +kernel
theorem dX15_tone_71 : decode cX15_tone 71 = .ok (.iload_n 3, 1) := by decide +kernel
theorem dX15_tone_72 : decode cX15_tone 72 = .ok (.iload 4, 2) := by decide +kernel
theorem dX15_tone_74 : decode cX15_tone 74 = .ok (.invokestatic 412, 3) := by decide +kernel
theorem dX15_tone_77 : decode cX15_tone 77 = .ok (.ireturn, 1) := by decide +kernel
theorem dX15_tone_78 : decode cX15_tone 78 = .ok (.sipush 255, 3) := by decide +kernel
theorem dX15_tone_81 : decode cX15_tone 81 = .ok (.iload 6, 2) := by decide +kernel
theorem dX15_tone_83 : decode cX15_tone 83 = .ok (.isub, 1) := by decide +kernel
theorem dX15_tone_84 : decode cX15_tone 84 = .ok (.ireturn, 1) := by decide +kernel
theorem dX15_tone_85 : decode cX15_tone 85 = .ok (.iload 6, 2) := by decide +kernel
theorem dX15_tone_87 : decode cX15_tone 87 = .ok (.sipush 255, 3) := by decide +kernel
theorem dX15_tone_90 : decode cX15_tone 90 = .ok (.iload 5, 2) := by decide +kernel
theorem dX15_tone_92 : decode cX15_tone 92 = .ok (.isub, 1) := by decide +kernel
theorem dX15_tone_93 : decode cX15_tone 93 = .ok (.imul, 1) := by decide +kernel
theorem dX15_tone_94 : decode cX15_tone 94 = .ok (.bipush 127, 2) := by decide +kernel
theorem dX15_tone_96 : decode cX15_tone 96 = .ok (.iadd, 1) := by decide +kernel
theorem dX15_tone_97 : decode cX15_tone 97 = .ok (.sipush 255, 3) := by decide +kernel
theorem dX15_tone_100 : decode cX15_tone 100 = .ok (.idiv, 1) := by decide +kernel
theorem dX15_tone_101 : decode cX15_tone 101 = .ok (.ireturn, 1) := by decide +kernel
theorem dX15_tone_102 : decode cX15_tone 102 = .ok (.iconst 0, 1) := by decide +kernel
theorem dX15_tone_103 : decode cX15_tone 103 = .ok (.iload_n 2, 1) := by decide +kernel
theorem dX15_tone_104 : decode cX15_tone 104 = .ok (.iload_n 3, 1) := by decide +kernel
theorem dX15_tone_105 : decode cX15_tone 105 = .ok (.iload 4, 2) := by decide +kernel
theorem dX15_tone_107 : decode cX15_tone 107 = .ok (.invokestatic 412, 3) := by decide +kernel
theorem dX15_tone_110 : decode cX15_tone 110 = .ok (.ireturn, 1) := by decide +kernel
theorem dX15_tone_111 : decode cX15_tone 111 = .ok (.sipush 255, 3) := by decide +kernel
theorem dX15_tone_114 : decode cX15_tone 114 = .ok (.iload_n 1, 1) := by decide +kernel
theorem dX15_tone_115 : decode cX15_tone 115 = .ok (.iload_n 2, 1) := by decide +kernel
theorem dX15_tone_116 : decode cX15_tone 116 = .ok (.iload_n 3, 1) := by decide +kernel
theorem dX15_tone_117 : decode cX15_tone 117 = .ok (.iload 4, 2) := by decide +kernel
theorem dX15_tone_119 : decode cX15_tone 119 = .ok (.invokestatic 408, 3) := by decide +kernel
theorem dX15_tone_122 : decode cX15_tone 122 = .ok (.isub, 1) := by decide +kernel
theorem dX15_tone_123 : decode cX15_tone 123 = .ok (.ireturn, 1) := by decide +kernel
theorem dX15_tone_124 : decode cX15_tone 124 = .ok (.iload_n 1, 1) := by decide +kernel
theorem dX15_tone_125 : decode cX15_tone 125 = .ok (.sipush 255, 3) := by decide +kernel
theorem dX15_tone_128 : decode cX15_tone 128 = .ok (.iload_n 2, 1) := by decide +kernel
theorem dX15_tone_129 : decode cX15_tone 129 = .ok (.isub, 1) := by decide +kernel
theorem dX15_tone_130 : decode cX15_tone 130 = .ok (.sipush 255, 3) := by decide +kernel
theorem dX15_tone_133 : decode cX15_tone 133 = .ok (.iload_n 3, 1) := by decide +kernel
theorem dX15_tone_134 : decode cX15_tone 134 = .ok (.isub, 1) := by decide +kernel
theorem dX15_tone_135 : decode cX15_tone 135 = .ok (.sipush 255, 3) := by decide +kernel
theorem dX15_tone_138 : decode cX15_tone 138 = .ok (.iload 4, 2) := by decide +kernel
theorem dX15_tone_140 : decode cX15_tone 140 = .ok (.isub, 1) := by decide +kernel
theorem dX15_tone_141 : decode cX15_tone 141 = .ok (.invokestatic 412, 3) := by decide +kernel
theorem dX15_tone_144 : decode cX15_tone 144 = .ok (.ireturn, 1) := by decide +kernel
theorem mbX15_openTone : px_mB mX15_openTone 4 := ⟨tb10 (List.mem_of_getElem? (i := 138) rfl), by decide +kernel, tb1 (List.mem_of_getElem? (i := 13) rfl), by decide +kernel, by decide +kernel⟩
theorem kcX15_tone_408 : px_cS mX15_tone 408 mX15_openTone 4 := ⟨⟨mbX15_openTone, by decide, by decide⟩, Or.inl (tb10 (List.mem_of_getElem? (i := 136) rfl)), tb10 (List.mem_of_getElem? (i := 137) rfl)⟩
theorem mbX15_closeTone : px_mB mX15_closeTone 4 := ⟨tb10 (List.mem_of_getElem? (i := 145) rfl), by decide +kernel, tb1 (List.mem_of_getElem? (i := 13) rfl), by decide +kernel, by decide +kernel⟩
theorem kcX15_tone_412 : px_cS mX15_tone 412 mX15_closeTone 4 := ⟨⟨mbX15_closeTone, by decide, by decide⟩, Or.inl (tb10 (List.mem_of_getElem? (i := 143) rfl)), tb10 (List.mem_of_getElem? (i := 144) rfl)⟩
set_option maxRecDepth 100000 in
set_option maxHeartbeats 4000000 in
theorem eX15_tone_19 {X : px_X}  : ∀ (a0 : Int32) (a1 : Int32) (a2 : Int32) (a3 : Int32) (a4 : Int32) (a5 : Int32) (s0 : Int32) (w : px_W) (q : Int32 × px_W), fX15_tone_19 X  a0 a1 a2 a3 a4 a5 s0 w = some q → EV X mX15_tone 19 [(0, .int a0), (1, .int a1), (2, .int a2), (3, .int a3), (4, .int a4), (5, .int a5)] [.int s0] w (some (.int q.1)) q.2 := by
  intro a0 a1 a2 a3 a4 a5 s0 w q h
  unfold fX15_tone_19 at h
  refine EV.istore [(6, .int s0), (0, .int a0), (1, .int a1), (2, .int a2), (3, .int a3), (4, .int a4), (5, .int a5)] dX15_tone_19 (by decide) rfl ?_
  refine EV.iload_n 1 dX15_tone_21 rfl rfl ?_
  by_cases c7 : a0 = 0
  · rw [if_pos c7] at h
    refine EV.tableIn 60 dX15_tone_22 (by rw [c7]; decide) (by rw [c7]; decide) (by rw [c7]; rfl) (by decide) ?_
    refine EV.iload_n 2 dX15_tone_60 rfl rfl ?_
    refine EV.iload_n 3 dX15_tone_61 rfl rfl ?_
    refine EV.iload_n 4 dX15_tone_62 rfl rfl ?_
    refine EV.iload 5 dX15_tone_63 rfl ?_
    obtain ⟨q8, gq8, h⟩ := px_bs h
    refine EV.callS (As := [.int a1, .int a2, .int a3, .int a4]) (rest := []) dX15_tone_65 kcX15_tone_408 rfl (Nat.le_of_ble_eq_true rfl) (Nat.le_of_ble_eq_true rfl) (eX15_openTone gq8) ?_
    cases h
    exact EV.reti dX15_tone_68 rfl
  rw [if_neg c7] at h
  by_cases c9 : a0 = 1
  · rw [if_pos c9] at h
    refine EV.tableIn 69 dX15_tone_22 (by rw [c9]; decide) (by rw [c9]; decide) (by rw [c9]; rfl) (by decide) ?_
    refine EV.iload_n 2 dX15_tone_69 rfl rfl ?_
    refine EV.iload_n 3 dX15_tone_70 rfl rfl ?_
    refine EV.iload_n 4 dX15_tone_71 rfl rfl ?_
    refine EV.iload 5 dX15_tone_72 rfl ?_
    obtain ⟨q10, gq10, h⟩ := px_bs h
    refine EV.callS (As := [.int a1, .int a2, .int a3, .int a4]) (rest := []) dX15_tone_74 kcX15_tone_412 rfl (Nat.le_of_ble_eq_true rfl) (Nat.le_of_ble_eq_true rfl) (eX15_closeTone gq10) ?_
    cases h
    exact EV.reti dX15_tone_77 rfl
  rw [if_neg c9] at h
  by_cases c11 : a0 = 2
  · rw [if_pos c11] at h
    refine EV.tableIn 78 dX15_tone_22 (by rw [c11]; decide) (by rw [c11]; decide) (by rw [c11]; rfl) (by decide) ?_
    refine EV.sipush (255) dX15_tone_78 (by decide) ?_
    refine EV.iload 0 dX15_tone_81 rfl ?_
    refine EV.isub dX15_tone_83 ?_
    cases h
    exact EV.reti dX15_tone_84 rfl
  rw [if_neg c11] at h
  by_cases c12 : a0 = 3
  · rw [if_pos c12] at h
    refine EV.tableIn 85 dX15_tone_22 (by rw [c12]; decide) (by rw [c12]; decide) (by rw [c12]; rfl) (by decide) ?_
    refine EV.iload 0 dX15_tone_85 rfl ?_
    refine EV.sipush (255) dX15_tone_87 (by decide) ?_
    refine EV.iload 6 dX15_tone_90 rfl ?_
    refine EV.isub dX15_tone_92 ?_
    refine EV.imul dX15_tone_93 ?_
    refine EV.bipush (127) dX15_tone_94 (by decide) ?_
    refine EV.iadd dX15_tone_96 ?_
    refine EV.sipush (255) dX15_tone_97 (by decide) ?_
    obtain ⟨v13, gv13, h⟩ := px_bs h
    refine ev_dI dX15_tone_100 gv13 ?_
    cases h
    exact EV.reti dX15_tone_101 rfl
  rw [if_neg c12] at h
  by_cases c14 : a0 = 4
  · rw [if_pos c14] at h
    refine EV.tableIn 102 dX15_tone_22 (by rw [c14]; decide) (by rw [c14]; decide) (by rw [c14]; rfl) (by decide) ?_
    refine EV.iconst (0) dX15_tone_102 (by decide) ?_
    refine EV.iload_n 3 dX15_tone_103 rfl rfl ?_
    refine EV.iload_n 4 dX15_tone_104 rfl rfl ?_
    refine EV.iload 5 dX15_tone_105 rfl ?_
    obtain ⟨q15, gq15, h⟩ := px_bs h
    refine EV.callS (As := [.int 0, .int a2, .int a3, .int a4]) (rest := []) dX15_tone_107 kcX15_tone_412 rfl (Nat.le_of_ble_eq_true rfl) (Nat.le_of_ble_eq_true rfl) (eX15_closeTone gq15) ?_
    cases h
    exact EV.reti dX15_tone_110 rfl
  rw [if_neg c14] at h
  by_cases c16 : a0 = 5
  · rw [if_pos c16] at h
    refine EV.tableIn 111 dX15_tone_22 (by rw [c16]; decide) (by rw [c16]; decide) (by rw [c16]; rfl) (by decide) ?_
    refine EV.sipush (255) dX15_tone_111 (by decide) ?_
    refine EV.iload_n 2 dX15_tone_114 rfl rfl ?_
    refine EV.iload_n 3 dX15_tone_115 rfl rfl ?_
    refine EV.iload_n 4 dX15_tone_116 rfl rfl ?_
    refine EV.iload 5 dX15_tone_117 rfl ?_
    obtain ⟨q17, gq17, h⟩ := px_bs h
    refine EV.callS (As := [.int a1, .int a2, .int a3, .int a4]) (rest := [.int 255]) dX15_tone_119 kcX15_tone_408 rfl (Nat.le_of_ble_eq_true rfl) (Nat.le_of_ble_eq_true rfl) (eX15_openTone gq17) ?_
    refine EV.isub dX15_tone_122 ?_
    cases h
    exact EV.reti dX15_tone_123 rfl
  rw [if_neg c16] at h
  have nc7 : (a0).toInt ≠ 0 := fun z => c7 (Int32.toInt_inj.mp (z.trans (by decide)))
  have nc9 : (a0).toInt ≠ 1 := fun z => c9 (Int32.toInt_inj.mp (z.trans (by decide)))
  have nc11 : (a0).toInt ≠ 2 := fun z => c11 (Int32.toInt_inj.mp (z.trans (by decide)))
  have nc12 : (a0).toInt ≠ 3 := fun z => c12 (Int32.toInt_inj.mp (z.trans (by decide)))
  have nc14 : (a0).toInt ≠ 4 := fun z => c14 (Int32.toInt_inj.mp (z.trans (by decide)))
  have nc16 : (a0).toInt ≠ 5 := fun z => c16 (Int32.toInt_inj.mp (z.trans (by decide)))
  refine EV.tableOut 124 dX15_tone_22 (by omega) (by decide) ?_
  refine EV.iload_n 2 dX15_tone_124 rfl rfl ?_
  refine EV.sipush (255) dX15_tone_125 (by decide) ?_
  refine EV.iload_n 3 dX15_tone_128 rfl rfl ?_
  refine EV.isub dX15_tone_129 ?_
  refine EV.sipush (255) dX15_tone_130 (by decide) ?_
  refine EV.iload_n 4 dX15_tone_133 rfl rfl ?_
  refine EV.isub dX15_tone_134 ?_
  refine EV.sipush (255) dX15_tone_135 (by decide) ?_
  refine EV.iload 5 dX15_tone_138 rfl ?_
  refine EV.isub dX15_tone_140 ?_
  obtain ⟨q18, gq18, h⟩ := px_bs h
  refine EV.callS (As := [.int a1, .int (255 - a2), .int (255 - a3), .int (255 - a4)]) (rest := []) dX15_tone_141 kcX15_tone_412 rfl (Nat.le_of_ble_eq_true rfl) (Nat.le_of_ble_eq_true rfl) (eX15_closeTone gq18) ?_
  cases h
  exact EV.reti dX15_tone_144 rfl
set_option maxRecDepth 100000 in
set_option maxHeartbeats 4000000 in
theorem eX15_tone {X : px_X} {w : px_W} {a0 : Int32} {a1 : Int32} {a2 : Int32} {a3 : Int32} {a4 : Int32} {a5 : Int32} {q : Int32 × px_W} (h : fX15_tone X w a0 a1 a2 a3 a4 a5 = some q) : EV X mX15_tone 0 (lv_args 0 [.int a0, .int a1, .int a2, .int a3, .int a4, .int a5]) [] w (some (.int q.1)) q.2 := by
  unfold fX15_tone at h
  show EV X mX15_tone 0 [(0, .int a0), (1, .int a1), (2, .int a2), (3, .int a3), (4, .int a4), (5, .int a5)] [] w (some (.int q.1)) q.2
  refine EV.iload_n 1 dX15_tone_0 rfl rfl ?_
  refine EV.if_ne 8 dX15_tone_1 (by decide) (fun c19 => ?_) (fun c19 => ?_)
  · rw [if_neg c19] at h
    refine EV.iload_n 1 dX15_tone_8 rfl rfl ?_
    refine EV.iconst (1) dX15_tone_9 (by decide) ?_
    refine EV.icmp_ne 17 dX15_tone_10 (by decide) (fun c20 => ?_) (fun c20 => ?_)
    · rw [if_neg c20] at h
      refine EV.iload 4 dX15_tone_17 rfl ?_
      refine EV.sub [0, 1, 2, 3, 4, 5] rfl ?_
      exact eX15_tone_19  _ _ _ _ _ _ _ _ _ h
    · rw [if_pos c20] at h
      refine EV.iload_n 3 dX15_tone_13 rfl rfl ?_
      refine EV.goto 19 dX15_tone_14 (by decide) ?_
      refine EV.sub [0, 1, 2, 3, 4, 5] rfl ?_
      exact eX15_tone_19  _ _ _ _ _ _ _ _ _ h
  · rw [if_pos c19] at h
    refine EV.iload_n 2 dX15_tone_4 rfl rfl ?_
    refine EV.goto 19 dX15_tone_5 (by decide) ?_
    refine EV.sub [0, 1, 2, 3, 4, 5] rfl ?_
    exact eX15_tone_19  _ _ _ _ _ _ _ _ _ h
