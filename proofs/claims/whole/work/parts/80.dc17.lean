/-! WavePicturesModel$Scans.readOthers(III)V -/
theorem dX13_readOthers_0 : decode cX13_readOthers 0 = .ok (.aload_n 0, 1) := by decide +kernel
theorem dX13_readOthers_1 : decode cX13_readOthers 1 = .ok (.getfield 106, 3) := by decide +kernel
theorem dX13_readOthers_4 : decode cX13_readOthers 4 = .ok (.ifCond .le 7, 3) := by decide +kernel
theorem dX13_readOthers_7 : decode cX13_readOthers 7 = .ok (.iconst 1, 1) := by decide +kernel
theorem dX13_readOthers_8 : decode cX13_readOthers 8 = .ok (.goto 4, 3) := by decide +kernel
theorem dX13_readOthers_11 : decode cX13_readOthers 11 = .ok (.iconst 0, 1) := by decide +kernel
theorem dX13_readOthers_12 : decode cX13_readOthers 12 = .ok (.istore 4, 2) := by decide +kernel
theorem dX13_readOthers_14 : decode cX13_readOthers 14 = .ok (.iload_n 3, 1) := by decide +kernel
theorem dX13_readOthers_15 : decode cX13_readOthers 15 = .ok (.istore 5, 2) := by decide +kernel
theorem dX13_readOthers_17 : decode cX13_readOthers 17 = .ok (.iload 5, 2) := by decide +kernel
theorem dX13_readOthers_19 : decode cX13_readOthers 19 = .ok (.aload_n 0, 1) := by decide +kernel
theorem dX13_readOthers_20 : decode cX13_readOthers 20 = .ok (.getfield 109, 3) := by decide +kernel
theorem dX13_readOthers_23 : decode cX13_readOthers 23 = .ok (.if_icmp .gt 29, 3) := by decide +kernel
theorem dX13_readOthers_26 : decode cX13_readOthers 26 = .ok (.aload_n 0, 1) := by decide +kernel
theorem dX13_readOthers_27 : decode cX13_readOthers 27 = .ok (.getfield 33, 3) := by decide +kernel
theorem dX13_readOthers_30 : decode cX13_readOthers 30 = .ok (.bipush 64, 2) := by decide +kernel
theorem dX13_readOthers_32 : decode cX13_readOthers 32 = .ok (.aload_n 0, 1) := by decide +kernel
theorem dX13_readOthers_33 : decode cX13_readOthers 33 = .ok (.getfield 30, 3) := by decide +kernel
theorem dX13_readOthers_36 : decode cX13_readOthers 36 = .ok (.iload_n 1, 1) := by decide +kernel
theorem dX13_readOthers_37 : decode cX13_readOthers 37 = .ok (.iaload, 1) := by decide +kernel
theorem dX13_readOthers_38 : decode cX13_readOthers 38 = .ok (.iload_n 2, 1) := by decide +kernel
theorem dX13_readOthers_39 : decode cX13_readOthers 39 = .ok (.iadd, 1) := by decide +kernel
theorem dX13_readOthers_40 : decode cX13_readOthers 40 = .ok (.imul, 1) := by decide +kernel
theorem dX13_readOthers_41 : decode cX13_readOthers 41 = .ok (.iload 5, 2) := by decide +kernel
theorem dX13_readOthers_43 : decode cX13_readOthers 43 = .ok (.iadd, 1) := by decide +kernel
theorem dX13_readOthers_44 : decode cX13_readOthers 44 = .ok (.iconst 0, 1) := by decide +kernel
theorem dX13_readOthers_45 : decode cX13_readOthers 45 = .ok (.sastore, 1) := by decide +kernel
theorem dX13_readOthers_46 : decode cX13_readOthers 46 = .ok (.iinc 5 1, 3) := by decide +kernel
theorem dX13_readOthers_49 : decode cX13_readOthers 49 = .ok (.goto (-32), 3) := by decide +kernel
theorem dX13_readOthers_52 : decode cX13_readOthers 52 = .ok (.iload 4, 2) := by decide +kernel
theorem dX13_readOthers_54 : decode cX13_readOthers 54 = .ok (.ifCond .eq 21, 3) := by decide +kernel
theorem dX13_readOthers_57 : decode cX13_readOthers 57 = .ok (.aload_n 0, 1) := by decide +kernel
theorem dX13_readOthers_58 : decode cX13_readOthers 58 = .ok (.getfield 177, 3) := by decide +kernel
theorem dX13_readOthers_61 : decode cX13_readOthers 61 = .ok (.ifCond .le 14, 3) := by decide +kernel
theorem dX13_readOthers_64 : decode cX13_readOthers 64 = .ok (.aload_n 0, 1) := by decide +kernel
theorem dX13_readOthers_65 : decode cX13_readOthers 65 = .ok (.dup, 1) := by decide +kernel
theorem dX13_readOthers_66 : decode cX13_readOthers 66 = .ok (.getfield 177, 3) := by decide +kernel
theorem dX13_readOthers_69 : decode cX13_readOthers 69 = .ok (.iconst 1, 1) := by decide +kernel
theorem dX13_readOthers_70 : decode cX13_readOthers 70 = .ok (.isub, 1) := by decide +kernel
theorem dX13_readOthers_71 : decode cX13_readOthers 71 = .ok (.putfield 177, 3) := by decide +kernel
theorem dX13_readOthers_74 : decode cX13_readOthers 74 = .ok (.return_, 1) := by decide +kernel
theorem dX13_readOthers_75 : decode cX13_readOthers 75 = .ok (.iload_n 3, 1) := by decide +kernel
theorem dX13_readOthers_76 : decode cX13_readOthers 76 = .ok (.istore 5, 2) := by decide +kernel
theorem dX13_readOthers_78 : decode cX13_readOthers 78 = .ok (.iload 5, 2) := by decide +kernel
theorem dX13_readOthers_80 : decode cX13_readOthers 80 = .ok (.aload_n 0, 1) := by decide +kernel
theorem dX13_readOthers_81 : decode cX13_readOthers 81 = .ok (.getfield 109, 3) := by decide +kernel
theorem dX13_readOthers_84 : decode cX13_readOthers 84 = .ok (.if_icmp .gt 198, 3) := by decide +kernel
theorem dX13_readOthers_87 : decode cX13_readOthers 87 = .ok (.aload_n 0, 1) := by decide +kernel
theorem dX13_readOthers_88 : decode cX13_readOthers 88 = .ok (.getfield 236, 3) := by decide +kernel
theorem dX13_readOthers_91 : decode cX13_readOthers 91 = .ok (.ifCond .ne 191, 3) := by decide +kernel
theorem dX13_readOthers_94 : decode cX13_readOthers 94 = .ok (.aload_n 0, 1) := by decide +kernel
theorem dX13_readOthers_95 : decode cX13_readOthers 95 = .ok (.aload_n 0, 1) := by decide +kernel
theorem dX13_readOthers_96 : decode cX13_readOthers 96 = .ok (.getfield 58, 3) := by decide +kernel
theorem dX13_readOthers_99 : decode cX13_readOthers 99 = .ok (.iload_n 1, 1) := by decide +kernel
theorem dX13_readOthers_100 : decode cX13_readOthers 100 = .ok (.iaload, 1) := by decide +kernel
theorem dX13_readOthers_101 : decode cX13_readOthers 101 = .ok (.invokevirtual 264, 3) := by decide +kernel
theorem dX13_readOthers_104 : decode cX13_readOthers 104 = .ok (.istore 6, 2) := by decide +kernel
theorem dX13_readOthers_106 : decode cX13_readOthers 106 = .ok (.iload 6, 2) := by decide +kernel
theorem dX13_readOthers_108 : decode cX13_readOthers 108 = .ok (.bipush 16, 2) := by decide +kernel
theorem dX13_readOthers_110 : decode cX13_readOthers 110 = .ok (.idiv, 1) := by decide +kernel
theorem dX13_readOthers_111 : decode cX13_readOthers 111 = .ok (.istore 7, 2) := by decide +kernel
theorem dX13_readOthers_113 : decode cX13_readOthers 113 = .ok (.iload 6, 2) := by decide +kernel
theorem dX13_readOthers_115 : decode cX13_readOthers 115 = .ok (.bipush 16, 2) := by decide +kernel
theorem dX13_readOthers_117 : decode cX13_readOthers 117 = .ok (.irem, 1) := by decide +kernel
theorem dX13_readOthers_118 : decode cX13_readOthers 118 = .ok (.istore 8, 2) := by decide +kernel
theorem dX13_readOthers_120 : decode cX13_readOthers 120 = .ok (.aload_n 0, 1) := by decide +kernel
theorem dX13_readOthers_121 : decode cX13_readOthers 121 = .ok (.getfield 236, 3) := by decide +kernel
theorem dX13_readOthers_124 : decode cX13_readOthers 124 = .ok (.ifCond .le 4, 3) := by decide +kernel
theorem dX13_readOthers_127 : decode cX13_readOthers 127 = .ok (.return_, 1) := by decide +kernel
theorem dX13_readOthers_128 : decode cX13_readOthers 128 = .ok (.iload 8, 2) := by decide +kernel
theorem dX13_readOthers_130 : decode cX13_readOthers 130 = .ok (.ifCond .ne 48, 3) := by decide +kernel
theorem dX13_readOthers_133 : decode cX13_readOthers 133 = .ok (.iload 7, 2) := by decide +kernel
theorem dX13_readOthers_135 : decode cX13_readOthers 135 = .ok (.bipush 15, 2) := by decide +kernel
theorem dX13_readOthers_137 : decode cX13_readOthers 137 = .ok (.if_icmp .ge 41, 3) := by decide +kernel
theorem dX13_readOthers_140 : decode cX13_readOthers 140 = .ok (.iload 4, 2) := by decide +kernel
theorem dX13_readOthers_142 : decode cX13_readOthers 142 = .ok (.ifCond .eq 23, 3) := by decide +kernel
theorem dX13_readOthers_145 : decode cX13_readOthers 145 = .ok (.aload_n 0, 1) := by decide +kernel
theorem dX13_readOthers_146 : decode cX13_readOthers 146 = .ok (.iconst 1, 1) := by decide +kernel
theorem dX13_readOthers_147 : decode cX13_readOthers 147 = .ok (.iload 7, 2) := by decide +kernel
theorem dX13_readOthers_149 : decode cX13_readOthers 149 = .ok (.ishl, 1) := by decide +kernel
theorem dX13_readOthers_150 : decode cX13_readOthers 150 = .ok (.aload_n 0, 1) := by decide +kernel
theorem dX13_readOthers_151 : decode cX13_readOthers 151 = .ok (.iload 7, 2) := by decide +kernel
theorem dX13_readOthers_153 : decode cX13_readOthers 153 = .ok (.invokevirtual 257, 3) := by decide +kernel
theorem dX13_readOthers_156 : decode cX13_readOthers 156 = .ok (.iadd, 1) := by decide +kernel
theorem dX13_readOthers_157 : decode cX13_readOthers 157 = .ok (.iconst 1, 1) := by decide +kernel
theorem dX13_readOthers_158 : decode cX13_readOthers 158 = .ok (.isub, 1) := by decide +kernel
theorem dX13_readOthers_159 : decode cX13_readOthers 159 = .ok (.putfield 177, 3) := by decide +kernel
theorem dX13_readOthers_162 : decode cX13_readOthers 162 = .ok (.goto 15, 3) := by decide +kernel
theorem dX13_readOthers_165 : decode cX13_readOthers 165 = .ok (.iload 7, 2) := by decide +kernel
theorem dX13_readOthers_167 : decode cX13_readOthers 167 = .ok (.ifCond .le 10, 3) := by decide +kernel
theorem dX13_readOthers_170 : decode cX13_readOthers 170 = .ok (.aload_n 0, 1) := by decide +kernel
theorem dX13_readOthers_171 : decode cX13_readOthers 171 = .ok (.iconst 3, 1) := by decide +kernel
theorem dX13_readOthers_172 : decode cX13_readOthers 172 = .ok (.invokevirtual 248, 3) := by decide +kernel
theorem dX13_readOthers_175 : decode cX13_readOthers 175 = .ok (.istore 9, 2) := by decide +kernel
theorem dX13_readOthers_177 : decode cX13_readOthers 177 = .ok (.return_, 1) := by decide +kernel
theorem dX13_readOthers_178 : decode cX13_readOthers 178 = .ok (.iload 8, 2) := by decide +kernel
theorem dX13_readOthers_180 : decode cX13_readOthers 180 = .ok (.bipush 10, 2) := by decide +kernel
theorem dX13_readOthers_182 : decode cX13_readOthers 182 = .ok (.if_icmp .gt 15, 3) := by decide +kernel
theorem dX13_readOthers_185 : decode cX13_readOthers 185 = .ok (.iload 5, 2) := by decide +kernel
theorem dX13_readOthers_187 : decode cX13_readOthers 187 = .ok (.iload 7, 2) := by decide +kernel
theorem dX13_readOthers_189 : decode cX13_readOthers 189 = .ok (.iadd, 1) := by decide +kernel
theorem dX13_readOthers_190 : decode cX13_readOthers 190 = .ok (.aload_n 0, 1) := by decide +kernel
theorem dX13_readOthers_191 : decode cX13_readOthers 191 = .ok (.getfield 109, 3) := by decide +kernel
theorem dX13_readOthers_194 : decode cX13_readOthers 194 = .ok (.if_icmp .le 11, 3) := by decide +kernel
theorem dX13_readOthers_197 : decode cX13_readOthers 197 = .ok (.aload_n 0, 1) := by decide +kernel
theorem dX13_readOthers_198 : decode cX13_readOthers 198 = .ok (.iconst 3, 1) := by decide +kernel
theorem dX13_readOthers_199 : decode cX13_readOthers 199 = .ok (.invokevirtual 248, 3) := by decide +kernel
theorem dX13_readOthers_202 : decode cX13_readOthers 202 = .ok (.istore 9, 2) := by decide +kernel
theorem dX13_readOthers_204 : decode cX13_readOthers 204 = .ok (.return_, 1) := by decide +kernel
theorem dX13_readOthers_205 : decode cX13_readOthers 205 = .ok (.iload 5, 2) := by decide +kernel
theorem dX13_readOthers_207 : decode cX13_readOthers 207 = .ok (.iload 7, 2) := by decide +kernel
theorem dX13_readOthers_209 : decode cX13_readOthers 209 = .ok (.iadd, 1) := by decide +kernel
theorem dX13_readOthers_210 : decode cX13_readOthers 210 = .ok (.istore 5, 2) := by decide +kernel
theorem dX13_readOthers_212 : decode cX13_readOthers 212 = .ok (.iload 8, 2) := by decide +kernel
theorem dX13_readOthers_214 : decode cX13_readOthers 214 = .ok (.ifCond .le 62, 3) := by decide +kernel
theorem dX13_readOthers_217 : decode cX13_readOthers 217 = .ok (.aload_n 0, 1) := by decide +kernel
theorem dX13_readOthers_218 : decode cX13_readOthers 218 = .ok (.iload 8, 2) := by decide +kernel
theorem dX13_readOthers_220 : decode cX13_readOthers 220 = .ok (.invokevirtual 267, 3) := by decide +kernel
theorem dX13_readOthers_223 : decode cX13_readOthers 223 = .ok (.istore 9, 2) := by decide +kernel
theorem dX13_readOthers_225 : decode cX13_readOthers 225 = .ok (.iload 9, 2) := by decide +kernel
theorem dX13_readOthers_227 : decode cX13_readOthers 227 = .ok (.ifCond .ge 9, 3) := by decide +kernel
theorem dX13_readOthers_230 : decode cX13_readOthers 230 = .ok (.iload 9, 2) := by decide +kernel
theorem dX13_readOthers_232 : decode cX13_readOthers 232 = .ok (.ineg, 1) := by decide +kernel
theorem dX13_readOthers_233 : decode cX13_readOthers 233 = .ok (.goto 5, 3) := by decide +kernel
theorem dX13_readOthers_236 : decode cX13_readOthers 236 = .ok (.iload 9, 2) := by decide +kernel
theorem dX13_readOthers_238 : decode cX13_readOthers 238 = .ok (.istore 10, 2) := by decide +kernel
theorem dX13_readOthers_240 : decode cX13_readOthers 240 = .ok (.aload_n 0, 1) := by decide +kernel
theorem dX13_readOthers_241 : decode cX13_readOthers 241 = .ok (.iload_n 1, 1) := by decide +kernel
theorem dX13_readOthers_242 : decode cX13_readOthers 242 = .ok (.iload_n 2, 1) := by decide +kernel
theorem dX13_readOthers_243 : decode cX13_readOthers 243 = .ok (.iload 5, 2) := by decide +kernel
theorem dX13_readOthers_245 : decode cX13_readOthers 245 = .ok (.iload 10, 2) := by decide +kernel
theorem dX13_readOthers_247 : decode cX13_readOthers 247 = .ok (.sipush 1023, 3) := by decide +kernel
theorem dX13_readOthers_250 : decode cX13_readOthers 250 = .ok (.aload_n 0, 1) := by decide +kernel
theorem dX13_readOthers_251 : decode cX13_readOthers 251 = .ok (.getfield 115, 3) := by decide +kernel
theorem dX13_readOthers_254 : decode cX13_readOthers 254 = .ok (.ishr, 1) := by decide +kernel
theorem dX13_readOthers_255 : decode cX13_readOthers 255 = .ok (.if_icmp .le 9, 3) := by decide +kernel
theorem dX13_readOthers_258 : decode cX13_readOthers 258 = .ok (.sipush 9999, 3) := by decide +kernel
theorem dX13_readOthers_261 : decode cX13_readOthers 261 = .ok (.goto 12, 3) := by decide +kernel
theorem dX13_readOthers_264 : decode cX13_readOthers 264 = .ok (.iload 9, 2) := by decide +kernel
theorem dX13_readOthers_266 : decode cX13_readOthers 266 = .ok (.iconst 1, 1) := by decide +kernel
theorem dX13_readOthers_267 : decode cX13_readOthers 267 = .ok (.aload_n 0, 1) := by decide +kernel
theorem dX13_readOthers_268 : decode cX13_readOthers 268 = .ok (.getfield 115, 3) := by decide +kernel
theorem dX13_readOthers_271 : decode cX13_readOthers 271 = .ok (.ishl, 1) := by decide +kernel
theorem dX13_readOthers_272 : decode cX13_readOthers 272 = .ok (.imul, 1) := by decide +kernel
theorem dX13_readOthers_273 : decode cX13_readOthers 273 = .ok (.invokevirtual 270, 3) := by decide +kernel
theorem dX13_readOthers_276 : decode cX13_readOthers 276 = .ok (.iinc 5 1, 3) := by decide +kernel
theorem dX13_readOthers_279 : decode cX13_readOthers 279 = .ok (.goto (-201), 3) := by decide +kernel
theorem dX13_readOthers_282 : decode cX13_readOthers 282 = .ok (.return_, 1) := by decide +kernel
theorem kcX13_readOthers_248 : px_cV mX13_readOthers 248 mX13_wrong 1 := ⟨⟨mbX13_wrong, by decide, by decide⟩, Or.inl (tb9 (List.mem_of_getElem? (i := 37) rfl)), vbX13_wrong⟩
theorem kcX13_readOthers_257 : px_cV mX13_readOthers 257 mX13_takeBits 1 := ⟨⟨mbX13_takeBits, by decide, by decide⟩, Or.inl (tb9 (List.mem_of_getElem? (i := 69) rfl)), vbX13_takeBits⟩
theorem kcX13_readOthers_264 : px_cV mX13_readOthers 264 mX13_symbol 1 := ⟨⟨mbX13_symbol, by decide, by decide⟩, Or.inl (tb9 (List.mem_of_getElem? (i := 61) rfl)), vbX13_symbol⟩
theorem kcX13_readOthers_267 : px_cV mX13_readOthers 267 mX13_numberOf 1 := ⟨⟨mbX13_numberOf, by decide, by decide⟩, Or.inl (tb9 (List.mem_of_getElem? (i := 65) rfl)), vbX13_numberOf⟩
theorem kcX13_readOthers_270 : px_cV mX13_readOthers 270 mX13_become 4 := ⟨⟨mbX13_become, by decide, by decide⟩, Or.inl (tb9 (List.mem_of_getElem? (i := 73) rfl)), vbX13_become⟩
set_option maxRecDepth 100000 in
set_option maxHeartbeats 4000000 in
theorem eX13_readOthers_276 {X : px_X} {k78 : Nat → Int32 → Int32 → Int32 → Int32 → px_W → Option (px_W)} (hk78 : ∀ (a0 : Nat) (a1 : Int32) (a2 : Int32) (a4 : Int32) (a5 : Int32) (w : px_W) (q : px_W), k78 a0 a1 a2 a4 a5 w = some q → EV X mX13_readOthers 78 [(0, .ref a0), (1, .int a1), (2, .int a2), (4, .int a4), (5, .int a5)] [] w none q) : ∀ (a0 : Nat) (a1 : Int32) (a2 : Int32) (a4 : Int32) (a5 : Int32) (w : px_W) (q : px_W), fX13_readOthers_276 X k78 a0 a1 a2 a4 a5 w = some q → EV X mX13_readOthers 276 [(0, .ref a0), (1, .int a1), (2, .int a2), (4, .int a4), (5, .int a5)] [] w none q := by
  intro a0 a1 a2 a4 a5 w q h
  unfold fX13_readOthers_276 at h
  refine EV.iinc 4 (a5 + 1) [(5, .int (a5 + 1)), (0, .ref a0), (1, .int a1), (2, .int a2), (4, .int a4)] dX13_readOthers_276 rfl rfl (by decide) rfl ?_
  refine EV.goto 78 dX13_readOthers_279 (by decide) ?_
  refine EV.sub [1, 2, 3, 4, 0] rfl ?_
  exact hk78 _ _ _ _ _ _ _ h
set_option maxRecDepth 100000 in
set_option maxHeartbeats 4000000 in
theorem eX13_readOthers_197 {X : px_X}  : ∀ (a0 : Nat) (w : px_W) (q : px_W), fX13_readOthers_197 X  a0 w = some q → EV X mX13_readOthers 197 [(0, .ref a0)] [] w none q := by
  intro a0 w q h
  unfold fX13_readOthers_197 at h
  refine EV.aload_n 0 dX13_readOthers_197 rfl rfl ?_
  refine EV.iconst (3) dX13_readOthers_198 (by decide) ?_
  obtain ⟨o33, go33, h⟩ := px_bs h
  obtain ⟨q34, gq34, h⟩ := px_bs h
  refine EV.callV (As := [.int 3]) (rest := []) dX13_readOthers_199 kcX13_readOthers_248 (gO_ok go33) rfl rfl rfl (Nat.le_of_ble_eq_true rfl) (Nat.le_of_ble_eq_true rfl) (eX13_wrong gq34) ?_
  refine EV.istore [(9, .int q34.1), (0, .ref a0)] dX13_readOthers_202 (by decide) rfl ?_
  cases h
  exact EV.ret0 dX13_readOthers_204 trivial
set_option maxRecDepth 100000 in
set_option maxHeartbeats 4000000 in
theorem eX13_readOthers_273 {X : px_X} {k78 : Nat → Int32 → Int32 → Int32 → Int32 → px_W → Option (px_W)} (hk78 : ∀ (a0 : Nat) (a1 : Int32) (a2 : Int32) (a4 : Int32) (a5 : Int32) (w : px_W) (q : px_W), k78 a0 a1 a2 a4 a5 w = some q → EV X mX13_readOthers 78 [(0, .ref a0), (1, .int a1), (2, .int a2), (4, .int a4), (5, .int a5)] [] w none q) : ∀ (a0 : Nat) (a1 : Int32) (a2 : Int32) (a4 : Int32) (a5 : Int32) (s0 : Int32) (s1 : Int32) (s2 : Int32) (s3 : Int32) (s4 : Nat) (w : px_W) (q : px_W), fX13_readOthers_273 X k78 a0 a1 a2 a4 a5 s0 s1 s2 s3 s4 w = some q → EV X mX13_readOthers 273 [(0, .ref a0), (1, .int a1), (2, .int a2), (4, .int a4), (5, .int a5)] [.int s0, .int s1, .int s2, .int s3, .ref s4] w none q := by
  intro a0 a1 a2 a4 a5 s0 s1 s2 s3 s4 w q h
  unfold fX13_readOthers_273 at h
  obtain ⟨o35, go35, h⟩ := px_bs h
  obtain ⟨q36, gq36, h⟩ := px_bs h
  refine EV.callV (As := [.int s3, .int s2, .int s1, .int s0]) (rest := []) dX13_readOthers_273 kcX13_readOthers_270 (gO_ok go35) rfl rfl rfl (Nat.le_of_ble_eq_true rfl) (Nat.le_of_ble_eq_true rfl) (eX13_become gq36) ?_
  refine EV.sub [0, 1, 2, 3, 4] rfl ?_
  exact eX13_readOthers_276 hk78 _ _ _ _ _ _ _ h
set_option maxRecDepth 100000 in
set_option maxHeartbeats 4000000 in
theorem eX13_readOthers_238 {X : px_X} {k78 : Nat → Int32 → Int32 → Int32 → Int32 → px_W → Option (px_W)} (hk78 : ∀ (a0 : Nat) (a1 : Int32) (a2 : Int32) (a4 : Int32) (a5 : Int32) (w : px_W) (q : px_W), k78 a0 a1 a2 a4 a5 w = some q → EV X mX13_readOthers 78 [(0, .ref a0), (1, .int a1), (2, .int a2), (4, .int a4), (5, .int a5)] [] w none q) : ∀ (a0 : Nat) (a1 : Int32) (a2 : Int32) (a4 : Int32) (a5 : Int32) (a9 : Int32) (s0 : Int32) (w : px_W) (q : px_W), fX13_readOthers_238 X k78 a0 a1 a2 a4 a5 a9 s0 w = some q → EV X mX13_readOthers 238 [(0, .ref a0), (1, .int a1), (2, .int a2), (4, .int a4), (5, .int a5), (9, .int a9)] [.int s0] w none q := by
  intro a0 a1 a2 a4 a5 a9 s0 w q h
  unfold fX13_readOthers_238 at h
  refine EV.istore [(10, .int s0), (0, .ref a0), (1, .int a1), (2, .int a2), (4, .int a4), (5, .int a5), (9, .int a9)] dX13_readOthers_238 (by decide) rfl ?_
  refine EV.aload_n 1 dX13_readOthers_240 rfl rfl ?_
  refine EV.iload_n 2 dX13_readOthers_241 rfl rfl ?_
  refine EV.iload_n 3 dX13_readOthers_242 rfl rfl ?_
  refine EV.iload 5 dX13_readOthers_243 rfl ?_
  refine EV.iload 0 dX13_readOthers_245 rfl ?_
  refine EV.sipush (1023) dX13_readOthers_247 (by decide) ?_
  refine EV.aload_n 1 dX13_readOthers_250 rfl rfl ?_
  obtain ⟨v37, gv37, h⟩ := px_bs h
  refine ev_gI dX13_readOthers_251 flRX13_115 gv37 ?_
  refine EV.ishr dX13_readOthers_254 ?_
  refine EV.icmp_le 264 dX13_readOthers_255 (by decide) (fun c38 => ?_) (fun c38 => ?_)
  · rw [if_pos c38] at h
    refine EV.iload 6 dX13_readOthers_264 rfl ?_
    refine EV.iconst (1) dX13_readOthers_266 (by decide) ?_
    refine EV.aload_n 1 dX13_readOthers_267 rfl rfl ?_
    obtain ⟨v39, gv39, h⟩ := px_bs h
    refine ev_gI dX13_readOthers_268 flRX13_115 gv39 ?_
    refine EV.ishl dX13_readOthers_271 ?_
    refine EV.imul dX13_readOthers_272 ?_
    refine EV.sub [1, 2, 3, 4, 5] rfl ?_
    exact eX13_readOthers_273 hk78 _ _ _ _ _ _ _ _ _ _ _ _ h
  · rw [if_neg c38] at h
    refine EV.sipush (9999) dX13_readOthers_258 (by decide) ?_
    refine EV.goto 273 dX13_readOthers_261 (by decide) ?_
    refine EV.sub [1, 2, 3, 4, 5] rfl ?_
    exact eX13_readOthers_273 hk78 _ _ _ _ _ _ _ _ _ _ _ _ h
set_option maxRecDepth 100000 in
set_option maxHeartbeats 4000000 in
theorem eX13_readOthers_178 {X : px_X} {k78 : Nat → Int32 → Int32 → Int32 → Int32 → px_W → Option (px_W)} (hk78 : ∀ (a0 : Nat) (a1 : Int32) (a2 : Int32) (a4 : Int32) (a5 : Int32) (w : px_W) (q : px_W), k78 a0 a1 a2 a4 a5 w = some q → EV X mX13_readOthers 78 [(0, .ref a0), (1, .int a1), (2, .int a2), (4, .int a4), (5, .int a5)] [] w none q) : ∀ (a0 : Nat) (a1 : Int32) (a2 : Int32) (a4 : Int32) (a5 : Int32) (a7 : Int32) (a8 : Int32) (w : px_W) (q : px_W), fX13_readOthers_178 X k78 a0 a1 a2 a4 a5 a7 a8 w = some q → EV X mX13_readOthers 178 [(0, .ref a0), (1, .int a1), (2, .int a2), (4, .int a4), (5, .int a5), (7, .int a7), (8, .int a8)] [] w none q := by
  intro a0 a1 a2 a4 a5 a7 a8 w q h
  unfold fX13_readOthers_178 at h
  refine EV.iload 6 dX13_readOthers_178 rfl ?_
  refine EV.bipush (10) dX13_readOthers_180 (by decide) ?_
  refine EV.icmp_gt 197 dX13_readOthers_182 (by decide) (fun c40 => ?_) (fun c40 => ?_)
  · rw [if_pos c40] at h
    refine EV.sub [0] rfl ?_
    exact eX13_readOthers_197  _ _ _ h
  · rw [if_neg c40] at h
    refine EV.iload 4 dX13_readOthers_185 rfl ?_
    refine EV.iload 5 dX13_readOthers_187 rfl ?_
    refine EV.iadd dX13_readOthers_189 ?_
    refine EV.aload_n 0 dX13_readOthers_190 rfl rfl ?_
    obtain ⟨v41, gv41, h⟩ := px_bs h
    refine ev_gI dX13_readOthers_191 flRX13_109 gv41 ?_
    refine EV.icmp_le 205 dX13_readOthers_194 (by decide) (fun c42 => ?_) (fun c42 => ?_)
    · rw [if_pos c42] at h
      refine EV.iload 4 dX13_readOthers_205 rfl ?_
      refine EV.iload 5 dX13_readOthers_207 rfl ?_
      refine EV.iadd dX13_readOthers_209 ?_
      refine EV.istore [(5, .int (a5 + a7)), (0, .ref a0), (1, .int a1), (2, .int a2), (4, .int a4), (7, .int a7), (8, .int a8)] dX13_readOthers_210 (by decide) rfl ?_
      refine EV.iload 6 dX13_readOthers_212 rfl ?_
      refine EV.if_le 276 dX13_readOthers_214 (by decide) (fun c43 => ?_) (fun c43 => ?_)
      · rw [if_pos c43] at h
        refine EV.sub [1, 2, 3, 4, 0] rfl ?_
        exact eX13_readOthers_276 hk78 _ _ _ _ _ _ _ h
      · rw [if_neg c43] at h
        refine EV.aload_n 1 dX13_readOthers_217 rfl rfl ?_
        refine EV.iload 6 dX13_readOthers_218 rfl ?_
        obtain ⟨o44, go44, h⟩ := px_bs h
        obtain ⟨q45, gq45, h⟩ := px_bs h
        refine EV.callV (As := [.int a8]) (rest := []) dX13_readOthers_220 kcX13_readOthers_267 (gO_ok go44) rfl rfl rfl (Nat.le_of_ble_eq_true rfl) (Nat.le_of_ble_eq_true rfl) (eX13_numberOf gq45) ?_
        refine EV.istore [(9, .int q45.1), (5, .int (a5 + a7)), (0, .ref a0), (1, .int a1), (2, .int a2), (4, .int a4), (7, .int a7), (8, .int a8)] dX13_readOthers_223 (by decide) rfl ?_
        refine EV.iload 0 dX13_readOthers_225 rfl ?_
        refine EV.if_ge 236 dX13_readOthers_227 (by decide) (fun c46 => ?_) (fun c46 => ?_)
        · rw [if_pos c46] at h
          refine EV.iload 0 dX13_readOthers_236 rfl ?_
          refine EV.sub [2, 3, 4, 5, 1, 0] rfl ?_
          exact eX13_readOthers_238 hk78 _ _ _ _ _ _ _ _ _ h
        · rw [if_neg c46] at h
          refine EV.iload 0 dX13_readOthers_230 rfl ?_
          refine EV.ineg dX13_readOthers_232 ?_
          refine EV.goto 238 dX13_readOthers_233 (by decide) ?_
          refine EV.sub [2, 3, 4, 5, 1, 0] rfl ?_
          exact eX13_readOthers_238 hk78 _ _ _ _ _ _ _ _ _ h
    · rw [if_neg c42] at h
      refine EV.sub [0] rfl ?_
      exact eX13_readOthers_197  _ _ _ h
set_option maxRecDepth 100000 in
set_option maxHeartbeats 4000000 in
theorem eX13_readOthers_140 {X : px_X}  : ∀ (a0 : Nat) (a4 : Int32) (a7 : Int32) (w : px_W) (q : px_W), fX13_readOthers_140 X  a0 a4 a7 w = some q → EV X mX13_readOthers 140 [(0, .ref a0), (4, .int a4), (7, .int a7)] [] w none q := by
  intro a0 a4 a7 w q h
  unfold fX13_readOthers_140 at h
  refine EV.iload 1 dX13_readOthers_140 rfl ?_
  refine EV.if_eq 165 dX13_readOthers_142 (by decide) (fun c47 => ?_) (fun c47 => ?_)
  · rw [if_pos c47] at h
    refine EV.iload 2 dX13_readOthers_165 rfl ?_
    refine EV.if_le 177 dX13_readOthers_167 (by decide) (fun c48 => ?_) (fun c48 => ?_)
    · rw [if_pos c48] at h
      cases h
      exact EV.ret0 dX13_readOthers_177 trivial
    · rw [if_neg c48] at h
      refine EV.aload_n 0 dX13_readOthers_170 rfl rfl ?_
      refine EV.iconst (3) dX13_readOthers_171 (by decide) ?_
      obtain ⟨o49, go49, h⟩ := px_bs h
      obtain ⟨q50, gq50, h⟩ := px_bs h
      refine EV.callV (As := [.int 3]) (rest := []) dX13_readOthers_172 kcX13_readOthers_248 (gO_ok go49) rfl rfl rfl (Nat.le_of_ble_eq_true rfl) (Nat.le_of_ble_eq_true rfl) (eX13_wrong gq50) ?_
      refine EV.istore [(9, .int q50.1), (0, .ref a0), (4, .int a4), (7, .int a7)] dX13_readOthers_175 (by decide) rfl ?_
      cases h
      exact EV.ret0 dX13_readOthers_177 trivial
  · rw [if_neg c47] at h
    refine EV.aload_n 0 dX13_readOthers_145 rfl rfl ?_
    refine EV.iconst (1) dX13_readOthers_146 (by decide) ?_
    refine EV.iload 2 dX13_readOthers_147 rfl ?_
    refine EV.ishl dX13_readOthers_149 ?_
    refine EV.aload_n 0 dX13_readOthers_150 rfl rfl ?_
    refine EV.iload 2 dX13_readOthers_151 rfl ?_
    obtain ⟨o51, go51, h⟩ := px_bs h
    obtain ⟨q52, gq52, h⟩ := px_bs h
    refine EV.callV (As := [.int a7]) (rest := [.int ((1 : Int32) <<< (a7 &&& 31)), .ref a0]) dX13_readOthers_153 kcX13_readOthers_257 (gO_ok go51) rfl rfl rfl (Nat.le_of_ble_eq_true rfl) (Nat.le_of_ble_eq_true rfl) (eX13_takeBits gq52) ?_
    refine EV.iadd dX13_readOthers_156 ?_
    refine EV.iconst (1) dX13_readOthers_157 (by decide) ?_
    refine EV.isub dX13_readOthers_158 ?_
    obtain ⟨w53, gw53, h⟩ := px_bs h
    refine ev_pV dX13_readOthers_159 flRX13_177 rfl rfl rfl rfl gw53 ?_
    refine EV.goto 177 dX13_readOthers_162 (by decide) ?_
    cases h
    exact EV.ret0 dX13_readOthers_177 trivial
set_option maxRecDepth 100000 in
set_option maxHeartbeats 4000000 in
theorem eX13_readOthers_78 {X : px_X}  : ∀ (m : Nat) (a0 : Nat) (a1 : Int32) (a2 : Int32) (a4 : Int32) (a5 : Int32) (w : px_W) (q : px_W), fX13_readOthers_78 X  m a0 a1 a2 a4 a5 w = some q → EV X mX13_readOthers 78 [(0, .ref a0), (1, .int a1), (2, .int a2), (4, .int a4), (5, .int a5)] [] w none q := by
  intro m
  induction m with
  | zero => intro a0 a1 a2 a4 a5 w q h; cases h
  | succ m ih =>
    intro a0 a1 a2 a4 a5 w q h
    rw [fX13_readOthers_78.eq_2] at h
    refine EV.iload 4 dX13_readOthers_78 rfl ?_
    refine EV.aload_n 0 dX13_readOthers_80 rfl rfl ?_
    obtain ⟨v54, gv54, h⟩ := px_bs h
    refine ev_gI dX13_readOthers_81 flRX13_109 gv54 ?_
    refine EV.icmp_gt 282 dX13_readOthers_84 (by decide) (fun c55 => ?_) (fun c55 => ?_)
    · rw [if_pos c55] at h
      cases h
      exact EV.ret0 dX13_readOthers_282 trivial
    · rw [if_neg c55] at h
      refine EV.aload_n 0 dX13_readOthers_87 rfl rfl ?_
      obtain ⟨v56, gv56, h⟩ := px_bs h
      refine ev_gI dX13_readOthers_88 flRX13_236 gv56 ?_
      refine EV.if_ne 282 dX13_readOthers_91 (by decide) (fun c57 => ?_) (fun c57 => ?_)
      · rw [if_neg c57] at h
        cases h
        exact EV.ret0 dX13_readOthers_282 trivial
      · rw [if_pos c57] at h
        refine EV.aload_n 0 dX13_readOthers_94 rfl rfl ?_
        refine EV.aload_n 0 dX13_readOthers_95 rfl rfl ?_
        obtain ⟨v58, gv58, h⟩ := px_bs h
        refine ev_gR dX13_readOthers_96 flRX13_58 gv58 ?_
        refine EV.iload_n 1 dX13_readOthers_99 rfl rfl ?_
        obtain ⟨v59, gv59, h⟩ := px_bs h
        refine ev_aI dX13_readOthers_100 gv59 ?_
        obtain ⟨o60, go60, h⟩ := px_bs h
        obtain ⟨q61, gq61, h⟩ := px_bs h
        refine EV.callV (As := [.int v59]) (rest := []) dX13_readOthers_101 kcX13_readOthers_264 (gO_ok go60) rfl rfl rfl (Nat.le_of_ble_eq_true rfl) (Nat.le_of_ble_eq_true rfl) (eX13_symbol gq61) ?_
        refine EV.istore [(6, .int q61.1), (0, .ref a0), (1, .int a1), (2, .int a2), (4, .int a4), (5, .int a5)] dX13_readOthers_104 (by decide) rfl ?_
        refine EV.iload 0 dX13_readOthers_106 rfl ?_
        refine EV.bipush (16) dX13_readOthers_108 (by decide) ?_
        obtain ⟨v62, gv62, h⟩ := px_bs h
        refine ev_dI dX13_readOthers_110 gv62 ?_
        refine EV.istore [(7, .int v62), (6, .int q61.1), (0, .ref a0), (1, .int a1), (2, .int a2), (4, .int a4), (5, .int a5)] dX13_readOthers_111 (by decide) rfl ?_
        refine EV.iload 1 dX13_readOthers_113 rfl ?_
        refine EV.bipush (16) dX13_readOthers_115 (by decide) ?_
        obtain ⟨v63, gv63, h⟩ := px_bs h
        refine ev_rI dX13_readOthers_117 gv63 ?_
        refine EV.istore [(8, .int v63), (7, .int v62), (6, .int q61.1), (0, .ref a0), (1, .int a1), (2, .int a2), (4, .int a4), (5, .int a5)] dX13_readOthers_118 (by decide) rfl ?_
        refine EV.aload_n 3 dX13_readOthers_120 rfl rfl ?_
        obtain ⟨v64, gv64, h⟩ := px_bs h
        refine ev_gI dX13_readOthers_121 flRX13_236 gv64 ?_
        refine EV.if_le 128 dX13_readOthers_124 (by decide) (fun c65 => ?_) (fun c65 => ?_)
        · rw [if_pos c65] at h
          refine EV.iload 0 dX13_readOthers_128 rfl ?_
          refine EV.if_ne 178 dX13_readOthers_130 (by decide) (fun c66 => ?_) (fun c66 => ?_)
          · rw [if_neg c66] at h
            refine EV.sub [3, 4, 5, 6, 7, 1, 0] rfl ?_
            exact eX13_readOthers_178 ih _ _ _ _ _ _ _ _ _ h
          · rw [if_pos c66] at h
            refine EV.iload 1 dX13_readOthers_133 rfl ?_
            refine EV.bipush (15) dX13_readOthers_135 (by decide) ?_
            refine EV.icmp_ge 178 dX13_readOthers_137 (by decide) (fun c67 => ?_) (fun c67 => ?_)
            · rw [if_pos c67] at h
              refine EV.sub [3, 4, 5, 6, 7, 1, 0] rfl ?_
              exact eX13_readOthers_178 ih _ _ _ _ _ _ _ _ _ h
            · rw [if_neg c67] at h
              refine EV.sub [3, 6, 1] rfl ?_
              exact eX13_readOthers_140  _ _ _ _ _ h
        · rw [if_neg c65] at h
          cases h
          exact EV.ret0 dX13_readOthers_127 trivial
set_option maxRecDepth 100000 in
set_option maxHeartbeats 4000000 in
theorem eX13_readOthers_75 {X : px_X}  : ∀ (a0 : Nat) (a1 : Int32) (a2 : Int32) (a3 : Int32) (a4 : Int32) (w : px_W) (q : px_W), fX13_readOthers_75 X  a0 a1 a2 a3 a4 w = some q → EV X mX13_readOthers 75 [(0, .ref a0), (1, .int a1), (2, .int a2), (3, .int a3), (4, .int a4)] [] w none q := by
  intro a0 a1 a2 a3 a4 w q h
  unfold fX13_readOthers_75 at h
  refine EV.iload_n 3 dX13_readOthers_75 rfl rfl ?_
  refine EV.istore [(5, .int a3), (0, .ref a0), (1, .int a1), (2, .int a2), (3, .int a3), (4, .int a4)] dX13_readOthers_76 (by decide) rfl ?_
  refine EV.sub [1, 2, 3, 5, 0] rfl ?_
  exact eX13_readOthers_78  FU _ _ _ _ _ _ _ h
set_option maxRecDepth 100000 in
set_option maxHeartbeats 4000000 in
theorem eX13_readOthers_52 {X : px_X}  : ∀ (a0 : Nat) (a1 : Int32) (a2 : Int32) (a3 : Int32) (a4 : Int32) (w : px_W) (q : px_W), fX13_readOthers_52 X  a0 a1 a2 a3 a4 w = some q → EV X mX13_readOthers 52 [(0, .ref a0), (1, .int a1), (2, .int a2), (3, .int a3), (4, .int a4)] [] w none q := by
  intro a0 a1 a2 a3 a4 w q h
  unfold fX13_readOthers_52 at h
  refine EV.iload 4 dX13_readOthers_52 rfl ?_
  refine EV.if_eq 75 dX13_readOthers_54 (by decide) (fun c68 => ?_) (fun c68 => ?_)
  · rw [if_pos c68] at h
    refine EV.sub [0, 1, 2, 3, 4] rfl ?_
    exact eX13_readOthers_75  _ _ _ _ _ _ _ h
  · rw [if_neg c68] at h
    refine EV.aload_n 0 dX13_readOthers_57 rfl rfl ?_
    obtain ⟨v69, gv69, h⟩ := px_bs h
    refine ev_gI dX13_readOthers_58 flRX13_177 gv69 ?_
    refine EV.if_le 75 dX13_readOthers_61 (by decide) (fun c70 => ?_) (fun c70 => ?_)
    · rw [if_pos c70] at h
      refine EV.sub [0, 1, 2, 3, 4] rfl ?_
      exact eX13_readOthers_75  _ _ _ _ _ _ _ h
    · rw [if_neg c70] at h
      refine EV.aload_n 0 dX13_readOthers_64 rfl rfl ?_
      refine EV.dup dX13_readOthers_65 rfl ?_
      obtain ⟨v71, gv71, h⟩ := px_bs h
      refine ev_gI dX13_readOthers_66 flRX13_177 gv71 ?_
      refine EV.iconst (1) dX13_readOthers_69 (by decide) ?_
      refine EV.isub dX13_readOthers_70 ?_
      obtain ⟨w72, gw72, h⟩ := px_bs h
      refine ev_pV dX13_readOthers_71 flRX13_177 rfl rfl rfl rfl gw72 ?_
      cases h
      exact EV.ret0 dX13_readOthers_74 trivial
set_option maxRecDepth 100000 in
set_option maxHeartbeats 4000000 in
theorem eX13_readOthers_17 {X : px_X}  : ∀ (m : Nat) (a0 : Nat) (a1 : Int32) (a2 : Int32) (a3 : Int32) (a4 : Int32) (a5 : Int32) (w : px_W) (q : px_W), fX13_readOthers_17 X  m a0 a1 a2 a3 a4 a5 w = some q → EV X mX13_readOthers 17 [(0, .ref a0), (1, .int a1), (2, .int a2), (3, .int a3), (4, .int a4), (5, .int a5)] [] w none q := by
  intro m
  induction m with
  | zero => intro a0 a1 a2 a3 a4 a5 w q h; cases h
  | succ m ih =>
    intro a0 a1 a2 a3 a4 a5 w q h
    rw [fX13_readOthers_17.eq_2] at h
    refine EV.iload 5 dX13_readOthers_17 rfl ?_
    refine EV.aload_n 0 dX13_readOthers_19 rfl rfl ?_
    obtain ⟨v73, gv73, h⟩ := px_bs h
    refine ev_gI dX13_readOthers_20 flRX13_109 gv73 ?_
    refine EV.icmp_gt 52 dX13_readOthers_23 (by decide) (fun c74 => ?_) (fun c74 => ?_)
    · rw [if_pos c74] at h
      refine EV.sub [0, 1, 2, 3, 4] rfl ?_
      exact eX13_readOthers_52  _ _ _ _ _ _ _ h
    · rw [if_neg c74] at h
      refine EV.aload_n 0 dX13_readOthers_26 rfl rfl ?_
      obtain ⟨v75, gv75, h⟩ := px_bs h
      refine ev_gR dX13_readOthers_27 flRX13_33 gv75 ?_
      refine EV.bipush (64) dX13_readOthers_30 (by decide) ?_
      refine EV.aload_n 0 dX13_readOthers_32 rfl rfl ?_
      obtain ⟨v76, gv76, h⟩ := px_bs h
      refine ev_gR dX13_readOthers_33 flRX13_30 gv76 ?_
      refine EV.iload_n 1 dX13_readOthers_36 rfl rfl ?_
      obtain ⟨v77, gv77, h⟩ := px_bs h
      refine ev_aI dX13_readOthers_37 gv77 ?_
      refine EV.iload_n 2 dX13_readOthers_38 rfl rfl ?_
      refine EV.iadd dX13_readOthers_39 ?_
      refine EV.imul dX13_readOthers_40 ?_
      refine EV.iload 5 dX13_readOthers_41 rfl ?_
      refine EV.iadd dX13_readOthers_43 ?_
      refine EV.iconst (0) dX13_readOthers_44 (by decide) ?_
      obtain ⟨w78, gw78, h⟩ := px_bs h
      refine ev_sS dX13_readOthers_45 gw78 ?_
      refine EV.iinc 5 (a5 + 1) [(5, .int (a5 + 1)), (0, .ref a0), (1, .int a1), (2, .int a2), (3, .int a3), (4, .int a4)] dX13_readOthers_46 rfl rfl (by decide) rfl ?_
      refine EV.goto 17 dX13_readOthers_49 (by decide) ?_
      refine EV.sub [1, 2, 3, 4, 5, 0] rfl ?_
      exact ih _ _ _ _ _ _ _ _ h
set_option maxRecDepth 100000 in
set_option maxHeartbeats 4000000 in
theorem eX13_readOthers_12 {X : px_X}  : ∀ (a0 : Nat) (a1 : Int32) (a2 : Int32) (a3 : Int32) (s0 : Int32) (w : px_W) (q : px_W), fX13_readOthers_12 X  a0 a1 a2 a3 s0 w = some q → EV X mX13_readOthers 12 [(0, .ref a0), (1, .int a1), (2, .int a2), (3, .int a3)] [.int s0] w none q := by
  intro a0 a1 a2 a3 s0 w q h
  unfold fX13_readOthers_12 at h
  refine EV.istore [(4, .int s0), (0, .ref a0), (1, .int a1), (2, .int a2), (3, .int a3)] dX13_readOthers_12 (by decide) rfl ?_
  refine EV.iload_n 4 dX13_readOthers_14 rfl rfl ?_
  refine EV.istore [(5, .int a3), (4, .int s0), (0, .ref a0), (1, .int a1), (2, .int a2), (3, .int a3)] dX13_readOthers_15 (by decide) rfl ?_
  refine EV.sub [2, 3, 4, 5, 1, 0] rfl ?_
  exact eX13_readOthers_17  FU _ _ _ _ _ _ _ _ h
set_option maxRecDepth 100000 in
set_option maxHeartbeats 4000000 in
theorem eX13_readOthers {X : px_X} {w : px_W} {a0 : Nat} {a1 : Int32} {a2 : Int32} {a3 : Int32} {q : px_W} (h : fX13_readOthers X w a0 a1 a2 a3 = some q) : EV X mX13_readOthers 0 (lv_args 0 [.ref a0, .int a1, .int a2, .int a3]) [] w none q := by
  unfold fX13_readOthers at h
  show EV X mX13_readOthers 0 [(0, .ref a0), (1, .int a1), (2, .int a2), (3, .int a3)] [] w none q
  refine EV.aload_n 0 dX13_readOthers_0 rfl rfl ?_
  obtain ⟨v79, gv79, h⟩ := px_bs h
  refine ev_gI dX13_readOthers_1 flRX13_106 gv79 ?_
  refine EV.if_le 11 dX13_readOthers_4 (by decide) (fun c80 => ?_) (fun c80 => ?_)
  · rw [if_pos c80] at h
    refine EV.iconst (0) dX13_readOthers_11 (by decide) ?_
    refine EV.sub [0, 1, 2, 3] rfl ?_
    exact eX13_readOthers_12  _ _ _ _ _ _ _ h
  · rw [if_neg c80] at h
    refine EV.iconst (1) dX13_readOthers_7 (by decide) ?_
    refine EV.goto 12 dX13_readOthers_8 (by decide) ?_
    refine EV.sub [0, 1, 2, 3] rfl ?_
    exact eX13_readOthers_12  _ _ _ _ _ _ _ h
/-! WavePicturesModel$Scans.more(III)V -/
theorem dX13_more_0 : decode cX13_more 0 = .ok (.bipush 64, 2) := by decide +kernel
theorem dX13_more_2 : decode cX13_more 2 = .ok (.aload_n 0, 1) := by decide +kernel
theorem dX13_more_3 : decode cX13_more 3 = .ok (.getfield 30, 3) := by decide +kernel
theorem dX13_more_6 : decode cX13_more 6 = .ok (.iload_n 1, 1) := by decide +kernel
theorem dX13_more_7 : decode cX13_more 7 = .ok (.iaload, 1) := by decide +kernel
theorem dX13_more_8 : decode cX13_more 8 = .ok (.iload_n 2, 1) := by decide +kernel
theorem dX13_more_9 : decode cX13_more 9 = .ok (.iadd, 1) := by decide +kernel
theorem dX13_more_10 : decode cX13_more 10 = .ok (.imul, 1) := by decide +kernel
theorem dX13_more_11 : decode cX13_more 11 = .ok (.iload_n 3, 1) := by decide +kernel
theorem dX13_more_12 : decode cX13_more 12 = .ok (.iadd, 1) := by decide +kernel
theorem dX13_more_13 : decode cX13_more 13 = .ok (.istore 4, 2) := by decide +kernel
theorem dX13_more_15 : decode cX13_more 15 = .ok (.iconst 1, 1) := by decide +kernel
theorem dX13_more_16 : decode cX13_more 16 = .ok (.aload_n 0, 1) := by decide +kernel
theorem dX13_more_17 : decode cX13_more 17 = .ok (.getfield 115, 3) := by decide +kernel
theorem dX13_more_20 : decode cX13_more 20 = .ok (.ishl, 1) := by decide +kernel
theorem dX13_more_21 : decode cX13_more 21 = .ok (.istore 5, 2) := by decide +kernel
theorem dX13_more_23 : decode cX13_more 23 = .ok (.aload_n 0, 1) := by decide +kernel
theorem dX13_more_24 : decode cX13_more 24 = .ok (.getfield 33, 3) := by decide +kernel
theorem dX13_more_27 : decode cX13_more 27 = .ok (.iload 4, 2) := by decide +kernel
theorem dX13_more_29 : decode cX13_more 29 = .ok (.saload, 1) := by decide +kernel
theorem dX13_more_30 : decode cX13_more 30 = .ok (.ifCond .ge 14, 3) := by decide +kernel
theorem dX13_more_33 : decode cX13_more 33 = .ok (.aload_n 0, 1) := by decide +kernel
theorem dX13_more_34 : decode cX13_more 34 = .ok (.getfield 33, 3) := by decide +kernel
theorem dX13_more_37 : decode cX13_more 37 = .ok (.iload 4, 2) := by decide +kernel
theorem dX13_more_39 : decode cX13_more 39 = .ok (.saload, 1) := by decide +kernel
theorem dX13_more_40 : decode cX13_more 40 = .ok (.ineg, 1) := by decide +kernel
theorem dX13_more_41 : decode cX13_more 41 = .ok (.goto 10, 3) := by decide +kernel
theorem dX13_more_44 : decode cX13_more 44 = .ok (.aload_n 0, 1) := by decide +kernel
theorem dX13_more_45 : decode cX13_more 45 = .ok (.getfield 33, 3) := by decide +kernel
theorem dX13_more_48 : decode cX13_more 48 = .ok (.iload 4, 2) := by decide +kernel
theorem dX13_more_50 : decode cX13_more 50 = .ok (.saload, 1) := by decide +kernel
theorem dX13_more_51 : decode cX13_more 51 = .ok (.istore 6, 2) := by decide +kernel
theorem dX13_more_53 : decode cX13_more 53 = .ok (.aload_n 0, 1) := by decide +kernel
theorem dX13_more_54 : decode cX13_more 54 = .ok (.invokevirtual 254, 3) := by decide +kernel
theorem dX13_more_57 : decode cX13_more 57 = .ok (.iconst 1, 1) := by decide +kernel
theorem dX13_more_58 : decode cX13_more 58 = .ok (.if_icmp .ne 52, 3) := by decide +kernel
theorem dX13_more_61 : decode cX13_more 61 = .ok (.iload 6, 2) := by decide +kernel
theorem dX13_more_63 : decode cX13_more 63 = .ok (.iload 5, 2) := by decide +kernel
theorem dX13_more_65 : decode cX13_more 65 = .ok (.iand, 1) := by decide +kernel
theorem dX13_more_66 : decode cX13_more 66 = .ok (.ifCond .ne 44, 3) := by decide +kernel
theorem dX13_more_69 : decode cX13_more 69 = .ok (.aload_n 0, 1) := by decide +kernel
theorem dX13_more_70 : decode cX13_more 70 = .ok (.getfield 33, 3) := by decide +kernel
theorem dX13_more_73 : decode cX13_more 73 = .ok (.iload 4, 2) := by decide +kernel
theorem dX13_more_75 : decode cX13_more 75 = .ok (.aload_n 0, 1) := by decide +kernel
theorem dX13_more_76 : decode cX13_more 76 = .ok (.getfield 33, 3) := by decide +kernel
theorem dX13_more_79 : decode cX13_more 79 = .ok (.iload 4, 2) := by decide +kernel
theorem dX13_more_81 : decode cX13_more 81 = .ok (.saload, 1) := by decide +kernel
theorem dX13_more_82 : decode cX13_more 82 = .ok (.ifCond .ge 16, 3) := by decide +kernel
theorem dX13_more_85 : decode cX13_more 85 = .ok (.aload_n 0, 1) := by decide +kernel
theorem dX13_more_86 : decode cX13_more 86 = .ok (.getfield 33, 3) := by decide +kernel
theorem dX13_more_89 : decode cX13_more 89 = .ok (.iload 4, 2) := by decide +kernel
theorem dX13_more_91 : decode cX13_more 91 = .ok (.saload, 1) := by decide +kernel
theorem dX13_more_92 : decode cX13_more 92 = .ok (.iload 5, 2) := by decide +kernel
theorem dX13_more_94 : decode cX13_more 94 = .ok (.isub, 1) := by decide +kernel
theorem dX13_more_95 : decode cX13_more 95 = .ok (.goto 13, 3) := by decide +kernel
theorem dX13_more_98 : decode cX13_more 98 = .ok (.aload_n 0, 1) := by decide +kernel
theorem dX13_more_99 : decode cX13_more 99 = .ok (.getfield 33, 3) := by decide +kernel
theorem dX13_more_102 : decode cX13_more 102 = .ok (.iload 4, 2) := by decide +kernel
theorem dX13_more_104 : decode cX13_more 104 = .ok (.saload, 1) := by decide +kernel
theorem dX13_more_105 : decode cX13_more 105 = .ok (.iload 5, 2) := by decide +kernel
theorem dX13_more_107 : decode cX13_more 107 = .ok (.iadd, 1) := by decide +kernel
theorem dX13_more_108 : decode cX13_more 108 = .ok (.i2s, 1) := by decide +kernel
theorem dX13_more_109 : decode cX13_more 109 = .ok (.sastore, 1) := by decide +kernel
theorem dX13_more_110 : decode cX13_more 110 = .ok (.return_, 1) := by decide +kernel
theorem kcX13_more_254 : px_cV mX13_more 254 mX13_takeBit 0 := ⟨⟨mbX13_takeBit, by decide, by decide⟩, Or.inl (tb9 (List.mem_of_getElem? (i := 57) rfl)), vbX13_takeBit⟩
set_option maxRecDepth 100000 in
set_option maxHeartbeats 4000000 in
theorem eX13_more_51 {X : px_X}  : ∀ (a0 : Nat) (a4 : Int32) (a5 : Int32) (s0 : Int32) (w : px_W) (q : px_W), fX13_more_51 X  a0 a4 a5 s0 w = some q → EV X mX13_more 51 [(0, .ref a0), (4, .int a4), (5, .int a5)] [.int s0] w none q := by
  intro a0 a4 a5 s0 w q h
  unfold fX13_more_51 at h
  refine EV.istore [(6, .int s0), (0, .ref a0), (4, .int a4), (5, .int a5)] dX13_more_51 (by decide) rfl ?_
  refine EV.aload_n 1 dX13_more_53 rfl rfl ?_
  obtain ⟨o20, go20, h⟩ := px_bs h
  obtain ⟨q21, gq21, h⟩ := px_bs h
  refine EV.callV (As := []) (rest := []) dX13_more_54 kcX13_more_254 (gO_ok go20) rfl rfl rfl (Nat.le_of_ble_eq_true rfl) (Nat.le_of_ble_eq_true rfl) (eX13_takeBit gq21) ?_
  refine EV.iconst (1) dX13_more_57 (by decide) ?_
  refine EV.icmp_ne 110 dX13_more_58 (by decide) (fun c22 => ?_) (fun c22 => ?_)
  · rw [if_neg c22] at h
    cases h
    exact EV.ret0 dX13_more_110 trivial
  · rw [if_pos c22] at h
    refine EV.iload 0 dX13_more_61 rfl ?_
    refine EV.iload 3 dX13_more_63 rfl ?_
    refine EV.iand dX13_more_65 ?_
    refine EV.if_ne 110 dX13_more_66 (by decide) (fun c23 => ?_) (fun c23 => ?_)
    · rw [if_neg c23] at h
      cases h
      exact EV.ret0 dX13_more_110 trivial
    · rw [if_pos c23] at h
      refine EV.aload_n 1 dX13_more_69 rfl rfl ?_
      obtain ⟨v24, gv24, h⟩ := px_bs h
      refine ev_gR dX13_more_70 flRX13_33 gv24 ?_
      refine EV.iload 2 dX13_more_73 rfl ?_
      refine EV.aload_n 1 dX13_more_75 rfl rfl ?_
      obtain ⟨v25, gv25, h⟩ := px_bs h
      refine ev_gR dX13_more_76 flRX13_33 gv25 ?_
      refine EV.iload 2 dX13_more_79 rfl ?_
      obtain ⟨v26, gv26, h⟩ := px_bs h
      refine ev_aS dX13_more_81 gv26 ?_
      refine EV.if_ge 98 dX13_more_82 (by decide) (fun c27 => ?_) (fun c27 => ?_)
      · rw [if_pos c27] at h
        refine EV.aload_n 1 dX13_more_98 rfl rfl ?_
        obtain ⟨v28, gv28, h⟩ := px_bs h
        refine ev_gR dX13_more_99 flRX13_33 gv28 ?_
        refine EV.iload 2 dX13_more_102 rfl ?_
        obtain ⟨v29, gv29, h⟩ := px_bs h
        refine ev_aS dX13_more_104 gv29 ?_
        refine EV.iload 3 dX13_more_105 rfl ?_
        refine EV.iadd dX13_more_107 ?_
        refine EV.i2s dX13_more_108 ?_
        obtain ⟨w30, gw30, h⟩ := px_bs h
        refine ev_sS dX13_more_109 gw30 ?_
        cases h
        exact EV.ret0 dX13_more_110 trivial
      · rw [if_neg c27] at h
        refine EV.aload_n 1 dX13_more_85 rfl rfl ?_
        obtain ⟨v31, gv31, h⟩ := px_bs h
        refine ev_gR dX13_more_86 flRX13_33 gv31 ?_
        refine EV.iload 2 dX13_more_89 rfl ?_
        obtain ⟨v32, gv32, h⟩ := px_bs h
        refine ev_aS dX13_more_91 gv32 ?_
        refine EV.iload 3 dX13_more_92 rfl ?_
        refine EV.isub dX13_more_94 ?_
        refine EV.goto 108 dX13_more_95 (by decide) ?_
        refine EV.i2s dX13_more_108 ?_
        obtain ⟨w33, gw33, h⟩ := px_bs h
        refine ev_sS dX13_more_109 gw33 ?_
        cases h
        exact EV.ret0 dX13_more_110 trivial
set_option maxRecDepth 100000 in
set_option maxHeartbeats 4000000 in
theorem eX13_more {X : px_X} {w : px_W} {a0 : Nat} {a1 : Int32} {a2 : Int32} {a3 : Int32} {q : px_W} (h : fX13_more X w a0 a1 a2 a3 = some q) : EV X mX13_more 0 (lv_args 0 [.ref a0, .int a1, .int a2, .int a3]) [] w none q := by
  unfold fX13_more at h
  show EV X mX13_more 0 [(0, .ref a0), (1, .int a1), (2, .int a2), (3, .int a3)] [] w none q
  refine EV.bipush (64) dX13_more_0 (by decide) ?_
  refine EV.aload_n 0 dX13_more_2 rfl rfl ?_
  obtain ⟨v34, gv34, h⟩ := px_bs h
  refine ev_gR dX13_more_3 flRX13_30 gv34 ?_
  refine EV.iload_n 1 dX13_more_6 rfl rfl ?_
  obtain ⟨v35, gv35, h⟩ := px_bs h
  refine ev_aI dX13_more_7 gv35 ?_
  refine EV.iload_n 2 dX13_more_8 rfl rfl ?_
  refine EV.iadd dX13_more_9 ?_
  refine EV.imul dX13_more_10 ?_
  refine EV.iload_n 3 dX13_more_11 rfl rfl ?_
  refine EV.iadd dX13_more_12 ?_
  refine EV.istore [(4, .int ((64 * (v35 + a2)) + a3)), (0, .ref a0), (1, .int a1), (2, .int a2), (3, .int a3)] dX13_more_13 (by decide) rfl ?_
  refine EV.iconst (1) dX13_more_15 (by decide) ?_
  refine EV.aload_n 1 dX13_more_16 rfl rfl ?_
  obtain ⟨v36, gv36, h⟩ := px_bs h
  refine ev_gI dX13_more_17 flRX13_115 gv36 ?_
  refine EV.ishl dX13_more_20 ?_
  refine EV.istore [(5, .int ((1 : Int32) <<< (v36 &&& 31))), (4, .int ((64 * (v35 + a2)) + a3)), (0, .ref a0), (1, .int a1), (2, .int a2), (3, .int a3)] dX13_more_21 (by decide) rfl ?_
  refine EV.aload_n 2 dX13_more_23 rfl rfl ?_
  obtain ⟨v37, gv37, h⟩ := px_bs h
  refine ev_gR dX13_more_24 flRX13_33 gv37 ?_
  refine EV.iload 1 dX13_more_27 rfl ?_
  obtain ⟨v38, gv38, h⟩ := px_bs h
  refine ev_aS dX13_more_29 gv38 ?_
  refine EV.if_ge 44 dX13_more_30 (by decide) (fun c39 => ?_) (fun c39 => ?_)
  · rw [if_pos c39] at h
    refine EV.aload_n 2 dX13_more_44 rfl rfl ?_
    obtain ⟨v40, gv40, h⟩ := px_bs h
    refine ev_gR dX13_more_45 flRX13_33 gv40 ?_
    refine EV.iload 1 dX13_more_48 rfl ?_
    obtain ⟨v41, gv41, h⟩ := px_bs h
    refine ev_aS dX13_more_50 gv41 ?_
    refine EV.sub [2, 1, 0] rfl ?_
    exact eX13_more_51  _ _ _ _ _ _ h
  · rw [if_neg c39] at h
    refine EV.aload_n 2 dX13_more_33 rfl rfl ?_
    obtain ⟨v42, gv42, h⟩ := px_bs h
    refine ev_gR dX13_more_34 flRX13_33 gv42 ?_
    refine EV.iload 1 dX13_more_37 rfl ?_
    obtain ⟨v43, gv43, h⟩ := px_bs h
    refine ev_aS dX13_more_39 gv43 ?_
    refine EV.ineg dX13_more_40 ?_
    refine EV.goto 51 dX13_more_41 (by decide) ?_
    refine EV.sub [2, 1, 0] rfl ?_
    exact eX13_more_51  _ _ _ _ _ _ h
/-! WavePicturesModel$Scans.over(IIII)I -/
theorem dX13_over_0 : decode cX13_over 0 = .ok (.iload_n 3, 1) := by decide +kernel
theorem dX13_over_1 : decode cX13_over 1 = .ok (.istore 5, 2) := by decide +kernel
theorem dX13_over_3 : decode cX13_over 3 = .ok (.iload 4, 2) := by decide +kernel
theorem dX13_over_5 : decode cX13_over 5 = .ok (.istore 6, 2) := by decide +kernel
theorem dX13_over_7 : decode cX13_over 7 = .ok (.aload_n 0, 1) := by decide +kernel
theorem dX13_over_8 : decode cX13_over 8 = .ok (.getfield 236, 3) := by decide +kernel
theorem dX13_over_11 : decode cX13_over 11 = .ok (.ifCond .ne 68, 3) := by decide +kernel
theorem dX13_over_14 : decode cX13_over 14 = .ok (.iload 5, 2) := by decide +kernel
theorem dX13_over_16 : decode cX13_over 16 = .ok (.aload_n 0, 1) := by decide +kernel
theorem dX13_over_17 : decode cX13_over 17 = .ok (.getfield 109, 3) := by decide +kernel
theorem dX13_over_20 : decode cX13_over 20 = .ok (.if_icmp .le 9, 3) := by decide +kernel
theorem dX13_over_23 : decode cX13_over 23 = .ok (.aload_n 0, 1) := by decide +kernel
theorem dX13_over_24 : decode cX13_over 24 = .ok (.iconst 3, 1) := by decide +kernel
theorem dX13_over_25 : decode cX13_over 25 = .ok (.invokevirtual 248, 3) := by decide +kernel
theorem dX13_over_28 : decode cX13_over 28 = .ok (.ireturn, 1) := by decide +kernel
theorem dX13_over_29 : decode cX13_over 29 = .ok (.aload_n 0, 1) := by decide +kernel
theorem dX13_over_30 : decode cX13_over 30 = .ok (.getfield 33, 3) := by decide +kernel
theorem dX13_over_33 : decode cX13_over 33 = .ok (.bipush 64, 2) := by decide +kernel
theorem dX13_over_35 : decode cX13_over 35 = .ok (.aload_n 0, 1) := by decide +kernel
theorem dX13_over_36 : decode cX13_over 36 = .ok (.getfield 30, 3) := by decide +kernel
theorem dX13_over_39 : decode cX13_over 39 = .ok (.iload_n 1, 1) := by decide +kernel
theorem dX13_over_40 : decode cX13_over 40 = .ok (.iaload, 1) := by decide +kernel
theorem dX13_over_41 : decode cX13_over 41 = .ok (.iload_n 2, 1) := by decide +kernel
theorem dX13_over_42 : decode cX13_over 42 = .ok (.iadd, 1) := by decide +kernel
theorem dX13_over_43 : decode cX13_over 43 = .ok (.imul, 1) := by decide +kernel
theorem dX13_over_44 : decode cX13_over 44 = .ok (.iload 5, 2) := by decide +kernel
theorem dX13_over_46 : decode cX13_over 46 = .ok (.iadd, 1) := by decide +kernel
theorem dX13_over_47 : decode cX13_over 47 = .ok (.saload, 1) := by decide +kernel
theorem dX13_over_48 : decode cX13_over 48 = .ok (.ifCond .eq 14, 3) := by decide +kernel
theorem dX13_over_51 : decode cX13_over 51 = .ok (.aload_n 0, 1) := by decide +kernel
theorem dX13_over_52 : decode cX13_over 52 = .ok (.iload_n 1, 1) := by decide +kernel
theorem dX13_over_53 : decode cX13_over 53 = .ok (.iload_n 2, 1) := by decide +kernel
theorem dX13_over_54 : decode cX13_over 54 = .ok (.iload 5, 2) := by decide +kernel
theorem dX13_over_56 : decode cX13_over 56 = .ok (.invokevirtual 277, 3) := by decide +kernel
theorem dX13_over_59 : decode cX13_over 59 = .ok (.goto 14, 3) := by decide +kernel
theorem dX13_over_62 : decode cX13_over 62 = .ok (.iload 6, 2) := by decide +kernel
theorem dX13_over_64 : decode cX13_over 64 = .ok (.ifCond .ne 6, 3) := by decide +kernel
theorem dX13_over_67 : decode cX13_over 67 = .ok (.iload 5, 2) := by decide +kernel
theorem dX13_over_69 : decode cX13_over 69 = .ok (.ireturn, 1) := by decide +kernel
theorem dX13_over_70 : decode cX13_over 70 = .ok (.iinc 6 (-1), 3) := by decide +kernel
theorem dX13_over_73 : decode cX13_over 73 = .ok (.iinc 5 1, 3) := by decide +kernel
theorem dX13_over_76 : decode cX13_over 76 = .ok (.goto (-69), 3) := by decide +kernel
theorem dX13_over_79 : decode cX13_over 79 = .ok (.iconst 0, 1) := by decide +kernel
theorem dX13_over_80 : decode cX13_over 80 = .ok (.ireturn, 1) := by decide +kernel
theorem kcX13_over_248 : px_cV mX13_over 248 mX13_wrong 1 := ⟨⟨mbX13_wrong, by decide, by decide⟩, Or.inl (tb9 (List.mem_of_getElem? (i := 37) rfl)), vbX13_wrong⟩
theorem mbX13_more : px_mB mX13_more 3 := ⟨tb9 (List.mem_of_getElem? (i := 95) rfl), by decide +kernel, tb1 (List.mem_of_getElem? (i := 15) rfl), by decide +kernel, by decide +kernel⟩
theorem vbX13_more : px_vB mX13_more := ⟨tb9 (List.mem_of_getElem? (i := 94) rfl), List.mem_append_left _ (List.mem_of_getElem? (i := 130) (by decide +kernel))⟩
theorem kcX13_over_277 : px_cV mX13_over 277 mX13_more 3 := ⟨⟨mbX13_more, by decide, by decide⟩, Or.inl (tb9 (List.mem_of_getElem? (i := 92) rfl)), vbX13_more⟩
set_option maxRecDepth 100000 in
set_option maxHeartbeats 4000000 in
theorem eX13_over_73 {X : px_X} {k7 : Nat → Int32 → Int32 → Int32 → Int32 → px_W → Option (Int32 × px_W)} (hk7 : ∀ (a0 : Nat) (a1 : Int32) (a2 : Int32) (a5 : Int32) (a6 : Int32) (w : px_W) (q : Int32 × px_W), k7 a0 a1 a2 a5 a6 w = some q → EV X mX13_over 7 [(0, .ref a0), (1, .int a1), (2, .int a2), (5, .int a5), (6, .int a6)] [] w (some (.int q.1)) q.2) : ∀ (a0 : Nat) (a1 : Int32) (a2 : Int32) (a5 : Int32) (a6 : Int32) (w : px_W) (q : Int32 × px_W), fX13_over_73 X k7 a0 a1 a2 a5 a6 w = some q → EV X mX13_over 73 [(0, .ref a0), (1, .int a1), (2, .int a2), (5, .int a5), (6, .int a6)] [] w (some (.int q.1)) q.2 := by
  intro a0 a1 a2 a5 a6 w q h
  unfold fX13_over_73 at h
  refine EV.iinc 3 (a5 + 1) [(5, .int (a5 + 1)), (0, .ref a0), (1, .int a1), (2, .int a2), (6, .int a6)] dX13_over_73 rfl rfl (by decide) rfl ?_
  refine EV.goto 7 dX13_over_76 (by decide) ?_
  refine EV.sub [1, 2, 3, 0, 4] rfl ?_
  exact hk7 _ _ _ _ _ _ _ h
set_option maxRecDepth 100000 in
set_option maxHeartbeats 4000000 in
theorem eX13_over_23 {X : px_X}  : ∀ (a0 : Nat) (w : px_W) (q : Int32 × px_W), fX13_over_23 X  a0 w = some q → EV X mX13_over 23 [(0, .ref a0)] [] w (some (.int q.1)) q.2 := by
  intro a0 w q h
  unfold fX13_over_23 at h
  refine EV.aload_n 0 dX13_over_23 rfl rfl ?_
  refine EV.iconst (3) dX13_over_24 (by decide) ?_
  obtain ⟨o11, go11, h⟩ := px_bs h
  obtain ⟨q12, gq12, h⟩ := px_bs h
  refine EV.callV (As := [.int 3]) (rest := []) dX13_over_25 kcX13_over_248 (gO_ok go11) rfl rfl rfl (Nat.le_of_ble_eq_true rfl) (Nat.le_of_ble_eq_true rfl) (eX13_wrong gq12) ?_
  cases h
  exact EV.reti dX13_over_28 rfl
set_option maxRecDepth 100000 in
set_option maxHeartbeats 4000000 in
theorem eX13_over_7 {X : px_X}  : ∀ (m : Nat) (a0 : Nat) (a1 : Int32) (a2 : Int32) (a5 : Int32) (a6 : Int32) (w : px_W) (q : Int32 × px_W), fX13_over_7 X  m a0 a1 a2 a5 a6 w = some q → EV X mX13_over 7 [(0, .ref a0), (1, .int a1), (2, .int a2), (5, .int a5), (6, .int a6)] [] w (some (.int q.1)) q.2 := by
  intro m
  induction m with
  | zero => intro a0 a1 a2 a5 a6 w q h; cases h
  | succ m ih =>
    intro a0 a1 a2 a5 a6 w q h
    rw [fX13_over_7.eq_2] at h
    refine EV.aload_n 0 dX13_over_7 rfl rfl ?_
    obtain ⟨v13, gv13, h⟩ := px_bs h
    refine ev_gI dX13_over_8 flRX13_236 gv13 ?_
    refine EV.if_ne 79 dX13_over_11 (by decide) (fun c14 => ?_) (fun c14 => ?_)
    · rw [if_neg c14] at h
      refine EV.iconst (0) dX13_over_79 (by decide) ?_
      cases h
      exact EV.reti dX13_over_80 rfl
    · rw [if_pos c14] at h
      refine EV.iload 3 dX13_over_14 rfl ?_
      refine EV.aload_n 0 dX13_over_16 rfl rfl ?_
      obtain ⟨v15, gv15, h⟩ := px_bs h
      refine ev_gI dX13_over_17 flRX13_109 gv15 ?_
      refine EV.icmp_le 29 dX13_over_20 (by decide) (fun c16 => ?_) (fun c16 => ?_)
      · rw [if_pos c16] at h
        refine EV.aload_n 0 dX13_over_29 rfl rfl ?_
        obtain ⟨v17, gv17, h⟩ := px_bs h
        refine ev_gR dX13_over_30 flRX13_33 gv17 ?_
        refine EV.bipush (64) dX13_over_33 (by decide) ?_
        refine EV.aload_n 0 dX13_over_35 rfl rfl ?_
        obtain ⟨v18, gv18, h⟩ := px_bs h
        refine ev_gR dX13_over_36 flRX13_30 gv18 ?_
        refine EV.iload_n 1 dX13_over_39 rfl rfl ?_
        obtain ⟨v19, gv19, h⟩ := px_bs h
        refine ev_aI dX13_over_40 gv19 ?_
        refine EV.iload_n 2 dX13_over_41 rfl rfl ?_
        refine EV.iadd dX13_over_42 ?_
        refine EV.imul dX13_over_43 ?_
        refine EV.iload 3 dX13_over_44 rfl ?_
        refine EV.iadd dX13_over_46 ?_
        obtain ⟨v20, gv20, h⟩ := px_bs h
        refine ev_aS dX13_over_47 gv20 ?_
        refine EV.if_eq 62 dX13_over_48 (by decide) (fun c21 => ?_) (fun c21 => ?_)
        · rw [if_pos c21] at h
          refine EV.iload 4 dX13_over_62 rfl ?_
          refine EV.if_ne 70 dX13_over_64 (by decide) (fun c22 => ?_) (fun c22 => ?_)
          · rw [if_neg c22] at h
            refine EV.iinc 4 (a6 + (-1)) [(6, .int (a6 + (-1))), (0, .ref a0), (1, .int a1), (2, .int a2), (5, .int a5)] dX13_over_70 rfl rfl (by decide) rfl ?_
            refine EV.sub [1, 2, 3, 4, 0] rfl ?_
            exact eX13_over_73 ih _ _ _ _ _ _ _ h
          · rw [if_pos c22] at h
            refine EV.iload 3 dX13_over_67 rfl ?_
            cases h
            exact EV.reti dX13_over_69 rfl
        · rw [if_neg c21] at h
          refine EV.aload_n 0 dX13_over_51 rfl rfl ?_
          refine EV.iload_n 1 dX13_over_52 rfl rfl ?_
          refine EV.iload_n 2 dX13_over_53 rfl rfl ?_
          refine EV.iload 3 dX13_over_54 rfl ?_
          obtain ⟨o23, go23, h⟩ := px_bs h
          obtain ⟨q24, gq24, h⟩ := px_bs h
          refine EV.callV (As := [.int a1, .int a2, .int a5]) (rest := []) dX13_over_56 kcX13_over_277 (gO_ok go23) rfl rfl rfl (Nat.le_of_ble_eq_true rfl) (Nat.le_of_ble_eq_true rfl) (eX13_more gq24) ?_
          refine EV.goto 73 dX13_over_59 (by decide) ?_
          refine EV.sub [0, 1, 2, 3, 4] rfl ?_
          exact eX13_over_73 ih _ _ _ _ _ _ _ h
      · rw [if_neg c16] at h
        refine EV.sub [0] rfl ?_
        exact eX13_over_23  _ _ _ h
set_option maxRecDepth 100000 in
set_option maxHeartbeats 4000000 in
theorem eX13_over {X : px_X} {w : px_W} {a0 : Nat} {a1 : Int32} {a2 : Int32} {a3 : Int32} {a4 : Int32} {q : Int32 × px_W} (h : fX13_over X w a0 a1 a2 a3 a4 = some q) : EV X mX13_over 0 (lv_args 0 [.ref a0, .int a1, .int a2, .int a3, .int a4]) [] w (some (.int q.1)) q.2 := by
  unfold fX13_over at h
  show EV X mX13_over 0 [(0, .ref a0), (1, .int a1), (2, .int a2), (3, .int a3), (4, .int a4)] [] w (some (.int q.1)) q.2
  refine EV.iload_n 3 dX13_over_0 rfl rfl ?_
  refine EV.istore [(5, .int a3), (0, .ref a0), (1, .int a1), (2, .int a2), (3, .int a3), (4, .int a4)] dX13_over_1 (by decide) rfl ?_
  refine EV.iload 5 dX13_over_3 rfl ?_
  refine EV.istore [(6, .int a4), (5, .int a3), (0, .ref a0), (1, .int a1), (2, .int a2), (3, .int a3), (4, .int a4)] dX13_over_5 (by decide) rfl ?_
  refine EV.sub [2, 3, 4, 1, 0] rfl ?_
  exact eX13_over_7  FU _ _ _ _ _ _ _ h
/-! WavePicturesModel$Scans.readMore(II)V -/
theorem dX13_readMore_0 : decode cX13_readMore 0 = .ok (.aload_n 0, 1) := by decide +kernel
theorem dX13_readMore_1 : decode cX13_readMore 1 = .ok (.getfield 106, 3) := by decide +kernel
theorem dX13_readMore_4 : decode cX13_readMore 4 = .ok (.istore_n 3, 1) := by decide +kernel
theorem dX13_readMore_5 : decode cX13_readMore 5 = .ok (.iload_n 3, 1) := by decide +kernel
theorem dX13_readMore_6 : decode cX13_readMore 6 = .ok (.aload_n 0, 1) := by decide +kernel
theorem dX13_readMore_7 : decode cX13_readMore 7 = .ok (.getfield 109, 3) := by decide +kernel
theorem dX13_readMore_10 : decode cX13_readMore 10 = .ok (.if_icmp .gt 187, 3) := by decide +kernel
theorem dX13_readMore_13 : decode cX13_readMore 13 = .ok (.aload_n 0, 1) := by decide +kernel
theorem dX13_readMore_14 : decode cX13_readMore 14 = .ok (.getfield 177, 3) := by decide +kernel
theorem dX13_readMore_17 : decode cX13_readMore 17 = .ok (.ifCond .ne 180, 3) := by decide +kernel
theorem dX13_readMore_20 : decode cX13_readMore 20 = .ok (.aload_n 0, 1) := by decide +kernel
theorem dX13_readMore_21 : decode cX13_readMore 21 = .ok (.getfield 236, 3) := by decide +kernel
theorem dX13_readMore_24 : decode cX13_readMore 24 = .ok (.ifCond .ne 173, 3) := by decide +kernel
theorem dX13_readMore_27 : decode cX13_readMore 27 = .ok (.aload_n 0, 1) := by decide +kernel
theorem dX13_readMore_28 : decode cX13_readMore 28 = .ok (.aload_n 0, 1) := by decide +kernel
theorem dX13_readMore_29 : decode cX13_readMore 29 = .ok (.getfield 58, 3) := by decide +kernel
theorem dX13_readMore_32 : decode cX13_readMore 32 = .ok (.iload_n 1, 1) := by decide +kernel
theorem dX13_readMore_33 : decode cX13_readMore 33 = .ok (.iaload, 1) := by decide +kernel
theorem dX13_readMore_34 : decode cX13_readMore 34 = .ok (.invokevirtual 264, 3) := by decide +kernel
theorem dX13_readMore_37 : decode cX13_readMore 37 = .ok (.istore 4, 2) := by decide +kernel
theorem dX13_readMore_39 : decode cX13_readMore 39 = .ok (.iload 4, 2) := by decide +kernel
theorem dX13_readMore_41 : decode cX13_readMore 41 = .ok (.bipush 16, 2) := by decide +kernel
theorem dX13_readMore_43 : decode cX13_readMore 43 = .ok (.idiv, 1) := by decide +kernel
theorem dX13_readMore_44 : decode cX13_readMore 44 = .ok (.istore 5, 2) := by decide +kernel
theorem dX13_readMore_46 : decode cX13_readMore 46 = .ok (.iload 4, 2) := by decide +kernel
theorem dX13_readMore_48 : decode cX13_readMore 48 = .ok (.bipush 16, 2) := by decide +kernel
theorem dX13_readMore_50 : decode cX13_readMore 50 = .ok (.irem, 1) := by decide +kernel
theorem dX13_readMore_51 : decode cX13_readMore 51 = .ok (.istore 6, 2) := by decide +kernel
theorem dX13_readMore_53 : decode cX13_readMore 53 = .ok (.aload_n 0, 1) := by decide +kernel
theorem dX13_readMore_54 : decode cX13_readMore 54 = .ok (.getfield 236, 3) := by decide +kernel
theorem dX13_readMore_57 : decode cX13_readMore 57 = .ok (.ifCond .ne 16, 3) := by decide +kernel
theorem dX13_readMore_60 : decode cX13_readMore 60 = .ok (.iload 6, 2) := by decide +kernel
theorem dX13_readMore_62 : decode cX13_readMore 62 = .ok (.iconst 1, 1) := by decide +kernel
theorem dX13_readMore_63 : decode cX13_readMore 63 = .ok (.if_icmp .le 10, 3) := by decide +kernel
theorem dX13_readMore_66 : decode cX13_readMore 66 = .ok (.aload_n 0, 1) := by decide +kernel
theorem dX13_readMore_67 : decode cX13_readMore 67 = .ok (.iconst 3, 1) := by decide +kernel
theorem dX13_readMore_68 : decode cX13_readMore 68 = .ok (.invokevirtual 248, 3) := by decide +kernel
theorem dX13_readMore_71 : decode cX13_readMore 71 = .ok (.istore 7, 2) := by decide +kernel
theorem dX13_readMore_73 : decode cX13_readMore 73 = .ok (.aload_n 0, 1) := by decide +kernel
theorem dX13_readMore_74 : decode cX13_readMore 74 = .ok (.getfield 236, 3) := by decide +kernel
theorem dX13_readMore_77 : decode cX13_readMore 77 = .ok (.ifCond .le 4, 3) := by decide +kernel
theorem dX13_readMore_80 : decode cX13_readMore 80 = .ok (.return_, 1) := by decide +kernel
theorem dX13_readMore_81 : decode cX13_readMore 81 = .ok (.iload 6, 2) := by decide +kernel
theorem dX13_readMore_83 : decode cX13_readMore 83 = .ok (.ifCond .ne 28, 3) := by decide +kernel
theorem dX13_readMore_86 : decode cX13_readMore 86 = .ok (.iload 5, 2) := by decide +kernel
theorem dX13_readMore_88 : decode cX13_readMore 88 = .ok (.bipush 15, 2) := by decide +kernel
theorem dX13_readMore_90 : decode cX13_readMore 90 = .ok (.if_icmp .ge 21, 3) := by decide +kernel
theorem dX13_readMore_93 : decode cX13_readMore 93 = .ok (.aload_n 0, 1) := by decide +kernel
theorem dX13_readMore_94 : decode cX13_readMore 94 = .ok (.iconst 1, 1) := by decide +kernel
theorem dX13_readMore_95 : decode cX13_readMore 95 = .ok (.iload 5, 2) := by decide +kernel
theorem dX13_readMore_97 : decode cX13_readMore 97 = .ok (.ishl, 1) := by decide +kernel
theorem dX13_readMore_98 : decode cX13_readMore 98 = .ok (.aload_n 0, 1) := by decide +kernel
theorem dX13_readMore_99 : decode cX13_readMore 99 = .ok (.iload 5, 2) := by decide +kernel
theorem dX13_readMore_101 : decode cX13_readMore 101 = .ok (.invokevirtual 257, 3) := by decide +kernel
theorem dX13_readMore_104 : decode cX13_readMore 104 = .ok (.iadd, 1) := by decide +kernel
theorem dX13_readMore_105 : decode cX13_readMore 105 = .ok (.putfield 177, 3) := by decide +kernel
theorem dX13_readMore_108 : decode cX13_readMore 108 = .ok (.goto 86, 3) := by decide +kernel
theorem dX13_readMore_111 : decode cX13_readMore 111 = .ok (.iload 6, 2) := by decide +kernel
theorem dX13_readMore_113 : decode cX13_readMore 113 = .ok (.iconst 1, 1) := by decide +kernel
theorem dX13_readMore_114 : decode cX13_readMore 114 = .ok (.if_icmp .ne 10, 3) := by decide +kernel
theorem dX13_readMore_117 : decode cX13_readMore 117 = .ok (.aload_n 0, 1) := by decide +kernel
theorem dX13_readMore_118 : decode cX13_readMore 118 = .ok (.invokevirtual 254, 3) := by decide +kernel
theorem dX13_readMore_121 : decode cX13_readMore 121 = .ok (.goto 4, 3) := by decide +kernel
theorem dX13_readMore_124 : decode cX13_readMore 124 = .ok (.iconst 0, 1) := by decide +kernel
theorem dX13_readMore_125 : decode cX13_readMore 125 = .ok (.istore 7, 2) := by decide +kernel
theorem dX13_readMore_127 : decode cX13_readMore 127 = .ok (.aload_n 0, 1) := by decide +kernel
theorem dX13_readMore_128 : decode cX13_readMore 128 = .ok (.iload_n 1, 1) := by decide +kernel
theorem dX13_readMore_129 : decode cX13_readMore 129 = .ok (.iload_n 2, 1) := by decide +kernel
theorem dX13_readMore_130 : decode cX13_readMore 130 = .ok (.iload_n 3, 1) := by decide +kernel
theorem dX13_readMore_131 : decode cX13_readMore 131 = .ok (.iload 5, 2) := by decide +kernel
theorem dX13_readMore_133 : decode cX13_readMore 133 = .ok (.invokevirtual 274, 3) := by decide +kernel
theorem dX13_readMore_136 : decode cX13_readMore 136 = .ok (.istore_n 3, 1) := by decide +kernel
theorem dX13_readMore_137 : decode cX13_readMore 137 = .ok (.aload_n 0, 1) := by decide +kernel
theorem dX13_readMore_138 : decode cX13_readMore 138 = .ok (.getfield 236, 3) := by decide +kernel
theorem dX13_readMore_141 : decode cX13_readMore 141 = .ok (.ifCond .ne 50, 3) := by decide +kernel
theorem dX13_readMore_144 : decode cX13_readMore 144 = .ok (.iload 6, 2) := by decide +kernel
theorem dX13_readMore_146 : decode cX13_readMore 146 = .ok (.iconst 1, 1) := by decide +kernel
theorem dX13_readMore_147 : decode cX13_readMore 147 = .ok (.if_icmp .ne 44, 3) := by decide +kernel
theorem dX13_readMore_150 : decode cX13_readMore 150 = .ok (.aload_n 0, 1) := by decide +kernel
theorem dX13_readMore_151 : decode cX13_readMore 151 = .ok (.getfield 33, 3) := by decide +kernel
theorem dX13_readMore_154 : decode cX13_readMore 154 = .ok (.bipush 64, 2) := by decide +kernel
theorem dX13_readMore_156 : decode cX13_readMore 156 = .ok (.aload_n 0, 1) := by decide +kernel
theorem dX13_readMore_157 : decode cX13_readMore 157 = .ok (.getfield 30, 3) := by decide +kernel
theorem dX13_readMore_160 : decode cX13_readMore 160 = .ok (.iload_n 1, 1) := by decide +kernel
theorem dX13_readMore_161 : decode cX13_readMore 161 = .ok (.iaload, 1) := by decide +kernel
theorem dX13_readMore_162 : decode cX13_readMore 162 = .ok (.iload_n 2, 1) := by decide +kernel
theorem dX13_readMore_163 : decode cX13_readMore 163 = .ok (.iadd, 1) := by decide +kernel
theorem dX13_readMore_164 : decode cX13_readMore 164 = .ok (.imul, 1) := by decide +kernel
theorem dX13_readMore_165 : decode cX13_readMore 165 = .ok (.iload_n 3, 1) := by decide +kernel
theorem dX13_readMore_166 : decode cX13_readMore 166 = .ok (.iadd, 1) := by decide +kernel
theorem dX13_readMore_167 : decode cX13_readMore 167 = .ok (.iload 7, 2) := by decide +kernel
theorem dX13_readMore_169 : decode cX13_readMore 169 = .ok (.iconst 1, 1) := by decide +kernel
theorem dX13_readMore_170 : decode cX13_readMore 170 = .ok (.if_icmp .ne 12, 3) := by decide +kernel
theorem dX13_readMore_173 : decode cX13_readMore 173 = .ok (.iconst 1, 1) := by decide +kernel
theorem dX13_readMore_174 : decode cX13_readMore 174 = .ok (.aload_n 0, 1) := by decide +kernel
theorem dX13_readMore_175 : decode cX13_readMore 175 = .ok (.getfield 115, 3) := by decide +kernel
theorem dX13_readMore_178 : decode cX13_readMore 178 = .ok (.ishl, 1) := by decide +kernel
theorem dX13_readMore_179 : decode cX13_readMore 179 = .ok (.goto 10, 3) := by decide +kernel
theorem dX13_readMore_182 : decode cX13_readMore 182 = .ok (.iconst 1, 1) := by decide +kernel
theorem dX13_readMore_183 : decode cX13_readMore 183 = .ok (.aload_n 0, 1) := by decide +kernel
theorem dX13_readMore_184 : decode cX13_readMore 184 = .ok (.getfield 115, 3) := by decide +kernel
theorem dX13_readMore_187 : decode cX13_readMore 187 = .ok (.ishl, 1) := by decide +kernel
theorem dX13_readMore_188 : decode cX13_readMore 188 = .ok (.ineg, 1) := by decide +kernel
theorem dX13_readMore_189 : decode cX13_readMore 189 = .ok (.i2s, 1) := by decide +kernel
theorem dX13_readMore_190 : decode cX13_readMore 190 = .ok (.sastore, 1) := by decide +kernel
theorem dX13_readMore_191 : decode cX13_readMore 191 = .ok (.iinc 3 1, 3) := by decide +kernel
theorem dX13_readMore_194 : decode cX13_readMore 194 = .ok (.goto (-189), 3) := by decide +kernel
theorem dX13_readMore_197 : decode cX13_readMore 197 = .ok (.aload_n 0, 1) := by decide +kernel
theorem dX13_readMore_198 : decode cX13_readMore 198 = .ok (.getfield 177, 3) := by decide +kernel
theorem dX13_readMore_201 : decode cX13_readMore 201 = .ok (.ifCond .le 62, 3) := by decide +kernel
theorem dX13_readMore_204 : decode cX13_readMore 204 = .ok (.iload_n 3, 1) := by decide +kernel
theorem dX13_readMore_205 : decode cX13_readMore 205 = .ok (.aload_n 0, 1) := by decide +kernel
theorem dX13_readMore_206 : decode cX13_readMore 206 = .ok (.getfield 109, 3) := by decide +kernel
theorem dX13_readMore_209 : decode cX13_readMore 209 = .ok (.if_icmp .gt 44, 3) := by decide +kernel
theorem dX13_readMore_212 : decode cX13_readMore 212 = .ok (.aload_n 0, 1) := by decide +kernel
theorem dX13_readMore_213 : decode cX13_readMore 213 = .ok (.getfield 236, 3) := by decide +kernel
theorem dX13_readMore_216 : decode cX13_readMore 216 = .ok (.ifCond .ne 37, 3) := by decide +kernel
theorem dX13_readMore_219 : decode cX13_readMore 219 = .ok (.aload_n 0, 1) := by decide +kernel
theorem dX13_readMore_220 : decode cX13_readMore 220 = .ok (.getfield 33, 3) := by decide +kernel
theorem dX13_readMore_223 : decode cX13_readMore 223 = .ok (.bipush 64, 2) := by decide +kernel
theorem dX13_readMore_225 : decode cX13_readMore 225 = .ok (.aload_n 0, 1) := by decide +kernel
theorem dX13_readMore_226 : decode cX13_readMore 226 = .ok (.getfield 30, 3) := by decide +kernel
theorem dX13_readMore_229 : decode cX13_readMore 229 = .ok (.iload_n 1, 1) := by decide +kernel
theorem dX13_readMore_230 : decode cX13_readMore 230 = .ok (.iaload, 1) := by decide +kernel
theorem dX13_readMore_231 : decode cX13_readMore 231 = .ok (.iload_n 2, 1) := by decide +kernel
theorem dX13_readMore_232 : decode cX13_readMore 232 = .ok (.iadd, 1) := by decide +kernel
theorem dX13_readMore_233 : decode cX13_readMore 233 = .ok (.imul, 1) := by decide +kernel
theorem dX13_readMore_234 : decode cX13_readMore 234 = .ok (.iload_n 3, 1) := by decide +kernel
theorem dX13_readMore_235 : decode cX13_readMore 235 = .ok (.iadd, 1) := by decide +kernel
theorem dX13_readMore_236 : decode cX13_readMore 236 = .ok (.saload, 1) := by decide +kernel
theorem dX13_readMore_237 : decode cX13_readMore 237 = .ok (.ifCond .eq 10, 3) := by decide +kernel
theorem dX13_readMore_240 : decode cX13_readMore 240 = .ok (.aload_n 0, 1) := by decide +kernel
theorem dX13_readMore_241 : decode cX13_readMore 241 = .ok (.iload_n 1, 1) := by decide +kernel
theorem dX13_readMore_242 : decode cX13_readMore 242 = .ok (.iload_n 2, 1) := by decide +kernel
theorem dX13_readMore_243 : decode cX13_readMore 243 = .ok (.iload_n 3, 1) := by decide +kernel
theorem dX13_readMore_244 : decode cX13_readMore 244 = .ok (.invokevirtual 277, 3) := by decide +kernel
theorem dX13_readMore_247 : decode cX13_readMore 247 = .ok (.iinc 3 1, 3) := by decide +kernel
theorem dX13_readMore_250 : decode cX13_readMore 250 = .ok (.goto (-46), 3) := by decide +kernel
theorem dX13_readMore_253 : decode cX13_readMore 253 = .ok (.aload_n 0, 1) := by decide +kernel
theorem dX13_readMore_254 : decode cX13_readMore 254 = .ok (.dup, 1) := by decide +kernel
theorem dX13_readMore_255 : decode cX13_readMore 255 = .ok (.getfield 177, 3) := by decide +kernel
theorem dX13_readMore_258 : decode cX13_readMore 258 = .ok (.iconst 1, 1) := by decide +kernel
theorem dX13_readMore_259 : decode cX13_readMore 259 = .ok (.isub, 1) := by decide +kernel
theorem dX13_readMore_260 : decode cX13_readMore 260 = .ok (.putfield 177, 3) := by decide +kernel
theorem dX13_readMore_263 : decode cX13_readMore 263 = .ok (.return_, 1) := by decide +kernel
theorem kcX13_readMore_248 : px_cV mX13_readMore 248 mX13_wrong 1 := ⟨⟨mbX13_wrong, by decide, by decide⟩, Or.inl (tb9 (List.mem_of_getElem? (i := 37) rfl)), vbX13_wrong⟩
theorem kcX13_readMore_254 : px_cV mX13_readMore 254 mX13_takeBit 0 := ⟨⟨mbX13_takeBit, by decide, by decide⟩, Or.inl (tb9 (List.mem_of_getElem? (i := 57) rfl)), vbX13_takeBit⟩
theorem kcX13_readMore_257 : px_cV mX13_readMore 257 mX13_takeBits 1 := ⟨⟨mbX13_takeBits, by decide, by decide⟩, Or.inl (tb9 (List.mem_of_getElem? (i := 69) rfl)), vbX13_takeBits⟩
theorem kcX13_readMore_264 : px_cV mX13_readMore 264 mX13_symbol 1 := ⟨⟨mbX13_symbol, by decide, by decide⟩, Or.inl (tb9 (List.mem_of_getElem? (i := 61) rfl)), vbX13_symbol⟩
theorem mbX13_over : px_mB mX13_over 4 := ⟨tb9 (List.mem_of_getElem? (i := 91) rfl), by decide +kernel, tb1 (List.mem_of_getElem? (i := 15) rfl), by decide +kernel, by decide +kernel⟩
theorem vbX13_over : px_vB mX13_over := ⟨tb9 (List.mem_of_getElem? (i := 90) rfl), List.mem_append_left _ (List.mem_of_getElem? (i := 129) (by decide +kernel))⟩
theorem kcX13_readMore_274 : px_cV mX13_readMore 274 mX13_over 4 := ⟨⟨mbX13_over, by decide, by decide⟩, Or.inl (tb9 (List.mem_of_getElem? (i := 88) rfl)), vbX13_over⟩
theorem kcX13_readMore_277 : px_cV mX13_readMore 277 mX13_more 3 := ⟨⟨mbX13_more, by decide, by decide⟩, Or.inl (tb9 (List.mem_of_getElem? (i := 92) rfl)), vbX13_more⟩
set_option maxRecDepth 100000 in
set_option maxHeartbeats 4000000 in
theorem eX13_readMore_194 {X : px_X} {k5 : Nat → Int32 → Int32 → Int32 → px_W → Option (px_W)} (hk5 : ∀ (a0 : Nat) (a1 : Int32) (a2 : Int32) (a3 : Int32) (w : px_W) (q : px_W), k5 a0 a1 a2 a3 w = some q → EV X mX13_readMore 5 [(0, .ref a0), (1, .int a1), (2, .int a2), (3, .int a3)] [] w none q) : ∀ (a0 : Nat) (a1 : Int32) (a2 : Int32) (a3 : Int32) (w : px_W) (q : px_W), fX13_readMore_194 X k5 a0 a1 a2 a3 w = some q → EV X mX13_readMore 194 [(0, .ref a0), (1, .int a1), (2, .int a2), (3, .int a3)] [] w none q := by
  intro a0 a1 a2 a3 w q h
  unfold fX13_readMore_194 at h
  refine EV.goto 5 dX13_readMore_194 (by decide) ?_
  refine EV.sub [0, 1, 2, 3] rfl ?_
  exact hk5 _ _ _ _ _ _ h
set_option maxRecDepth 100000 in
set_option maxHeartbeats 4000000 in
theorem eX13_readMore_191 {X : px_X} {k5 : Nat → Int32 → Int32 → Int32 → px_W → Option (px_W)} (hk5 : ∀ (a0 : Nat) (a1 : Int32) (a2 : Int32) (a3 : Int32) (w : px_W) (q : px_W), k5 a0 a1 a2 a3 w = some q → EV X mX13_readMore 5 [(0, .ref a0), (1, .int a1), (2, .int a2), (3, .int a3)] [] w none q) : ∀ (a0 : Nat) (a1 : Int32) (a2 : Int32) (a3 : Int32) (w : px_W) (q : px_W), fX13_readMore_191 X k5 a0 a1 a2 a3 w = some q → EV X mX13_readMore 191 [(0, .ref a0), (1, .int a1), (2, .int a2), (3, .int a3)] [] w none q := by
  intro a0 a1 a2 a3 w q h
  unfold fX13_readMore_191 at h
  refine EV.iinc 3 (a3 + 1) [(3, .int (a3 + 1)), (0, .ref a0), (1, .int a1), (2, .int a2)] dX13_readMore_191 rfl rfl (by decide) rfl ?_
  refine EV.sub [1, 2, 3, 0] rfl ?_
  exact eX13_readMore_194 hk5 _ _ _ _ _ _ h
set_option maxRecDepth 100000 in
set_option maxHeartbeats 4000000 in
theorem eX13_readMore_189 {X : px_X} {k5 : Nat → Int32 → Int32 → Int32 → px_W → Option (px_W)} (hk5 : ∀ (a0 : Nat) (a1 : Int32) (a2 : Int32) (a3 : Int32) (w : px_W) (q : px_W), k5 a0 a1 a2 a3 w = some q → EV X mX13_readMore 5 [(0, .ref a0), (1, .int a1), (2, .int a2), (3, .int a3)] [] w none q) : ∀ (a0 : Nat) (a1 : Int32) (a2 : Int32) (a3 : Int32) (s0 : Int32) (s1 : Int32) (s2 : Nat) (w : px_W) (q : px_W), fX13_readMore_189 X k5 a0 a1 a2 a3 s0 s1 s2 w = some q → EV X mX13_readMore 189 [(0, .ref a0), (1, .int a1), (2, .int a2), (3, .int a3)] [.int s0, .int s1, .ref s2] w none q := by
  intro a0 a1 a2 a3 s0 s1 s2 w q h
  unfold fX13_readMore_189 at h
  refine EV.i2s dX13_readMore_189 ?_
  obtain ⟨w40, gw40, h⟩ := px_bs h
  refine ev_sS dX13_readMore_190 gw40 ?_
  refine EV.sub [0, 1, 2, 3] rfl ?_
  exact eX13_readMore_191 hk5 _ _ _ _ _ _ h
set_option maxRecDepth 100000 in
set_option maxHeartbeats 4000000 in
theorem eX13_readMore_125 {X : px_X} {k5 : Nat → Int32 → Int32 → Int32 → px_W → Option (px_W)} (hk5 : ∀ (a0 : Nat) (a1 : Int32) (a2 : Int32) (a3 : Int32) (w : px_W) (q : px_W), k5 a0 a1 a2 a3 w = some q → EV X mX13_readMore 5 [(0, .ref a0), (1, .int a1), (2, .int a2), (3, .int a3)] [] w none q) : ∀ (a0 : Nat) (a1 : Int32) (a2 : Int32) (a3 : Int32) (a5 : Int32) (a6 : Int32) (s0 : Int32) (w : px_W) (q : px_W), fX13_readMore_125 X k5 a0 a1 a2 a3 a5 a6 s0 w = some q → EV X mX13_readMore 125 [(0, .ref a0), (1, .int a1), (2, .int a2), (3, .int a3), (5, .int a5), (6, .int a6)] [.int s0] w none q := by
  intro a0 a1 a2 a3 a5 a6 s0 w q h
  unfold fX13_readMore_125 at h
  refine EV.istore [(7, .int s0), (0, .ref a0), (1, .int a1), (2, .int a2), (3, .int a3), (5, .int a5), (6, .int a6)] dX13_readMore_125 (by decide) rfl ?_
  refine EV.aload_n 1 dX13_readMore_127 rfl rfl ?_
  refine EV.iload_n 2 dX13_readMore_128 rfl rfl ?_
  refine EV.iload_n 3 dX13_readMore_129 rfl rfl ?_
  refine EV.iload_n 4 dX13_readMore_130 rfl rfl ?_
  refine EV.iload 5 dX13_readMore_131 rfl ?_
  obtain ⟨o41, go41, h⟩ := px_bs h
  obtain ⟨q42, gq42, h⟩ := px_bs h
  refine EV.callV (As := [.int a1, .int a2, .int a3, .int a5]) (rest := []) dX13_readMore_133 kcX13_readMore_274 (gO_ok go41) rfl rfl rfl (Nat.le_of_ble_eq_true rfl) (Nat.le_of_ble_eq_true rfl) (eX13_over gq42) ?_
  refine EV.istore_n [(3, .int q42.1), (7, .int s0), (0, .ref a0), (1, .int a1), (2, .int a2), (5, .int a5), (6, .int a6)] dX13_readMore_136 rfl (by decide) rfl ?_
  refine EV.aload_n 2 dX13_readMore_137 rfl rfl ?_
  obtain ⟨v43, gv43, h⟩ := px_bs h
  refine ev_gI dX13_readMore_138 flRX13_236 gv43 ?_
  refine EV.if_ne 191 dX13_readMore_141 (by decide) (fun c44 => ?_) (fun c44 => ?_)
  · rw [if_neg c44] at h
    refine EV.sub [2, 3, 4, 0] rfl ?_
    exact eX13_readMore_191 hk5 _ _ _ _ _ _ h
  · rw [if_pos c44] at h
    refine EV.iload 6 dX13_readMore_144 rfl ?_
    refine EV.iconst (1) dX13_readMore_146 (by decide) ?_
    refine EV.icmp_ne 191 dX13_readMore_147 (by decide) (fun c45 => ?_) (fun c45 => ?_)
    · rw [if_neg c45] at h
      refine EV.sub [2, 3, 4, 0] rfl ?_
      exact eX13_readMore_191 hk5 _ _ _ _ _ _ h
    · rw [if_pos c45] at h
      refine EV.aload_n 2 dX13_readMore_150 rfl rfl ?_
      obtain ⟨v46, gv46, h⟩ := px_bs h
      refine ev_gR dX13_readMore_151 flRX13_33 gv46 ?_
      refine EV.bipush (64) dX13_readMore_154 (by decide) ?_
      refine EV.aload_n 2 dX13_readMore_156 rfl rfl ?_
      obtain ⟨v47, gv47, h⟩ := px_bs h
      refine ev_gR dX13_readMore_157 flRX13_30 gv47 ?_
      refine EV.iload_n 3 dX13_readMore_160 rfl rfl ?_
      obtain ⟨v48, gv48, h⟩ := px_bs h
      refine ev_aI dX13_readMore_161 gv48 ?_
      refine EV.iload_n 4 dX13_readMore_162 rfl rfl ?_
      refine EV.iadd dX13_readMore_163 ?_
      refine EV.imul dX13_readMore_164 ?_
      refine EV.iload_n 0 dX13_readMore_165 rfl rfl ?_
      refine EV.iadd dX13_readMore_166 ?_
      refine EV.iload 1 dX13_readMore_167 rfl ?_
      refine EV.iconst (1) dX13_readMore_169 (by decide) ?_
      refine EV.icmp_ne 182 dX13_readMore_170 (by decide) (fun c49 => ?_) (fun c49 => ?_)
      · rw [if_neg c49] at h
        refine EV.iconst (1) dX13_readMore_182 (by decide) ?_
        refine EV.aload_n 2 dX13_readMore_183 rfl rfl ?_
        obtain ⟨v50, gv50, h⟩ := px_bs h
        refine ev_gI dX13_readMore_184 flRX13_115 gv50 ?_
        refine EV.ishl dX13_readMore_187 ?_
        refine EV.ineg dX13_readMore_188 ?_
        refine EV.sub [2, 3, 4, 0] rfl ?_
        exact eX13_readMore_189 hk5 _ _ _ _ _ _ _ _ _ h
      · rw [if_pos c49] at h
        refine EV.iconst (1) dX13_readMore_173 (by decide) ?_
        refine EV.aload_n 2 dX13_readMore_174 rfl rfl ?_
        obtain ⟨v51, gv51, h⟩ := px_bs h
        refine ev_gI dX13_readMore_175 flRX13_115 gv51 ?_
        refine EV.ishl dX13_readMore_178 ?_
        refine EV.goto 189 dX13_readMore_179 (by decide) ?_
        refine EV.sub [2, 3, 4, 0] rfl ?_
        exact eX13_readMore_189 hk5 _ _ _ _ _ _ _ _ _ h
set_option maxRecDepth 100000 in
set_option maxHeartbeats 4000000 in
theorem eX13_readMore_111 {X : px_X} {k5 : Nat → Int32 → Int32 → Int32 → px_W → Option (px_W)} (hk5 : ∀ (a0 : Nat) (a1 : Int32) (a2 : Int32) (a3 : Int32) (w : px_W) (q : px_W), k5 a0 a1 a2 a3 w = some q → EV X mX13_readMore 5 [(0, .ref a0), (1, .int a1), (2, .int a2), (3, .int a3)] [] w none q) : ∀ (a0 : Nat) (a1 : Int32) (a2 : Int32) (a3 : Int32) (a5 : Int32) (a6 : Int32) (w : px_W) (q : px_W), fX13_readMore_111 X k5 a0 a1 a2 a3 a5 a6 w = some q → EV X mX13_readMore 111 [(0, .ref a0), (1, .int a1), (2, .int a2), (3, .int a3), (5, .int a5), (6, .int a6)] [] w none q := by
  intro a0 a1 a2 a3 a5 a6 w q h
  unfold fX13_readMore_111 at h
  refine EV.iload 5 dX13_readMore_111 rfl ?_
  refine EV.iconst (1) dX13_readMore_113 (by decide) ?_
  refine EV.icmp_ne 124 dX13_readMore_114 (by decide) (fun c52 => ?_) (fun c52 => ?_)
  · rw [if_neg c52] at h
    refine EV.iconst (0) dX13_readMore_124 (by decide) ?_
    refine EV.sub [0, 1, 2, 3, 4, 5] rfl ?_
    exact eX13_readMore_125 hk5 _ _ _ _ _ _ _ _ _ h
  · rw [if_pos c52] at h
    refine EV.aload_n 0 dX13_readMore_117 rfl rfl ?_
    obtain ⟨o53, go53, h⟩ := px_bs h
    obtain ⟨q54, gq54, h⟩ := px_bs h
    refine EV.callV (As := []) (rest := []) dX13_readMore_118 kcX13_readMore_254 (gO_ok go53) rfl rfl rfl (Nat.le_of_ble_eq_true rfl) (Nat.le_of_ble_eq_true rfl) (eX13_takeBit gq54) ?_
    refine EV.goto 125 dX13_readMore_121 (by decide) ?_
    refine EV.sub [0, 1, 2, 3, 4, 5] rfl ?_
    exact eX13_readMore_125 hk5 _ _ _ _ _ _ _ _ _ h
set_option maxRecDepth 100000 in
set_option maxHeartbeats 4000000 in
theorem eX13_readMore_73 {X : px_X} {k5 : Nat → Int32 → Int32 → Int32 → px_W → Option (px_W)} (hk5 : ∀ (a0 : Nat) (a1 : Int32) (a2 : Int32) (a3 : Int32) (w : px_W) (q : px_W), k5 a0 a1 a2 a3 w = some q → EV X mX13_readMore 5 [(0, .ref a0), (1, .int a1), (2, .int a2), (3, .int a3)] [] w none q) : ∀ (a0 : Nat) (a1 : Int32) (a2 : Int32) (a3 : Int32) (a5 : Int32) (a6 : Int32) (w : px_W) (q : px_W), fX13_readMore_73 X k5 a0 a1 a2 a3 a5 a6 w = some q → EV X mX13_readMore 73 [(0, .ref a0), (1, .int a1), (2, .int a2), (3, .int a3), (5, .int a5), (6, .int a6)] [] w none q := by
  intro a0 a1 a2 a3 a5 a6 w q h
  unfold fX13_readMore_73 at h
  refine EV.aload_n 0 dX13_readMore_73 rfl rfl ?_
  obtain ⟨v55, gv55, h⟩ := px_bs h
  refine ev_gI dX13_readMore_74 flRX13_236 gv55 ?_
  refine EV.if_le 81 dX13_readMore_77 (by decide) (fun c56 => ?_) (fun c56 => ?_)
  · rw [if_pos c56] at h
    refine EV.iload 5 dX13_readMore_81 rfl ?_
    refine EV.if_ne 111 dX13_readMore_83 (by decide) (fun c57 => ?_) (fun c57 => ?_)
    · rw [if_neg c57] at h
      refine EV.sub [0, 1, 2, 3, 4, 5] rfl ?_
      exact eX13_readMore_111 hk5 _ _ _ _ _ _ _ _ h
    · rw [if_pos c57] at h
      refine EV.iload 4 dX13_readMore_86 rfl ?_
      refine EV.bipush (15) dX13_readMore_88 (by decide) ?_
      refine EV.icmp_ge 111 dX13_readMore_90 (by decide) (fun c58 => ?_) (fun c58 => ?_)
      · rw [if_pos c58] at h
        refine EV.sub [0, 1, 2, 3, 4, 5] rfl ?_
        exact eX13_readMore_111 hk5 _ _ _ _ _ _ _ _ h
      · rw [if_neg c58] at h
        refine EV.aload_n 0 dX13_readMore_93 rfl rfl ?_
        refine EV.iconst (1) dX13_readMore_94 (by decide) ?_
        refine EV.iload 4 dX13_readMore_95 rfl ?_
        refine EV.ishl dX13_readMore_97 ?_
        refine EV.aload_n 0 dX13_readMore_98 rfl rfl ?_
        refine EV.iload 4 dX13_readMore_99 rfl ?_
        obtain ⟨o59, go59, h⟩ := px_bs h
        obtain ⟨q60, gq60, h⟩ := px_bs h
        refine EV.callV (As := [.int a5]) (rest := [.int ((1 : Int32) <<< (a5 &&& 31)), .ref a0]) dX13_readMore_101 kcX13_readMore_257 (gO_ok go59) rfl rfl rfl (Nat.le_of_ble_eq_true rfl) (Nat.le_of_ble_eq_true rfl) (eX13_takeBits gq60) ?_
        refine EV.iadd dX13_readMore_104 ?_
        obtain ⟨w61, gw61, h⟩ := px_bs h
        refine ev_pV dX13_readMore_105 flRX13_177 rfl rfl rfl rfl gw61 ?_
        refine EV.goto 194 dX13_readMore_108 (by decide) ?_
        refine EV.sub [0, 1, 2, 3] rfl ?_
        exact eX13_readMore_194 hk5 _ _ _ _ _ _ h
  · rw [if_neg c56] at h
    cases h
    exact EV.ret0 dX13_readMore_80 trivial
set_option maxRecDepth 100000 in
set_option maxHeartbeats 4000000 in
theorem eX13_readMore_253 {X : px_X}  : ∀ (a0 : Nat) (w : px_W) (q : px_W), fX13_readMore_253 X  a0 w = some q → EV X mX13_readMore 253 [(0, .ref a0)] [] w none q := by
  intro a0 w q h
  unfold fX13_readMore_253 at h
  refine EV.aload_n 0 dX13_readMore_253 rfl rfl ?_
  refine EV.dup dX13_readMore_254 rfl ?_
  obtain ⟨v62, gv62, h⟩ := px_bs h
  refine ev_gI dX13_readMore_255 flRX13_177 gv62 ?_
  refine EV.iconst (1) dX13_readMore_258 (by decide) ?_
  refine EV.isub dX13_readMore_259 ?_
  obtain ⟨w63, gw63, h⟩ := px_bs h
  refine ev_pV dX13_readMore_260 flRX13_177 rfl rfl rfl rfl gw63 ?_
  cases h
  exact EV.ret0 dX13_readMore_263 trivial
set_option maxRecDepth 100000 in
set_option maxHeartbeats 4000000 in
theorem eX13_readMore_247 {X : px_X} {k204 : Nat → Int32 → Int32 → Int32 → px_W → Option (px_W)} (hk204 : ∀ (a0 : Nat) (a1 : Int32) (a2 : Int32) (a3 : Int32) (w : px_W) (q : px_W), k204 a0 a1 a2 a3 w = some q → EV X mX13_readMore 204 [(0, .ref a0), (1, .int a1), (2, .int a2), (3, .int a3)] [] w none q) : ∀ (a0 : Nat) (a1 : Int32) (a2 : Int32) (a3 : Int32) (w : px_W) (q : px_W), fX13_readMore_247 X k204 a0 a1 a2 a3 w = some q → EV X mX13_readMore 247 [(0, .ref a0), (1, .int a1), (2, .int a2), (3, .int a3)] [] w none q := by
  intro a0 a1 a2 a3 w q h
  unfold fX13_readMore_247 at h
  refine EV.iinc 3 (a3 + 1) [(3, .int (a3 + 1)), (0, .ref a0), (1, .int a1), (2, .int a2)] dX13_readMore_247 rfl rfl (by decide) rfl ?_
  refine EV.goto 204 dX13_readMore_250 (by decide) ?_
  refine EV.sub [1, 2, 3, 0] rfl ?_
  exact hk204 _ _ _ _ _ _ h
set_option maxRecDepth 100000 in
set_option maxHeartbeats 4000000 in
theorem eX13_readMore_204 {X : px_X}  : ∀ (m : Nat) (a0 : Nat) (a1 : Int32) (a2 : Int32) (a3 : Int32) (w : px_W) (q : px_W), fX13_readMore_204 X  m a0 a1 a2 a3 w = some q → EV X mX13_readMore 204 [(0, .ref a0), (1, .int a1), (2, .int a2), (3, .int a3)] [] w none q := by
  intro m
  induction m with
  | zero => intro a0 a1 a2 a3 w q h; cases h
  | succ m ih =>
    intro a0 a1 a2 a3 w q h
    rw [fX13_readMore_204.eq_2] at h
    refine EV.iload_n 3 dX13_readMore_204 rfl rfl ?_
    refine EV.aload_n 0 dX13_readMore_205 rfl rfl ?_
    obtain ⟨v64, gv64, h⟩ := px_bs h
    refine ev_gI dX13_readMore_206 flRX13_109 gv64 ?_
    refine EV.icmp_gt 253 dX13_readMore_209 (by decide) (fun c65 => ?_) (fun c65 => ?_)
    · rw [if_pos c65] at h
      refine EV.sub [0] rfl ?_
      exact eX13_readMore_253  _ _ _ h
    · rw [if_neg c65] at h
      refine EV.aload_n 0 dX13_readMore_212 rfl rfl ?_
      obtain ⟨v66, gv66, h⟩ := px_bs h
      refine ev_gI dX13_readMore_213 flRX13_236 gv66 ?_
      refine EV.if_ne 253 dX13_readMore_216 (by decide) (fun c67 => ?_) (fun c67 => ?_)
      · rw [if_neg c67] at h
        refine EV.sub [0] rfl ?_
        exact eX13_readMore_253  _ _ _ h
      · rw [if_pos c67] at h
        refine EV.aload_n 0 dX13_readMore_219 rfl rfl ?_
        obtain ⟨v68, gv68, h⟩ := px_bs h
        refine ev_gR dX13_readMore_220 flRX13_33 gv68 ?_
        refine EV.bipush (64) dX13_readMore_223 (by decide) ?_
        refine EV.aload_n 0 dX13_readMore_225 rfl rfl ?_
        obtain ⟨v69, gv69, h⟩ := px_bs h
        refine ev_gR dX13_readMore_226 flRX13_30 gv69 ?_
        refine EV.iload_n 1 dX13_readMore_229 rfl rfl ?_
        obtain ⟨v70, gv70, h⟩ := px_bs h
        refine ev_aI dX13_readMore_230 gv70 ?_
        refine EV.iload_n 2 dX13_readMore_231 rfl rfl ?_
        refine EV.iadd dX13_readMore_232 ?_
        refine EV.imul dX13_readMore_233 ?_
        refine EV.iload_n 3 dX13_readMore_234 rfl rfl ?_
        refine EV.iadd dX13_readMore_235 ?_
        obtain ⟨v71, gv71, h⟩ := px_bs h
        refine ev_aS dX13_readMore_236 gv71 ?_
        refine EV.if_eq 247 dX13_readMore_237 (by decide) (fun c72 => ?_) (fun c72 => ?_)
        · rw [if_pos c72] at h
          refine EV.sub [0, 1, 2, 3] rfl ?_
          exact eX13_readMore_247 ih _ _ _ _ _ _ h
        · rw [if_neg c72] at h
          refine EV.aload_n 0 dX13_readMore_240 rfl rfl ?_
          refine EV.iload_n 1 dX13_readMore_241 rfl rfl ?_
          refine EV.iload_n 2 dX13_readMore_242 rfl rfl ?_
          refine EV.iload_n 3 dX13_readMore_243 rfl rfl ?_
          obtain ⟨o73, go73, h⟩ := px_bs h
          obtain ⟨q74, gq74, h⟩ := px_bs h
          refine EV.callV (As := [.int a1, .int a2, .int a3]) (rest := []) dX13_readMore_244 kcX13_readMore_277 (gO_ok go73) rfl rfl rfl (Nat.le_of_ble_eq_true rfl) (Nat.le_of_ble_eq_true rfl) (eX13_more gq74) ?_
          refine EV.sub [0, 1, 2, 3] rfl ?_
          exact eX13_readMore_247 ih _ _ _ _ _ _ h
set_option maxRecDepth 100000 in
set_option maxHeartbeats 4000000 in
theorem eX13_readMore_197 {X : px_X}  : ∀ (a0 : Nat) (a1 : Int32) (a2 : Int32) (a3 : Int32) (w : px_W) (q : px_W), fX13_readMore_197 X  a0 a1 a2 a3 w = some q → EV X mX13_readMore 197 [(0, .ref a0), (1, .int a1), (2, .int a2), (3, .int a3)] [] w none q := by
  intro a0 a1 a2 a3 w q h
  unfold fX13_readMore_197 at h
  refine EV.aload_n 0 dX13_readMore_197 rfl rfl ?_
  obtain ⟨v75, gv75, h⟩ := px_bs h
  refine ev_gI dX13_readMore_198 flRX13_177 gv75 ?_
  refine EV.if_le 263 dX13_readMore_201 (by decide) (fun c76 => ?_) (fun c76 => ?_)
  · rw [if_pos c76] at h
    cases h
    exact EV.ret0 dX13_readMore_263 trivial
  · rw [if_neg c76] at h
    refine EV.sub [0, 1, 2, 3] rfl ?_
    exact eX13_readMore_204  FU _ _ _ _ _ _ h
set_option maxRecDepth 100000 in
set_option maxHeartbeats 4000000 in
theorem eX13_readMore_5 {X : px_X}  : ∀ (m : Nat) (a0 : Nat) (a1 : Int32) (a2 : Int32) (a3 : Int32) (w : px_W) (q : px_W), fX13_readMore_5 X  m a0 a1 a2 a3 w = some q → EV X mX13_readMore 5 [(0, .ref a0), (1, .int a1), (2, .int a2), (3, .int a3)] [] w none q := by
  intro m
  induction m with
  | zero => intro a0 a1 a2 a3 w q h; cases h
  | succ m ih =>
    intro a0 a1 a2 a3 w q h
    rw [fX13_readMore_5.eq_2] at h
    refine EV.iload_n 3 dX13_readMore_5 rfl rfl ?_
    refine EV.aload_n 0 dX13_readMore_6 rfl rfl ?_
    obtain ⟨v77, gv77, h⟩ := px_bs h
    refine ev_gI dX13_readMore_7 flRX13_109 gv77 ?_
    refine EV.icmp_gt 197 dX13_readMore_10 (by decide) (fun c78 => ?_) (fun c78 => ?_)
    · rw [if_pos c78] at h
      refine EV.sub [0, 1, 2, 3] rfl ?_
      exact eX13_readMore_197  _ _ _ _ _ _ h
    · rw [if_neg c78] at h
      refine EV.aload_n 0 dX13_readMore_13 rfl rfl ?_
      obtain ⟨v79, gv79, h⟩ := px_bs h
      refine ev_gI dX13_readMore_14 flRX13_177 gv79 ?_
      refine EV.if_ne 197 dX13_readMore_17 (by decide) (fun c80 => ?_) (fun c80 => ?_)
      · rw [if_neg c80] at h
        refine EV.sub [0, 1, 2, 3] rfl ?_
        exact eX13_readMore_197  _ _ _ _ _ _ h
      · rw [if_pos c80] at h
        refine EV.aload_n 0 dX13_readMore_20 rfl rfl ?_
        obtain ⟨v81, gv81, h⟩ := px_bs h
        refine ev_gI dX13_readMore_21 flRX13_236 gv81 ?_
        refine EV.if_ne 197 dX13_readMore_24 (by decide) (fun c82 => ?_) (fun c82 => ?_)
        · rw [if_neg c82] at h
          refine EV.sub [0, 1, 2, 3] rfl ?_
          exact eX13_readMore_197  _ _ _ _ _ _ h
        · rw [if_pos c82] at h
          refine EV.aload_n 0 dX13_readMore_27 rfl rfl ?_
          refine EV.aload_n 0 dX13_readMore_28 rfl rfl ?_
          obtain ⟨v83, gv83, h⟩ := px_bs h
          refine ev_gR dX13_readMore_29 flRX13_58 gv83 ?_
          refine EV.iload_n 1 dX13_readMore_32 rfl rfl ?_
          obtain ⟨v84, gv84, h⟩ := px_bs h
          refine ev_aI dX13_readMore_33 gv84 ?_
          obtain ⟨o85, go85, h⟩ := px_bs h
          obtain ⟨q86, gq86, h⟩ := px_bs h
          refine EV.callV (As := [.int v84]) (rest := []) dX13_readMore_34 kcX13_readMore_264 (gO_ok go85) rfl rfl rfl (Nat.le_of_ble_eq_true rfl) (Nat.le_of_ble_eq_true rfl) (eX13_symbol gq86) ?_
          refine EV.istore [(4, .int q86.1), (0, .ref a0), (1, .int a1), (2, .int a2), (3, .int a3)] dX13_readMore_37 (by decide) rfl ?_
          refine EV.iload 0 dX13_readMore_39 rfl ?_
          refine EV.bipush (16) dX13_readMore_41 (by decide) ?_
          obtain ⟨v87, gv87, h⟩ := px_bs h
          refine ev_dI dX13_readMore_43 gv87 ?_
          refine EV.istore [(5, .int v87), (4, .int q86.1), (0, .ref a0), (1, .int a1), (2, .int a2), (3, .int a3)] dX13_readMore_44 (by decide) rfl ?_
          refine EV.iload 1 dX13_readMore_46 rfl ?_
          refine EV.bipush (16) dX13_readMore_48 (by decide) ?_
          obtain ⟨v88, gv88, h⟩ := px_bs h
          refine ev_rI dX13_readMore_50 gv88 ?_
          refine EV.istore [(6, .int v88), (5, .int v87), (4, .int q86.1), (0, .ref a0), (1, .int a1), (2, .int a2), (3, .int a3)] dX13_readMore_51 (by decide) rfl ?_
          refine EV.aload_n 3 dX13_readMore_53 rfl rfl ?_
          obtain ⟨v89, gv89, h⟩ := px_bs h
          refine ev_gI dX13_readMore_54 flRX13_236 gv89 ?_
          refine EV.if_ne 73 dX13_readMore_57 (by decide) (fun c90 => ?_) (fun c90 => ?_)
          · rw [if_neg c90] at h
            refine EV.sub [3, 4, 5, 6, 1, 0] rfl ?_
            exact eX13_readMore_73 ih _ _ _ _ _ _ _ _ h
          · rw [if_pos c90] at h
            refine EV.iload 0 dX13_readMore_60 rfl ?_
            refine EV.iconst (1) dX13_readMore_62 (by decide) ?_
            refine EV.icmp_le 73 dX13_readMore_63 (by decide) (fun c91 => ?_) (fun c91 => ?_)
            · rw [if_pos c91] at h
              refine EV.sub [3, 4, 5, 6, 1, 0] rfl ?_
              exact eX13_readMore_73 ih _ _ _ _ _ _ _ _ h
            · rw [if_neg c91] at h
              refine EV.aload_n 3 dX13_readMore_66 rfl rfl ?_
              refine EV.iconst (3) dX13_readMore_67 (by decide) ?_
              obtain ⟨o92, go92, h⟩ := px_bs h
              obtain ⟨q93, gq93, h⟩ := px_bs h
              refine EV.callV (As := [.int 3]) (rest := []) dX13_readMore_68 kcX13_readMore_248 (gO_ok go92) rfl rfl rfl (Nat.le_of_ble_eq_true rfl) (Nat.le_of_ble_eq_true rfl) (eX13_wrong gq93) ?_
              refine EV.istore [(7, .int q93.1), (6, .int v88), (5, .int v87), (4, .int q86.1), (0, .ref a0), (1, .int a1), (2, .int a2), (3, .int a3)] dX13_readMore_71 (by decide) rfl ?_
              refine EV.sub [4, 5, 6, 7, 2, 1] rfl ?_
              exact eX13_readMore_73 ih _ _ _ _ _ _ _ _ h
set_option maxRecDepth 100000 in
set_option maxHeartbeats 4000000 in
theorem eX13_readMore {X : px_X} {w : px_W} {a0 : Nat} {a1 : Int32} {a2 : Int32} {q : px_W} (h : fX13_readMore X w a0 a1 a2 = some q) : EV X mX13_readMore 0 (lv_args 0 [.ref a0, .int a1, .int a2]) [] w none q := by
  unfold fX13_readMore at h
  show EV X mX13_readMore 0 [(0, .ref a0), (1, .int a1), (2, .int a2)] [] w none q
  refine EV.aload_n 0 dX13_readMore_0 rfl rfl ?_
  obtain ⟨v94, gv94, h⟩ := px_bs h
  refine ev_gI dX13_readMore_1 flRX13_106 gv94 ?_
  refine EV.istore_n [(3, .int v94), (0, .ref a0), (1, .int a1), (2, .int a2)] dX13_readMore_4 rfl (by decide) rfl ?_
  refine EV.sub [1, 2, 3, 0] rfl ?_
  exact eX13_readMore_5  FU _ _ _ _ _ _ h
/-! WavePicturesModel$Scans.readBlock(II)V -/
theorem dX13_readBlock_0 : decode cX13_readBlock 0 = .ok (.aload_n 0, 1) := by decide +kernel
theorem dX13_readBlock_1 : decode cX13_readBlock 1 = .ok (.getfield 106, 3) := by decide +kernel
theorem dX13_readBlock_4 : decode cX13_readBlock 4 = .ok (.ifCond .ne 9, 3) := by decide +kernel
theorem dX13_readBlock_7 : decode cX13_readBlock 7 = .ok (.aload_n 0, 1) := by decide +kernel
theorem dX13_readBlock_8 : decode cX13_readBlock 8 = .ok (.iload_n 1, 1) := by decide +kernel
theorem dX13_readBlock_9 : decode cX13_readBlock 9 = .ok (.iload_n 2, 1) := by decide +kernel
theorem dX13_readBlock_10 : decode cX13_readBlock 10 = .ok (.invokevirtual 280, 3) := by decide +kernel
theorem dX13_readBlock_13 : decode cX13_readBlock 13 = .ok (.aload_n 0, 1) := by decide +kernel
theorem dX13_readBlock_14 : decode cX13_readBlock 14 = .ok (.getfield 109, 3) := by decide +kernel
theorem dX13_readBlock_17 : decode cX13_readBlock 17 = .ok (.ifCond .le 41, 3) := by decide +kernel
theorem dX13_readBlock_20 : decode cX13_readBlock 20 = .ok (.aload_n 0, 1) := by decide +kernel
theorem dX13_readBlock_21 : decode cX13_readBlock 21 = .ok (.getfield 112, 3) := by decide +kernel
theorem dX13_readBlock_24 : decode cX13_readBlock 24 = .ok (.ifCond .ne 34, 3) := by decide +kernel
theorem dX13_readBlock_27 : decode cX13_readBlock 27 = .ok (.aload_n 0, 1) := by decide +kernel
theorem dX13_readBlock_28 : decode cX13_readBlock 28 = .ok (.getfield 236, 3) := by decide +kernel
theorem dX13_readBlock_31 : decode cX13_readBlock 31 = .ok (.ifCond .ne 27, 3) := by decide +kernel
theorem dX13_readBlock_34 : decode cX13_readBlock 34 = .ok (.aload_n 0, 1) := by decide +kernel
theorem dX13_readBlock_35 : decode cX13_readBlock 35 = .ok (.iload_n 1, 1) := by decide +kernel
theorem dX13_readBlock_36 : decode cX13_readBlock 36 = .ok (.iload_n 2, 1) := by decide +kernel
theorem dX13_readBlock_37 : decode cX13_readBlock 37 = .ok (.aload_n 0, 1) := by decide +kernel
theorem dX13_readBlock_38 : decode cX13_readBlock 38 = .ok (.getfield 106, 3) := by decide +kernel
theorem dX13_readBlock_41 : decode cX13_readBlock 41 = .ok (.ifCond .ne 7, 3) := by decide +kernel
theorem dX13_readBlock_44 : decode cX13_readBlock 44 = .ok (.iconst 1, 1) := by decide +kernel
theorem dX13_readBlock_45 : decode cX13_readBlock 45 = .ok (.goto 7, 3) := by decide +kernel
theorem dX13_readBlock_48 : decode cX13_readBlock 48 = .ok (.aload_n 0, 1) := by decide +kernel
theorem dX13_readBlock_49 : decode cX13_readBlock 49 = .ok (.getfield 106, 3) := by decide +kernel
theorem dX13_readBlock_52 : decode cX13_readBlock 52 = .ok (.invokevirtual 283, 3) := by decide +kernel
theorem dX13_readBlock_55 : decode cX13_readBlock 55 = .ok (.goto 23, 3) := by decide +kernel
theorem dX13_readBlock_58 : decode cX13_readBlock 58 = .ok (.aload_n 0, 1) := by decide +kernel
theorem dX13_readBlock_59 : decode cX13_readBlock 59 = .ok (.getfield 109, 3) := by decide +kernel
theorem dX13_readBlock_62 : decode cX13_readBlock 62 = .ok (.ifCond .le 16, 3) := by decide +kernel
theorem dX13_readBlock_65 : decode cX13_readBlock 65 = .ok (.aload_n 0, 1) := by decide +kernel
theorem dX13_readBlock_66 : decode cX13_readBlock 66 = .ok (.getfield 236, 3) := by decide +kernel
theorem dX13_readBlock_69 : decode cX13_readBlock 69 = .ok (.ifCond .ne 9, 3) := by decide +kernel
theorem dX13_readBlock_72 : decode cX13_readBlock 72 = .ok (.aload_n 0, 1) := by decide +kernel
theorem dX13_readBlock_73 : decode cX13_readBlock 73 = .ok (.iload_n 1, 1) := by decide +kernel
theorem dX13_readBlock_74 : decode cX13_readBlock 74 = .ok (.iload_n 2, 1) := by decide +kernel
theorem dX13_readBlock_75 : decode cX13_readBlock 75 = .ok (.invokevirtual 286, 3) := by decide +kernel
theorem dX13_readBlock_78 : decode cX13_readBlock 78 = .ok (.return_, 1) := by decide +kernel
theorem mbX13_readDirect : px_mB mX13_readDirect 2 := ⟨tb9 (List.mem_of_getElem? (i := 56) rfl), by decide +kernel, tb1 (List.mem_of_getElem? (i := 15) rfl), by decide +kernel, by decide +kernel⟩
theorem vbX13_readDirect : px_vB mX13_readDirect := ⟨tb9 (List.mem_of_getElem? (i := 55) rfl), List.mem_append_left _ (List.mem_of_getElem? (i := 121) (by decide +kernel))⟩
theorem kcX13_readBlock_280 : px_cV mX13_readBlock 280 mX13_readDirect 2 := ⟨⟨mbX13_readDirect, by decide, by decide⟩, Or.inl (tb9 (List.mem_of_getElem? (i := 53) rfl)), vbX13_readDirect⟩
theorem mbX13_readOthers : px_mB mX13_readOthers 3 := ⟨tb9 (List.mem_of_getElem? (i := 83) rfl), by decide +kernel, tb1 (List.mem_of_getElem? (i := 15) rfl), by decide +kernel, by decide +kernel⟩
theorem vbX13_readOthers : px_vB mX13_readOthers := ⟨tb9 (List.mem_of_getElem? (i := 82) rfl), List.mem_append_left _ (List.mem_of_getElem? (i := 127) (by decide +kernel))⟩
theorem kcX13_readBlock_283 : px_cV mX13_readBlock 283 mX13_readOthers 3 := ⟨⟨mbX13_readOthers, by decide, by decide⟩, Or.inl (tb9 (List.mem_of_getElem? (i := 80) rfl)), vbX13_readOthers⟩
theorem mbX13_readMore : px_mB mX13_readMore 2 := ⟨tb9 (List.mem_of_getElem? (i := 87) rfl), by decide +kernel, tb1 (List.mem_of_getElem? (i := 15) rfl), by decide +kernel, by decide +kernel⟩
theorem vbX13_readMore : px_vB mX13_readMore := ⟨tb9 (List.mem_of_getElem? (i := 86) rfl), List.mem_append_left _ (List.mem_of_getElem? (i := 128) (by decide +kernel))⟩
theorem kcX13_readBlock_286 : px_cV mX13_readBlock 286 mX13_readMore 2 := ⟨⟨mbX13_readMore, by decide, by decide⟩, Or.inl (tb9 (List.mem_of_getElem? (i := 84) rfl)), vbX13_readMore⟩
set_option maxRecDepth 100000 in
set_option maxHeartbeats 4000000 in
theorem eX13_readBlock_58 {X : px_X}  : ∀ (a0 : Nat) (a1 : Int32) (a2 : Int32) (w : px_W) (q : px_W), fX13_readBlock_58 X  a0 a1 a2 w = some q → EV X mX13_readBlock 58 [(0, .ref a0), (1, .int a1), (2, .int a2)] [] w none q := by
  intro a0 a1 a2 w q h
  unfold fX13_readBlock_58 at h
  refine EV.aload_n 0 dX13_readBlock_58 rfl rfl ?_
  obtain ⟨v15, gv15, h⟩ := px_bs h
  refine ev_gI dX13_readBlock_59 flRX13_109 gv15 ?_
  refine EV.if_le 78 dX13_readBlock_62 (by decide) (fun c16 => ?_) (fun c16 => ?_)
  · rw [if_pos c16] at h
    cases h
    exact EV.ret0 dX13_readBlock_78 trivial
  · rw [if_neg c16] at h
    refine EV.aload_n 0 dX13_readBlock_65 rfl rfl ?_
    obtain ⟨v17, gv17, h⟩ := px_bs h
    refine ev_gI dX13_readBlock_66 flRX13_236 gv17 ?_
    refine EV.if_ne 78 dX13_readBlock_69 (by decide) (fun c18 => ?_) (fun c18 => ?_)
    · rw [if_neg c18] at h
      cases h
      exact EV.ret0 dX13_readBlock_78 trivial
    · rw [if_pos c18] at h
      refine EV.aload_n 0 dX13_readBlock_72 rfl rfl ?_
      refine EV.iload_n 1 dX13_readBlock_73 rfl rfl ?_
      refine EV.iload_n 2 dX13_readBlock_74 rfl rfl ?_
      obtain ⟨o19, go19, h⟩ := px_bs h
      obtain ⟨q20, gq20, h⟩ := px_bs h
      refine EV.callV (As := [.int a1, .int a2]) (rest := []) dX13_readBlock_75 kcX13_readBlock_286 (gO_ok go19) rfl rfl rfl (Nat.le_of_ble_eq_true rfl) (Nat.le_of_ble_eq_true rfl) (eX13_readMore gq20) ?_
      cases h
      exact EV.ret0 dX13_readBlock_78 trivial
set_option maxRecDepth 100000 in
set_option maxHeartbeats 4000000 in
theorem eX13_readBlock_52 {X : px_X}  : ∀ (s0 : Int32) (s1 : Int32) (s2 : Int32) (s3 : Nat) (w : px_W) (q : px_W), fX13_readBlock_52 X  s0 s1 s2 s3 w = some q → EV X mX13_readBlock 52 [] [.int s0, .int s1, .int s2, .ref s3] w none q := by
  intro s0 s1 s2 s3 w q h
  unfold fX13_readBlock_52 at h
  obtain ⟨o21, go21, h⟩ := px_bs h
  obtain ⟨q22, gq22, h⟩ := px_bs h
  refine EV.callV (As := [.int s2, .int s1, .int s0]) (rest := []) dX13_readBlock_52 kcX13_readBlock_283 (gO_ok go21) rfl rfl rfl (Nat.le_of_ble_eq_true rfl) (Nat.le_of_ble_eq_true rfl) (eX13_readOthers gq22) ?_
  refine EV.goto 78 dX13_readBlock_55 (by decide) ?_
  cases h
  exact EV.ret0 dX13_readBlock_78 trivial
set_option maxRecDepth 100000 in
set_option maxHeartbeats 4000000 in
theorem eX13_readBlock_13 {X : px_X}  : ∀ (a0 : Nat) (a1 : Int32) (a2 : Int32) (w : px_W) (q : px_W), fX13_readBlock_13 X  a0 a1 a2 w = some q → EV X mX13_readBlock 13 [(0, .ref a0), (1, .int a1), (2, .int a2)] [] w none q := by
  intro a0 a1 a2 w q h
  unfold fX13_readBlock_13 at h
  refine EV.aload_n 0 dX13_readBlock_13 rfl rfl ?_
  obtain ⟨v23, gv23, h⟩ := px_bs h
  refine ev_gI dX13_readBlock_14 flRX13_109 gv23 ?_
  refine EV.if_le 58 dX13_readBlock_17 (by decide) (fun c24 => ?_) (fun c24 => ?_)
  · rw [if_pos c24] at h
    refine EV.sub [0, 1, 2] rfl ?_
    exact eX13_readBlock_58  _ _ _ _ _ h
  · rw [if_neg c24] at h
    refine EV.aload_n 0 dX13_readBlock_20 rfl rfl ?_
    obtain ⟨v25, gv25, h⟩ := px_bs h
    refine ev_gI dX13_readBlock_21 flRX13_112 gv25 ?_
    refine EV.if_ne 58 dX13_readBlock_24 (by decide) (fun c26 => ?_) (fun c26 => ?_)
    · rw [if_neg c26] at h
      refine EV.sub [0, 1, 2] rfl ?_
      exact eX13_readBlock_58  _ _ _ _ _ h
    · rw [if_pos c26] at h
      refine EV.aload_n 0 dX13_readBlock_27 rfl rfl ?_
      obtain ⟨v27, gv27, h⟩ := px_bs h
      refine ev_gI dX13_readBlock_28 flRX13_236 gv27 ?_
      refine EV.if_ne 58 dX13_readBlock_31 (by decide) (fun c28 => ?_) (fun c28 => ?_)
      · rw [if_neg c28] at h
        refine EV.sub [0, 1, 2] rfl ?_
        exact eX13_readBlock_58  _ _ _ _ _ h
      · rw [if_pos c28] at h
        refine EV.aload_n 0 dX13_readBlock_34 rfl rfl ?_
        refine EV.iload_n 1 dX13_readBlock_35 rfl rfl ?_
        refine EV.iload_n 2 dX13_readBlock_36 rfl rfl ?_
        refine EV.aload_n 0 dX13_readBlock_37 rfl rfl ?_
        obtain ⟨v29, gv29, h⟩ := px_bs h
        refine ev_gI dX13_readBlock_38 flRX13_106 gv29 ?_
        refine EV.if_ne 48 dX13_readBlock_41 (by decide) (fun c30 => ?_) (fun c30 => ?_)
        · rw [if_neg c30] at h
          refine EV.aload_n 0 dX13_readBlock_48 rfl rfl ?_
          obtain ⟨v31, gv31, h⟩ := px_bs h
          refine ev_gI dX13_readBlock_49 flRX13_106 gv31 ?_
          refine EV.sub [] rfl ?_
          exact eX13_readBlock_52  _ _ _ _ _ _ h
        · rw [if_pos c30] at h
          refine EV.iconst (1) dX13_readBlock_44 (by decide) ?_
          refine EV.goto 52 dX13_readBlock_45 (by decide) ?_
          refine EV.sub [] rfl ?_
          exact eX13_readBlock_52  _ _ _ _ _ _ h
set_option maxRecDepth 100000 in
set_option maxHeartbeats 4000000 in
theorem eX13_readBlock {X : px_X} {w : px_W} {a0 : Nat} {a1 : Int32} {a2 : Int32} {q : px_W} (h : fX13_readBlock X w a0 a1 a2 = some q) : EV X mX13_readBlock 0 (lv_args 0 [.ref a0, .int a1, .int a2]) [] w none q := by
  unfold fX13_readBlock at h
  show EV X mX13_readBlock 0 [(0, .ref a0), (1, .int a1), (2, .int a2)] [] w none q
  refine EV.aload_n 0 dX13_readBlock_0 rfl rfl ?_
  obtain ⟨v32, gv32, h⟩ := px_bs h
  refine ev_gI dX13_readBlock_1 flRX13_106 gv32 ?_
  refine EV.if_ne 13 dX13_readBlock_4 (by decide) (fun c33 => ?_) (fun c33 => ?_)
  · rw [if_neg c33] at h
    refine EV.sub [0, 1, 2] rfl ?_
    exact eX13_readBlock_13  _ _ _ _ _ h
  · rw [if_pos c33] at h
    refine EV.aload_n 0 dX13_readBlock_7 rfl rfl ?_
    refine EV.iload_n 1 dX13_readBlock_8 rfl rfl ?_
    refine EV.iload_n 2 dX13_readBlock_9 rfl rfl ?_
    obtain ⟨o34, go34, h⟩ := px_bs h
    obtain ⟨q35, gq35, h⟩ := px_bs h
    refine EV.callV (As := [.int a1, .int a2]) (rest := []) dX13_readBlock_10 kcX13_readBlock_280 (gO_ok go34) rfl rfl rfl (Nat.le_of_ble_eq_true rfl) (Nat.le_of_ble_eq_true rfl) (eX13_readDirect gq35) ?_
    refine EV.sub [0, 1, 2] rfl ?_
    exact eX13_readBlock_13  _ _ _ _ _ h
/-! WavePicturesModel$Scans.finish(I)V -/
theorem dX13_finish_0 : decode cX13_finish 0 = .ok (.aload_n 0, 1) := by decide +kernel
theorem dX13_finish_1 : decode cX13_finish 1 = .ok (.getfield 177, 3) := by decide +kernel
theorem dX13_finish_4 : decode cX13_finish 4 = .ok (.ifCond .ne 7, 3) := by decide +kernel
theorem dX13_finish_7 : decode cX13_finish 7 = .ok (.iconst 1, 1) := by decide +kernel
theorem dX13_finish_8 : decode cX13_finish 8 = .ok (.goto 4, 3) := by decide +kernel
theorem dX13_finish_11 : decode cX13_finish 11 = .ok (.iconst 0, 1) := by decide +kernel
theorem dX13_finish_12 : decode cX13_finish 12 = .ok (.istore_n 2, 1) := by decide +kernel
theorem dX13_finish_13 : decode cX13_finish 13 = .ok (.iconst 0, 1) := by decide +kernel
theorem dX13_finish_14 : decode cX13_finish 14 = .ok (.istore_n 3, 1) := by decide +kernel
theorem dX13_finish_15 : decode cX13_finish 15 = .ok (.iload_n 3, 1) := by decide +kernel
theorem dX13_finish_16 : decode cX13_finish 16 = .ok (.aload_n 0, 1) := by decide +kernel
theorem dX13_finish_17 : decode cX13_finish 17 = .ok (.getfield 242, 3) := by decide +kernel
theorem dX13_finish_20 : decode cX13_finish 20 = .ok (.if_icmp .ge 31, 3) := by decide +kernel
theorem dX13_finish_23 : decode cX13_finish 23 = .ok (.iload_n 2, 1) := by decide +kernel
theorem dX13_finish_24 : decode cX13_finish 24 = .ok (.ifCond .eq 19, 3) := by decide +kernel
theorem dX13_finish_27 : decode cX13_finish 27 = .ok (.aload_n 0, 1) := by decide +kernel
theorem dX13_finish_28 : decode cX13_finish 28 = .ok (.getfield 251, 3) := by decide +kernel
theorem dX13_finish_31 : decode cX13_finish 31 = .ok (.iload_n 3, 1) := by decide +kernel
theorem dX13_finish_32 : decode cX13_finish 32 = .ok (.ishr, 1) := by decide +kernel
theorem dX13_finish_33 : decode cX13_finish 33 = .ok (.iconst 1, 1) := by decide +kernel
theorem dX13_finish_34 : decode cX13_finish 34 = .ok (.iand, 1) := by decide +kernel
theorem dX13_finish_35 : decode cX13_finish 35 = .ok (.iconst 1, 1) := by decide +kernel
theorem dX13_finish_36 : decode cX13_finish 36 = .ok (.if_icmp .ne 7, 3) := by decide +kernel
theorem dX13_finish_39 : decode cX13_finish 39 = .ok (.iconst 1, 1) := by decide +kernel
theorem dX13_finish_40 : decode cX13_finish 40 = .ok (.goto 4, 3) := by decide +kernel
theorem dX13_finish_43 : decode cX13_finish 43 = .ok (.iconst 0, 1) := by decide +kernel
theorem dX13_finish_44 : decode cX13_finish 44 = .ok (.istore_n 2, 1) := by decide +kernel
theorem dX13_finish_45 : decode cX13_finish 45 = .ok (.iinc 3 1, 3) := by decide +kernel
theorem dX13_finish_48 : decode cX13_finish 48 = .ok (.goto (-33), 3) := by decide +kernel
theorem dX13_finish_51 : decode cX13_finish 51 = .ok (.iload_n 2, 1) := by decide +kernel
theorem dX13_finish_52 : decode cX13_finish 52 = .ok (.ifCond .eq 51, 3) := by decide +kernel
theorem dX13_finish_55 : decode cX13_finish 55 = .ok (.iload_n 1, 1) := by decide +kernel
theorem dX13_finish_56 : decode cX13_finish 56 = .ok (.ifCond .ne 17, 3) := by decide +kernel
theorem dX13_finish_59 : decode cX13_finish 59 = .ok (.aload_n 0, 1) := by decide +kernel
theorem dX13_finish_60 : decode cX13_finish 60 = .ok (.getfield 239, 3) := by decide +kernel
theorem dX13_finish_63 : decode cX13_finish 63 = .ok (.aload_n 0, 1) := by decide +kernel
theorem dX13_finish_64 : decode cX13_finish 64 = .ok (.getfield 233, 3) := by decide +kernel
theorem dX13_finish_67 : decode cX13_finish 67 = .ok (.if_icmp .ne 36, 3) := by decide +kernel
theorem dX13_finish_70 : decode cX13_finish 70 = .ok (.goto 29, 3) := by decide +kernel
theorem dX13_finish_73 : decode cX13_finish 73 = .ok (.aload_n 0, 1) := by decide +kernel
theorem dX13_finish_74 : decode cX13_finish 74 = .ok (.invokevirtual 245, 3) := by decide +kernel
theorem dX13_finish_77 : decode cX13_finish 77 = .ok (.ifCond .eq 26, 3) := by decide +kernel
theorem dX13_finish_80 : decode cX13_finish 80 = .ok (.aload_n 0, 1) := by decide +kernel
theorem dX13_finish_81 : decode cX13_finish 81 = .ok (.getfield 61, 3) := by decide +kernel
theorem dX13_finish_84 : decode cX13_finish 84 = .ok (.aload_n 0, 1) := by decide +kernel
theorem dX13_finish_85 : decode cX13_finish 85 = .ok (.getfield 239, 3) := by decide +kernel
theorem dX13_finish_88 : decode cX13_finish 88 = .ok (.iconst 1, 1) := by decide +kernel
theorem dX13_finish_89 : decode cX13_finish 89 = .ok (.iadd, 1) := by decide +kernel
theorem dX13_finish_90 : decode cX13_finish 90 = .ok (.baload, 1) := by decide +kernel
theorem dX13_finish_91 : decode cX13_finish 91 = .ok (.sipush 255, 3) := by decide +kernel
theorem dX13_finish_94 : decode cX13_finish 94 = .ok (.iand, 1) := by decide +kernel
theorem dX13_finish_95 : decode cX13_finish 95 = .ok (.iload_n 1, 1) := by decide +kernel
theorem dX13_finish_96 : decode cX13_finish 96 = .ok (.if_icmp .ne 7, 3) := by decide +kernel
theorem dX13_finish_99 : decode cX13_finish 99 = .ok (.iconst 1, 1) := by decide +kernel
theorem dX13_finish_100 : decode cX13_finish 100 = .ok (.goto 4, 3) := by decide +kernel
theorem dX13_finish_103 : decode cX13_finish 103 = .ok (.iconst 0, 1) := by decide +kernel
theorem dX13_finish_104 : decode cX13_finish 104 = .ok (.istore_n 2, 1) := by decide +kernel
theorem dX13_finish_105 : decode cX13_finish 105 = .ok (.iload_n 2, 1) := by decide +kernel
theorem dX13_finish_106 : decode cX13_finish 106 = .ok (.ifCond .ne 16, 3) := by decide +kernel
theorem dX13_finish_109 : decode cX13_finish 109 = .ok (.aload_n 0, 1) := by decide +kernel
theorem dX13_finish_110 : decode cX13_finish 110 = .ok (.getfield 236, 3) := by decide +kernel
theorem dX13_finish_113 : decode cX13_finish 113 = .ok (.ifCond .ne 9, 3) := by decide +kernel
theorem dX13_finish_116 : decode cX13_finish 116 = .ok (.aload_n 0, 1) := by decide +kernel
theorem dX13_finish_117 : decode cX13_finish 117 = .ok (.iconst 5, 1) := by decide +kernel
theorem dX13_finish_118 : decode cX13_finish 118 = .ok (.invokevirtual 248, 3) := by decide +kernel
theorem dX13_finish_121 : decode cX13_finish 121 = .ok (.istore_n 3, 1) := by decide +kernel
theorem dX13_finish_122 : decode cX13_finish 122 = .ok (.aload_n 0, 1) := by decide +kernel
theorem dX13_finish_123 : decode cX13_finish 123 = .ok (.iconst 0, 1) := by decide +kernel
theorem dX13_finish_124 : decode cX13_finish 124 = .ok (.putfield 242, 3) := by decide +kernel
theorem dX13_finish_127 : decode cX13_finish 127 = .ok (.aload_n 0, 1) := by decide +kernel
theorem dX13_finish_128 : decode cX13_finish 128 = .ok (.dup, 1) := by decide +kernel
theorem dX13_finish_129 : decode cX13_finish 129 = .ok (.getfield 239, 3) := by decide +kernel
theorem dX13_finish_132 : decode cX13_finish 132 = .ok (.iload_n 1, 1) := by decide +kernel
theorem dX13_finish_133 : decode cX13_finish 133 = .ok (.ifCond .ne 7, 3) := by decide +kernel
theorem dX13_finish_136 : decode cX13_finish 136 = .ok (.iconst 0, 1) := by decide +kernel
theorem dX13_finish_137 : decode cX13_finish 137 = .ok (.goto 4, 3) := by decide +kernel
theorem dX13_finish_140 : decode cX13_finish 140 = .ok (.iconst 2, 1) := by decide +kernel
theorem dX13_finish_141 : decode cX13_finish 141 = .ok (.iadd, 1) := by decide +kernel
theorem dX13_finish_142 : decode cX13_finish 142 = .ok (.putfield 239, 3) := by decide +kernel
theorem dX13_finish_145 : decode cX13_finish 145 = .ok (.return_, 1) := by decide +kernel
theorem kcX13_finish_245 : px_cV mX13_finish 245 mX13_atRestart 0 := ⟨⟨mbX13_atRestart, by decide, by decide⟩, Or.inl (tb9 (List.mem_of_getElem? (i := 33) rfl)), vbX13_atRestart⟩
theorem kcX13_finish_248 : px_cV mX13_finish 248 mX13_wrong 1 := ⟨⟨mbX13_wrong, by decide, by decide⟩, Or.inl (tb9 (List.mem_of_getElem? (i := 37) rfl)), vbX13_wrong⟩
set_option maxRecDepth 100000 in
set_option maxHeartbeats 4000000 in
theorem eX13_finish_44 {X : px_X} {k15 : Nat → Int32 → Int32 → Int32 → px_W → Option (px_W)} (hk15 : ∀ (a0 : Nat) (a1 : Int32) (a2 : Int32) (a3 : Int32) (w : px_W) (q : px_W), k15 a0 a1 a2 a3 w = some q → EV X mX13_finish 15 [(0, .ref a0), (1, .int a1), (2, .int a2), (3, .int a3)] [] w none q) : ∀ (a0 : Nat) (a1 : Int32) (a3 : Int32) (s0 : Int32) (w : px_W) (q : px_W), fX13_finish_44 X k15 a0 a1 a3 s0 w = some q → EV X mX13_finish 44 [(0, .ref a0), (1, .int a1), (3, .int a3)] [.int s0] w none q := by
  intro a0 a1 a3 s0 w q h
  unfold fX13_finish_44 at h
  refine EV.istore_n [(2, .int s0), (0, .ref a0), (1, .int a1), (3, .int a3)] dX13_finish_44 rfl (by decide) rfl ?_
  refine EV.iinc 3 (a3 + 1) [(3, .int (a3 + 1)), (2, .int s0), (0, .ref a0), (1, .int a1)] dX13_finish_45 rfl rfl (by decide) rfl ?_
  refine EV.goto 15 dX13_finish_48 (by decide) ?_
  refine EV.sub [2, 3, 1, 0] rfl ?_
  exact hk15 _ _ _ _ _ _ h
set_option maxRecDepth 100000 in
set_option maxHeartbeats 4000000 in
theorem eX13_finish_43 {X : px_X} {k15 : Nat → Int32 → Int32 → Int32 → px_W → Option (px_W)} (hk15 : ∀ (a0 : Nat) (a1 : Int32) (a2 : Int32) (a3 : Int32) (w : px_W) (q : px_W), k15 a0 a1 a2 a3 w = some q → EV X mX13_finish 15 [(0, .ref a0), (1, .int a1), (2, .int a2), (3, .int a3)] [] w none q) : ∀ (a0 : Nat) (a1 : Int32) (a3 : Int32) (w : px_W) (q : px_W), fX13_finish_43 X k15 a0 a1 a3 w = some q → EV X mX13_finish 43 [(0, .ref a0), (1, .int a1), (3, .int a3)] [] w none q := by
  intro a0 a1 a3 w q h
  unfold fX13_finish_43 at h
  refine EV.iconst (0) dX13_finish_43 (by decide) ?_
  refine EV.sub [0, 1, 2] rfl ?_
  exact eX13_finish_44 hk15 _ _ _ _ _ _ h
set_option maxRecDepth 100000 in
set_option maxHeartbeats 4000000 in
theorem eX13_finish_141 {X : px_X}  : ∀ (s0 : Int32) (s1 : Int32) (s2 : Nat) (w : px_W) (q : px_W), fX13_finish_141 X  s0 s1 s2 w = some q → EV X mX13_finish 141 [] [.int s0, .int s1, .ref s2] w none q := by
  intro s0 s1 s2 w q h
  unfold fX13_finish_141 at h
  refine EV.iadd dX13_finish_141 ?_
  obtain ⟨w17, gw17, h⟩ := px_bs h
  refine ev_pV dX13_finish_142 flRX13_239 rfl rfl rfl rfl gw17 ?_
  cases h
  exact EV.ret0 dX13_finish_145 trivial
set_option maxRecDepth 100000 in
set_option maxHeartbeats 4000000 in
theorem eX13_finish_122 {X : px_X}  : ∀ (a0 : Nat) (a1 : Int32) (w : px_W) (q : px_W), fX13_finish_122 X  a0 a1 w = some q → EV X mX13_finish 122 [(0, .ref a0), (1, .int a1)] [] w none q := by
  intro a0 a1 w q h
  unfold fX13_finish_122 at h
  refine EV.aload_n 0 dX13_finish_122 rfl rfl ?_
  refine EV.iconst (0) dX13_finish_123 (by decide) ?_
  obtain ⟨w18, gw18, h⟩ := px_bs h
  refine ev_pV dX13_finish_124 flRX13_242 rfl rfl rfl rfl gw18 ?_
  refine EV.aload_n 0 dX13_finish_127 rfl rfl ?_
  refine EV.dup dX13_finish_128 rfl ?_
  obtain ⟨v19, gv19, h⟩ := px_bs h
  refine ev_gI dX13_finish_129 flRX13_239 gv19 ?_
  refine EV.iload_n 1 dX13_finish_132 rfl rfl ?_
  refine EV.if_ne 140 dX13_finish_133 (by decide) (fun c20 => ?_) (fun c20 => ?_)
  · rw [if_neg c20] at h
    refine EV.iconst (2) dX13_finish_140 (by decide) ?_
    refine EV.sub [] rfl ?_
    exact eX13_finish_141  _ _ _ _ _ h
  · rw [if_pos c20] at h
    refine EV.iconst (0) dX13_finish_136 (by decide) ?_
    refine EV.goto 141 dX13_finish_137 (by decide) ?_
    refine EV.sub [] rfl ?_
    exact eX13_finish_141  _ _ _ _ _ h
set_option maxRecDepth 100000 in
set_option maxHeartbeats 4000000 in
theorem eX13_finish_104 {X : px_X}  : ∀ (a0 : Nat) (a1 : Int32) (s0 : Int32) (w : px_W) (q : px_W), fX13_finish_104 X  a0 a1 s0 w = some q → EV X mX13_finish 104 [(0, .ref a0), (1, .int a1)] [.int s0] w none q := by
  intro a0 a1 s0 w q h
  unfold fX13_finish_104 at h
  refine EV.istore_n [(2, .int s0), (0, .ref a0), (1, .int a1)] dX13_finish_104 rfl (by decide) rfl ?_
  refine EV.iload_n 0 dX13_finish_105 rfl rfl ?_
  refine EV.if_ne 122 dX13_finish_106 (by decide) (fun c21 => ?_) (fun c21 => ?_)
  · rw [if_neg c21] at h
    refine EV.sub [1, 2] rfl ?_
    exact eX13_finish_122  _ _ _ _ h
  · rw [if_pos c21] at h
    refine EV.aload_n 1 dX13_finish_109 rfl rfl ?_
    obtain ⟨v22, gv22, h⟩ := px_bs h
    refine ev_gI dX13_finish_110 flRX13_236 gv22 ?_
    refine EV.if_ne 122 dX13_finish_113 (by decide) (fun c23 => ?_) (fun c23 => ?_)
    · rw [if_neg c23] at h
      refine EV.sub [1, 2] rfl ?_
      exact eX13_finish_122  _ _ _ _ h
    · rw [if_pos c23] at h
      refine EV.aload_n 1 dX13_finish_116 rfl rfl ?_
      refine EV.iconst (5) dX13_finish_117 (by decide) ?_
      obtain ⟨o24, go24, h⟩ := px_bs h
      obtain ⟨q25, gq25, h⟩ := px_bs h
      refine EV.callV (As := [.int 5]) (rest := []) dX13_finish_118 kcX13_finish_248 (gO_ok go24) rfl rfl rfl (Nat.le_of_ble_eq_true rfl) (Nat.le_of_ble_eq_true rfl) (eX13_wrong gq25) ?_
      refine EV.istore_n [(3, .int q25.1), (2, .int s0), (0, .ref a0), (1, .int a1)] dX13_finish_121 rfl (by decide) rfl ?_
      refine EV.sub [2, 3] rfl ?_
      exact eX13_finish_122  _ _ _ _ h
set_option maxRecDepth 100000 in
set_option maxHeartbeats 4000000 in
theorem eX13_finish_99 {X : px_X}  : ∀ (a0 : Nat) (a1 : Int32) (w : px_W) (q : px_W), fX13_finish_99 X  a0 a1 w = some q → EV X mX13_finish 99 [(0, .ref a0), (1, .int a1)] [] w none q := by
  intro a0 a1 w q h
  unfold fX13_finish_99 at h
  refine EV.iconst (1) dX13_finish_99 (by decide) ?_
  refine EV.goto 104 dX13_finish_100 (by decide) ?_
  refine EV.sub [0, 1] rfl ?_
  exact eX13_finish_104  _ _ _ _ _ h
set_option maxRecDepth 100000 in
set_option maxHeartbeats 4000000 in
theorem eX13_finish_103 {X : px_X}  : ∀ (a0 : Nat) (a1 : Int32) (w : px_W) (q : px_W), fX13_finish_103 X  a0 a1 w = some q → EV X mX13_finish 103 [(0, .ref a0), (1, .int a1)] [] w none q := by
  intro a0 a1 w q h
  unfold fX13_finish_103 at h
  refine EV.iconst (0) dX13_finish_103 (by decide) ?_
  refine EV.sub [0, 1] rfl ?_
  exact eX13_finish_104  _ _ _ _ _ h
set_option maxRecDepth 100000 in
set_option maxHeartbeats 4000000 in
theorem eX13_finish_51 {X : px_X}  : ∀ (a0 : Nat) (a1 : Int32) (a2 : Int32) (w : px_W) (q : px_W), fX13_finish_51 X  a0 a1 a2 w = some q → EV X mX13_finish 51 [(0, .ref a0), (1, .int a1), (2, .int a2)] [] w none q := by
  intro a0 a1 a2 w q h
  unfold fX13_finish_51 at h
  refine EV.iload_n 2 dX13_finish_51 rfl rfl ?_
  refine EV.if_eq 103 dX13_finish_52 (by decide) (fun c26 => ?_) (fun c26 => ?_)
  · rw [if_pos c26] at h
    refine EV.sub [0, 1] rfl ?_
    exact eX13_finish_103  _ _ _ _ h
  · rw [if_neg c26] at h
    refine EV.iload_n 1 dX13_finish_55 rfl rfl ?_
    refine EV.if_ne 73 dX13_finish_56 (by decide) (fun c27 => ?_) (fun c27 => ?_)
    · rw [if_neg c27] at h
      refine EV.aload_n 0 dX13_finish_73 rfl rfl ?_
      obtain ⟨o28, go28, h⟩ := px_bs h
      obtain ⟨q29, gq29, h⟩ := px_bs h
      refine EV.callV (As := []) (rest := []) dX13_finish_74 kcX13_finish_245 (gO_ok go28) rfl rfl rfl (Nat.le_of_ble_eq_true rfl) (Nat.le_of_ble_eq_true rfl) (eX13_atRestart gq29) ?_
      refine EV.if_eq 103 dX13_finish_77 (by decide) (fun c30 => ?_) (fun c30 => ?_)
      · rw [if_pos c30] at h
        refine EV.sub [0, 1] rfl ?_
        exact eX13_finish_103  _ _ _ _ h
      · rw [if_neg c30] at h
        refine EV.aload_n 0 dX13_finish_80 rfl rfl ?_
        obtain ⟨v31, gv31, h⟩ := px_bs h
        refine ev_gR dX13_finish_81 flRX13_61 gv31 ?_
        refine EV.aload_n 0 dX13_finish_84 rfl rfl ?_
        obtain ⟨v32, gv32, h⟩ := px_bs h
        refine ev_gI dX13_finish_85 flRX13_239 gv32 ?_
        refine EV.iconst (1) dX13_finish_88 (by decide) ?_
        refine EV.iadd dX13_finish_89 ?_
        obtain ⟨v33, gv33, h⟩ := px_bs h
        refine ev_aB dX13_finish_90 gv33 ?_
        refine EV.sipush (255) dX13_finish_91 (by decide) ?_
        refine EV.iand dX13_finish_94 ?_
        refine EV.iload_n 1 dX13_finish_95 rfl rfl ?_
        refine EV.icmp_ne 103 dX13_finish_96 (by decide) (fun c34 => ?_) (fun c34 => ?_)
        · rw [if_neg c34] at h
          refine EV.sub [0, 1] rfl ?_
          exact eX13_finish_103  _ _ _ _ h
        · rw [if_pos c34] at h
          refine EV.sub [0, 1] rfl ?_
          exact eX13_finish_99  _ _ _ _ h
    · rw [if_pos c27] at h
      refine EV.aload_n 0 dX13_finish_59 rfl rfl ?_
      obtain ⟨v35, gv35, h⟩ := px_bs h
      refine ev_gI dX13_finish_60 flRX13_239 gv35 ?_
      refine EV.aload_n 0 dX13_finish_63 rfl rfl ?_
      obtain ⟨v36, gv36, h⟩ := px_bs h
      refine ev_gI dX13_finish_64 flRX13_233 gv36 ?_
      refine EV.icmp_ne 103 dX13_finish_67 (by decide) (fun c37 => ?_) (fun c37 => ?_)
      · rw [if_neg c37] at h
        refine EV.sub [0, 1] rfl ?_
        exact eX13_finish_103  _ _ _ _ h
      · rw [if_pos c37] at h
        refine EV.goto 99 dX13_finish_70 (by decide) ?_
        refine EV.sub [0, 1] rfl ?_
        exact eX13_finish_99  _ _ _ _ h
set_option maxRecDepth 100000 in
set_option maxHeartbeats 4000000 in
theorem eX13_finish_15 {X : px_X}  : ∀ (m : Nat) (a0 : Nat) (a1 : Int32) (a2 : Int32) (a3 : Int32) (w : px_W) (q : px_W), fX13_finish_15 X  m a0 a1 a2 a3 w = some q → EV X mX13_finish 15 [(0, .ref a0), (1, .int a1), (2, .int a2), (3, .int a3)] [] w none q := by
  intro m
  induction m with
  | zero => intro a0 a1 a2 a3 w q h; cases h
  | succ m ih =>
    intro a0 a1 a2 a3 w q h
    rw [fX13_finish_15.eq_2] at h
    refine EV.iload_n 3 dX13_finish_15 rfl rfl ?_
    refine EV.aload_n 0 dX13_finish_16 rfl rfl ?_
    obtain ⟨v38, gv38, h⟩ := px_bs h
    refine ev_gI dX13_finish_17 flRX13_242 gv38 ?_
    refine EV.icmp_ge 51 dX13_finish_20 (by decide) (fun c39 => ?_) (fun c39 => ?_)
    · rw [if_pos c39] at h
      refine EV.sub [0, 1, 2] rfl ?_
      exact eX13_finish_51  _ _ _ _ _ h
    · rw [if_neg c39] at h
      refine EV.iload_n 2 dX13_finish_23 rfl rfl ?_
      refine EV.if_eq 43 dX13_finish_24 (by decide) (fun c40 => ?_) (fun c40 => ?_)
      · rw [if_pos c40] at h
        refine EV.sub [0, 1, 3] rfl ?_
        exact eX13_finish_43 ih _ _ _ _ _ h
      · rw [if_neg c40] at h
        refine EV.aload_n 0 dX13_finish_27 rfl rfl ?_
        obtain ⟨v41, gv41, h⟩ := px_bs h
        refine ev_gI dX13_finish_28 flRX13_251 gv41 ?_
        refine EV.iload_n 3 dX13_finish_31 rfl rfl ?_
        refine EV.ishr dX13_finish_32 ?_
        refine EV.iconst (1) dX13_finish_33 (by decide) ?_
        refine EV.iand dX13_finish_34 ?_
        refine EV.iconst (1) dX13_finish_35 (by decide) ?_
        refine EV.icmp_ne 43 dX13_finish_36 (by decide) (fun c42 => ?_) (fun c42 => ?_)
        · rw [if_neg c42] at h
          refine EV.sub [0, 1, 3] rfl ?_
          exact eX13_finish_43 ih _ _ _ _ _ h
        · rw [if_pos c42] at h
          refine EV.iconst (1) dX13_finish_39 (by decide) ?_
          refine EV.goto 44 dX13_finish_40 (by decide) ?_
          refine EV.sub [0, 1, 3] rfl ?_
          exact eX13_finish_44 ih _ _ _ _ _ _ h
set_option maxRecDepth 100000 in
set_option maxHeartbeats 4000000 in
theorem eX13_finish_12 {X : px_X}  : ∀ (a0 : Nat) (a1 : Int32) (s0 : Int32) (w : px_W) (q : px_W), fX13_finish_12 X  a0 a1 s0 w = some q → EV X mX13_finish 12 [(0, .ref a0), (1, .int a1)] [.int s0] w none q := by
  intro a0 a1 s0 w q h
  unfold fX13_finish_12 at h
  refine EV.istore_n [(2, .int s0), (0, .ref a0), (1, .int a1)] dX13_finish_12 rfl (by decide) rfl ?_
  refine EV.iconst (0) dX13_finish_13 (by decide) ?_
  refine EV.istore_n [(3, .int 0), (2, .int s0), (0, .ref a0), (1, .int a1)] dX13_finish_14 rfl (by decide) rfl ?_
  refine EV.sub [2, 3, 1, 0] rfl ?_
  exact eX13_finish_15  FU _ _ _ _ _ _ h
set_option maxRecDepth 100000 in
set_option maxHeartbeats 4000000 in
theorem eX13_finish {X : px_X} {w : px_W} {a0 : Nat} {a1 : Int32} {q : px_W} (h : fX13_finish X w a0 a1 = some q) : EV X mX13_finish 0 (lv_args 0 [.ref a0, .int a1]) [] w none q := by
  unfold fX13_finish at h
  show EV X mX13_finish 0 [(0, .ref a0), (1, .int a1)] [] w none q
  refine EV.aload_n 0 dX13_finish_0 rfl rfl ?_
  obtain ⟨v43, gv43, h⟩ := px_bs h
  refine ev_gI dX13_finish_1 flRX13_177 gv43 ?_
  refine EV.if_ne 11 dX13_finish_4 (by decide) (fun c44 => ?_) (fun c44 => ?_)
  · rw [if_neg c44] at h
    refine EV.iconst (0) dX13_finish_11 (by decide) ?_
    refine EV.sub [0, 1] rfl ?_
    exact eX13_finish_12  _ _ _ _ _ h
  · rw [if_pos c44] at h
    refine EV.iconst (1) dX13_finish_7 (by decide) ?_
    refine EV.goto 12 dX13_finish_8 (by decide) ?_
    refine EV.sub [0, 1] rfl ?_
    exact eX13_finish_12  _ _ _ _ _ h
/-! WavePicturesModel$Scans.readAll()V -/
theorem dX13_readAll_0 : decode cX13_readAll 0 = .ok (.iconst 0, 1) := by decide +kernel
theorem dX13_readAll_1 : decode cX13_readAll 1 = .ok (.istore_n 1, 1) := by decide +kernel
theorem dX13_readAll_2 : decode cX13_readAll 2 = .ok (.iconst 0, 1) := by decide +kernel
theorem dX13_readAll_3 : decode cX13_readAll 3 = .ok (.istore_n 2, 1) := by decide +kernel
theorem dX13_readAll_4 : decode cX13_readAll 4 = .ok (.iload_n 2, 1) := by decide +kernel
theorem dX13_readAll_5 : decode cX13_readAll 5 = .ok (.aload_n 0, 1) := by decide +kernel
theorem dX13_readAll_6 : decode cX13_readAll 6 = .ok (.invokevirtual 215, 3) := by decide +kernel
theorem dX13_readAll_9 : decode cX13_readAll 9 = .ok (.if_icmp .ge 162, 3) := by decide +kernel
theorem dX13_readAll_12 : decode cX13_readAll 12 = .ok (.aload_n 0, 1) := by decide +kernel
theorem dX13_readAll_13 : decode cX13_readAll 13 = .ok (.getfield 236, 3) := by decide +kernel
theorem dX13_readAll_16 : decode cX13_readAll 16 = .ok (.ifCond .ne 155, 3) := by decide +kernel
theorem dX13_readAll_19 : decode cX13_readAll 19 = .ok (.aload_n 0, 1) := by decide +kernel
theorem dX13_readAll_20 : decode cX13_readAll 20 = .ok (.getfield 118, 3) := by decide +kernel
theorem dX13_readAll_23 : decode cX13_readAll 23 = .ok (.ifCond .le 20, 3) := by decide +kernel
theorem dX13_readAll_26 : decode cX13_readAll 26 = .ok (.iload_n 2, 1) := by decide +kernel
theorem dX13_readAll_27 : decode cX13_readAll 27 = .ok (.ifCond .le 16, 3) := by decide +kernel
theorem dX13_readAll_30 : decode cX13_readAll 30 = .ok (.iload_n 2, 1) := by decide +kernel
theorem dX13_readAll_31 : decode cX13_readAll 31 = .ok (.aload_n 0, 1) := by decide +kernel
theorem dX13_readAll_32 : decode cX13_readAll 32 = .ok (.getfield 118, 3) := by decide +kernel
theorem dX13_readAll_35 : decode cX13_readAll 35 = .ok (.irem, 1) := by decide +kernel
theorem dX13_readAll_36 : decode cX13_readAll 36 = .ok (.ifCond .ne 7, 3) := by decide +kernel
theorem dX13_readAll_39 : decode cX13_readAll 39 = .ok (.iconst 1, 1) := by decide +kernel
theorem dX13_readAll_40 : decode cX13_readAll 40 = .ok (.goto 4, 3) := by decide +kernel
theorem dX13_readAll_43 : decode cX13_readAll 43 = .ok (.iconst 0, 1) := by decide +kernel
theorem dX13_readAll_44 : decode cX13_readAll 44 = .ok (.istore_n 3, 1) := by decide +kernel
theorem dX13_readAll_45 : decode cX13_readAll 45 = .ok (.iload_n 3, 1) := by decide +kernel
theorem dX13_readAll_46 : decode cX13_readAll 46 = .ok (.ifCond .eq 18, 3) := by decide +kernel
theorem dX13_readAll_49 : decode cX13_readAll 49 = .ok (.aload_n 0, 1) := by decide +kernel
theorem dX13_readAll_50 : decode cX13_readAll 50 = .ok (.sipush 208, 3) := by decide +kernel
theorem dX13_readAll_53 : decode cX13_readAll 53 = .ok (.iload_n 1, 1) := by decide +kernel
theorem dX13_readAll_54 : decode cX13_readAll 54 = .ok (.bipush 8, 2) := by decide +kernel
theorem dX13_readAll_56 : decode cX13_readAll 56 = .ok (.irem, 1) := by decide +kernel
theorem dX13_readAll_57 : decode cX13_readAll 57 = .ok (.iadd, 1) := by decide +kernel
theorem dX13_readAll_58 : decode cX13_readAll 58 = .ok (.invokevirtual 289, 3) := by decide +kernel
theorem dX13_readAll_61 : decode cX13_readAll 61 = .ok (.iinc 1 1, 3) := by decide +kernel
theorem dX13_readAll_64 : decode cX13_readAll 64 = .ok (.iconst 0, 1) := by decide +kernel
theorem dX13_readAll_65 : decode cX13_readAll 65 = .ok (.istore 4, 2) := by decide +kernel
theorem dX13_readAll_67 : decode cX13_readAll 67 = .ok (.iload 4, 2) := by decide +kernel
theorem dX13_readAll_69 : decode cX13_readAll 69 = .ok (.iconst 4, 1) := by decide +kernel
theorem dX13_readAll_70 : decode cX13_readAll 70 = .ok (.if_icmp .ge 35, 3) := by decide +kernel
theorem dX13_readAll_73 : decode cX13_readAll 73 = .ok (.aload_n 0, 1) := by decide +kernel
theorem dX13_readAll_74 : decode cX13_readAll 74 = .ok (.getfield 71, 3) := by decide +kernel
theorem dX13_readAll_77 : decode cX13_readAll 77 = .ok (.iload 4, 2) := by decide +kernel
theorem dX13_readAll_79 : decode cX13_readAll 79 = .ok (.iload_n 2, 1) := by decide +kernel
theorem dX13_readAll_80 : decode cX13_readAll 80 = .ok (.ifCond .eq 7, 3) := by decide +kernel
theorem dX13_readAll_83 : decode cX13_readAll 83 = .ok (.iload_n 3, 1) := by decide +kernel
theorem dX13_readAll_84 : decode cX13_readAll 84 = .ok (.ifCond .eq 7, 3) := by decide +kernel
theorem dX13_readAll_87 : decode cX13_readAll 87 = .ok (.iconst 0, 1) := by decide +kernel
theorem dX13_readAll_88 : decode cX13_readAll 88 = .ok (.goto 10, 3) := by decide +kernel
theorem dX13_readAll_91 : decode cX13_readAll 91 = .ok (.aload_n 0, 1) := by decide +kernel
theorem dX13_readAll_92 : decode cX13_readAll 92 = .ok (.getfield 71, 3) := by decide +kernel
theorem dX13_readAll_95 : decode cX13_readAll 95 = .ok (.iload 4, 2) := by decide +kernel
theorem dX13_readAll_97 : decode cX13_readAll 97 = .ok (.iaload, 1) := by decide +kernel
theorem dX13_readAll_98 : decode cX13_readAll 98 = .ok (.iastore, 1) := by decide +kernel
theorem dX13_readAll_99 : decode cX13_readAll 99 = .ok (.iinc 4 1, 3) := by decide +kernel
theorem dX13_readAll_102 : decode cX13_readAll 102 = .ok (.goto (-35), 3) := by decide +kernel
theorem dX13_readAll_105 : decode cX13_readAll 105 = .ok (.iconst 0, 1) := by decide +kernel
theorem dX13_readAll_106 : decode cX13_readAll 106 = .ok (.istore 4, 2) := by decide +kernel
theorem dX13_readAll_108 : decode cX13_readAll 108 = .ok (.iload 4, 2) := by decide +kernel
theorem dX13_readAll_110 : decode cX13_readAll 110 = .ok (.aload_n 0, 1) := by decide +kernel
theorem dX13_readAll_111 : decode cX13_readAll 111 = .ok (.getfield 94, 3) := by decide +kernel
theorem dX13_readAll_114 : decode cX13_readAll 114 = .ok (.if_icmp .ge 51, 3) := by decide +kernel
theorem dX13_readAll_117 : decode cX13_readAll 117 = .ok (.iconst 0, 1) := by decide +kernel
theorem dX13_readAll_118 : decode cX13_readAll 118 = .ok (.istore 5, 2) := by decide +kernel
theorem dX13_readAll_120 : decode cX13_readAll 120 = .ok (.iload 5, 2) := by decide +kernel
theorem dX13_readAll_122 : decode cX13_readAll 122 = .ok (.aload_n 0, 1) := by decide +kernel
theorem dX13_readAll_123 : decode cX13_readAll 123 = .ok (.iload 4, 2) := by decide +kernel
theorem dX13_readAll_125 : decode cX13_readAll 125 = .ok (.invokevirtual 221, 3) := by decide +kernel
theorem dX13_readAll_128 : decode cX13_readAll 128 = .ok (.if_icmp .ge 31, 3) := by decide +kernel
theorem dX13_readAll_131 : decode cX13_readAll 131 = .ok (.aload_n 0, 1) := by decide +kernel
theorem dX13_readAll_132 : decode cX13_readAll 132 = .ok (.getfield 236, 3) := by decide +kernel
theorem dX13_readAll_135 : decode cX13_readAll 135 = .ok (.ifCond .ne 24, 3) := by decide +kernel
theorem dX13_readAll_138 : decode cX13_readAll 138 = .ok (.aload_n 0, 1) := by decide +kernel
theorem dX13_readAll_139 : decode cX13_readAll 139 = .ok (.iload 4, 2) := by decide +kernel
theorem dX13_readAll_141 : decode cX13_readAll 141 = .ok (.aload_n 0, 1) := by decide +kernel
theorem dX13_readAll_142 : decode cX13_readAll 142 = .ok (.iload 4, 2) := by decide +kernel
theorem dX13_readAll_144 : decode cX13_readAll 144 = .ok (.iload_n 2, 1) := by decide +kernel
theorem dX13_readAll_145 : decode cX13_readAll 145 = .ok (.iload 5, 2) := by decide +kernel
theorem dX13_readAll_147 : decode cX13_readAll 147 = .ok (.invokevirtual 224, 3) := by decide +kernel
theorem dX13_readAll_150 : decode cX13_readAll 150 = .ok (.invokevirtual 292, 3) := by decide +kernel
theorem dX13_readAll_153 : decode cX13_readAll 153 = .ok (.iinc 5 1, 3) := by decide +kernel
theorem dX13_readAll_156 : decode cX13_readAll 156 = .ok (.goto (-36), 3) := by decide +kernel
theorem dX13_readAll_159 : decode cX13_readAll 159 = .ok (.iinc 4 1, 3) := by decide +kernel
theorem dX13_readAll_162 : decode cX13_readAll 162 = .ok (.goto (-54), 3) := by decide +kernel
theorem dX13_readAll_165 : decode cX13_readAll 165 = .ok (.iinc 2 1, 3) := by decide +kernel
theorem dX13_readAll_168 : decode cX13_readAll 168 = .ok (.goto (-164), 3) := by decide +kernel
theorem dX13_readAll_171 : decode cX13_readAll 171 = .ok (.aload_n 0, 1) := by decide +kernel
theorem dX13_readAll_172 : decode cX13_readAll 172 = .ok (.getfield 236, 3) := by decide +kernel
theorem dX13_readAll_175 : decode cX13_readAll 175 = .ok (.ifCond .ne 8, 3) := by decide +kernel
theorem dX13_readAll_178 : decode cX13_readAll 178 = .ok (.aload_n 0, 1) := by decide +kernel
theorem dX13_readAll_179 : decode cX13_readAll 179 = .ok (.iconst 0, 1) := by decide +kernel
theorem dX13_readAll_180 : decode cX13_readAll 180 = .ok (.invokevirtual 289, 3) := by decide +kernel
theorem dX13_readAll_183 : decode cX13_readAll 183 = .ok (.return_, 1) := by decide +kernel
theorem kcX13_readAll_215 : px_cV mX13_readAll 215 mX13_units 0 := ⟨⟨mbX13_units, by decide, by decide⟩, Or.inl (tb9 (List.mem_of_getElem? (i := 21) rfl)), vbX13_units⟩
theorem kcX13_readAll_221 : px_cV mX13_readAll 221 mX13_blocksIn 1 := ⟨⟨mbX13_blocksIn, by decide, by decide⟩, Or.inl (tb9 (List.mem_of_getElem? (i := 41) rfl)), vbX13_blocksIn⟩
theorem kcX13_readAll_224 : px_cV mX13_readAll 224 mX13_blockOf 3 := ⟨⟨mbX13_blockOf, by decide, by decide⟩, Or.inl (tb9 (List.mem_of_getElem? (i := 45) rfl)), vbX13_blockOf⟩
theorem mbX13_finish : px_mB mX13_finish 1 := ⟨tb9 (List.mem_of_getElem? (i := 32) rfl), by decide +kernel, tb1 (List.mem_of_getElem? (i := 15) rfl), by decide +kernel, by decide +kernel⟩
theorem vbX13_finish : px_vB mX13_finish := ⟨tb9 (List.mem_of_getElem? (i := 31) rfl), List.mem_append_left _ (List.mem_of_getElem? (i := 115) (by decide +kernel))⟩
theorem kcX13_readAll_289 : px_cV mX13_readAll 289 mX13_finish 1 := ⟨⟨mbX13_finish, by decide, by decide⟩, Or.inl (tb9 (List.mem_of_getElem? (i := 29) rfl)), vbX13_finish⟩
theorem mbX13_readBlock : px_mB mX13_readBlock 2 := ⟨tb9 (List.mem_of_getElem? (i := 52) rfl), by decide +kernel, tb1 (List.mem_of_getElem? (i := 15) rfl), by decide +kernel, by decide +kernel⟩
theorem vbX13_readBlock : px_vB mX13_readBlock := ⟨tb9 (List.mem_of_getElem? (i := 51) rfl), List.mem_append_left _ (List.mem_of_getElem? (i := 120) (by decide +kernel))⟩
theorem kcX13_readAll_292 : px_cV mX13_readAll 292 mX13_readBlock 2 := ⟨⟨mbX13_readBlock, by decide, by decide⟩, Or.inl (tb9 (List.mem_of_getElem? (i := 49) rfl)), vbX13_readBlock⟩
set_option maxRecDepth 100000 in
set_option maxHeartbeats 4000000 in
theorem eX13_readAll_159 {X : px_X} {k4 : Nat → Int32 → Int32 → px_W → Option (px_W)} (hk4 : ∀ (a0 : Nat) (a1 : Int32) (a2 : Int32) (w : px_W) (q : px_W), k4 a0 a1 a2 w = some q → EV X mX13_readAll 4 [(0, .ref a0), (1, .int a1), (2, .int a2)] [] w none q) {k108 : Nat → Int32 → Int32 → Int32 → px_W → Option (px_W)} (hk108 : ∀ (a0 : Nat) (a1 : Int32) (a2 : Int32) (a4 : Int32) (w : px_W) (q : px_W), k108 a0 a1 a2 a4 w = some q → EV X mX13_readAll 108 [(0, .ref a0), (1, .int a1), (2, .int a2), (4, .int a4)] [] w none q) : ∀ (a0 : Nat) (a1 : Int32) (a2 : Int32) (a4 : Int32) (w : px_W) (q : px_W), fX13_readAll_159 X k4 k108 a0 a1 a2 a4 w = some q → EV X mX13_readAll 159 [(0, .ref a0), (1, .int a1), (2, .int a2), (4, .int a4)] [] w none q := by
  intro a0 a1 a2 a4 w q h
  unfold fX13_readAll_159 at h
  refine EV.iinc 3 (a4 + 1) [(4, .int (a4 + 1)), (0, .ref a0), (1, .int a1), (2, .int a2)] dX13_readAll_159 rfl rfl (by decide) rfl ?_
  refine EV.goto 108 dX13_readAll_162 (by decide) ?_
  refine EV.sub [1, 2, 3, 0] rfl ?_
  exact hk108 _ _ _ _ _ _ h
set_option maxRecDepth 100000 in
set_option maxHeartbeats 4000000 in
theorem eX13_readAll_120 {X : px_X} {k4 : Nat → Int32 → Int32 → px_W → Option (px_W)} (hk4 : ∀ (a0 : Nat) (a1 : Int32) (a2 : Int32) (w : px_W) (q : px_W), k4 a0 a1 a2 w = some q → EV X mX13_readAll 4 [(0, .ref a0), (1, .int a1), (2, .int a2)] [] w none q) {k108 : Nat → Int32 → Int32 → Int32 → px_W → Option (px_W)} (hk108 : ∀ (a0 : Nat) (a1 : Int32) (a2 : Int32) (a4 : Int32) (w : px_W) (q : px_W), k108 a0 a1 a2 a4 w = some q → EV X mX13_readAll 108 [(0, .ref a0), (1, .int a1), (2, .int a2), (4, .int a4)] [] w none q) : ∀ (m : Nat) (a0 : Nat) (a1 : Int32) (a2 : Int32) (a4 : Int32) (a5 : Int32) (w : px_W) (q : px_W), fX13_readAll_120 X k4 k108 m a0 a1 a2 a4 a5 w = some q → EV X mX13_readAll 120 [(0, .ref a0), (1, .int a1), (2, .int a2), (4, .int a4), (5, .int a5)] [] w none q := by
  intro m
  induction m with
  | zero => intro a0 a1 a2 a4 a5 w q h; cases h
  | succ m ih =>
    intro a0 a1 a2 a4 a5 w q h
    rw [fX13_readAll_120.eq_2] at h
    refine EV.iload 4 dX13_readAll_120 rfl ?_
    refine EV.aload_n 0 dX13_readAll_122 rfl rfl ?_
    refine EV.iload 3 dX13_readAll_123 rfl ?_
    obtain ⟨o25, go25, h⟩ := px_bs h
    obtain ⟨q26, gq26, h⟩ := px_bs h
    refine EV.callV (As := [.int a4]) (rest := [.int a5]) dX13_readAll_125 kcX13_readAll_221 (gO_ok go25) rfl rfl rfl (Nat.le_of_ble_eq_true rfl) (Nat.le_of_ble_eq_true rfl) (eX13_blocksIn gq26) ?_
    refine EV.icmp_ge 159 dX13_readAll_128 (by decide) (fun c27 => ?_) (fun c27 => ?_)
    · rw [if_pos c27] at h
      refine EV.sub [0, 1, 2, 3] rfl ?_
      exact eX13_readAll_159 hk4 hk108 _ _ _ _ _ _ h
    · rw [if_neg c27] at h
      refine EV.aload_n 0 dX13_readAll_131 rfl rfl ?_
      obtain ⟨v28, gv28, h⟩ := px_bs h
      refine ev_gI dX13_readAll_132 flRX13_236 gv28 ?_
      refine EV.if_ne 159 dX13_readAll_135 (by decide) (fun c29 => ?_) (fun c29 => ?_)
      · rw [if_neg c29] at h
        refine EV.sub [0, 1, 2, 3] rfl ?_
        exact eX13_readAll_159 hk4 hk108 _ _ _ _ _ _ h
      · rw [if_pos c29] at h
        refine EV.aload_n 0 dX13_readAll_138 rfl rfl ?_
        refine EV.iload 3 dX13_readAll_139 rfl ?_
        refine EV.aload_n 0 dX13_readAll_141 rfl rfl ?_
        refine EV.iload 3 dX13_readAll_142 rfl ?_
        refine EV.iload_n 2 dX13_readAll_144 rfl rfl ?_
        refine EV.iload 4 dX13_readAll_145 rfl ?_
        obtain ⟨o30, go30, h⟩ := px_bs h
        obtain ⟨q31, gq31, h⟩ := px_bs h
        refine EV.callV (As := [.int a4, .int a2, .int a5]) (rest := [.int a4, .ref a0]) dX13_readAll_147 kcX13_readAll_224 (gO_ok go30) rfl rfl rfl (Nat.le_of_ble_eq_true rfl) (Nat.le_of_ble_eq_true rfl) (eX13_blockOf gq31) ?_
        obtain ⟨o32, go32, h⟩ := px_bs h
        obtain ⟨q33, gq33, h⟩ := px_bs h
        refine EV.callV (As := [.int a4, .int q31.1]) (rest := []) dX13_readAll_150 kcX13_readAll_292 (gO_ok go32) rfl rfl rfl (Nat.le_of_ble_eq_true rfl) (Nat.le_of_ble_eq_true rfl) (eX13_readBlock gq33) ?_
        refine EV.iinc 4 (a5 + 1) [(5, .int (a5 + 1)), (0, .ref a0), (1, .int a1), (2, .int a2), (4, .int a4)] dX13_readAll_153 rfl rfl (by decide) rfl ?_
        refine EV.goto 120 dX13_readAll_156 (by decide) ?_
        refine EV.sub [1, 2, 3, 4, 0] rfl ?_
        exact ih _ _ _ _ _ _ _ h
set_option maxRecDepth 100000 in
set_option maxHeartbeats 4000000 in
theorem eX13_readAll_165 {X : px_X} {k4 : Nat → Int32 → Int32 → px_W → Option (px_W)} (hk4 : ∀ (a0 : Nat) (a1 : Int32) (a2 : Int32) (w : px_W) (q : px_W), k4 a0 a1 a2 w = some q → EV X mX13_readAll 4 [(0, .ref a0), (1, .int a1), (2, .int a2)] [] w none q) : ∀ (a0 : Nat) (a1 : Int32) (a2 : Int32) (w : px_W) (q : px_W), fX13_readAll_165 X k4 a0 a1 a2 w = some q → EV X mX13_readAll 165 [(0, .ref a0), (1, .int a1), (2, .int a2)] [] w none q := by
  intro a0 a1 a2 w q h
  unfold fX13_readAll_165 at h
  refine EV.iinc 2 (a2 + 1) [(2, .int (a2 + 1)), (0, .ref a0), (1, .int a1)] dX13_readAll_165 rfl rfl (by decide) rfl ?_
  refine EV.goto 4 dX13_readAll_168 (by decide) ?_
  refine EV.sub [1, 2, 0] rfl ?_
  exact hk4 _ _ _ _ _ h
set_option maxRecDepth 100000 in
set_option maxHeartbeats 4000000 in
theorem eX13_readAll_108 {X : px_X} {k4 : Nat → Int32 → Int32 → px_W → Option (px_W)} (hk4 : ∀ (a0 : Nat) (a1 : Int32) (a2 : Int32) (w : px_W) (q : px_W), k4 a0 a1 a2 w = some q → EV X mX13_readAll 4 [(0, .ref a0), (1, .int a1), (2, .int a2)] [] w none q) : ∀ (m : Nat) (a0 : Nat) (a1 : Int32) (a2 : Int32) (a4 : Int32) (w : px_W) (q : px_W), fX13_readAll_108 X k4 m a0 a1 a2 a4 w = some q → EV X mX13_readAll 108 [(0, .ref a0), (1, .int a1), (2, .int a2), (4, .int a4)] [] w none q := by
  intro m
  induction m with
  | zero => intro a0 a1 a2 a4 w q h; cases h
  | succ m ih =>
    intro a0 a1 a2 a4 w q h
    rw [fX13_readAll_108.eq_2] at h
    refine EV.iload 3 dX13_readAll_108 rfl ?_
    refine EV.aload_n 0 dX13_readAll_110 rfl rfl ?_
    obtain ⟨v34, gv34, h⟩ := px_bs h
    refine ev_gI dX13_readAll_111 flRX13_94 gv34 ?_
    refine EV.icmp_ge 165 dX13_readAll_114 (by decide) (fun c35 => ?_) (fun c35 => ?_)
    · rw [if_pos c35] at h
      refine EV.sub [0, 1, 2] rfl ?_
      exact eX13_readAll_165 hk4 _ _ _ _ _ h
    · rw [if_neg c35] at h
      refine EV.iconst (0) dX13_readAll_117 (by decide) ?_
      refine EV.istore [(5, .int 0), (0, .ref a0), (1, .int a1), (2, .int a2), (4, .int a4)] dX13_readAll_118 (by decide) rfl ?_
      refine EV.sub [1, 2, 3, 4, 0] rfl ?_
      exact eX13_readAll_120 hk4 ih FU _ _ _ _ _ _ _ h
set_option maxRecDepth 100000 in
set_option maxHeartbeats 4000000 in
theorem eX13_readAll_105 {X : px_X} {k4 : Nat → Int32 → Int32 → px_W → Option (px_W)} (hk4 : ∀ (a0 : Nat) (a1 : Int32) (a2 : Int32) (w : px_W) (q : px_W), k4 a0 a1 a2 w = some q → EV X mX13_readAll 4 [(0, .ref a0), (1, .int a1), (2, .int a2)] [] w none q) : ∀ (a0 : Nat) (a1 : Int32) (a2 : Int32) (w : px_W) (q : px_W), fX13_readAll_105 X k4 a0 a1 a2 w = some q → EV X mX13_readAll 105 [(0, .ref a0), (1, .int a1), (2, .int a2)] [] w none q := by
  intro a0 a1 a2 w q h
  unfold fX13_readAll_105 at h
  refine EV.iconst (0) dX13_readAll_105 (by decide) ?_
  refine EV.istore [(4, .int 0), (0, .ref a0), (1, .int a1), (2, .int a2)] dX13_readAll_106 (by decide) rfl ?_
  refine EV.sub [1, 2, 3, 0] rfl ?_
  exact eX13_readAll_108 hk4 FU _ _ _ _ _ _ h
set_option maxRecDepth 100000 in
set_option maxHeartbeats 4000000 in
theorem eX13_readAll_98 {X : px_X} {k4 : Nat → Int32 → Int32 → px_W → Option (px_W)} (hk4 : ∀ (a0 : Nat) (a1 : Int32) (a2 : Int32) (w : px_W) (q : px_W), k4 a0 a1 a2 w = some q → EV X mX13_readAll 4 [(0, .ref a0), (1, .int a1), (2, .int a2)] [] w none q) {k67 : Nat → Int32 → Int32 → Int32 → Int32 → px_W → Option (px_W)} (hk67 : ∀ (a0 : Nat) (a1 : Int32) (a2 : Int32) (a3 : Int32) (a4 : Int32) (w : px_W) (q : px_W), k67 a0 a1 a2 a3 a4 w = some q → EV X mX13_readAll 67 [(0, .ref a0), (1, .int a1), (2, .int a2), (3, .int a3), (4, .int a4)] [] w none q) : ∀ (a0 : Nat) (a1 : Int32) (a2 : Int32) (a3 : Int32) (a4 : Int32) (s0 : Int32) (s1 : Int32) (s2 : Nat) (w : px_W) (q : px_W), fX13_readAll_98 X k4 k67 a0 a1 a2 a3 a4 s0 s1 s2 w = some q → EV X mX13_readAll 98 [(0, .ref a0), (1, .int a1), (2, .int a2), (3, .int a3), (4, .int a4)] [.int s0, .int s1, .ref s2] w none q := by
  intro a0 a1 a2 a3 a4 s0 s1 s2 w q h
  unfold fX13_readAll_98 at h
  obtain ⟨w36, gw36, h⟩ := px_bs h
  refine ev_sI dX13_readAll_98 gw36 ?_
  refine EV.iinc 4 (a4 + 1) [(4, .int (a4 + 1)), (0, .ref a0), (1, .int a1), (2, .int a2), (3, .int a3)] dX13_readAll_99 rfl rfl (by decide) rfl ?_
  refine EV.goto 67 dX13_readAll_102 (by decide) ?_
  refine EV.sub [1, 2, 3, 4, 0] rfl ?_
  exact hk67 _ _ _ _ _ _ _ h
set_option maxRecDepth 100000 in
set_option maxHeartbeats 4000000 in
theorem eX13_readAll_87 {X : px_X} {k4 : Nat → Int32 → Int32 → px_W → Option (px_W)} (hk4 : ∀ (a0 : Nat) (a1 : Int32) (a2 : Int32) (w : px_W) (q : px_W), k4 a0 a1 a2 w = some q → EV X mX13_readAll 4 [(0, .ref a0), (1, .int a1), (2, .int a2)] [] w none q) {k67 : Nat → Int32 → Int32 → Int32 → Int32 → px_W → Option (px_W)} (hk67 : ∀ (a0 : Nat) (a1 : Int32) (a2 : Int32) (a3 : Int32) (a4 : Int32) (w : px_W) (q : px_W), k67 a0 a1 a2 a3 a4 w = some q → EV X mX13_readAll 67 [(0, .ref a0), (1, .int a1), (2, .int a2), (3, .int a3), (4, .int a4)] [] w none q) : ∀ (a0 : Nat) (a1 : Int32) (a2 : Int32) (a3 : Int32) (a4 : Int32) (s0 : Int32) (s1 : Nat) (w : px_W) (q : px_W), fX13_readAll_87 X k4 k67 a0 a1 a2 a3 a4 s0 s1 w = some q → EV X mX13_readAll 87 [(0, .ref a0), (1, .int a1), (2, .int a2), (3, .int a3), (4, .int a4)] [.int s0, .ref s1] w none q := by
  intro a0 a1 a2 a3 a4 s0 s1 w q h
  unfold fX13_readAll_87 at h
  refine EV.iconst (0) dX13_readAll_87 (by decide) ?_
  refine EV.goto 98 dX13_readAll_88 (by decide) ?_
  refine EV.sub [0, 1, 2, 3, 4] rfl ?_
  exact eX13_readAll_98 hk4 hk67 _ _ _ _ _ _ _ _ _ _ h
set_option maxRecDepth 100000 in
set_option maxHeartbeats 4000000 in
theorem eX13_readAll_67 {X : px_X} {k4 : Nat → Int32 → Int32 → px_W → Option (px_W)} (hk4 : ∀ (a0 : Nat) (a1 : Int32) (a2 : Int32) (w : px_W) (q : px_W), k4 a0 a1 a2 w = some q → EV X mX13_readAll 4 [(0, .ref a0), (1, .int a1), (2, .int a2)] [] w none q) : ∀ (m : Nat) (a0 : Nat) (a1 : Int32) (a2 : Int32) (a3 : Int32) (a4 : Int32) (w : px_W) (q : px_W), fX13_readAll_67 X k4 m a0 a1 a2 a3 a4 w = some q → EV X mX13_readAll 67 [(0, .ref a0), (1, .int a1), (2, .int a2), (3, .int a3), (4, .int a4)] [] w none q := by
  intro m
  induction m with
  | zero => intro a0 a1 a2 a3 a4 w q h; cases h
  | succ m ih =>
    intro a0 a1 a2 a3 a4 w q h
    rw [fX13_readAll_67.eq_2] at h
    refine EV.iload 4 dX13_readAll_67 rfl ?_
    refine EV.iconst (4) dX13_readAll_69 (by decide) ?_
    refine EV.icmp_ge 105 dX13_readAll_70 (by decide) (fun c37 => ?_) (fun c37 => ?_)
    · rw [if_pos c37] at h
      refine EV.sub [0, 1, 2] rfl ?_
      exact eX13_readAll_105 hk4 _ _ _ _ _ h
    · rw [if_neg c37] at h
      refine EV.aload_n 0 dX13_readAll_73 rfl rfl ?_
      obtain ⟨v38, gv38, h⟩ := px_bs h
      refine ev_gR dX13_readAll_74 flRX13_71 gv38 ?_
      refine EV.iload 4 dX13_readAll_77 rfl ?_
      refine EV.iload_n 2 dX13_readAll_79 rfl rfl ?_
      refine EV.if_eq 87 dX13_readAll_80 (by decide) (fun c39 => ?_) (fun c39 => ?_)
      · rw [if_pos c39] at h
        refine EV.sub [0, 1, 2, 3, 4] rfl ?_
        exact eX13_readAll_87 hk4 ih _ _ _ _ _ _ _ _ _ h
      · rw [if_neg c39] at h
        refine EV.iload_n 3 dX13_readAll_83 rfl rfl ?_
        refine EV.if_eq 91 dX13_readAll_84 (by decide) (fun c40 => ?_) (fun c40 => ?_)
        · rw [if_pos c40] at h
          refine EV.aload_n 0 dX13_readAll_91 rfl rfl ?_
          obtain ⟨v41, gv41, h⟩ := px_bs h
          refine ev_gR dX13_readAll_92 flRX13_71 gv41 ?_
          refine EV.iload 4 dX13_readAll_95 rfl ?_
          obtain ⟨v42, gv42, h⟩ := px_bs h
          refine ev_aI dX13_readAll_97 gv42 ?_
          refine EV.sub [0, 1, 2, 3, 4] rfl ?_
          exact eX13_readAll_98 hk4 ih _ _ _ _ _ _ _ _ _ _ h
        · rw [if_neg c40] at h
          refine EV.sub [0, 1, 2, 3, 4] rfl ?_
          exact eX13_readAll_87 hk4 ih _ _ _ _ _ _ _ _ _ h
set_option maxRecDepth 100000 in
set_option maxHeartbeats 4000000 in
theorem eX13_readAll_64 {X : px_X} {k4 : Nat → Int32 → Int32 → px_W → Option (px_W)} (hk4 : ∀ (a0 : Nat) (a1 : Int32) (a2 : Int32) (w : px_W) (q : px_W), k4 a0 a1 a2 w = some q → EV X mX13_readAll 4 [(0, .ref a0), (1, .int a1), (2, .int a2)] [] w none q) : ∀ (a0 : Nat) (a1 : Int32) (a2 : Int32) (a3 : Int32) (w : px_W) (q : px_W), fX13_readAll_64 X k4 a0 a1 a2 a3 w = some q → EV X mX13_readAll 64 [(0, .ref a0), (1, .int a1), (2, .int a2), (3, .int a3)] [] w none q := by
  intro a0 a1 a2 a3 w q h
  unfold fX13_readAll_64 at h
  refine EV.iconst (0) dX13_readAll_64 (by decide) ?_
  refine EV.istore [(4, .int 0), (0, .ref a0), (1, .int a1), (2, .int a2), (3, .int a3)] dX13_readAll_65 (by decide) rfl ?_
  refine EV.sub [1, 2, 3, 4, 0] rfl ?_
  exact eX13_readAll_67 hk4 FU _ _ _ _ _ _ _ h
set_option maxRecDepth 100000 in
set_option maxHeartbeats 4000000 in
theorem eX13_readAll_44 {X : px_X} {k4 : Nat → Int32 → Int32 → px_W → Option (px_W)} (hk4 : ∀ (a0 : Nat) (a1 : Int32) (a2 : Int32) (w : px_W) (q : px_W), k4 a0 a1 a2 w = some q → EV X mX13_readAll 4 [(0, .ref a0), (1, .int a1), (2, .int a2)] [] w none q) : ∀ (a0 : Nat) (a1 : Int32) (a2 : Int32) (s0 : Int32) (w : px_W) (q : px_W), fX13_readAll_44 X k4 a0 a1 a2 s0 w = some q → EV X mX13_readAll 44 [(0, .ref a0), (1, .int a1), (2, .int a2)] [.int s0] w none q := by
  intro a0 a1 a2 s0 w q h
  unfold fX13_readAll_44 at h
  refine EV.istore_n [(3, .int s0), (0, .ref a0), (1, .int a1), (2, .int a2)] dX13_readAll_44 rfl (by decide) rfl ?_
  refine EV.iload_n 0 dX13_readAll_45 rfl rfl ?_
  refine EV.if_eq 64 dX13_readAll_46 (by decide) (fun c43 => ?_) (fun c43 => ?_)
  · rw [if_pos c43] at h
    refine EV.sub [1, 2, 3, 0] rfl ?_
    exact eX13_readAll_64 hk4 _ _ _ _ _ _ h
  · rw [if_neg c43] at h
    refine EV.aload_n 1 dX13_readAll_49 rfl rfl ?_
    refine EV.sipush (208) dX13_readAll_50 (by decide) ?_
    refine EV.iload_n 2 dX13_readAll_53 rfl rfl ?_
    refine EV.bipush (8) dX13_readAll_54 (by decide) ?_
    obtain ⟨v44, gv44, h⟩ := px_bs h
    refine ev_rI dX13_readAll_56 gv44 ?_
    refine EV.iadd dX13_readAll_57 ?_
    obtain ⟨o45, go45, h⟩ := px_bs h
    obtain ⟨q46, gq46, h⟩ := px_bs h
    refine EV.callV (As := [.int (208 + v44)]) (rest := []) dX13_readAll_58 kcX13_readAll_289 (gO_ok go45) rfl rfl rfl (Nat.le_of_ble_eq_true rfl) (Nat.le_of_ble_eq_true rfl) (eX13_finish gq46) ?_
    refine EV.iinc 2 (a1 + 1) [(1, .int (a1 + 1)), (3, .int s0), (0, .ref a0), (2, .int a2)] dX13_readAll_61 rfl rfl (by decide) rfl ?_
    refine EV.sub [2, 0, 3, 1] rfl ?_
    exact eX13_readAll_64 hk4 _ _ _ _ _ _ h
set_option maxRecDepth 100000 in
set_option maxHeartbeats 4000000 in
theorem eX13_readAll_43 {X : px_X} {k4 : Nat → Int32 → Int32 → px_W → Option (px_W)} (hk4 : ∀ (a0 : Nat) (a1 : Int32) (a2 : Int32) (w : px_W) (q : px_W), k4 a0 a1 a2 w = some q → EV X mX13_readAll 4 [(0, .ref a0), (1, .int a1), (2, .int a2)] [] w none q) : ∀ (a0 : Nat) (a1 : Int32) (a2 : Int32) (w : px_W) (q : px_W), fX13_readAll_43 X k4 a0 a1 a2 w = some q → EV X mX13_readAll 43 [(0, .ref a0), (1, .int a1), (2, .int a2)] [] w none q := by
  intro a0 a1 a2 w q h
  unfold fX13_readAll_43 at h
  refine EV.iconst (0) dX13_readAll_43 (by decide) ?_
  refine EV.sub [0, 1, 2] rfl ?_
  exact eX13_readAll_44 hk4 _ _ _ _ _ _ h
set_option maxRecDepth 100000 in
set_option maxHeartbeats 4000000 in
theorem eX13_readAll_171 {X : px_X}  : ∀ (a0 : Nat) (w : px_W) (q : px_W), fX13_readAll_171 X  a0 w = some q → EV X mX13_readAll 171 [(0, .ref a0)] [] w none q := by
  intro a0 w q h
  unfold fX13_readAll_171 at h
  refine EV.aload_n 0 dX13_readAll_171 rfl rfl ?_
  obtain ⟨v47, gv47, h⟩ := px_bs h
  refine ev_gI dX13_readAll_172 flRX13_236 gv47 ?_
  refine EV.if_ne 183 dX13_readAll_175 (by decide) (fun c48 => ?_) (fun c48 => ?_)
  · rw [if_neg c48] at h
    cases h
    exact EV.ret0 dX13_readAll_183 trivial
  · rw [if_pos c48] at h
    refine EV.aload_n 0 dX13_readAll_178 rfl rfl ?_
    refine EV.iconst (0) dX13_readAll_179 (by decide) ?_
    obtain ⟨o49, go49, h⟩ := px_bs h
    obtain ⟨q50, gq50, h⟩ := px_bs h
    refine EV.callV (As := [.int 0]) (rest := []) dX13_readAll_180 kcX13_readAll_289 (gO_ok go49) rfl rfl rfl (Nat.le_of_ble_eq_true rfl) (Nat.le_of_ble_eq_true rfl) (eX13_finish gq50) ?_
    cases h
    exact EV.ret0 dX13_readAll_183 trivial
set_option maxRecDepth 100000 in
set_option maxHeartbeats 4000000 in
theorem eX13_readAll_4 {X : px_X}  : ∀ (m : Nat) (a0 : Nat) (a1 : Int32) (a2 : Int32) (w : px_W) (q : px_W), fX13_readAll_4 X  m a0 a1 a2 w = some q → EV X mX13_readAll 4 [(0, .ref a0), (1, .int a1), (2, .int a2)] [] w none q := by
  intro m
  induction m with
  | zero => intro a0 a1 a2 w q h; cases h
  | succ m ih =>
    intro a0 a1 a2 w q h
    rw [fX13_readAll_4.eq_2] at h
    refine EV.iload_n 2 dX13_readAll_4 rfl rfl ?_
    refine EV.aload_n 0 dX13_readAll_5 rfl rfl ?_
    obtain ⟨o51, go51, h⟩ := px_bs h
    obtain ⟨q52, gq52, h⟩ := px_bs h
    refine EV.callV (As := []) (rest := [.int a2]) dX13_readAll_6 kcX13_readAll_215 (gO_ok go51) rfl rfl rfl (Nat.le_of_ble_eq_true rfl) (Nat.le_of_ble_eq_true rfl) (eX13_units gq52) ?_
    refine EV.icmp_ge 171 dX13_readAll_9 (by decide) (fun c53 => ?_) (fun c53 => ?_)
    · rw [if_pos c53] at h
      refine EV.sub [0] rfl ?_
      exact eX13_readAll_171  _ _ _ h
    · rw [if_neg c53] at h
      refine EV.aload_n 0 dX13_readAll_12 rfl rfl ?_
      obtain ⟨v54, gv54, h⟩ := px_bs h
      refine ev_gI dX13_readAll_13 flRX13_236 gv54 ?_
      refine EV.if_ne 171 dX13_readAll_16 (by decide) (fun c55 => ?_) (fun c55 => ?_)
      · rw [if_neg c55] at h
        refine EV.sub [0] rfl ?_
        exact eX13_readAll_171  _ _ _ h
      · rw [if_pos c55] at h
        refine EV.aload_n 0 dX13_readAll_19 rfl rfl ?_
        obtain ⟨v56, gv56, h⟩ := px_bs h
        refine ev_gI dX13_readAll_20 flRX13_118 gv56 ?_
        refine EV.if_le 43 dX13_readAll_23 (by decide) (fun c57 => ?_) (fun c57 => ?_)
        · rw [if_pos c57] at h
          refine EV.sub [0, 1, 2] rfl ?_
          exact eX13_readAll_43 ih _ _ _ _ _ h
        · rw [if_neg c57] at h
          refine EV.iload_n 2 dX13_readAll_26 rfl rfl ?_
          refine EV.if_le 43 dX13_readAll_27 (by decide) (fun c58 => ?_) (fun c58 => ?_)
          · rw [if_pos c58] at h
            refine EV.sub [0, 1, 2] rfl ?_
            exact eX13_readAll_43 ih _ _ _ _ _ h
          · rw [if_neg c58] at h
            refine EV.iload_n 2 dX13_readAll_30 rfl rfl ?_
            refine EV.aload_n 0 dX13_readAll_31 rfl rfl ?_
            obtain ⟨v59, gv59, h⟩ := px_bs h
            refine ev_gI dX13_readAll_32 flRX13_118 gv59 ?_
            obtain ⟨v60, gv60, h⟩ := px_bs h
            refine ev_rI dX13_readAll_35 gv60 ?_
            refine EV.if_ne 43 dX13_readAll_36 (by decide) (fun c61 => ?_) (fun c61 => ?_)
            · rw [if_neg c61] at h
              refine EV.sub [0, 1, 2] rfl ?_
              exact eX13_readAll_43 ih _ _ _ _ _ h
            · rw [if_pos c61] at h
              refine EV.iconst (1) dX13_readAll_39 (by decide) ?_
              refine EV.goto 44 dX13_readAll_40 (by decide) ?_
              refine EV.sub [0, 1, 2] rfl ?_
              exact eX13_readAll_44 ih _ _ _ _ _ _ h
set_option maxRecDepth 100000 in
set_option maxHeartbeats 4000000 in
theorem eX13_readAll {X : px_X} {w : px_W} {a0 : Nat} {q : px_W} (h : fX13_readAll X w a0 = some q) : EV X mX13_readAll 0 (lv_args 0 [.ref a0]) [] w none q := by
  unfold fX13_readAll at h
  show EV X mX13_readAll 0 [(0, .ref a0)] [] w none q
  refine EV.iconst (0) dX13_readAll_0 (by decide) ?_
  refine EV.istore_n [(1, .int 0), (0, .ref a0)] dX13_readAll_1 rfl (by decide) rfl ?_
  refine EV.iconst (0) dX13_readAll_2 (by decide) ?_
  refine EV.istore_n [(2, .int 0), (1, .int 0), (0, .ref a0)] dX13_readAll_3 rfl (by decide) rfl ?_
  refine EV.sub [2, 1, 0] rfl ?_
  exact eX13_readAll_4  FU _ _ _ _ _ h
/-! WavePicturesModel$Scans.read()I -/
theorem dX13_read_0 : decode cX13_read 0 = .ok (.iconst 0, 1) := by decide +kernel
theorem dX13_read_1 : decode cX13_read 1 = .ok (.istore_n 1, 1) := by decide +kernel
theorem dX13_read_2 : decode cX13_read 2 = .ok (.iload_n 1, 1) := by decide +kernel
theorem dX13_read_3 : decode cX13_read 3 = .ok (.sipush 12288, 3) := by decide +kernel
theorem dX13_read_6 : decode cX13_read 6 = .ok (.if_icmp .ge 21, 3) := by decide +kernel
theorem dX13_read_9 : decode cX13_read 9 = .ok (.aload_n 0, 1) := by decide +kernel
theorem dX13_read_10 : decode cX13_read 10 = .ok (.getfield 37, 3) := by decide +kernel
theorem dX13_read_13 : decode cX13_read 13 = .ok (.iload_n 1, 1) := by decide +kernel
theorem dX13_read_14 : decode cX13_read 14 = .ok (.aload_n 0, 1) := by decide +kernel
theorem dX13_read_15 : decode cX13_read 15 = .ok (.getfield 33, 3) := by decide +kernel
theorem dX13_read_18 : decode cX13_read 18 = .ok (.iload_n 1, 1) := by decide +kernel
theorem dX13_read_19 : decode cX13_read 19 = .ok (.saload, 1) := by decide +kernel
theorem dX13_read_20 : decode cX13_read 20 = .ok (.sastore, 1) := by decide +kernel
theorem dX13_read_21 : decode cX13_read 21 = .ok (.iinc 1 1, 3) := by decide +kernel
theorem dX13_read_24 : decode cX13_read 24 = .ok (.goto (-22), 3) := by decide +kernel
theorem dX13_read_27 : decode cX13_read 27 = .ok (.aload_n 0, 1) := by decide +kernel
theorem dX13_read_28 : decode cX13_read 28 = .ok (.iconst 0, 1) := by decide +kernel
theorem dX13_read_29 : decode cX13_read 29 = .ok (.putfield 236, 3) := by decide +kernel
theorem dX13_read_32 : decode cX13_read 32 = .ok (.aload_n 0, 1) := by decide +kernel
theorem dX13_read_33 : decode cX13_read 33 = .ok (.iconst 0, 1) := by decide +kernel
theorem dX13_read_34 : decode cX13_read 34 = .ok (.putfield 239, 3) := by decide +kernel
theorem dX13_read_37 : decode cX13_read 37 = .ok (.aload_n 0, 1) := by decide +kernel
theorem dX13_read_38 : decode cX13_read 38 = .ok (.iconst 0, 1) := by decide +kernel
theorem dX13_read_39 : decode cX13_read 39 = .ok (.putfield 242, 3) := by decide +kernel
theorem dX13_read_42 : decode cX13_read 42 = .ok (.aload_n 0, 1) := by decide +kernel
theorem dX13_read_43 : decode cX13_read 43 = .ok (.iconst 0, 1) := by decide +kernel
theorem dX13_read_44 : decode cX13_read 44 = .ok (.putfield 177, 3) := by decide +kernel
theorem dX13_read_47 : decode cX13_read 47 = .ok (.aload_n 0, 1) := by decide +kernel
theorem dX13_read_48 : decode cX13_read 48 = .ok (.invokevirtual 295, 3) := by decide +kernel
theorem dX13_read_51 : decode cX13_read 51 = .ok (.iconst 0, 1) := by decide +kernel
theorem dX13_read_52 : decode cX13_read 52 = .ok (.istore_n 1, 1) := by decide +kernel
theorem dX13_read_53 : decode cX13_read 53 = .ok (.iload_n 1, 1) := by decide +kernel
theorem dX13_read_54 : decode cX13_read 54 = .ok (.sipush 12288, 3) := by decide +kernel
theorem dX13_read_57 : decode cX13_read 57 = .ok (.if_icmp .ge 28, 3) := by decide +kernel
theorem dX13_read_60 : decode cX13_read 60 = .ok (.aload_n 0, 1) := by decide +kernel
theorem dX13_read_61 : decode cX13_read 61 = .ok (.getfield 236, 3) := by decide +kernel
theorem dX13_read_64 : decode cX13_read 64 = .ok (.ifCond .le 21, 3) := by decide +kernel
theorem dX13_read_67 : decode cX13_read 67 = .ok (.aload_n 0, 1) := by decide +kernel
theorem dX13_read_68 : decode cX13_read 68 = .ok (.getfield 33, 3) := by decide +kernel
theorem dX13_read_71 : decode cX13_read 71 = .ok (.iload_n 1, 1) := by decide +kernel
theorem dX13_read_72 : decode cX13_read 72 = .ok (.aload_n 0, 1) := by decide +kernel
theorem dX13_read_73 : decode cX13_read 73 = .ok (.getfield 37, 3) := by decide +kernel
theorem dX13_read_76 : decode cX13_read 76 = .ok (.iload_n 1, 1) := by decide +kernel
theorem dX13_read_77 : decode cX13_read 77 = .ok (.saload, 1) := by decide +kernel
theorem dX13_read_78 : decode cX13_read 78 = .ok (.sastore, 1) := by decide +kernel
theorem dX13_read_79 : decode cX13_read 79 = .ok (.iinc 1 1, 3) := by decide +kernel
theorem dX13_read_82 : decode cX13_read 82 = .ok (.goto (-29), 3) := by decide +kernel
theorem dX13_read_85 : decode cX13_read 85 = .ok (.aload_n 0, 1) := by decide +kernel
theorem dX13_read_86 : decode cX13_read 86 = .ok (.getfield 236, 3) := by decide +kernel
theorem dX13_read_89 : decode cX13_read 89 = .ok (.ireturn, 1) := by decide +kernel
theorem flRX13_37 : px_f RX13 37 13 13 := ⟨_, rfl, by decide, Or.inl (tb7 (List.mem_of_getElem? (i := 23) rfl))⟩
theorem mbX13_readAll : px_mB mX13_readAll 0 := ⟨tb9 (List.mem_of_getElem? (i := 20) rfl), by decide +kernel, tb1 (List.mem_of_getElem? (i := 15) rfl), by decide +kernel, by decide +kernel⟩
theorem vbX13_readAll : px_vB mX13_readAll := ⟨tb9 (List.mem_of_getElem? (i := 19) rfl), List.mem_append_left _ (List.mem_of_getElem? (i := 112) (by decide +kernel))⟩
theorem kcX13_read_295 : px_cV mX13_read 295 mX13_readAll 0 := ⟨⟨mbX13_readAll, by decide, by decide⟩, Or.inl (tb9 (List.mem_of_getElem? (i := 17) rfl)), vbX13_readAll⟩
set_option maxRecDepth 100000 in
set_option maxHeartbeats 4000000 in
theorem eX13_read_85 {X : px_X}  : ∀ (a0 : Nat) (w : px_W) (q : Int32 × px_W), fX13_read_85 X  a0 w = some q → EV X mX13_read 85 [(0, .ref a0)] [] w (some (.int q.1)) q.2 := by
  intro a0 w q h
  unfold fX13_read_85 at h
  refine EV.aload_n 0 dX13_read_85 rfl rfl ?_
  obtain ⟨v17, gv17, h⟩ := px_bs h
  refine ev_gI dX13_read_86 flRX13_236 gv17 ?_
  cases h
  exact EV.reti dX13_read_89 rfl
set_option maxRecDepth 100000 in
set_option maxHeartbeats 4000000 in
theorem eX13_read_53 {X : px_X}  : ∀ (m : Nat) (a0 : Nat) (a1 : Int32) (w : px_W) (q : Int32 × px_W), fX13_read_53 X  m a0 a1 w = some q → EV X mX13_read 53 [(0, .ref a0), (1, .int a1)] [] w (some (.int q.1)) q.2 := by
  intro m
  induction m with
  | zero => intro a0 a1 w q h; cases h
  | succ m ih =>
    intro a0 a1 w q h
    rw [fX13_read_53.eq_2] at h
    refine EV.iload_n 1 dX13_read_53 rfl rfl ?_
    refine EV.sipush (12288) dX13_read_54 (by decide) ?_
    refine EV.icmp_ge 85 dX13_read_57 (by decide) (fun c18 => ?_) (fun c18 => ?_)
    · rw [if_pos c18] at h
      refine EV.sub [0] rfl ?_
      exact eX13_read_85  _ _ _ h
    · rw [if_neg c18] at h
      refine EV.aload_n 0 dX13_read_60 rfl rfl ?_
      obtain ⟨v19, gv19, h⟩ := px_bs h
      refine ev_gI dX13_read_61 flRX13_236 gv19 ?_
      refine EV.if_le 85 dX13_read_64 (by decide) (fun c20 => ?_) (fun c20 => ?_)
      · rw [if_pos c20] at h
        refine EV.sub [0] rfl ?_
        exact eX13_read_85  _ _ _ h
      · rw [if_neg c20] at h
        refine EV.aload_n 0 dX13_read_67 rfl rfl ?_
        obtain ⟨v21, gv21, h⟩ := px_bs h
        refine ev_gR dX13_read_68 flRX13_33 gv21 ?_
        refine EV.iload_n 1 dX13_read_71 rfl rfl ?_
        refine EV.aload_n 0 dX13_read_72 rfl rfl ?_
        obtain ⟨v22, gv22, h⟩ := px_bs h
        refine ev_gR dX13_read_73 flRX13_37 gv22 ?_
        refine EV.iload_n 1 dX13_read_76 rfl rfl ?_
        obtain ⟨v23, gv23, h⟩ := px_bs h
        refine ev_aS dX13_read_77 gv23 ?_
        obtain ⟨w24, gw24, h⟩ := px_bs h
        refine ev_sS dX13_read_78 gw24 ?_
        refine EV.iinc 1 (a1 + 1) [(1, .int (a1 + 1)), (0, .ref a0)] dX13_read_79 rfl rfl (by decide) rfl ?_
        refine EV.goto 53 dX13_read_82 (by decide) ?_
        refine EV.sub [1, 0] rfl ?_
        exact ih _ _ _ _ h
set_option maxRecDepth 100000 in
set_option maxHeartbeats 4000000 in
theorem eX13_read_27 {X : px_X}  : ∀ (a0 : Nat) (w : px_W) (q : Int32 × px_W), fX13_read_27 X  a0 w = some q → EV X mX13_read 27 [(0, .ref a0)] [] w (some (.int q.1)) q.2 := by
  intro a0 w q h
  unfold fX13_read_27 at h
  refine EV.aload_n 0 dX13_read_27 rfl rfl ?_
  refine EV.iconst (0) dX13_read_28 (by decide) ?_
  obtain ⟨w25, gw25, h⟩ := px_bs h
  refine ev_pV dX13_read_29 flRX13_236 rfl rfl rfl rfl gw25 ?_
  refine EV.aload_n 0 dX13_read_32 rfl rfl ?_
  refine EV.iconst (0) dX13_read_33 (by decide) ?_
  obtain ⟨w26, gw26, h⟩ := px_bs h
  refine ev_pV dX13_read_34 flRX13_239 rfl rfl rfl rfl gw26 ?_
  refine EV.aload_n 0 dX13_read_37 rfl rfl ?_
  refine EV.iconst (0) dX13_read_38 (by decide) ?_
  obtain ⟨w27, gw27, h⟩ := px_bs h
  refine ev_pV dX13_read_39 flRX13_242 rfl rfl rfl rfl gw27 ?_
  refine EV.aload_n 0 dX13_read_42 rfl rfl ?_
  refine EV.iconst (0) dX13_read_43 (by decide) ?_
  obtain ⟨w28, gw28, h⟩ := px_bs h
  refine ev_pV dX13_read_44 flRX13_177 rfl rfl rfl rfl gw28 ?_
  refine EV.aload_n 0 dX13_read_47 rfl rfl ?_
  obtain ⟨o29, go29, h⟩ := px_bs h
  obtain ⟨q30, gq30, h⟩ := px_bs h
  refine EV.callV (As := []) (rest := []) dX13_read_48 kcX13_read_295 (gO_ok go29) rfl rfl rfl (Nat.le_of_ble_eq_true rfl) (Nat.le_of_ble_eq_true rfl) (eX13_readAll gq30) ?_
  refine EV.iconst (0) dX13_read_51 (by decide) ?_
  refine EV.istore_n [(1, .int 0), (0, .ref a0)] dX13_read_52 rfl (by decide) rfl ?_
  refine EV.sub [1, 0] rfl ?_
  exact eX13_read_53  FU _ _ _ _ h
set_option maxRecDepth 100000 in
set_option maxHeartbeats 4000000 in
theorem eX13_read_2 {X : px_X}  : ∀ (m : Nat) (a0 : Nat) (a1 : Int32) (w : px_W) (q : Int32 × px_W), fX13_read_2 X  m a0 a1 w = some q → EV X mX13_read 2 [(0, .ref a0), (1, .int a1)] [] w (some (.int q.1)) q.2 := by
  intro m
  induction m with
  | zero => intro a0 a1 w q h; cases h
  | succ m ih =>
    intro a0 a1 w q h
    rw [fX13_read_2.eq_2] at h
    refine EV.iload_n 1 dX13_read_2 rfl rfl ?_
    refine EV.sipush (12288) dX13_read_3 (by decide) ?_
    refine EV.icmp_ge 27 dX13_read_6 (by decide) (fun c31 => ?_) (fun c31 => ?_)
    · rw [if_pos c31] at h
      refine EV.sub [0] rfl ?_
      exact eX13_read_27  _ _ _ h
    · rw [if_neg c31] at h
      refine EV.aload_n 0 dX13_read_9 rfl rfl ?_
      obtain ⟨v32, gv32, h⟩ := px_bs h
      refine ev_gR dX13_read_10 flRX13_37 gv32 ?_
      refine EV.iload_n 1 dX13_read_13 rfl rfl ?_
      refine EV.aload_n 0 dX13_read_14 rfl rfl ?_
      obtain ⟨v33, gv33, h⟩ := px_bs h
      refine ev_gR dX13_read_15 flRX13_33 gv33 ?_
      refine EV.iload_n 1 dX13_read_18 rfl rfl ?_
      obtain ⟨v34, gv34, h⟩ := px_bs h
      refine ev_aS dX13_read_19 gv34 ?_
      obtain ⟨w35, gw35, h⟩ := px_bs h
      refine ev_sS dX13_read_20 gw35 ?_
      refine EV.iinc 1 (a1 + 1) [(1, .int (a1 + 1)), (0, .ref a0)] dX13_read_21 rfl rfl (by decide) rfl ?_
      refine EV.goto 2 dX13_read_24 (by decide) ?_
      refine EV.sub [1, 0] rfl ?_
      exact ih _ _ _ _ h
set_option maxRecDepth 100000 in
set_option maxHeartbeats 4000000 in
theorem eX13_read {X : px_X} {w : px_W} {a0 : Nat} {q : Int32 × px_W} (h : fX13_read X w a0 = some q) : EV X mX13_read 0 (lv_args 0 [.ref a0]) [] w (some (.int q.1)) q.2 := by
  unfold fX13_read at h
  show EV X mX13_read 0 [(0, .ref a0)] [] w (some (.int q.1)) q.2
  refine EV.iconst (0) dX13_read_0 (by decide) ?_
  refine EV.istore_n [(1, .int 0), (0, .ref a0)] dX13_read_1 rfl (by decide) rfl ?_
  refine EV.sub [1, 0] rfl ?_
  exact eX13_read_2  FU _ _ _ _ h
