/-! WavePicturesModel$Scans.writeAll()V -/
theorem dX13_writeAll_0 : decode cX13_writeAll 0 = .ok (.aload_n 0, 1) := by decide +kernel
theorem dX13_writeAll_1 : decode cX13_writeAll 1 = .ok (.iconst 0, 1) := by decide +kernel
theorem dX13_writeAll_2 : decode cX13_writeAll 2 = .ok (.putfield 161, 3) := by decide +kernel
theorem dX13_writeAll_5 : decode cX13_writeAll 5 = .ok (.aload_n 0, 1) := by decide +kernel
theorem dX13_writeAll_6 : decode cX13_writeAll 6 = .ok (.iconst 0, 1) := by decide +kernel
theorem dX13_writeAll_7 : decode cX13_writeAll 7 = .ok (.putfield 151, 3) := by decide +kernel
theorem dX13_writeAll_10 : decode cX13_writeAll 10 = .ok (.aload_n 0, 1) := by decide +kernel
theorem dX13_writeAll_11 : decode cX13_writeAll 11 = .ok (.iconst 0, 1) := by decide +kernel
theorem dX13_writeAll_12 : decode cX13_writeAll 12 = .ok (.putfield 154, 3) := by decide +kernel
theorem dX13_writeAll_15 : decode cX13_writeAll 15 = .ok (.aload_n 0, 1) := by decide +kernel
theorem dX13_writeAll_16 : decode cX13_writeAll 16 = .ok (.iconst 0, 1) := by decide +kernel
theorem dX13_writeAll_17 : decode cX13_writeAll 17 = .ok (.putfield 164, 3) := by decide +kernel
theorem dX13_writeAll_20 : decode cX13_writeAll 20 = .ok (.aload_n 0, 1) := by decide +kernel
theorem dX13_writeAll_21 : decode cX13_writeAll 21 = .ok (.iconst 0, 1) := by decide +kernel
theorem dX13_writeAll_22 : decode cX13_writeAll 22 = .ok (.putfield 177, 3) := by decide +kernel
theorem dX13_writeAll_25 : decode cX13_writeAll 25 = .ok (.aload_n 0, 1) := by decide +kernel
theorem dX13_writeAll_26 : decode cX13_writeAll 26 = .ok (.iconst 0, 1) := by decide +kernel
theorem dX13_writeAll_27 : decode cX13_writeAll 27 = .ok (.putfield 183, 3) := by decide +kernel
theorem dX13_writeAll_30 : decode cX13_writeAll 30 = .ok (.iconst 0, 1) := by decide +kernel
theorem dX13_writeAll_31 : decode cX13_writeAll 31 = .ok (.istore_n 1, 1) := by decide +kernel
theorem dX13_writeAll_32 : decode cX13_writeAll 32 = .ok (.iload_n 1, 1) := by decide +kernel
theorem dX13_writeAll_33 : decode cX13_writeAll 33 = .ok (.sipush 2048, 3) := by decide +kernel
theorem dX13_writeAll_36 : decode cX13_writeAll 36 = .ok (.if_icmp .ge 32, 3) := by decide +kernel
theorem dX13_writeAll_39 : decode cX13_writeAll 39 = .ok (.aload_n 0, 1) := by decide +kernel
theorem dX13_writeAll_40 : decode cX13_writeAll 40 = .ok (.getfield 68, 3) := by decide +kernel
theorem dX13_writeAll_43 : decode cX13_writeAll 43 = .ok (.iload_n 1, 1) := by decide +kernel
theorem dX13_writeAll_44 : decode cX13_writeAll 44 = .ok (.aload_n 0, 1) := by decide +kernel
theorem dX13_writeAll_45 : decode cX13_writeAll 45 = .ok (.getfield 147, 3) := by decide +kernel
theorem dX13_writeAll_48 : decode cX13_writeAll 48 = .ok (.ifCond .eq 7, 3) := by decide +kernel
theorem dX13_writeAll_51 : decode cX13_writeAll 51 = .ok (.iconst 0, 1) := by decide +kernel
theorem dX13_writeAll_52 : decode cX13_writeAll 52 = .ok (.goto 9, 3) := by decide +kernel
theorem dX13_writeAll_55 : decode cX13_writeAll 55 = .ok (.aload_n 0, 1) := by decide +kernel
theorem dX13_writeAll_56 : decode cX13_writeAll 56 = .ok (.getfield 68, 3) := by decide +kernel
theorem dX13_writeAll_59 : decode cX13_writeAll 59 = .ok (.iload_n 1, 1) := by decide +kernel
theorem dX13_writeAll_60 : decode cX13_writeAll 60 = .ok (.iaload, 1) := by decide +kernel
theorem dX13_writeAll_61 : decode cX13_writeAll 61 = .ok (.iastore, 1) := by decide +kernel
theorem dX13_writeAll_62 : decode cX13_writeAll 62 = .ok (.iinc 1 1, 3) := by decide +kernel
theorem dX13_writeAll_65 : decode cX13_writeAll 65 = .ok (.goto (-33), 3) := by decide +kernel
theorem dX13_writeAll_68 : decode cX13_writeAll 68 = .ok (.aload_n 0, 1) := by decide +kernel
theorem dX13_writeAll_69 : decode cX13_writeAll 69 = .ok (.getfield 58, 3) := by decide +kernel
theorem dX13_writeAll_72 : decode cX13_writeAll 72 = .ok (.aload_n 0, 1) := by decide +kernel
theorem dX13_writeAll_73 : decode cX13_writeAll 73 = .ok (.invokevirtual 143, 3) := by decide +kernel
theorem dX13_writeAll_76 : decode cX13_writeAll 76 = .ok (.iaload, 1) := by decide +kernel
theorem dX13_writeAll_77 : decode cX13_writeAll 77 = .ok (.istore_n 1, 1) := by decide +kernel
theorem dX13_writeAll_78 : decode cX13_writeAll 78 = .ok (.iconst 0, 1) := by decide +kernel
theorem dX13_writeAll_79 : decode cX13_writeAll 79 = .ok (.istore_n 2, 1) := by decide +kernel
theorem dX13_writeAll_80 : decode cX13_writeAll 80 = .ok (.iconst 0, 1) := by decide +kernel
theorem dX13_writeAll_81 : decode cX13_writeAll 81 = .ok (.istore_n 3, 1) := by decide +kernel
theorem dX13_writeAll_82 : decode cX13_writeAll 82 = .ok (.iload_n 3, 1) := by decide +kernel
theorem dX13_writeAll_83 : decode cX13_writeAll 83 = .ok (.aload_n 0, 1) := by decide +kernel
theorem dX13_writeAll_84 : decode cX13_writeAll 84 = .ok (.invokevirtual 215, 3) := by decide +kernel
theorem dX13_writeAll_87 : decode cX13_writeAll 87 = .ok (.if_icmp .ge 174, 3) := by decide +kernel
theorem dX13_writeAll_90 : decode cX13_writeAll 90 = .ok (.aload_n 0, 1) := by decide +kernel
theorem dX13_writeAll_91 : decode cX13_writeAll 91 = .ok (.getfield 118, 3) := by decide +kernel
theorem dX13_writeAll_94 : decode cX13_writeAll 94 = .ok (.ifCond .le 20, 3) := by decide +kernel
theorem dX13_writeAll_97 : decode cX13_writeAll 97 = .ok (.iload_n 3, 1) := by decide +kernel
theorem dX13_writeAll_98 : decode cX13_writeAll 98 = .ok (.ifCond .le 16, 3) := by decide +kernel
theorem dX13_writeAll_101 : decode cX13_writeAll 101 = .ok (.iload_n 3, 1) := by decide +kernel
theorem dX13_writeAll_102 : decode cX13_writeAll 102 = .ok (.aload_n 0, 1) := by decide +kernel
theorem dX13_writeAll_103 : decode cX13_writeAll 103 = .ok (.getfield 118, 3) := by decide +kernel
theorem dX13_writeAll_106 : decode cX13_writeAll 106 = .ok (.irem, 1) := by decide +kernel
theorem dX13_writeAll_107 : decode cX13_writeAll 107 = .ok (.ifCond .ne 7, 3) := by decide +kernel
theorem dX13_writeAll_110 : decode cX13_writeAll 110 = .ok (.iconst 1, 1) := by decide +kernel
theorem dX13_writeAll_111 : decode cX13_writeAll 111 = .ok (.goto 4, 3) := by decide +kernel
theorem dX13_writeAll_114 : decode cX13_writeAll 114 = .ok (.iconst 0, 1) := by decide +kernel
theorem dX13_writeAll_115 : decode cX13_writeAll 115 = .ok (.istore 4, 2) := by decide +kernel
theorem dX13_writeAll_117 : decode cX13_writeAll 117 = .ok (.iload 4, 2) := by decide +kernel
theorem dX13_writeAll_119 : decode cX13_writeAll 119 = .ok (.ifCond .eq 41, 3) := by decide +kernel
theorem dX13_writeAll_122 : decode cX13_writeAll 122 = .ok (.aload_n 0, 1) := by decide +kernel
theorem dX13_writeAll_123 : decode cX13_writeAll 123 = .ok (.iload_n 1, 1) := by decide +kernel
theorem dX13_writeAll_124 : decode cX13_writeAll 124 = .ok (.invokevirtual 195, 3) := by decide +kernel
theorem dX13_writeAll_127 : decode cX13_writeAll 127 = .ok (.aload_n 0, 1) := by decide +kernel
theorem dX13_writeAll_128 : decode cX13_writeAll 128 = .ok (.getfield 147, 3) := by decide +kernel
theorem dX13_writeAll_131 : decode cX13_writeAll 131 = .ok (.ifCond .ne 26, 3) := by decide +kernel
theorem dX13_writeAll_134 : decode cX13_writeAll 134 = .ok (.aload_n 0, 1) := by decide +kernel
theorem dX13_writeAll_135 : decode cX13_writeAll 135 = .ok (.invokevirtual 218, 3) := by decide +kernel
theorem dX13_writeAll_138 : decode cX13_writeAll 138 = .ok (.aload_n 0, 1) := by decide +kernel
theorem dX13_writeAll_139 : decode cX13_writeAll 139 = .ok (.sipush 255, 3) := by decide +kernel
theorem dX13_writeAll_142 : decode cX13_writeAll 142 = .ok (.invokevirtual 157, 3) := by decide +kernel
theorem dX13_writeAll_145 : decode cX13_writeAll 145 = .ok (.aload_n 0, 1) := by decide +kernel
theorem dX13_writeAll_146 : decode cX13_writeAll 146 = .ok (.sipush 208, 3) := by decide +kernel
theorem dX13_writeAll_149 : decode cX13_writeAll 149 = .ok (.iload_n 2, 1) := by decide +kernel
theorem dX13_writeAll_150 : decode cX13_writeAll 150 = .ok (.bipush 8, 2) := by decide +kernel
theorem dX13_writeAll_152 : decode cX13_writeAll 152 = .ok (.irem, 1) := by decide +kernel
theorem dX13_writeAll_153 : decode cX13_writeAll 153 = .ok (.iadd, 1) := by decide +kernel
theorem dX13_writeAll_154 : decode cX13_writeAll 154 = .ok (.invokevirtual 157, 3) := by decide +kernel
theorem dX13_writeAll_157 : decode cX13_writeAll 157 = .ok (.iinc 2 1, 3) := by decide +kernel
theorem dX13_writeAll_160 : decode cX13_writeAll 160 = .ok (.iconst 0, 1) := by decide +kernel
theorem dX13_writeAll_161 : decode cX13_writeAll 161 = .ok (.istore 5, 2) := by decide +kernel
theorem dX13_writeAll_163 : decode cX13_writeAll 163 = .ok (.iload 5, 2) := by decide +kernel
theorem dX13_writeAll_165 : decode cX13_writeAll 165 = .ok (.iconst 4, 1) := by decide +kernel
theorem dX13_writeAll_166 : decode cX13_writeAll 166 = .ok (.if_icmp .ge 36, 3) := by decide +kernel
theorem dX13_writeAll_169 : decode cX13_writeAll 169 = .ok (.aload_n 0, 1) := by decide +kernel
theorem dX13_writeAll_170 : decode cX13_writeAll 170 = .ok (.getfield 71, 3) := by decide +kernel
theorem dX13_writeAll_173 : decode cX13_writeAll 173 = .ok (.iload 5, 2) := by decide +kernel
theorem dX13_writeAll_175 : decode cX13_writeAll 175 = .ok (.iload_n 3, 1) := by decide +kernel
theorem dX13_writeAll_176 : decode cX13_writeAll 176 = .ok (.ifCond .eq 8, 3) := by decide +kernel
theorem dX13_writeAll_179 : decode cX13_writeAll 179 = .ok (.iload 4, 2) := by decide +kernel
theorem dX13_writeAll_181 : decode cX13_writeAll 181 = .ok (.ifCond .eq 7, 3) := by decide +kernel
theorem dX13_writeAll_184 : decode cX13_writeAll 184 = .ok (.iconst 0, 1) := by decide +kernel
theorem dX13_writeAll_185 : decode cX13_writeAll 185 = .ok (.goto 10, 3) := by decide +kernel
theorem dX13_writeAll_188 : decode cX13_writeAll 188 = .ok (.aload_n 0, 1) := by decide +kernel
theorem dX13_writeAll_189 : decode cX13_writeAll 189 = .ok (.getfield 71, 3) := by decide +kernel
theorem dX13_writeAll_192 : decode cX13_writeAll 192 = .ok (.iload 5, 2) := by decide +kernel
theorem dX13_writeAll_194 : decode cX13_writeAll 194 = .ok (.iaload, 1) := by decide +kernel
theorem dX13_writeAll_195 : decode cX13_writeAll 195 = .ok (.iastore, 1) := by decide +kernel
theorem dX13_writeAll_196 : decode cX13_writeAll 196 = .ok (.iinc 5 1, 3) := by decide +kernel
theorem dX13_writeAll_199 : decode cX13_writeAll 199 = .ok (.goto (-36), 3) := by decide +kernel
theorem dX13_writeAll_202 : decode cX13_writeAll 202 = .ok (.iconst 0, 1) := by decide +kernel
theorem dX13_writeAll_203 : decode cX13_writeAll 203 = .ok (.istore 5, 2) := by decide +kernel
theorem dX13_writeAll_205 : decode cX13_writeAll 205 = .ok (.iload 5, 2) := by decide +kernel
theorem dX13_writeAll_207 : decode cX13_writeAll 207 = .ok (.aload_n 0, 1) := by decide +kernel
theorem dX13_writeAll_208 : decode cX13_writeAll 208 = .ok (.getfield 94, 3) := by decide +kernel
theorem dX13_writeAll_211 : decode cX13_writeAll 211 = .ok (.if_icmp .ge 44, 3) := by decide +kernel
theorem dX13_writeAll_214 : decode cX13_writeAll 214 = .ok (.iconst 0, 1) := by decide +kernel
theorem dX13_writeAll_215 : decode cX13_writeAll 215 = .ok (.istore 6, 2) := by decide +kernel
theorem dX13_writeAll_217 : decode cX13_writeAll 217 = .ok (.iload 6, 2) := by decide +kernel
theorem dX13_writeAll_219 : decode cX13_writeAll 219 = .ok (.aload_n 0, 1) := by decide +kernel
theorem dX13_writeAll_220 : decode cX13_writeAll 220 = .ok (.iload 5, 2) := by decide +kernel
theorem dX13_writeAll_222 : decode cX13_writeAll 222 = .ok (.invokevirtual 221, 3) := by decide +kernel
theorem dX13_writeAll_225 : decode cX13_writeAll 225 = .ok (.if_icmp .ge 24, 3) := by decide +kernel
theorem dX13_writeAll_228 : decode cX13_writeAll 228 = .ok (.aload_n 0, 1) := by decide +kernel
theorem dX13_writeAll_229 : decode cX13_writeAll 229 = .ok (.iload 5, 2) := by decide +kernel
theorem dX13_writeAll_231 : decode cX13_writeAll 231 = .ok (.aload_n 0, 1) := by decide +kernel
theorem dX13_writeAll_232 : decode cX13_writeAll 232 = .ok (.iload 5, 2) := by decide +kernel
theorem dX13_writeAll_234 : decode cX13_writeAll 234 = .ok (.iload_n 3, 1) := by decide +kernel
theorem dX13_writeAll_235 : decode cX13_writeAll 235 = .ok (.iload 6, 2) := by decide +kernel
theorem dX13_writeAll_237 : decode cX13_writeAll 237 = .ok (.invokevirtual 224, 3) := by decide +kernel
theorem dX13_writeAll_240 : decode cX13_writeAll 240 = .ok (.invokevirtual 227, 3) := by decide +kernel
theorem dX13_writeAll_243 : decode cX13_writeAll 243 = .ok (.iinc 6 1, 3) := by decide +kernel
theorem dX13_writeAll_246 : decode cX13_writeAll 246 = .ok (.goto (-29), 3) := by decide +kernel
theorem dX13_writeAll_249 : decode cX13_writeAll 249 = .ok (.iinc 5 1, 3) := by decide +kernel
theorem dX13_writeAll_252 : decode cX13_writeAll 252 = .ok (.goto (-47), 3) := by decide +kernel
theorem dX13_writeAll_255 : decode cX13_writeAll 255 = .ok (.iinc 3 1, 3) := by decide +kernel
theorem dX13_writeAll_258 : decode cX13_writeAll 258 = .ok (.goto (-176), 3) := by decide +kernel
theorem dX13_writeAll_261 : decode cX13_writeAll 261 = .ok (.aload_n 0, 1) := by decide +kernel
theorem dX13_writeAll_262 : decode cX13_writeAll 262 = .ok (.iload_n 1, 1) := by decide +kernel
theorem dX13_writeAll_263 : decode cX13_writeAll 263 = .ok (.invokevirtual 195, 3) := by decide +kernel
theorem dX13_writeAll_266 : decode cX13_writeAll 266 = .ok (.aload_n 0, 1) := by decide +kernel
theorem dX13_writeAll_267 : decode cX13_writeAll 267 = .ok (.invokevirtual 218, 3) := by decide +kernel
theorem dX13_writeAll_270 : decode cX13_writeAll 270 = .ok (.return_, 1) := by decide +kernel
theorem kcX13_writeAll_143 : px_cV mX13_writeAll 143 mX13_single 0 := ⟨⟨mbX13_single, by decide, by decide⟩, Or.inl (tb9 (List.mem_of_getElem? (i := 25) rfl)), vbX13_single⟩
theorem kcX13_writeAll_157 : px_cV mX13_writeAll 157 mX13_raw 1 := ⟨⟨mbX13_raw, by decide, by decide⟩, Or.inl (tb9 (List.mem_of_getElem? (i := 178) rfl)), vbX13_raw⟩
theorem kcX13_writeAll_195 : px_cV mX13_writeAll 195 mX13_sendRun 1 := ⟨⟨mbX13_sendRun, by decide, by decide⟩, Or.inl (tb9 (List.mem_of_getElem? (i := 159) rfl)), vbX13_sendRun⟩
theorem mbX13_units : px_mB mX13_units 0 := ⟨tb9 (List.mem_of_getElem? (i := 24) rfl), by decide +kernel, tb1 (List.mem_of_getElem? (i := 15) rfl), by decide +kernel, by decide +kernel⟩
theorem vbX13_units : px_vB mX13_units := ⟨tb9 (List.mem_of_getElem? (i := 23) rfl), List.mem_append_left _ (List.mem_of_getElem? (i := 113) (by decide +kernel))⟩
theorem kcX13_writeAll_215 : px_cV mX13_writeAll 215 mX13_units 0 := ⟨⟨mbX13_units, by decide, by decide⟩, Or.inl (tb9 (List.mem_of_getElem? (i := 21) rfl)), vbX13_units⟩
theorem mbX13_align : px_mB mX13_align 0 := ⟨tb9 (List.mem_of_getElem? (i := 185) rfl), by decide +kernel, tb1 (List.mem_of_getElem? (i := 15) rfl), by decide +kernel, by decide +kernel⟩
theorem vbX13_align : px_vB mX13_align := ⟨tb9 (List.mem_of_getElem? (i := 184) rfl), List.mem_append_left _ (List.mem_of_getElem? (i := 147) (by decide +kernel))⟩
theorem kcX13_writeAll_218 : px_cV mX13_writeAll 218 mX13_align 0 := ⟨⟨mbX13_align, by decide, by decide⟩, Or.inl (tb9 (List.mem_of_getElem? (i := 182) rfl)), vbX13_align⟩
theorem mbX13_blocksIn : px_mB mX13_blocksIn 1 := ⟨tb9 (List.mem_of_getElem? (i := 44) rfl), by decide +kernel, tb1 (List.mem_of_getElem? (i := 15) rfl), by decide +kernel, by decide +kernel⟩
theorem vbX13_blocksIn : px_vB mX13_blocksIn := ⟨tb9 (List.mem_of_getElem? (i := 43) rfl), List.mem_append_left _ (List.mem_of_getElem? (i := 118) (by decide +kernel))⟩
theorem kcX13_writeAll_221 : px_cV mX13_writeAll 221 mX13_blocksIn 1 := ⟨⟨mbX13_blocksIn, by decide, by decide⟩, Or.inl (tb9 (List.mem_of_getElem? (i := 41) rfl)), vbX13_blocksIn⟩
theorem mbX13_blockOf : px_mB mX13_blockOf 3 := ⟨tb9 (List.mem_of_getElem? (i := 48) rfl), by decide +kernel, tb1 (List.mem_of_getElem? (i := 15) rfl), by decide +kernel, by decide +kernel⟩
theorem vbX13_blockOf : px_vB mX13_blockOf := ⟨tb9 (List.mem_of_getElem? (i := 47) rfl), List.mem_append_left _ (List.mem_of_getElem? (i := 119) (by decide +kernel))⟩
theorem kcX13_writeAll_224 : px_cV mX13_writeAll 224 mX13_blockOf 3 := ⟨⟨mbX13_blockOf, by decide, by decide⟩, Or.inl (tb9 (List.mem_of_getElem? (i := 45) rfl)), vbX13_blockOf⟩
theorem mbX13_writeBlock : px_mB mX13_writeBlock 2 := ⟨tb9 (List.mem_of_getElem? (i := 189) rfl), by decide +kernel, tb1 (List.mem_of_getElem? (i := 15) rfl), by decide +kernel, by decide +kernel⟩
theorem vbX13_writeBlock : px_vB mX13_writeBlock := ⟨tb9 (List.mem_of_getElem? (i := 188) rfl), List.mem_append_left _ (List.mem_of_getElem? (i := 148) (by decide +kernel))⟩
theorem kcX13_writeAll_227 : px_cV mX13_writeAll 227 mX13_writeBlock 2 := ⟨⟨mbX13_writeBlock, by decide, by decide⟩, Or.inl (tb9 (List.mem_of_getElem? (i := 186) rfl)), vbX13_writeBlock⟩
set_option maxRecDepth 100000 in
set_option maxHeartbeats 4000000 in
theorem eX13_writeAll_195 {X : px_X} {k82 : Nat → Int32 → Int32 → Int32 → px_W → Option (px_W)} (hk82 : ∀ (a0 : Nat) (a1 : Int32) (a2 : Int32) (a3 : Int32) (w : px_W) (q : px_W), k82 a0 a1 a2 a3 w = some q → EV X mX13_writeAll 82 [(0, .ref a0), (1, .int a1), (2, .int a2), (3, .int a3)] [] w none q) {k163 : Nat → Int32 → Int32 → Int32 → Int32 → Int32 → px_W → Option (px_W)} (hk163 : ∀ (a0 : Nat) (a1 : Int32) (a2 : Int32) (a3 : Int32) (a4 : Int32) (a5 : Int32) (w : px_W) (q : px_W), k163 a0 a1 a2 a3 a4 a5 w = some q → EV X mX13_writeAll 163 [(0, .ref a0), (1, .int a1), (2, .int a2), (3, .int a3), (4, .int a4), (5, .int a5)] [] w none q) : ∀ (a0 : Nat) (a1 : Int32) (a2 : Int32) (a3 : Int32) (a4 : Int32) (a5 : Int32) (s0 : Int32) (s1 : Int32) (s2 : Nat) (w : px_W) (q : px_W), fX13_writeAll_195 X k82 k163 a0 a1 a2 a3 a4 a5 s0 s1 s2 w = some q → EV X mX13_writeAll 195 [(0, .ref a0), (1, .int a1), (2, .int a2), (3, .int a3), (4, .int a4), (5, .int a5)] [.int s0, .int s1, .ref s2] w none q := by
  intro a0 a1 a2 a3 a4 a5 s0 s1 s2 w q h
  unfold fX13_writeAll_195 at h
  obtain ⟨w46, gw46, h⟩ := px_bs h
  refine ev_sI dX13_writeAll_195 gw46 ?_
  refine EV.iinc 5 (a5 + 1) [(5, .int (a5 + 1)), (0, .ref a0), (1, .int a1), (2, .int a2), (3, .int a3), (4, .int a4)] dX13_writeAll_196 rfl rfl (by decide) rfl ?_
  refine EV.goto 163 dX13_writeAll_199 (by decide) ?_
  refine EV.sub [1, 2, 3, 4, 5, 0] rfl ?_
  exact hk163 _ _ _ _ _ _ _ _ h
set_option maxRecDepth 100000 in
set_option maxHeartbeats 4000000 in
theorem eX13_writeAll_184 {X : px_X} {k82 : Nat → Int32 → Int32 → Int32 → px_W → Option (px_W)} (hk82 : ∀ (a0 : Nat) (a1 : Int32) (a2 : Int32) (a3 : Int32) (w : px_W) (q : px_W), k82 a0 a1 a2 a3 w = some q → EV X mX13_writeAll 82 [(0, .ref a0), (1, .int a1), (2, .int a2), (3, .int a3)] [] w none q) {k163 : Nat → Int32 → Int32 → Int32 → Int32 → Int32 → px_W → Option (px_W)} (hk163 : ∀ (a0 : Nat) (a1 : Int32) (a2 : Int32) (a3 : Int32) (a4 : Int32) (a5 : Int32) (w : px_W) (q : px_W), k163 a0 a1 a2 a3 a4 a5 w = some q → EV X mX13_writeAll 163 [(0, .ref a0), (1, .int a1), (2, .int a2), (3, .int a3), (4, .int a4), (5, .int a5)] [] w none q) : ∀ (a0 : Nat) (a1 : Int32) (a2 : Int32) (a3 : Int32) (a4 : Int32) (a5 : Int32) (s0 : Int32) (s1 : Nat) (w : px_W) (q : px_W), fX13_writeAll_184 X k82 k163 a0 a1 a2 a3 a4 a5 s0 s1 w = some q → EV X mX13_writeAll 184 [(0, .ref a0), (1, .int a1), (2, .int a2), (3, .int a3), (4, .int a4), (5, .int a5)] [.int s0, .ref s1] w none q := by
  intro a0 a1 a2 a3 a4 a5 s0 s1 w q h
  unfold fX13_writeAll_184 at h
  refine EV.iconst (0) dX13_writeAll_184 (by decide) ?_
  refine EV.goto 195 dX13_writeAll_185 (by decide) ?_
  refine EV.sub [0, 1, 2, 3, 4, 5] rfl ?_
  exact eX13_writeAll_195 hk82 hk163 _ _ _ _ _ _ _ _ _ _ _ h
set_option maxRecDepth 100000 in
set_option maxHeartbeats 4000000 in
theorem eX13_writeAll_249 {X : px_X} {k82 : Nat → Int32 → Int32 → Int32 → px_W → Option (px_W)} (hk82 : ∀ (a0 : Nat) (a1 : Int32) (a2 : Int32) (a3 : Int32) (w : px_W) (q : px_W), k82 a0 a1 a2 a3 w = some q → EV X mX13_writeAll 82 [(0, .ref a0), (1, .int a1), (2, .int a2), (3, .int a3)] [] w none q) {k205 : Nat → Int32 → Int32 → Int32 → Int32 → px_W → Option (px_W)} (hk205 : ∀ (a0 : Nat) (a1 : Int32) (a2 : Int32) (a3 : Int32) (a5 : Int32) (w : px_W) (q : px_W), k205 a0 a1 a2 a3 a5 w = some q → EV X mX13_writeAll 205 [(0, .ref a0), (1, .int a1), (2, .int a2), (3, .int a3), (5, .int a5)] [] w none q) : ∀ (a0 : Nat) (a1 : Int32) (a2 : Int32) (a3 : Int32) (a5 : Int32) (w : px_W) (q : px_W), fX13_writeAll_249 X k82 k205 a0 a1 a2 a3 a5 w = some q → EV X mX13_writeAll 249 [(0, .ref a0), (1, .int a1), (2, .int a2), (3, .int a3), (5, .int a5)] [] w none q := by
  intro a0 a1 a2 a3 a5 w q h
  unfold fX13_writeAll_249 at h
  refine EV.iinc 4 (a5 + 1) [(5, .int (a5 + 1)), (0, .ref a0), (1, .int a1), (2, .int a2), (3, .int a3)] dX13_writeAll_249 rfl rfl (by decide) rfl ?_
  refine EV.goto 205 dX13_writeAll_252 (by decide) ?_
  refine EV.sub [1, 2, 3, 4, 0] rfl ?_
  exact hk205 _ _ _ _ _ _ _ h
set_option maxRecDepth 100000 in
set_option maxHeartbeats 4000000 in
theorem eX13_writeAll_217 {X : px_X} {k82 : Nat → Int32 → Int32 → Int32 → px_W → Option (px_W)} (hk82 : ∀ (a0 : Nat) (a1 : Int32) (a2 : Int32) (a3 : Int32) (w : px_W) (q : px_W), k82 a0 a1 a2 a3 w = some q → EV X mX13_writeAll 82 [(0, .ref a0), (1, .int a1), (2, .int a2), (3, .int a3)] [] w none q) {k205 : Nat → Int32 → Int32 → Int32 → Int32 → px_W → Option (px_W)} (hk205 : ∀ (a0 : Nat) (a1 : Int32) (a2 : Int32) (a3 : Int32) (a5 : Int32) (w : px_W) (q : px_W), k205 a0 a1 a2 a3 a5 w = some q → EV X mX13_writeAll 205 [(0, .ref a0), (1, .int a1), (2, .int a2), (3, .int a3), (5, .int a5)] [] w none q) : ∀ (m : Nat) (a0 : Nat) (a1 : Int32) (a2 : Int32) (a3 : Int32) (a5 : Int32) (a6 : Int32) (w : px_W) (q : px_W), fX13_writeAll_217 X k82 k205 m a0 a1 a2 a3 a5 a6 w = some q → EV X mX13_writeAll 217 [(0, .ref a0), (1, .int a1), (2, .int a2), (3, .int a3), (5, .int a5), (6, .int a6)] [] w none q := by
  intro m
  induction m with
  | zero => intro a0 a1 a2 a3 a5 a6 w q h; cases h
  | succ m ih =>
    intro a0 a1 a2 a3 a5 a6 w q h
    rw [fX13_writeAll_217.eq_2] at h
    refine EV.iload 5 dX13_writeAll_217 rfl ?_
    refine EV.aload_n 0 dX13_writeAll_219 rfl rfl ?_
    refine EV.iload 4 dX13_writeAll_220 rfl ?_
    obtain ⟨o47, go47, h⟩ := px_bs h
    obtain ⟨q48, gq48, h⟩ := px_bs h
    refine EV.callV (As := [.int a5]) (rest := [.int a6]) dX13_writeAll_222 kcX13_writeAll_221 (gO_ok go47) rfl rfl rfl (Nat.le_of_ble_eq_true rfl) (Nat.le_of_ble_eq_true rfl) (eX13_blocksIn gq48) ?_
    refine EV.icmp_ge 249 dX13_writeAll_225 (by decide) (fun c49 => ?_) (fun c49 => ?_)
    · rw [if_pos c49] at h
      refine EV.sub [0, 1, 2, 3, 4] rfl ?_
      exact eX13_writeAll_249 hk82 hk205 _ _ _ _ _ _ _ h
    · rw [if_neg c49] at h
      refine EV.aload_n 0 dX13_writeAll_228 rfl rfl ?_
      refine EV.iload 4 dX13_writeAll_229 rfl ?_
      refine EV.aload_n 0 dX13_writeAll_231 rfl rfl ?_
      refine EV.iload 4 dX13_writeAll_232 rfl ?_
      refine EV.iload_n 3 dX13_writeAll_234 rfl rfl ?_
      refine EV.iload 5 dX13_writeAll_235 rfl ?_
      obtain ⟨o50, go50, h⟩ := px_bs h
      obtain ⟨q51, gq51, h⟩ := px_bs h
      refine EV.callV (As := [.int a5, .int a3, .int a6]) (rest := [.int a5, .ref a0]) dX13_writeAll_237 kcX13_writeAll_224 (gO_ok go50) rfl rfl rfl (Nat.le_of_ble_eq_true rfl) (Nat.le_of_ble_eq_true rfl) (eX13_blockOf gq51) ?_
      obtain ⟨o52, go52, h⟩ := px_bs h
      obtain ⟨q53, gq53, h⟩ := px_bs h
      refine EV.callV (As := [.int a5, .int q51.1]) (rest := []) dX13_writeAll_240 kcX13_writeAll_227 (gO_ok go52) rfl rfl rfl (Nat.le_of_ble_eq_true rfl) (Nat.le_of_ble_eq_true rfl) (eX13_writeBlock gq53) ?_
      refine EV.iinc 5 (a6 + 1) [(6, .int (a6 + 1)), (0, .ref a0), (1, .int a1), (2, .int a2), (3, .int a3), (5, .int a5)] dX13_writeAll_243 rfl rfl (by decide) rfl ?_
      refine EV.goto 217 dX13_writeAll_246 (by decide) ?_
      refine EV.sub [1, 2, 3, 4, 5, 0] rfl ?_
      exact ih _ _ _ _ _ _ _ _ h
set_option maxRecDepth 100000 in
set_option maxHeartbeats 4000000 in
theorem eX13_writeAll_255 {X : px_X} {k82 : Nat → Int32 → Int32 → Int32 → px_W → Option (px_W)} (hk82 : ∀ (a0 : Nat) (a1 : Int32) (a2 : Int32) (a3 : Int32) (w : px_W) (q : px_W), k82 a0 a1 a2 a3 w = some q → EV X mX13_writeAll 82 [(0, .ref a0), (1, .int a1), (2, .int a2), (3, .int a3)] [] w none q) : ∀ (a0 : Nat) (a1 : Int32) (a2 : Int32) (a3 : Int32) (w : px_W) (q : px_W), fX13_writeAll_255 X k82 a0 a1 a2 a3 w = some q → EV X mX13_writeAll 255 [(0, .ref a0), (1, .int a1), (2, .int a2), (3, .int a3)] [] w none q := by
  intro a0 a1 a2 a3 w q h
  unfold fX13_writeAll_255 at h
  refine EV.iinc 3 (a3 + 1) [(3, .int (a3 + 1)), (0, .ref a0), (1, .int a1), (2, .int a2)] dX13_writeAll_255 rfl rfl (by decide) rfl ?_
  refine EV.goto 82 dX13_writeAll_258 (by decide) ?_
  refine EV.sub [1, 2, 3, 0] rfl ?_
  exact hk82 _ _ _ _ _ _ h
set_option maxRecDepth 100000 in
set_option maxHeartbeats 4000000 in
theorem eX13_writeAll_205 {X : px_X} {k82 : Nat → Int32 → Int32 → Int32 → px_W → Option (px_W)} (hk82 : ∀ (a0 : Nat) (a1 : Int32) (a2 : Int32) (a3 : Int32) (w : px_W) (q : px_W), k82 a0 a1 a2 a3 w = some q → EV X mX13_writeAll 82 [(0, .ref a0), (1, .int a1), (2, .int a2), (3, .int a3)] [] w none q) : ∀ (m : Nat) (a0 : Nat) (a1 : Int32) (a2 : Int32) (a3 : Int32) (a5 : Int32) (w : px_W) (q : px_W), fX13_writeAll_205 X k82 m a0 a1 a2 a3 a5 w = some q → EV X mX13_writeAll 205 [(0, .ref a0), (1, .int a1), (2, .int a2), (3, .int a3), (5, .int a5)] [] w none q := by
  intro m
  induction m with
  | zero => intro a0 a1 a2 a3 a5 w q h; cases h
  | succ m ih =>
    intro a0 a1 a2 a3 a5 w q h
    rw [fX13_writeAll_205.eq_2] at h
    refine EV.iload 4 dX13_writeAll_205 rfl ?_
    refine EV.aload_n 0 dX13_writeAll_207 rfl rfl ?_
    obtain ⟨v54, gv54, h⟩ := px_bs h
    refine ev_gI dX13_writeAll_208 flRX13_94 gv54 ?_
    refine EV.icmp_ge 255 dX13_writeAll_211 (by decide) (fun c55 => ?_) (fun c55 => ?_)
    · rw [if_pos c55] at h
      refine EV.sub [0, 1, 2, 3] rfl ?_
      exact eX13_writeAll_255 hk82 _ _ _ _ _ _ h
    · rw [if_neg c55] at h
      refine EV.iconst (0) dX13_writeAll_214 (by decide) ?_
      refine EV.istore [(6, .int 0), (0, .ref a0), (1, .int a1), (2, .int a2), (3, .int a3), (5, .int a5)] dX13_writeAll_215 (by decide) rfl ?_
      refine EV.sub [1, 2, 3, 4, 5, 0] rfl ?_
      exact eX13_writeAll_217 hk82 ih FU _ _ _ _ _ _ _ _ h
set_option maxRecDepth 100000 in
set_option maxHeartbeats 4000000 in
theorem eX13_writeAll_202 {X : px_X} {k82 : Nat → Int32 → Int32 → Int32 → px_W → Option (px_W)} (hk82 : ∀ (a0 : Nat) (a1 : Int32) (a2 : Int32) (a3 : Int32) (w : px_W) (q : px_W), k82 a0 a1 a2 a3 w = some q → EV X mX13_writeAll 82 [(0, .ref a0), (1, .int a1), (2, .int a2), (3, .int a3)] [] w none q) : ∀ (a0 : Nat) (a1 : Int32) (a2 : Int32) (a3 : Int32) (w : px_W) (q : px_W), fX13_writeAll_202 X k82 a0 a1 a2 a3 w = some q → EV X mX13_writeAll 202 [(0, .ref a0), (1, .int a1), (2, .int a2), (3, .int a3)] [] w none q := by
  intro a0 a1 a2 a3 w q h
  unfold fX13_writeAll_202 at h
  refine EV.iconst (0) dX13_writeAll_202 (by decide) ?_
  refine EV.istore [(5, .int 0), (0, .ref a0), (1, .int a1), (2, .int a2), (3, .int a3)] dX13_writeAll_203 (by decide) rfl ?_
  refine EV.sub [1, 2, 3, 4, 0] rfl ?_
  exact eX13_writeAll_205 hk82 FU _ _ _ _ _ _ _ h
set_option maxRecDepth 100000 in
set_option maxHeartbeats 4000000 in
theorem eX13_writeAll_163 {X : px_X} {k82 : Nat → Int32 → Int32 → Int32 → px_W → Option (px_W)} (hk82 : ∀ (a0 : Nat) (a1 : Int32) (a2 : Int32) (a3 : Int32) (w : px_W) (q : px_W), k82 a0 a1 a2 a3 w = some q → EV X mX13_writeAll 82 [(0, .ref a0), (1, .int a1), (2, .int a2), (3, .int a3)] [] w none q) : ∀ (m : Nat) (a0 : Nat) (a1 : Int32) (a2 : Int32) (a3 : Int32) (a4 : Int32) (a5 : Int32) (w : px_W) (q : px_W), fX13_writeAll_163 X k82 m a0 a1 a2 a3 a4 a5 w = some q → EV X mX13_writeAll 163 [(0, .ref a0), (1, .int a1), (2, .int a2), (3, .int a3), (4, .int a4), (5, .int a5)] [] w none q := by
  intro m
  induction m with
  | zero => intro a0 a1 a2 a3 a4 a5 w q h; cases h
  | succ m ih =>
    intro a0 a1 a2 a3 a4 a5 w q h
    rw [fX13_writeAll_163.eq_2] at h
    refine EV.iload 5 dX13_writeAll_163 rfl ?_
    refine EV.iconst (4) dX13_writeAll_165 (by decide) ?_
    refine EV.icmp_ge 202 dX13_writeAll_166 (by decide) (fun c56 => ?_) (fun c56 => ?_)
    · rw [if_pos c56] at h
      refine EV.sub [0, 1, 2, 3] rfl ?_
      exact eX13_writeAll_202 hk82 _ _ _ _ _ _ h
    · rw [if_neg c56] at h
      refine EV.aload_n 0 dX13_writeAll_169 rfl rfl ?_
      obtain ⟨v57, gv57, h⟩ := px_bs h
      refine ev_gR dX13_writeAll_170 flRX13_71 gv57 ?_
      refine EV.iload 5 dX13_writeAll_173 rfl ?_
      refine EV.iload_n 3 dX13_writeAll_175 rfl rfl ?_
      refine EV.if_eq 184 dX13_writeAll_176 (by decide) (fun c58 => ?_) (fun c58 => ?_)
      · rw [if_pos c58] at h
        refine EV.sub [0, 1, 2, 3, 4, 5] rfl ?_
        exact eX13_writeAll_184 hk82 ih _ _ _ _ _ _ _ _ _ _ h
      · rw [if_neg c58] at h
        refine EV.iload 4 dX13_writeAll_179 rfl ?_
        refine EV.if_eq 188 dX13_writeAll_181 (by decide) (fun c59 => ?_) (fun c59 => ?_)
        · rw [if_pos c59] at h
          refine EV.aload_n 0 dX13_writeAll_188 rfl rfl ?_
          obtain ⟨v60, gv60, h⟩ := px_bs h
          refine ev_gR dX13_writeAll_189 flRX13_71 gv60 ?_
          refine EV.iload 5 dX13_writeAll_192 rfl ?_
          obtain ⟨v61, gv61, h⟩ := px_bs h
          refine ev_aI dX13_writeAll_194 gv61 ?_
          refine EV.sub [0, 1, 2, 3, 4, 5] rfl ?_
          exact eX13_writeAll_195 hk82 ih _ _ _ _ _ _ _ _ _ _ _ h
        · rw [if_neg c59] at h
          refine EV.sub [0, 1, 2, 3, 4, 5] rfl ?_
          exact eX13_writeAll_184 hk82 ih _ _ _ _ _ _ _ _ _ _ h
set_option maxRecDepth 100000 in
set_option maxHeartbeats 4000000 in
theorem eX13_writeAll_160 {X : px_X} {k82 : Nat → Int32 → Int32 → Int32 → px_W → Option (px_W)} (hk82 : ∀ (a0 : Nat) (a1 : Int32) (a2 : Int32) (a3 : Int32) (w : px_W) (q : px_W), k82 a0 a1 a2 a3 w = some q → EV X mX13_writeAll 82 [(0, .ref a0), (1, .int a1), (2, .int a2), (3, .int a3)] [] w none q) : ∀ (a0 : Nat) (a1 : Int32) (a2 : Int32) (a3 : Int32) (a4 : Int32) (w : px_W) (q : px_W), fX13_writeAll_160 X k82 a0 a1 a2 a3 a4 w = some q → EV X mX13_writeAll 160 [(0, .ref a0), (1, .int a1), (2, .int a2), (3, .int a3), (4, .int a4)] [] w none q := by
  intro a0 a1 a2 a3 a4 w q h
  unfold fX13_writeAll_160 at h
  refine EV.iconst (0) dX13_writeAll_160 (by decide) ?_
  refine EV.istore [(5, .int 0), (0, .ref a0), (1, .int a1), (2, .int a2), (3, .int a3), (4, .int a4)] dX13_writeAll_161 (by decide) rfl ?_
  refine EV.sub [1, 2, 3, 4, 5, 0] rfl ?_
  exact eX13_writeAll_163 hk82 FU _ _ _ _ _ _ _ _ h
set_option maxRecDepth 100000 in
set_option maxHeartbeats 4000000 in
theorem eX13_writeAll_157 {X : px_X} {k82 : Nat → Int32 → Int32 → Int32 → px_W → Option (px_W)} (hk82 : ∀ (a0 : Nat) (a1 : Int32) (a2 : Int32) (a3 : Int32) (w : px_W) (q : px_W), k82 a0 a1 a2 a3 w = some q → EV X mX13_writeAll 82 [(0, .ref a0), (1, .int a1), (2, .int a2), (3, .int a3)] [] w none q) : ∀ (a0 : Nat) (a1 : Int32) (a2 : Int32) (a3 : Int32) (a4 : Int32) (w : px_W) (q : px_W), fX13_writeAll_157 X k82 a0 a1 a2 a3 a4 w = some q → EV X mX13_writeAll 157 [(0, .ref a0), (1, .int a1), (2, .int a2), (3, .int a3), (4, .int a4)] [] w none q := by
  intro a0 a1 a2 a3 a4 w q h
  unfold fX13_writeAll_157 at h
  refine EV.iinc 2 (a2 + 1) [(2, .int (a2 + 1)), (0, .ref a0), (1, .int a1), (3, .int a3), (4, .int a4)] dX13_writeAll_157 rfl rfl (by decide) rfl ?_
  refine EV.sub [1, 2, 0, 3, 4] rfl ?_
  exact eX13_writeAll_160 hk82 _ _ _ _ _ _ _ h
set_option maxRecDepth 100000 in
set_option maxHeartbeats 4000000 in
theorem eX13_writeAll_115 {X : px_X} {k82 : Nat → Int32 → Int32 → Int32 → px_W → Option (px_W)} (hk82 : ∀ (a0 : Nat) (a1 : Int32) (a2 : Int32) (a3 : Int32) (w : px_W) (q : px_W), k82 a0 a1 a2 a3 w = some q → EV X mX13_writeAll 82 [(0, .ref a0), (1, .int a1), (2, .int a2), (3, .int a3)] [] w none q) : ∀ (a0 : Nat) (a1 : Int32) (a2 : Int32) (a3 : Int32) (s0 : Int32) (w : px_W) (q : px_W), fX13_writeAll_115 X k82 a0 a1 a2 a3 s0 w = some q → EV X mX13_writeAll 115 [(0, .ref a0), (1, .int a1), (2, .int a2), (3, .int a3)] [.int s0] w none q := by
  intro a0 a1 a2 a3 s0 w q h
  unfold fX13_writeAll_115 at h
  refine EV.istore [(4, .int s0), (0, .ref a0), (1, .int a1), (2, .int a2), (3, .int a3)] dX13_writeAll_115 (by decide) rfl ?_
  refine EV.iload 0 dX13_writeAll_117 rfl ?_
  refine EV.if_eq 160 dX13_writeAll_119 (by decide) (fun c62 => ?_) (fun c62 => ?_)
  · rw [if_pos c62] at h
    refine EV.sub [1, 2, 3, 4, 0] rfl ?_
    exact eX13_writeAll_160 hk82 _ _ _ _ _ _ _ h
  · rw [if_neg c62] at h
    refine EV.aload_n 1 dX13_writeAll_122 rfl rfl ?_
    refine EV.iload_n 2 dX13_writeAll_123 rfl rfl ?_
    obtain ⟨o63, go63, h⟩ := px_bs h
    obtain ⟨q64, gq64, h⟩ := px_bs h
    refine EV.callV (As := [.int a1]) (rest := []) dX13_writeAll_124 kcX13_writeAll_195 (gO_ok go63) rfl rfl rfl (Nat.le_of_ble_eq_true rfl) (Nat.le_of_ble_eq_true rfl) (eX13_sendRun gq64) ?_
    refine EV.aload_n 1 dX13_writeAll_127 rfl rfl ?_
    obtain ⟨v65, gv65, h⟩ := px_bs h
    refine ev_gI dX13_writeAll_128 flRX13_147 gv65 ?_
    refine EV.if_ne 157 dX13_writeAll_131 (by decide) (fun c66 => ?_) (fun c66 => ?_)
    · rw [if_neg c66] at h
      refine EV.sub [1, 2, 3, 4, 0] rfl ?_
      exact eX13_writeAll_157 hk82 _ _ _ _ _ _ _ h
    · rw [if_pos c66] at h
      refine EV.aload_n 1 dX13_writeAll_134 rfl rfl ?_
      obtain ⟨o67, go67, h⟩ := px_bs h
      obtain ⟨q68, gq68, h⟩ := px_bs h
      refine EV.callV (As := []) (rest := []) dX13_writeAll_135 kcX13_writeAll_218 (gO_ok go67) rfl rfl rfl (Nat.le_of_ble_eq_true rfl) (Nat.le_of_ble_eq_true rfl) (eX13_align gq68) ?_
      refine EV.aload_n 1 dX13_writeAll_138 rfl rfl ?_
      refine EV.sipush (255) dX13_writeAll_139 (by decide) ?_
      obtain ⟨o69, go69, h⟩ := px_bs h
      obtain ⟨q70, gq70, h⟩ := px_bs h
      refine EV.callV (As := [.int 255]) (rest := []) dX13_writeAll_142 kcX13_writeAll_157 (gO_ok go69) rfl rfl rfl (Nat.le_of_ble_eq_true rfl) (Nat.le_of_ble_eq_true rfl) (eX13_raw gq70) ?_
      refine EV.aload_n 1 dX13_writeAll_145 rfl rfl ?_
      refine EV.sipush (208) dX13_writeAll_146 (by decide) ?_
      refine EV.iload_n 3 dX13_writeAll_149 rfl rfl ?_
      refine EV.bipush (8) dX13_writeAll_150 (by decide) ?_
      obtain ⟨v71, gv71, h⟩ := px_bs h
      refine ev_rI dX13_writeAll_152 gv71 ?_
      refine EV.iadd dX13_writeAll_153 ?_
      obtain ⟨o72, go72, h⟩ := px_bs h
      obtain ⟨q73, gq73, h⟩ := px_bs h
      refine EV.callV (As := [.int (208 + v71)]) (rest := []) dX13_writeAll_154 kcX13_writeAll_157 (gO_ok go72) rfl rfl rfl (Nat.le_of_ble_eq_true rfl) (Nat.le_of_ble_eq_true rfl) (eX13_raw gq73) ?_
      refine EV.sub [1, 2, 3, 4, 0] rfl ?_
      exact eX13_writeAll_157 hk82 _ _ _ _ _ _ _ h
set_option maxRecDepth 100000 in
set_option maxHeartbeats 4000000 in
theorem eX13_writeAll_114 {X : px_X} {k82 : Nat → Int32 → Int32 → Int32 → px_W → Option (px_W)} (hk82 : ∀ (a0 : Nat) (a1 : Int32) (a2 : Int32) (a3 : Int32) (w : px_W) (q : px_W), k82 a0 a1 a2 a3 w = some q → EV X mX13_writeAll 82 [(0, .ref a0), (1, .int a1), (2, .int a2), (3, .int a3)] [] w none q) : ∀ (a0 : Nat) (a1 : Int32) (a2 : Int32) (a3 : Int32) (w : px_W) (q : px_W), fX13_writeAll_114 X k82 a0 a1 a2 a3 w = some q → EV X mX13_writeAll 114 [(0, .ref a0), (1, .int a1), (2, .int a2), (3, .int a3)] [] w none q := by
  intro a0 a1 a2 a3 w q h
  unfold fX13_writeAll_114 at h
  refine EV.iconst (0) dX13_writeAll_114 (by decide) ?_
  refine EV.sub [0, 1, 2, 3] rfl ?_
  exact eX13_writeAll_115 hk82 _ _ _ _ _ _ _ h
set_option maxRecDepth 100000 in
set_option maxHeartbeats 4000000 in
theorem eX13_writeAll_261 {X : px_X}  : ∀ (a0 : Nat) (a1 : Int32) (w : px_W) (q : px_W), fX13_writeAll_261 X  a0 a1 w = some q → EV X mX13_writeAll 261 [(0, .ref a0), (1, .int a1)] [] w none q := by
  intro a0 a1 w q h
  unfold fX13_writeAll_261 at h
  refine EV.aload_n 0 dX13_writeAll_261 rfl rfl ?_
  refine EV.iload_n 1 dX13_writeAll_262 rfl rfl ?_
  obtain ⟨o74, go74, h⟩ := px_bs h
  obtain ⟨q75, gq75, h⟩ := px_bs h
  refine EV.callV (As := [.int a1]) (rest := []) dX13_writeAll_263 kcX13_writeAll_195 (gO_ok go74) rfl rfl rfl (Nat.le_of_ble_eq_true rfl) (Nat.le_of_ble_eq_true rfl) (eX13_sendRun gq75) ?_
  refine EV.aload_n 0 dX13_writeAll_266 rfl rfl ?_
  obtain ⟨o76, go76, h⟩ := px_bs h
  obtain ⟨q77, gq77, h⟩ := px_bs h
  refine EV.callV (As := []) (rest := []) dX13_writeAll_267 kcX13_writeAll_218 (gO_ok go76) rfl rfl rfl (Nat.le_of_ble_eq_true rfl) (Nat.le_of_ble_eq_true rfl) (eX13_align gq77) ?_
  cases h
  exact EV.ret0 dX13_writeAll_270 trivial
set_option maxRecDepth 100000 in
set_option maxHeartbeats 4000000 in
theorem eX13_writeAll_82 {X : px_X}  : ∀ (m : Nat) (a0 : Nat) (a1 : Int32) (a2 : Int32) (a3 : Int32) (w : px_W) (q : px_W), fX13_writeAll_82 X  m a0 a1 a2 a3 w = some q → EV X mX13_writeAll 82 [(0, .ref a0), (1, .int a1), (2, .int a2), (3, .int a3)] [] w none q := by
  intro m
  induction m with
  | zero => intro a0 a1 a2 a3 w q h; cases h
  | succ m ih =>
    intro a0 a1 a2 a3 w q h
    rw [fX13_writeAll_82.eq_2] at h
    refine EV.iload_n 3 dX13_writeAll_82 rfl rfl ?_
    refine EV.aload_n 0 dX13_writeAll_83 rfl rfl ?_
    obtain ⟨o78, go78, h⟩ := px_bs h
    obtain ⟨q79, gq79, h⟩ := px_bs h
    refine EV.callV (As := []) (rest := [.int a3]) dX13_writeAll_84 kcX13_writeAll_215 (gO_ok go78) rfl rfl rfl (Nat.le_of_ble_eq_true rfl) (Nat.le_of_ble_eq_true rfl) (eX13_units gq79) ?_
    refine EV.icmp_ge 261 dX13_writeAll_87 (by decide) (fun c80 => ?_) (fun c80 => ?_)
    · rw [if_pos c80] at h
      refine EV.sub [0, 1] rfl ?_
      exact eX13_writeAll_261  _ _ _ _ h
    · rw [if_neg c80] at h
      refine EV.aload_n 0 dX13_writeAll_90 rfl rfl ?_
      obtain ⟨v81, gv81, h⟩ := px_bs h
      refine ev_gI dX13_writeAll_91 flRX13_118 gv81 ?_
      refine EV.if_le 114 dX13_writeAll_94 (by decide) (fun c82 => ?_) (fun c82 => ?_)
      · rw [if_pos c82] at h
        refine EV.sub [0, 1, 2, 3] rfl ?_
        exact eX13_writeAll_114 ih _ _ _ _ _ _ h
      · rw [if_neg c82] at h
        refine EV.iload_n 3 dX13_writeAll_97 rfl rfl ?_
        refine EV.if_le 114 dX13_writeAll_98 (by decide) (fun c83 => ?_) (fun c83 => ?_)
        · rw [if_pos c83] at h
          refine EV.sub [0, 1, 2, 3] rfl ?_
          exact eX13_writeAll_114 ih _ _ _ _ _ _ h
        · rw [if_neg c83] at h
          refine EV.iload_n 3 dX13_writeAll_101 rfl rfl ?_
          refine EV.aload_n 0 dX13_writeAll_102 rfl rfl ?_
          obtain ⟨v84, gv84, h⟩ := px_bs h
          refine ev_gI dX13_writeAll_103 flRX13_118 gv84 ?_
          obtain ⟨v85, gv85, h⟩ := px_bs h
          refine ev_rI dX13_writeAll_106 gv85 ?_
          refine EV.if_ne 114 dX13_writeAll_107 (by decide) (fun c86 => ?_) (fun c86 => ?_)
          · rw [if_neg c86] at h
            refine EV.sub [0, 1, 2, 3] rfl ?_
            exact eX13_writeAll_114 ih _ _ _ _ _ _ h
          · rw [if_pos c86] at h
            refine EV.iconst (1) dX13_writeAll_110 (by decide) ?_
            refine EV.goto 115 dX13_writeAll_111 (by decide) ?_
            refine EV.sub [0, 1, 2, 3] rfl ?_
            exact eX13_writeAll_115 ih _ _ _ _ _ _ _ h
set_option maxRecDepth 100000 in
set_option maxHeartbeats 4000000 in
theorem eX13_writeAll_68 {X : px_X}  : ∀ (a0 : Nat) (w : px_W) (q : px_W), fX13_writeAll_68 X  a0 w = some q → EV X mX13_writeAll 68 [(0, .ref a0)] [] w none q := by
  intro a0 w q h
  unfold fX13_writeAll_68 at h
  refine EV.aload_n 0 dX13_writeAll_68 rfl rfl ?_
  obtain ⟨v87, gv87, h⟩ := px_bs h
  refine ev_gR dX13_writeAll_69 flRX13_58 gv87 ?_
  refine EV.aload_n 0 dX13_writeAll_72 rfl rfl ?_
  obtain ⟨o88, go88, h⟩ := px_bs h
  obtain ⟨q89, gq89, h⟩ := px_bs h
  refine EV.callV (As := []) (rest := [.ref v87]) dX13_writeAll_73 kcX13_writeAll_143 (gO_ok go88) rfl rfl rfl (Nat.le_of_ble_eq_true rfl) (Nat.le_of_ble_eq_true rfl) (eX13_single gq89) ?_
  obtain ⟨v90, gv90, h⟩ := px_bs h
  refine ev_aI dX13_writeAll_76 gv90 ?_
  refine EV.istore_n [(1, .int v90), (0, .ref a0)] dX13_writeAll_77 rfl (by decide) rfl ?_
  refine EV.iconst (0) dX13_writeAll_78 (by decide) ?_
  refine EV.istore_n [(2, .int 0), (1, .int v90), (0, .ref a0)] dX13_writeAll_79 rfl (by decide) rfl ?_
  refine EV.iconst (0) dX13_writeAll_80 (by decide) ?_
  refine EV.istore_n [(3, .int 0), (2, .int 0), (1, .int v90), (0, .ref a0)] dX13_writeAll_81 rfl (by decide) rfl ?_
  refine EV.sub [3, 2, 1, 0] rfl ?_
  exact eX13_writeAll_82  FU _ _ _ _ _ _ h
set_option maxRecDepth 100000 in
set_option maxHeartbeats 4000000 in
theorem eX13_writeAll_61 {X : px_X} {k32 : Nat → Int32 → px_W → Option (px_W)} (hk32 : ∀ (a0 : Nat) (a1 : Int32) (w : px_W) (q : px_W), k32 a0 a1 w = some q → EV X mX13_writeAll 32 [(0, .ref a0), (1, .int a1)] [] w none q) : ∀ (a0 : Nat) (a1 : Int32) (s0 : Int32) (s1 : Int32) (s2 : Nat) (w : px_W) (q : px_W), fX13_writeAll_61 X k32 a0 a1 s0 s1 s2 w = some q → EV X mX13_writeAll 61 [(0, .ref a0), (1, .int a1)] [.int s0, .int s1, .ref s2] w none q := by
  intro a0 a1 s0 s1 s2 w q h
  unfold fX13_writeAll_61 at h
  obtain ⟨w91, gw91, h⟩ := px_bs h
  refine ev_sI dX13_writeAll_61 gw91 ?_
  refine EV.iinc 1 (a1 + 1) [(1, .int (a1 + 1)), (0, .ref a0)] dX13_writeAll_62 rfl rfl (by decide) rfl ?_
  refine EV.goto 32 dX13_writeAll_65 (by decide) ?_
  refine EV.sub [1, 0] rfl ?_
  exact hk32 _ _ _ _ h
set_option maxRecDepth 100000 in
set_option maxHeartbeats 4000000 in
theorem eX13_writeAll_32 {X : px_X}  : ∀ (m : Nat) (a0 : Nat) (a1 : Int32) (w : px_W) (q : px_W), fX13_writeAll_32 X  m a0 a1 w = some q → EV X mX13_writeAll 32 [(0, .ref a0), (1, .int a1)] [] w none q := by
  intro m
  induction m with
  | zero => intro a0 a1 w q h; cases h
  | succ m ih =>
    intro a0 a1 w q h
    rw [fX13_writeAll_32.eq_2] at h
    refine EV.iload_n 1 dX13_writeAll_32 rfl rfl ?_
    refine EV.sipush (2048) dX13_writeAll_33 (by decide) ?_
    refine EV.icmp_ge 68 dX13_writeAll_36 (by decide) (fun c92 => ?_) (fun c92 => ?_)
    · rw [if_pos c92] at h
      refine EV.sub [0] rfl ?_
      exact eX13_writeAll_68  _ _ _ h
    · rw [if_neg c92] at h
      refine EV.aload_n 0 dX13_writeAll_39 rfl rfl ?_
      obtain ⟨v93, gv93, h⟩ := px_bs h
      refine ev_gR dX13_writeAll_40 flRX13_68 gv93 ?_
      refine EV.iload_n 1 dX13_writeAll_43 rfl rfl ?_
      refine EV.aload_n 0 dX13_writeAll_44 rfl rfl ?_
      obtain ⟨v94, gv94, h⟩ := px_bs h
      refine ev_gI dX13_writeAll_45 flRX13_147 gv94 ?_
      refine EV.if_eq 55 dX13_writeAll_48 (by decide) (fun c95 => ?_) (fun c95 => ?_)
      · rw [if_pos c95] at h
        refine EV.aload_n 0 dX13_writeAll_55 rfl rfl ?_
        obtain ⟨v96, gv96, h⟩ := px_bs h
        refine ev_gR dX13_writeAll_56 flRX13_68 gv96 ?_
        refine EV.iload_n 1 dX13_writeAll_59 rfl rfl ?_
        obtain ⟨v97, gv97, h⟩ := px_bs h
        refine ev_aI dX13_writeAll_60 gv97 ?_
        refine EV.sub [0, 1] rfl ?_
        exact eX13_writeAll_61 ih _ _ _ _ _ _ _ h
      · rw [if_neg c95] at h
        refine EV.iconst (0) dX13_writeAll_51 (by decide) ?_
        refine EV.goto 61 dX13_writeAll_52 (by decide) ?_
        refine EV.sub [0, 1] rfl ?_
        exact eX13_writeAll_61 ih _ _ _ _ _ _ _ h
set_option maxRecDepth 100000 in
set_option maxHeartbeats 4000000 in
theorem eX13_writeAll {X : px_X} {w : px_W} {a0 : Nat} {q : px_W} (h : fX13_writeAll X w a0 = some q) : EV X mX13_writeAll 0 (lv_args 0 [.ref a0]) [] w none q := by
  unfold fX13_writeAll at h
  show EV X mX13_writeAll 0 [(0, .ref a0)] [] w none q
  refine EV.aload_n 0 dX13_writeAll_0 rfl rfl ?_
  refine EV.iconst (0) dX13_writeAll_1 (by decide) ?_
  obtain ⟨w98, gw98, h⟩ := px_bs h
  refine ev_pV dX13_writeAll_2 flRX13_161 rfl rfl rfl rfl gw98 ?_
  refine EV.aload_n 0 dX13_writeAll_5 rfl rfl ?_
  refine EV.iconst (0) dX13_writeAll_6 (by decide) ?_
  obtain ⟨w99, gw99, h⟩ := px_bs h
  refine ev_pV dX13_writeAll_7 flRX13_151 rfl rfl rfl rfl gw99 ?_
  refine EV.aload_n 0 dX13_writeAll_10 rfl rfl ?_
  refine EV.iconst (0) dX13_writeAll_11 (by decide) ?_
  obtain ⟨w100, gw100, h⟩ := px_bs h
  refine ev_pV dX13_writeAll_12 flRX13_154 rfl rfl rfl rfl gw100 ?_
  refine EV.aload_n 0 dX13_writeAll_15 rfl rfl ?_
  refine EV.iconst (0) dX13_writeAll_16 (by decide) ?_
  obtain ⟨w101, gw101, h⟩ := px_bs h
  refine ev_pZ dX13_writeAll_17 flRX13_164 rfl rfl (by decide +kernel) gw101 ?_
  refine EV.aload_n 0 dX13_writeAll_20 rfl rfl ?_
  refine EV.iconst (0) dX13_writeAll_21 (by decide) ?_
  obtain ⟨w102, gw102, h⟩ := px_bs h
  refine ev_pV dX13_writeAll_22 flRX13_177 rfl rfl rfl rfl gw102 ?_
  refine EV.aload_n 0 dX13_writeAll_25 rfl rfl ?_
  refine EV.iconst (0) dX13_writeAll_26 (by decide) ?_
  obtain ⟨w103, gw103, h⟩ := px_bs h
  refine ev_pV dX13_writeAll_27 flRX13_183 rfl rfl rfl rfl gw103 ?_
  refine EV.iconst (0) dX13_writeAll_30 (by decide) ?_
  refine EV.istore_n [(1, .int 0), (0, .ref a0)] dX13_writeAll_31 rfl (by decide) rfl ?_
  refine EV.sub [1, 0] rfl ?_
  exact eX13_writeAll_32  FU _ _ _ _ h
/-! WavePicturesModel$Scans.write()I -/
theorem dX13_write_0 : decode cX13_write 0 = .ok (.aload_n 0, 1) := by decide +kernel
theorem dX13_write_1 : decode cX13_write 1 = .ok (.iconst 0, 1) := by decide +kernel
theorem dX13_write_2 : decode cX13_write 2 = .ok (.putfield 147, 3) := by decide +kernel
theorem dX13_write_5 : decode cX13_write 5 = .ok (.iconst 0, 1) := by decide +kernel
theorem dX13_write_6 : decode cX13_write 6 = .ok (.istore_n 1, 1) := by decide +kernel
theorem dX13_write_7 : decode cX13_write 7 = .ok (.iload_n 1, 1) := by decide +kernel
theorem dX13_write_8 : decode cX13_write 8 = .ok (.sipush 2048, 3) := by decide +kernel
theorem dX13_write_11 : decode cX13_write 11 = .ok (.if_icmp .ge 21, 3) := by decide +kernel
theorem dX13_write_14 : decode cX13_write 14 = .ok (.aload_n 0, 1) := by decide +kernel
theorem dX13_write_15 : decode cX13_write 15 = .ok (.getfield 80, 3) := by decide +kernel
theorem dX13_write_18 : decode cX13_write 18 = .ok (.iload_n 1, 1) := by decide +kernel
theorem dX13_write_19 : decode cX13_write 19 = .ok (.aload_n 0, 1) := by decide +kernel
theorem dX13_write_20 : decode cX13_write 20 = .ok (.getfield 68, 3) := by decide +kernel
theorem dX13_write_23 : decode cX13_write 23 = .ok (.iload_n 1, 1) := by decide +kernel
theorem dX13_write_24 : decode cX13_write 24 = .ok (.iaload, 1) := by decide +kernel
theorem dX13_write_25 : decode cX13_write 25 = .ok (.iastore, 1) := by decide +kernel
theorem dX13_write_26 : decode cX13_write 26 = .ok (.iinc 1 1, 3) := by decide +kernel
theorem dX13_write_29 : decode cX13_write 29 = .ok (.goto (-22), 3) := by decide +kernel
theorem dX13_write_32 : decode cX13_write 32 = .ok (.aload_n 0, 1) := by decide +kernel
theorem dX13_write_33 : decode cX13_write 33 = .ok (.invokevirtual 230, 3) := by decide +kernel
theorem dX13_write_36 : decode cX13_write 36 = .ok (.iconst 0, 1) := by decide +kernel
theorem dX13_write_37 : decode cX13_write 37 = .ok (.istore_n 1, 1) := by decide +kernel
theorem dX13_write_38 : decode cX13_write 38 = .ok (.iload_n 1, 1) := by decide +kernel
theorem dX13_write_39 : decode cX13_write 39 = .ok (.sipush 2048, 3) := by decide +kernel
theorem dX13_write_42 : decode cX13_write 42 = .ok (.if_icmp .ge 21, 3) := by decide +kernel
theorem dX13_write_45 : decode cX13_write 45 = .ok (.aload_n 0, 1) := by decide +kernel
theorem dX13_write_46 : decode cX13_write 46 = .ok (.getfield 68, 3) := by decide +kernel
theorem dX13_write_49 : decode cX13_write 49 = .ok (.iload_n 1, 1) := by decide +kernel
theorem dX13_write_50 : decode cX13_write 50 = .ok (.aload_n 0, 1) := by decide +kernel
theorem dX13_write_51 : decode cX13_write 51 = .ok (.getfield 80, 3) := by decide +kernel
theorem dX13_write_54 : decode cX13_write 54 = .ok (.iload_n 1, 1) := by decide +kernel
theorem dX13_write_55 : decode cX13_write 55 = .ok (.iaload, 1) := by decide +kernel
theorem dX13_write_56 : decode cX13_write 56 = .ok (.iastore, 1) := by decide +kernel
theorem dX13_write_57 : decode cX13_write 57 = .ok (.iinc 1 1, 3) := by decide +kernel
theorem dX13_write_60 : decode cX13_write 60 = .ok (.goto (-22), 3) := by decide +kernel
theorem dX13_write_63 : decode cX13_write 63 = .ok (.aload_n 0, 1) := by decide +kernel
theorem dX13_write_64 : decode cX13_write 64 = .ok (.getfield 164, 3) := by decide +kernel
theorem dX13_write_67 : decode cX13_write 67 = .ok (.ifCond .eq 5, 3) := by decide +kernel
theorem dX13_write_70 : decode cX13_write 70 = .ok (.iconst (-1), 1) := by decide +kernel
theorem dX13_write_71 : decode cX13_write 71 = .ok (.ireturn, 1) := by decide +kernel
theorem dX13_write_72 : decode cX13_write 72 = .ok (.aload_n 0, 1) := by decide +kernel
theorem dX13_write_73 : decode cX13_write 73 = .ok (.aload_n 0, 1) := by decide +kernel
theorem dX13_write_74 : decode cX13_write 74 = .ok (.getfield 161, 3) := by decide +kernel
theorem dX13_write_77 : decode cX13_write 77 = .ok (.putfield 233, 3) := by decide +kernel
theorem dX13_write_80 : decode cX13_write 80 = .ok (.iconst 0, 1) := by decide +kernel
theorem dX13_write_81 : decode cX13_write 81 = .ok (.istore_n 1, 1) := by decide +kernel
theorem dX13_write_82 : decode cX13_write 82 = .ok (.iload_n 1, 1) := by decide +kernel
theorem dX13_write_83 : decode cX13_write 83 = .ok (.aload_n 0, 1) := by decide +kernel
theorem dX13_write_84 : decode cX13_write 84 = .ok (.getfield 161, 3) := by decide +kernel
theorem dX13_write_87 : decode cX13_write 87 = .ok (.if_icmp .ge 21, 3) := by decide +kernel
theorem dX13_write_90 : decode cX13_write 90 = .ok (.aload_n 0, 1) := by decide +kernel
theorem dX13_write_91 : decode cX13_write 91 = .ok (.getfield 61, 3) := by decide +kernel
theorem dX13_write_94 : decode cX13_write 94 = .ok (.iload_n 1, 1) := by decide +kernel
theorem dX13_write_95 : decode cX13_write 95 = .ok (.aload_n 0, 1) := by decide +kernel
theorem dX13_write_96 : decode cX13_write 96 = .ok (.getfield 65, 3) := by decide +kernel
theorem dX13_write_99 : decode cX13_write 99 = .ok (.iload_n 1, 1) := by decide +kernel
theorem dX13_write_100 : decode cX13_write 100 = .ok (.baload, 1) := by decide +kernel
theorem dX13_write_101 : decode cX13_write 101 = .ok (.bastore, 1) := by decide +kernel
theorem dX13_write_102 : decode cX13_write 102 = .ok (.iinc 1 1, 3) := by decide +kernel
theorem dX13_write_105 : decode cX13_write 105 = .ok (.goto (-23), 3) := by decide +kernel
theorem dX13_write_108 : decode cX13_write 108 = .ok (.aload_n 0, 1) := by decide +kernel
theorem dX13_write_109 : decode cX13_write 109 = .ok (.getfield 233, 3) := by decide +kernel
theorem dX13_write_112 : decode cX13_write 112 = .ok (.ireturn, 1) := by decide +kernel
theorem flRX13_61 : px_f RX13 61 13 28 := ⟨_, rfl, by decide, Or.inl (tb7 (List.mem_of_getElem? (i := 41) rfl))⟩
theorem flRX13_80 : px_f RX13 80 13 47 := ⟨_, rfl, by decide, Or.inl (tb7 (List.mem_of_getElem? (i := 63) rfl))⟩
theorem flRX13_233 : px_f RX13 233 13 29 := ⟨_, rfl, by decide, Or.inl (tb7 (List.mem_of_getElem? (i := 44) rfl))⟩
theorem mbX13_writeAll : px_mB mX13_writeAll 0 := ⟨tb9 (List.mem_of_getElem? (i := 158) rfl), by decide +kernel, tb1 (List.mem_of_getElem? (i := 15) rfl), by decide +kernel, by decide +kernel⟩
theorem vbX13_writeAll : px_vB mX13_writeAll := ⟨tb9 (List.mem_of_getElem? (i := 157) rfl), List.mem_append_left _ (List.mem_of_getElem? (i := 141) (by decide +kernel))⟩
theorem kcX13_write_230 : px_cV mX13_write 230 mX13_writeAll 0 := ⟨⟨mbX13_writeAll, by decide, by decide⟩, Or.inl (tb9 (List.mem_of_getElem? (i := 155) rfl)), vbX13_writeAll⟩
set_option maxRecDepth 100000 in
set_option maxHeartbeats 4000000 in
theorem eX13_write_108 {X : px_X}  : ∀ (a0 : Nat) (w : px_W) (q : Int32 × px_W), fX13_write_108 X  a0 w = some q → EV X mX13_write 108 [(0, .ref a0)] [] w (some (.int q.1)) q.2 := by
  intro a0 w q h
  unfold fX13_write_108 at h
  refine EV.aload_n 0 dX13_write_108 rfl rfl ?_
  obtain ⟨v21, gv21, h⟩ := px_bs h
  refine ev_gI dX13_write_109 flRX13_233 gv21 ?_
  cases h
  exact EV.reti dX13_write_112 rfl
set_option maxRecDepth 100000 in
set_option maxHeartbeats 4000000 in
theorem eX13_write_82 {X : px_X}  : ∀ (m : Nat) (a0 : Nat) (a1 : Int32) (w : px_W) (q : Int32 × px_W), fX13_write_82 X  m a0 a1 w = some q → EV X mX13_write 82 [(0, .ref a0), (1, .int a1)] [] w (some (.int q.1)) q.2 := by
  intro m
  induction m with
  | zero => intro a0 a1 w q h; cases h
  | succ m ih =>
    intro a0 a1 w q h
    rw [fX13_write_82.eq_2] at h
    refine EV.iload_n 1 dX13_write_82 rfl rfl ?_
    refine EV.aload_n 0 dX13_write_83 rfl rfl ?_
    obtain ⟨v22, gv22, h⟩ := px_bs h
    refine ev_gI dX13_write_84 flRX13_161 gv22 ?_
    refine EV.icmp_ge 108 dX13_write_87 (by decide) (fun c23 => ?_) (fun c23 => ?_)
    · rw [if_pos c23] at h
      refine EV.sub [0] rfl ?_
      exact eX13_write_108  _ _ _ h
    · rw [if_neg c23] at h
      refine EV.aload_n 0 dX13_write_90 rfl rfl ?_
      obtain ⟨v24, gv24, h⟩ := px_bs h
      refine ev_gR dX13_write_91 flRX13_61 gv24 ?_
      refine EV.iload_n 1 dX13_write_94 rfl rfl ?_
      refine EV.aload_n 0 dX13_write_95 rfl rfl ?_
      obtain ⟨v25, gv25, h⟩ := px_bs h
      refine ev_gR dX13_write_96 flRX13_65 gv25 ?_
      refine EV.iload_n 1 dX13_write_99 rfl rfl ?_
      obtain ⟨v26, gv26, h⟩ := px_bs h
      refine ev_aB dX13_write_100 gv26 ?_
      obtain ⟨w27, gw27, h⟩ := px_bs h
      refine ev_sB dX13_write_101 gw27 ?_
      refine EV.iinc 1 (a1 + 1) [(1, .int (a1 + 1)), (0, .ref a0)] dX13_write_102 rfl rfl (by decide) rfl ?_
      refine EV.goto 82 dX13_write_105 (by decide) ?_
      refine EV.sub [1, 0] rfl ?_
      exact ih _ _ _ _ h
set_option maxRecDepth 100000 in
set_option maxHeartbeats 4000000 in
theorem eX13_write_63 {X : px_X}  : ∀ (a0 : Nat) (w : px_W) (q : Int32 × px_W), fX13_write_63 X  a0 w = some q → EV X mX13_write 63 [(0, .ref a0)] [] w (some (.int q.1)) q.2 := by
  intro a0 w q h
  unfold fX13_write_63 at h
  refine EV.aload_n 0 dX13_write_63 rfl rfl ?_
  obtain ⟨v28, gv28, h⟩ := px_bs h
  refine ev_gI dX13_write_64 flRX13_164 gv28 ?_
  refine EV.if_eq 72 dX13_write_67 (by decide) (fun c29 => ?_) (fun c29 => ?_)
  · rw [if_pos c29] at h
    refine EV.aload_n 0 dX13_write_72 rfl rfl ?_
    refine EV.aload_n 0 dX13_write_73 rfl rfl ?_
    obtain ⟨v30, gv30, h⟩ := px_bs h
    refine ev_gI dX13_write_74 flRX13_161 gv30 ?_
    obtain ⟨w31, gw31, h⟩ := px_bs h
    refine ev_pV dX13_write_77 flRX13_233 rfl rfl rfl rfl gw31 ?_
    refine EV.iconst (0) dX13_write_80 (by decide) ?_
    refine EV.istore_n [(1, .int 0), (0, .ref a0)] dX13_write_81 rfl (by decide) rfl ?_
    refine EV.sub [1, 0] rfl ?_
    exact eX13_write_82  FU _ _ _ _ h
  · rw [if_neg c29] at h
    refine EV.iconst ((-1)) dX13_write_70 (by decide) ?_
    cases h
    exact EV.reti dX13_write_71 rfl
set_option maxRecDepth 100000 in
set_option maxHeartbeats 4000000 in
theorem eX13_write_38 {X : px_X}  : ∀ (m : Nat) (a0 : Nat) (a1 : Int32) (w : px_W) (q : Int32 × px_W), fX13_write_38 X  m a0 a1 w = some q → EV X mX13_write 38 [(0, .ref a0), (1, .int a1)] [] w (some (.int q.1)) q.2 := by
  intro m
  induction m with
  | zero => intro a0 a1 w q h; cases h
  | succ m ih =>
    intro a0 a1 w q h
    rw [fX13_write_38.eq_2] at h
    refine EV.iload_n 1 dX13_write_38 rfl rfl ?_
    refine EV.sipush (2048) dX13_write_39 (by decide) ?_
    refine EV.icmp_ge 63 dX13_write_42 (by decide) (fun c32 => ?_) (fun c32 => ?_)
    · rw [if_pos c32] at h
      refine EV.sub [0] rfl ?_
      exact eX13_write_63  _ _ _ h
    · rw [if_neg c32] at h
      refine EV.aload_n 0 dX13_write_45 rfl rfl ?_
      obtain ⟨v33, gv33, h⟩ := px_bs h
      refine ev_gR dX13_write_46 flRX13_68 gv33 ?_
      refine EV.iload_n 1 dX13_write_49 rfl rfl ?_
      refine EV.aload_n 0 dX13_write_50 rfl rfl ?_
      obtain ⟨v34, gv34, h⟩ := px_bs h
      refine ev_gR dX13_write_51 flRX13_80 gv34 ?_
      refine EV.iload_n 1 dX13_write_54 rfl rfl ?_
      obtain ⟨v35, gv35, h⟩ := px_bs h
      refine ev_aI dX13_write_55 gv35 ?_
      obtain ⟨w36, gw36, h⟩ := px_bs h
      refine ev_sI dX13_write_56 gw36 ?_
      refine EV.iinc 1 (a1 + 1) [(1, .int (a1 + 1)), (0, .ref a0)] dX13_write_57 rfl rfl (by decide) rfl ?_
      refine EV.goto 38 dX13_write_60 (by decide) ?_
      refine EV.sub [1, 0] rfl ?_
      exact ih _ _ _ _ h
set_option maxRecDepth 100000 in
set_option maxHeartbeats 4000000 in
theorem eX13_write_32 {X : px_X}  : ∀ (a0 : Nat) (w : px_W) (q : Int32 × px_W), fX13_write_32 X  a0 w = some q → EV X mX13_write 32 [(0, .ref a0)] [] w (some (.int q.1)) q.2 := by
  intro a0 w q h
  unfold fX13_write_32 at h
  refine EV.aload_n 0 dX13_write_32 rfl rfl ?_
  obtain ⟨o37, go37, h⟩ := px_bs h
  obtain ⟨q38, gq38, h⟩ := px_bs h
  refine EV.callV (As := []) (rest := []) dX13_write_33 kcX13_write_230 (gO_ok go37) rfl rfl rfl (Nat.le_of_ble_eq_true rfl) (Nat.le_of_ble_eq_true rfl) (eX13_writeAll gq38) ?_
  refine EV.iconst (0) dX13_write_36 (by decide) ?_
  refine EV.istore_n [(1, .int 0), (0, .ref a0)] dX13_write_37 rfl (by decide) rfl ?_
  refine EV.sub [1, 0] rfl ?_
  exact eX13_write_38  FU _ _ _ _ h
set_option maxRecDepth 100000 in
set_option maxHeartbeats 4000000 in
theorem eX13_write_7 {X : px_X}  : ∀ (m : Nat) (a0 : Nat) (a1 : Int32) (w : px_W) (q : Int32 × px_W), fX13_write_7 X  m a0 a1 w = some q → EV X mX13_write 7 [(0, .ref a0), (1, .int a1)] [] w (some (.int q.1)) q.2 := by
  intro m
  induction m with
  | zero => intro a0 a1 w q h; cases h
  | succ m ih =>
    intro a0 a1 w q h
    rw [fX13_write_7.eq_2] at h
    refine EV.iload_n 1 dX13_write_7 rfl rfl ?_
    refine EV.sipush (2048) dX13_write_8 (by decide) ?_
    refine EV.icmp_ge 32 dX13_write_11 (by decide) (fun c39 => ?_) (fun c39 => ?_)
    · rw [if_pos c39] at h
      refine EV.sub [0] rfl ?_
      exact eX13_write_32  _ _ _ h
    · rw [if_neg c39] at h
      refine EV.aload_n 0 dX13_write_14 rfl rfl ?_
      obtain ⟨v40, gv40, h⟩ := px_bs h
      refine ev_gR dX13_write_15 flRX13_80 gv40 ?_
      refine EV.iload_n 1 dX13_write_18 rfl rfl ?_
      refine EV.aload_n 0 dX13_write_19 rfl rfl ?_
      obtain ⟨v41, gv41, h⟩ := px_bs h
      refine ev_gR dX13_write_20 flRX13_68 gv41 ?_
      refine EV.iload_n 1 dX13_write_23 rfl rfl ?_
      obtain ⟨v42, gv42, h⟩ := px_bs h
      refine ev_aI dX13_write_24 gv42 ?_
      obtain ⟨w43, gw43, h⟩ := px_bs h
      refine ev_sI dX13_write_25 gw43 ?_
      refine EV.iinc 1 (a1 + 1) [(1, .int (a1 + 1)), (0, .ref a0)] dX13_write_26 rfl rfl (by decide) rfl ?_
      refine EV.goto 7 dX13_write_29 (by decide) ?_
      refine EV.sub [1, 0] rfl ?_
      exact ih _ _ _ _ h
set_option maxRecDepth 100000 in
set_option maxHeartbeats 4000000 in
theorem eX13_write {X : px_X} {w : px_W} {a0 : Nat} {q : Int32 × px_W} (h : fX13_write X w a0 = some q) : EV X mX13_write 0 (lv_args 0 [.ref a0]) [] w (some (.int q.1)) q.2 := by
  unfold fX13_write at h
  show EV X mX13_write 0 [(0, .ref a0)] [] w (some (.int q.1)) q.2
  refine EV.aload_n 0 dX13_write_0 rfl rfl ?_
  refine EV.iconst (0) dX13_write_1 (by decide) ?_
  obtain ⟨w44, gw44, h⟩ := px_bs h
  refine ev_pZ dX13_write_2 flRX13_147 rfl rfl (by decide +kernel) gw44 ?_
  refine EV.iconst (0) dX13_write_5 (by decide) ?_
  refine EV.istore_n [(1, .int 0), (0, .ref a0)] dX13_write_6 rfl (by decide) rfl ?_
  refine EV.sub [1, 0] rfl ?_
  exact eX13_write_7  FU _ _ _ _ h
/-! WavePicturesModel$Scans.tally()I -/
theorem dX13_tally_0 : decode cX13_tally 0 = .ok (.aload_n 0, 1) := by decide +kernel
theorem dX13_tally_1 : decode cX13_tally 1 = .ok (.iconst 1, 1) := by decide +kernel
theorem dX13_tally_2 : decode cX13_tally 2 = .ok (.putfield 147, 3) := by decide +kernel
theorem dX13_tally_5 : decode cX13_tally 5 = .ok (.aload_n 0, 1) := by decide +kernel
theorem dX13_tally_6 : decode cX13_tally 6 = .ok (.invokevirtual 230, 3) := by decide +kernel
theorem dX13_tally_9 : decode cX13_tally 9 = .ok (.iconst 0, 1) := by decide +kernel
theorem dX13_tally_10 : decode cX13_tally 10 = .ok (.istore_n 1, 1) := by decide +kernel
theorem dX13_tally_11 : decode cX13_tally 11 = .ok (.iconst 0, 1) := by decide +kernel
theorem dX13_tally_12 : decode cX13_tally 12 = .ok (.istore_n 2, 1) := by decide +kernel
theorem dX13_tally_13 : decode cX13_tally 13 = .ok (.iload_n 2, 1) := by decide +kernel
theorem dX13_tally_14 : decode cX13_tally 14 = .ok (.sipush 2048, 3) := by decide +kernel
theorem dX13_tally_17 : decode cX13_tally 17 = .ok (.if_icmp .ge 18, 3) := by decide +kernel
theorem dX13_tally_20 : decode cX13_tally 20 = .ok (.iload_n 1, 1) := by decide +kernel
theorem dX13_tally_21 : decode cX13_tally 21 = .ok (.aload_n 0, 1) := by decide +kernel
theorem dX13_tally_22 : decode cX13_tally 22 = .ok (.getfield 68, 3) := by decide +kernel
theorem dX13_tally_25 : decode cX13_tally 25 = .ok (.iload_n 2, 1) := by decide +kernel
theorem dX13_tally_26 : decode cX13_tally 26 = .ok (.iaload, 1) := by decide +kernel
theorem dX13_tally_27 : decode cX13_tally 27 = .ok (.iadd, 1) := by decide +kernel
theorem dX13_tally_28 : decode cX13_tally 28 = .ok (.istore_n 1, 1) := by decide +kernel
theorem dX13_tally_29 : decode cX13_tally 29 = .ok (.iinc 2 1, 3) := by decide +kernel
theorem dX13_tally_32 : decode cX13_tally 32 = .ok (.goto (-19), 3) := by decide +kernel
theorem dX13_tally_35 : decode cX13_tally 35 = .ok (.iload_n 1, 1) := by decide +kernel
theorem dX13_tally_36 : decode cX13_tally 36 = .ok (.ireturn, 1) := by decide +kernel
theorem kcX13_tally_230 : px_cV mX13_tally 230 mX13_writeAll 0 := ⟨⟨mbX13_writeAll, by decide, by decide⟩, Or.inl (tb9 (List.mem_of_getElem? (i := 155) rfl)), vbX13_writeAll⟩
set_option maxRecDepth 100000 in
set_option maxHeartbeats 4000000 in
theorem eX13_tally_13 {X : px_X}  : ∀ (m : Nat) (a0 : Nat) (a1 : Int32) (a2 : Int32) (w : px_W) (q : Int32 × px_W), fX13_tally_13 X  m a0 a1 a2 w = some q → EV X mX13_tally 13 [(0, .ref a0), (1, .int a1), (2, .int a2)] [] w (some (.int q.1)) q.2 := by
  intro m
  induction m with
  | zero => intro a0 a1 a2 w q h; cases h
  | succ m ih =>
    intro a0 a1 a2 w q h
    rw [fX13_tally_13.eq_2] at h
    refine EV.iload_n 2 dX13_tally_13 rfl rfl ?_
    refine EV.sipush (2048) dX13_tally_14 (by decide) ?_
    refine EV.icmp_ge 35 dX13_tally_17 (by decide) (fun c6 => ?_) (fun c6 => ?_)
    · rw [if_pos c6] at h
      refine EV.iload_n 1 dX13_tally_35 rfl rfl ?_
      cases h
      exact EV.reti dX13_tally_36 rfl
    · rw [if_neg c6] at h
      refine EV.iload_n 1 dX13_tally_20 rfl rfl ?_
      refine EV.aload_n 0 dX13_tally_21 rfl rfl ?_
      obtain ⟨v7, gv7, h⟩ := px_bs h
      refine ev_gR dX13_tally_22 flRX13_68 gv7 ?_
      refine EV.iload_n 2 dX13_tally_25 rfl rfl ?_
      obtain ⟨v8, gv8, h⟩ := px_bs h
      refine ev_aI dX13_tally_26 gv8 ?_
      refine EV.iadd dX13_tally_27 ?_
      refine EV.istore_n [(1, .int (a1 + v8)), (0, .ref a0), (2, .int a2)] dX13_tally_28 rfl (by decide) rfl ?_
      refine EV.iinc 2 (a2 + 1) [(2, .int (a2 + 1)), (1, .int (a1 + v8)), (0, .ref a0)] dX13_tally_29 rfl rfl (by decide) rfl ?_
      refine EV.goto 13 dX13_tally_32 (by decide) ?_
      refine EV.sub [2, 1, 0] rfl ?_
      exact ih _ _ _ _ _ h
set_option maxRecDepth 100000 in
set_option maxHeartbeats 4000000 in
theorem eX13_tally {X : px_X} {w : px_W} {a0 : Nat} {q : Int32 × px_W} (h : fX13_tally X w a0 = some q) : EV X mX13_tally 0 (lv_args 0 [.ref a0]) [] w (some (.int q.1)) q.2 := by
  unfold fX13_tally at h
  show EV X mX13_tally 0 [(0, .ref a0)] [] w (some (.int q.1)) q.2
  refine EV.aload_n 0 dX13_tally_0 rfl rfl ?_
  refine EV.iconst (1) dX13_tally_1 (by decide) ?_
  obtain ⟨w9, gw9, h⟩ := px_bs h
  refine ev_pZ dX13_tally_2 flRX13_147 rfl rfl (by decide +kernel) gw9 ?_
  refine EV.aload_n 0 dX13_tally_5 rfl rfl ?_
  obtain ⟨o10, go10, h⟩ := px_bs h
  obtain ⟨q11, gq11, h⟩ := px_bs h
  refine EV.callV (As := []) (rest := []) dX13_tally_6 kcX13_tally_230 (gO_ok go10) rfl rfl rfl (Nat.le_of_ble_eq_true rfl) (Nat.le_of_ble_eq_true rfl) (eX13_writeAll gq11) ?_
  refine EV.iconst (0) dX13_tally_9 (by decide) ?_
  refine EV.istore_n [(1, .int 0), (0, .ref a0)] dX13_tally_10 rfl (by decide) rfl ?_
  refine EV.iconst (0) dX13_tally_11 (by decide) ?_
  refine EV.istore_n [(2, .int 0), (1, .int 0), (0, .ref a0)] dX13_tally_12 rfl (by decide) rfl ?_
  refine EV.sub [2, 1, 0] rfl ?_
  exact eX13_tally_13  FU _ _ _ _ _ h
/-! WavePicturesModel$Scans.wrong(I)I -/
theorem dX13_wrong_0 : decode cX13_wrong 0 = .ok (.aload_n 0, 1) := by decide +kernel
theorem dX13_wrong_1 : decode cX13_wrong 1 = .ok (.aload_n 0, 1) := by decide +kernel
theorem dX13_wrong_2 : decode cX13_wrong 2 = .ok (.getfield 236, 3) := by decide +kernel
theorem dX13_wrong_5 : decode cX13_wrong 5 = .ok (.ifCond .ne 7, 3) := by decide +kernel
theorem dX13_wrong_8 : decode cX13_wrong 8 = .ok (.iload_n 1, 1) := by decide +kernel
theorem dX13_wrong_9 : decode cX13_wrong 9 = .ok (.goto 7, 3) := by decide +kernel
theorem dX13_wrong_12 : decode cX13_wrong 12 = .ok (.aload_n 0, 1) := by decide +kernel
theorem dX13_wrong_13 : decode cX13_wrong 13 = .ok (.getfield 236, 3) := by decide +kernel
theorem dX13_wrong_16 : decode cX13_wrong 16 = .ok (.putfield 236, 3) := by decide +kernel
theorem dX13_wrong_19 : decode cX13_wrong 19 = .ok (.iconst 0, 1) := by decide +kernel
theorem dX13_wrong_20 : decode cX13_wrong 20 = .ok (.ireturn, 1) := by decide +kernel
theorem flRX13_236 : px_f RX13 236 13 46 := ⟨_, rfl, by decide, Or.inl (tb7 (List.mem_of_getElem? (i := 62) rfl))⟩
set_option maxRecDepth 100000 in
set_option maxHeartbeats 4000000 in
theorem eX13_wrong_16 {X : px_X}  : ∀ (s0 : Int32) (s1 : Nat) (w : px_W) (q : Int32 × px_W), fX13_wrong_16 X  s0 s1 w = some q → EV X mX13_wrong 16 [] [.int s0, .ref s1] w (some (.int q.1)) q.2 := by
  intro s0 s1 w q h
  unfold fX13_wrong_16 at h
  obtain ⟨w4, gw4, h⟩ := px_bs h
  refine ev_pV dX13_wrong_16 flRX13_236 rfl rfl rfl rfl gw4 ?_
  refine EV.iconst (0) dX13_wrong_19 (by decide) ?_
  cases h
  exact EV.reti dX13_wrong_20 rfl
set_option maxRecDepth 100000 in
set_option maxHeartbeats 4000000 in
theorem eX13_wrong {X : px_X} {w : px_W} {a0 : Nat} {a1 : Int32} {q : Int32 × px_W} (h : fX13_wrong X w a0 a1 = some q) : EV X mX13_wrong 0 (lv_args 0 [.ref a0, .int a1]) [] w (some (.int q.1)) q.2 := by
  unfold fX13_wrong at h
  show EV X mX13_wrong 0 [(0, .ref a0), (1, .int a1)] [] w (some (.int q.1)) q.2
  refine EV.aload_n 0 dX13_wrong_0 rfl rfl ?_
  refine EV.aload_n 0 dX13_wrong_1 rfl rfl ?_
  obtain ⟨v5, gv5, h⟩ := px_bs h
  refine ev_gI dX13_wrong_2 flRX13_236 gv5 ?_
  refine EV.if_ne 12 dX13_wrong_5 (by decide) (fun c6 => ?_) (fun c6 => ?_)
  · rw [if_neg c6] at h
    refine EV.aload_n 0 dX13_wrong_12 rfl rfl ?_
    obtain ⟨v7, gv7, h⟩ := px_bs h
    refine ev_gI dX13_wrong_13 flRX13_236 gv7 ?_
    refine EV.sub [] rfl ?_
    exact eX13_wrong_16  _ _ _ _ h
  · rw [if_pos c6] at h
    refine EV.iload_n 1 dX13_wrong_8 rfl rfl ?_
    refine EV.goto 16 dX13_wrong_9 (by decide) ?_
    refine EV.sub [] rfl ?_
    exact eX13_wrong_16  _ _ _ _ h
/-! WavePicturesModel$Scans.atRestart()Z -/
theorem dX13_atRestart_0 : decode cX13_atRestart 0 = .ok (.aload_n 0, 1) := by decide +kernel
theorem dX13_atRestart_1 : decode cX13_atRestart 1 = .ok (.getfield 239, 3) := by decide +kernel
theorem dX13_atRestart_4 : decode cX13_atRestart 4 = .ok (.iconst 1, 1) := by decide +kernel
theorem dX13_atRestart_5 : decode cX13_atRestart 5 = .ok (.iadd, 1) := by decide +kernel
theorem dX13_atRestart_6 : decode cX13_atRestart 6 = .ok (.aload_n 0, 1) := by decide +kernel
theorem dX13_atRestart_7 : decode cX13_atRestart 7 = .ok (.getfield 233, 3) := by decide +kernel
theorem dX13_atRestart_10 : decode cX13_atRestart 10 = .ok (.if_icmp .ge 68, 3) := by decide +kernel
theorem dX13_atRestart_13 : decode cX13_atRestart 13 = .ok (.aload_n 0, 1) := by decide +kernel
theorem dX13_atRestart_14 : decode cX13_atRestart 14 = .ok (.getfield 61, 3) := by decide +kernel
theorem dX13_atRestart_17 : decode cX13_atRestart 17 = .ok (.aload_n 0, 1) := by decide +kernel
theorem dX13_atRestart_18 : decode cX13_atRestart 18 = .ok (.getfield 239, 3) := by decide +kernel
theorem dX13_atRestart_21 : decode cX13_atRestart 21 = .ok (.baload, 1) := by decide +kernel
theorem dX13_atRestart_22 : decode cX13_atRestart 22 = .ok (.sipush 255, 3) := by decide +kernel
theorem dX13_atRestart_25 : decode cX13_atRestart 25 = .ok (.iand, 1) := by decide +kernel
theorem dX13_atRestart_26 : decode cX13_atRestart 26 = .ok (.sipush 255, 3) := by decide +kernel
theorem dX13_atRestart_29 : decode cX13_atRestart 29 = .ok (.if_icmp .ne 49, 3) := by decide +kernel
theorem dX13_atRestart_32 : decode cX13_atRestart 32 = .ok (.aload_n 0, 1) := by decide +kernel
theorem dX13_atRestart_33 : decode cX13_atRestart 33 = .ok (.getfield 61, 3) := by decide +kernel
theorem dX13_atRestart_36 : decode cX13_atRestart 36 = .ok (.aload_n 0, 1) := by decide +kernel
theorem dX13_atRestart_37 : decode cX13_atRestart 37 = .ok (.getfield 239, 3) := by decide +kernel
theorem dX13_atRestart_40 : decode cX13_atRestart 40 = .ok (.iconst 1, 1) := by decide +kernel
theorem dX13_atRestart_41 : decode cX13_atRestart 41 = .ok (.iadd, 1) := by decide +kernel
theorem dX13_atRestart_42 : decode cX13_atRestart 42 = .ok (.baload, 1) := by decide +kernel
theorem dX13_atRestart_43 : decode cX13_atRestart 43 = .ok (.sipush 255, 3) := by decide +kernel
theorem dX13_atRestart_46 : decode cX13_atRestart 46 = .ok (.iand, 1) := by decide +kernel
theorem dX13_atRestart_47 : decode cX13_atRestart 47 = .ok (.sipush 208, 3) := by decide +kernel
theorem dX13_atRestart_50 : decode cX13_atRestart 50 = .ok (.if_icmp .lt 28, 3) := by decide +kernel
theorem dX13_atRestart_53 : decode cX13_atRestart 53 = .ok (.aload_n 0, 1) := by decide +kernel
theorem dX13_atRestart_54 : decode cX13_atRestart 54 = .ok (.getfield 61, 3) := by decide +kernel
theorem dX13_atRestart_57 : decode cX13_atRestart 57 = .ok (.aload_n 0, 1) := by decide +kernel
theorem dX13_atRestart_58 : decode cX13_atRestart 58 = .ok (.getfield 239, 3) := by decide +kernel
theorem dX13_atRestart_61 : decode cX13_atRestart 61 = .ok (.iconst 1, 1) := by decide +kernel
theorem dX13_atRestart_62 : decode cX13_atRestart 62 = .ok (.iadd, 1) := by decide +kernel
theorem dX13_atRestart_63 : decode cX13_atRestart 63 = .ok (.baload, 1) := by decide +kernel
theorem dX13_atRestart_64 : decode cX13_atRestart 64 = .ok (.sipush 255, 3) := by decide +kernel
theorem dX13_atRestart_67 : decode cX13_atRestart 67 = .ok (.iand, 1) := by decide +kernel
theorem dX13_atRestart_68 : decode cX13_atRestart 68 = .ok (.sipush 215, 3) := by decide +kernel
theorem dX13_atRestart_71 : decode cX13_atRestart 71 = .ok (.if_icmp .gt 7, 3) := by decide +kernel
theorem dX13_atRestart_74 : decode cX13_atRestart 74 = .ok (.iconst 1, 1) := by decide +kernel
theorem dX13_atRestart_75 : decode cX13_atRestart 75 = .ok (.goto 4, 3) := by decide +kernel
theorem dX13_atRestart_78 : decode cX13_atRestart 78 = .ok (.iconst 0, 1) := by decide +kernel
theorem dX13_atRestart_79 : decode cX13_atRestart 79 = .ok (.ireturn, 1) := by decide +kernel
theorem flRX13_239 : px_f RX13 239 13 43 := ⟨_, rfl, by decide, Or.inl (tb7 (List.mem_of_getElem? (i := 59) rfl))⟩
set_option maxRecDepth 100000 in
set_option maxHeartbeats 4000000 in
theorem eX13_atRestart {X : px_X} {w : px_W} {a0 : Nat} {q : Int32 × px_W} (h : fX13_atRestart X w a0 = some q) : EV X mX13_atRestart 0 (lv_args 0 [.ref a0]) [] w (some (.int q.1)) q.2 := by
  unfold fX13_atRestart at h
  show EV X mX13_atRestart 0 [(0, .ref a0)] [] w (some (.int q.1)) q.2
  refine EV.aload_n 0 dX13_atRestart_0 rfl rfl ?_
  obtain ⟨v12, gv12, h⟩ := px_bs h
  refine ev_gI dX13_atRestart_1 flRX13_239 gv12 ?_
  refine EV.iconst (1) dX13_atRestart_4 (by decide) ?_
  refine EV.iadd dX13_atRestart_5 ?_
  refine EV.aload_n 0 dX13_atRestart_6 rfl rfl ?_
  obtain ⟨v13, gv13, h⟩ := px_bs h
  refine ev_gI dX13_atRestart_7 flRX13_233 gv13 ?_
  refine EV.icmp_ge 78 dX13_atRestart_10 (by decide) (fun c14 => ?_) (fun c14 => ?_)
  · rw [if_pos c14] at h
    refine EV.iconst (0) dX13_atRestart_78 (by decide) ?_
    cases h
    exact EV.reti dX13_atRestart_79 rfl
  · rw [if_neg c14] at h
    refine EV.aload_n 0 dX13_atRestart_13 rfl rfl ?_
    obtain ⟨v15, gv15, h⟩ := px_bs h
    refine ev_gR dX13_atRestart_14 flRX13_61 gv15 ?_
    refine EV.aload_n 0 dX13_atRestart_17 rfl rfl ?_
    obtain ⟨v16, gv16, h⟩ := px_bs h
    refine ev_gI dX13_atRestart_18 flRX13_239 gv16 ?_
    obtain ⟨v17, gv17, h⟩ := px_bs h
    refine ev_aB dX13_atRestart_21 gv17 ?_
    refine EV.sipush (255) dX13_atRestart_22 (by decide) ?_
    refine EV.iand dX13_atRestart_25 ?_
    refine EV.sipush (255) dX13_atRestart_26 (by decide) ?_
    refine EV.icmp_ne 78 dX13_atRestart_29 (by decide) (fun c18 => ?_) (fun c18 => ?_)
    · rw [if_neg c18] at h
      refine EV.iconst (0) dX13_atRestart_78 (by decide) ?_
      cases h
      exact EV.reti dX13_atRestart_79 rfl
    · rw [if_pos c18] at h
      refine EV.aload_n 0 dX13_atRestart_32 rfl rfl ?_
      obtain ⟨v19, gv19, h⟩ := px_bs h
      refine ev_gR dX13_atRestart_33 flRX13_61 gv19 ?_
      refine EV.aload_n 0 dX13_atRestart_36 rfl rfl ?_
      obtain ⟨v20, gv20, h⟩ := px_bs h
      refine ev_gI dX13_atRestart_37 flRX13_239 gv20 ?_
      refine EV.iconst (1) dX13_atRestart_40 (by decide) ?_
      refine EV.iadd dX13_atRestart_41 ?_
      obtain ⟨v21, gv21, h⟩ := px_bs h
      refine ev_aB dX13_atRestart_42 gv21 ?_
      refine EV.sipush (255) dX13_atRestart_43 (by decide) ?_
      refine EV.iand dX13_atRestart_46 ?_
      refine EV.sipush (208) dX13_atRestart_47 (by decide) ?_
      refine EV.icmp_lt 78 dX13_atRestart_50 (by decide) (fun c22 => ?_) (fun c22 => ?_)
      · rw [if_pos c22] at h
        refine EV.iconst (0) dX13_atRestart_78 (by decide) ?_
        cases h
        exact EV.reti dX13_atRestart_79 rfl
      · rw [if_neg c22] at h
        refine EV.aload_n 0 dX13_atRestart_53 rfl rfl ?_
        obtain ⟨v23, gv23, h⟩ := px_bs h
        refine ev_gR dX13_atRestart_54 flRX13_61 gv23 ?_
        refine EV.aload_n 0 dX13_atRestart_57 rfl rfl ?_
        obtain ⟨v24, gv24, h⟩ := px_bs h
        refine ev_gI dX13_atRestart_58 flRX13_239 gv24 ?_
        refine EV.iconst (1) dX13_atRestart_61 (by decide) ?_
        refine EV.iadd dX13_atRestart_62 ?_
        obtain ⟨v25, gv25, h⟩ := px_bs h
        refine ev_aB dX13_atRestart_63 gv25 ?_
        refine EV.sipush (255) dX13_atRestart_64 (by decide) ?_
        refine EV.iand dX13_atRestart_67 ?_
        refine EV.sipush (215) dX13_atRestart_68 (by decide) ?_
        refine EV.icmp_gt 78 dX13_atRestart_71 (by decide) (fun c26 => ?_) (fun c26 => ?_)
        · rw [if_pos c26] at h
          refine EV.iconst (0) dX13_atRestart_78 (by decide) ?_
          cases h
          exact EV.reti dX13_atRestart_79 rfl
        · rw [if_neg c26] at h
          refine EV.iconst (1) dX13_atRestart_74 (by decide) ?_
          refine EV.goto 79 dX13_atRestart_75 (by decide) ?_
          cases h
          exact EV.reti dX13_atRestart_79 rfl
/-! WavePicturesModel$Scans.takeBit()I -/
theorem dX13_takeBit_0 : decode cX13_takeBit 0 = .ok (.aload_n 0, 1) := by decide +kernel
theorem dX13_takeBit_1 : decode cX13_takeBit 1 = .ok (.getfield 236, 3) := by decide +kernel
theorem dX13_takeBit_4 : decode cX13_takeBit 4 = .ok (.ifCond .le 5, 3) := by decide +kernel
theorem dX13_takeBit_7 : decode cX13_takeBit 7 = .ok (.iconst 0, 1) := by decide +kernel
theorem dX13_takeBit_8 : decode cX13_takeBit 8 = .ok (.ireturn, 1) := by decide +kernel
theorem dX13_takeBit_9 : decode cX13_takeBit 9 = .ok (.aload_n 0, 1) := by decide +kernel
theorem dX13_takeBit_10 : decode cX13_takeBit 10 = .ok (.getfield 242, 3) := by decide +kernel
theorem dX13_takeBit_13 : decode cX13_takeBit 13 = .ok (.ifCond .ne 118, 3) := by decide +kernel
theorem dX13_takeBit_16 : decode cX13_takeBit 16 = .ok (.aload_n 0, 1) := by decide +kernel
theorem dX13_takeBit_17 : decode cX13_takeBit 17 = .ok (.getfield 239, 3) := by decide +kernel
theorem dX13_takeBit_20 : decode cX13_takeBit 20 = .ok (.aload_n 0, 1) := by decide +kernel
theorem dX13_takeBit_21 : decode cX13_takeBit 21 = .ok (.getfield 233, 3) := by decide +kernel
theorem dX13_takeBit_24 : decode cX13_takeBit 24 = .ok (.if_icmp .eq 10, 3) := by decide +kernel
theorem dX13_takeBit_27 : decode cX13_takeBit 27 = .ok (.aload_n 0, 1) := by decide +kernel
theorem dX13_takeBit_28 : decode cX13_takeBit 28 = .ok (.invokevirtual 245, 3) := by decide +kernel
theorem dX13_takeBit_31 : decode cX13_takeBit 31 = .ok (.ifCond .eq 9, 3) := by decide +kernel
theorem dX13_takeBit_34 : decode cX13_takeBit 34 = .ok (.aload_n 0, 1) := by decide +kernel
theorem dX13_takeBit_35 : decode cX13_takeBit 35 = .ok (.iconst 1, 1) := by decide +kernel
theorem dX13_takeBit_36 : decode cX13_takeBit 36 = .ok (.invokevirtual 248, 3) := by decide +kernel
theorem dX13_takeBit_39 : decode cX13_takeBit 39 = .ok (.ireturn, 1) := by decide +kernel
theorem dX13_takeBit_40 : decode cX13_takeBit 40 = .ok (.aload_n 0, 1) := by decide +kernel
theorem dX13_takeBit_41 : decode cX13_takeBit 41 = .ok (.aload_n 0, 1) := by decide +kernel
theorem dX13_takeBit_42 : decode cX13_takeBit 42 = .ok (.getfield 61, 3) := by decide +kernel
theorem dX13_takeBit_45 : decode cX13_takeBit 45 = .ok (.aload_n 0, 1) := by decide +kernel
theorem dX13_takeBit_46 : decode cX13_takeBit 46 = .ok (.getfield 239, 3) := by decide +kernel
theorem dX13_takeBit_49 : decode cX13_takeBit 49 = .ok (.baload, 1) := by decide +kernel
theorem dX13_takeBit_50 : decode cX13_takeBit 50 = .ok (.sipush 255, 3) := by decide +kernel
theorem dX13_takeBit_53 : decode cX13_takeBit 53 = .ok (.iand, 1) := by decide +kernel
theorem dX13_takeBit_54 : decode cX13_takeBit 54 = .ok (.putfield 251, 3) := by decide +kernel
theorem dX13_takeBit_57 : decode cX13_takeBit 57 = .ok (.aload_n 0, 1) := by decide +kernel
theorem dX13_takeBit_58 : decode cX13_takeBit 58 = .ok (.getfield 251, 3) := by decide +kernel
theorem dX13_takeBit_61 : decode cX13_takeBit 61 = .ok (.sipush 255, 3) := by decide +kernel
theorem dX13_takeBit_64 : decode cX13_takeBit 64 = .ok (.if_icmp .ne 37, 3) := by decide +kernel
theorem dX13_takeBit_67 : decode cX13_takeBit 67 = .ok (.aload_n 0, 1) := by decide +kernel
theorem dX13_takeBit_68 : decode cX13_takeBit 68 = .ok (.getfield 239, 3) := by decide +kernel
theorem dX13_takeBit_71 : decode cX13_takeBit 71 = .ok (.iconst 1, 1) := by decide +kernel
theorem dX13_takeBit_72 : decode cX13_takeBit 72 = .ok (.iadd, 1) := by decide +kernel
theorem dX13_takeBit_73 : decode cX13_takeBit 73 = .ok (.aload_n 0, 1) := by decide +kernel
theorem dX13_takeBit_74 : decode cX13_takeBit 74 = .ok (.getfield 233, 3) := by decide +kernel
theorem dX13_takeBit_77 : decode cX13_takeBit 77 = .ok (.if_icmp .eq 17, 3) := by decide +kernel
theorem dX13_takeBit_80 : decode cX13_takeBit 80 = .ok (.aload_n 0, 1) := by decide +kernel
theorem dX13_takeBit_81 : decode cX13_takeBit 81 = .ok (.getfield 61, 3) := by decide +kernel
theorem dX13_takeBit_84 : decode cX13_takeBit 84 = .ok (.aload_n 0, 1) := by decide +kernel
theorem dX13_takeBit_85 : decode cX13_takeBit 85 = .ok (.getfield 239, 3) := by decide +kernel
theorem dX13_takeBit_88 : decode cX13_takeBit 88 = .ok (.iconst 1, 1) := by decide +kernel
theorem dX13_takeBit_89 : decode cX13_takeBit 89 = .ok (.iadd, 1) := by decide +kernel
theorem dX13_takeBit_90 : decode cX13_takeBit 90 = .ok (.baload, 1) := by decide +kernel
theorem dX13_takeBit_91 : decode cX13_takeBit 91 = .ok (.ifCond .eq 10, 3) := by decide +kernel
theorem dX13_takeBit_94 : decode cX13_takeBit 94 = .ok (.aload_n 0, 1) := by decide +kernel
theorem dX13_takeBit_95 : decode cX13_takeBit 95 = .ok (.bipush 6, 2) := by decide +kernel
theorem dX13_takeBit_97 : decode cX13_takeBit 97 = .ok (.invokevirtual 248, 3) := by decide +kernel
theorem dX13_takeBit_100 : decode cX13_takeBit 100 = .ok (.ireturn, 1) := by decide +kernel
theorem dX13_takeBit_101 : decode cX13_takeBit 101 = .ok (.aload_n 0, 1) := by decide +kernel
theorem dX13_takeBit_102 : decode cX13_takeBit 102 = .ok (.dup, 1) := by decide +kernel
theorem dX13_takeBit_103 : decode cX13_takeBit 103 = .ok (.getfield 239, 3) := by decide +kernel
theorem dX13_takeBit_106 : decode cX13_takeBit 106 = .ok (.aload_n 0, 1) := by decide +kernel
theorem dX13_takeBit_107 : decode cX13_takeBit 107 = .ok (.getfield 251, 3) := by decide +kernel
theorem dX13_takeBit_110 : decode cX13_takeBit 110 = .ok (.sipush 255, 3) := by decide +kernel
theorem dX13_takeBit_113 : decode cX13_takeBit 113 = .ok (.if_icmp .ne 7, 3) := by decide +kernel
theorem dX13_takeBit_116 : decode cX13_takeBit 116 = .ok (.iconst 2, 1) := by decide +kernel
theorem dX13_takeBit_117 : decode cX13_takeBit 117 = .ok (.goto 4, 3) := by decide +kernel
theorem dX13_takeBit_120 : decode cX13_takeBit 120 = .ok (.iconst 1, 1) := by decide +kernel
theorem dX13_takeBit_121 : decode cX13_takeBit 121 = .ok (.iadd, 1) := by decide +kernel
theorem dX13_takeBit_122 : decode cX13_takeBit 122 = .ok (.putfield 239, 3) := by decide +kernel
theorem dX13_takeBit_125 : decode cX13_takeBit 125 = .ok (.aload_n 0, 1) := by decide +kernel
theorem dX13_takeBit_126 : decode cX13_takeBit 126 = .ok (.bipush 8, 2) := by decide +kernel
theorem dX13_takeBit_128 : decode cX13_takeBit 128 = .ok (.putfield 242, 3) := by decide +kernel
theorem dX13_takeBit_131 : decode cX13_takeBit 131 = .ok (.aload_n 0, 1) := by decide +kernel
theorem dX13_takeBit_132 : decode cX13_takeBit 132 = .ok (.dup, 1) := by decide +kernel
theorem dX13_takeBit_133 : decode cX13_takeBit 133 = .ok (.getfield 242, 3) := by decide +kernel
theorem dX13_takeBit_136 : decode cX13_takeBit 136 = .ok (.iconst 1, 1) := by decide +kernel
theorem dX13_takeBit_137 : decode cX13_takeBit 137 = .ok (.isub, 1) := by decide +kernel
theorem dX13_takeBit_138 : decode cX13_takeBit 138 = .ok (.putfield 242, 3) := by decide +kernel
theorem dX13_takeBit_141 : decode cX13_takeBit 141 = .ok (.aload_n 0, 1) := by decide +kernel
theorem dX13_takeBit_142 : decode cX13_takeBit 142 = .ok (.getfield 251, 3) := by decide +kernel
theorem dX13_takeBit_145 : decode cX13_takeBit 145 = .ok (.aload_n 0, 1) := by decide +kernel
theorem dX13_takeBit_146 : decode cX13_takeBit 146 = .ok (.getfield 242, 3) := by decide +kernel
theorem dX13_takeBit_149 : decode cX13_takeBit 149 = .ok (.ishr, 1) := by decide +kernel
theorem dX13_takeBit_150 : decode cX13_takeBit 150 = .ok (.iconst 1, 1) := by decide +kernel
theorem dX13_takeBit_151 : decode cX13_takeBit 151 = .ok (.iand, 1) := by decide +kernel
theorem dX13_takeBit_152 : decode cX13_takeBit 152 = .ok (.ireturn, 1) := by decide +kernel
theorem flRX13_242 : px_f RX13 242 13 45 := ⟨_, rfl, by decide, Or.inl (tb7 (List.mem_of_getElem? (i := 61) rfl))⟩
theorem flRX13_251 : px_f RX13 251 13 44 := ⟨_, rfl, by decide, Or.inl (tb7 (List.mem_of_getElem? (i := 60) rfl))⟩
theorem mbX13_atRestart : px_mB mX13_atRestart 0 := ⟨tb9 (List.mem_of_getElem? (i := 36) rfl), by decide +kernel, tb1 (List.mem_of_getElem? (i := 15) rfl), by decide +kernel, by decide +kernel⟩
theorem vbX13_atRestart : px_vB mX13_atRestart := ⟨tb9 (List.mem_of_getElem? (i := 35) rfl), List.mem_append_left _ (List.mem_of_getElem? (i := 116) (by decide +kernel))⟩
theorem kcX13_takeBit_245 : px_cV mX13_takeBit 245 mX13_atRestart 0 := ⟨⟨mbX13_atRestart, by decide, by decide⟩, Or.inl (tb9 (List.mem_of_getElem? (i := 33) rfl)), vbX13_atRestart⟩
theorem mbX13_wrong : px_mB mX13_wrong 1 := ⟨tb9 (List.mem_of_getElem? (i := 40) rfl), by decide +kernel, tb1 (List.mem_of_getElem? (i := 15) rfl), by decide +kernel, by decide +kernel⟩
theorem vbX13_wrong : px_vB mX13_wrong := ⟨tb9 (List.mem_of_getElem? (i := 39) rfl), List.mem_append_left _ (List.mem_of_getElem? (i := 117) (by decide +kernel))⟩
theorem kcX13_takeBit_248 : px_cV mX13_takeBit 248 mX13_wrong 1 := ⟨⟨mbX13_wrong, by decide, by decide⟩, Or.inl (tb9 (List.mem_of_getElem? (i := 37) rfl)), vbX13_wrong⟩
set_option maxRecDepth 100000 in
set_option maxHeartbeats 4000000 in
theorem eX13_takeBit_34 {X : px_X}  : ∀ (a0 : Nat) (w : px_W) (q : Int32 × px_W), fX13_takeBit_34 X  a0 w = some q → EV X mX13_takeBit 34 [(0, .ref a0)] [] w (some (.int q.1)) q.2 := by
  intro a0 w q h
  unfold fX13_takeBit_34 at h
  refine EV.aload_n 0 dX13_takeBit_34 rfl rfl ?_
  refine EV.iconst (1) dX13_takeBit_35 (by decide) ?_
  obtain ⟨o29, go29, h⟩ := px_bs h
  obtain ⟨q30, gq30, h⟩ := px_bs h
  refine EV.callV (As := [.int 1]) (rest := []) dX13_takeBit_36 kcX13_takeBit_248 (gO_ok go29) rfl rfl rfl (Nat.le_of_ble_eq_true rfl) (Nat.le_of_ble_eq_true rfl) (eX13_wrong gq30) ?_
  cases h
  exact EV.reti dX13_takeBit_39 rfl
set_option maxRecDepth 100000 in
set_option maxHeartbeats 4000000 in
theorem eX13_takeBit_94 {X : px_X}  : ∀ (a0 : Nat) (w : px_W) (q : Int32 × px_W), fX13_takeBit_94 X  a0 w = some q → EV X mX13_takeBit 94 [(0, .ref a0)] [] w (some (.int q.1)) q.2 := by
  intro a0 w q h
  unfold fX13_takeBit_94 at h
  refine EV.aload_n 0 dX13_takeBit_94 rfl rfl ?_
  refine EV.bipush (6) dX13_takeBit_95 (by decide) ?_
  obtain ⟨o31, go31, h⟩ := px_bs h
  obtain ⟨q32, gq32, h⟩ := px_bs h
  refine EV.callV (As := [.int 6]) (rest := []) dX13_takeBit_97 kcX13_takeBit_248 (gO_ok go31) rfl rfl rfl (Nat.le_of_ble_eq_true rfl) (Nat.le_of_ble_eq_true rfl) (eX13_wrong gq32) ?_
  cases h
  exact EV.reti dX13_takeBit_100 rfl
set_option maxRecDepth 100000 in
set_option maxHeartbeats 4000000 in
theorem eX13_takeBit_131 {X : px_X}  : ∀ (a0 : Nat) (w : px_W) (q : Int32 × px_W), fX13_takeBit_131 X  a0 w = some q → EV X mX13_takeBit 131 [(0, .ref a0)] [] w (some (.int q.1)) q.2 := by
  intro a0 w q h
  unfold fX13_takeBit_131 at h
  refine EV.aload_n 0 dX13_takeBit_131 rfl rfl ?_
  refine EV.dup dX13_takeBit_132 rfl ?_
  obtain ⟨v33, gv33, h⟩ := px_bs h
  refine ev_gI dX13_takeBit_133 flRX13_242 gv33 ?_
  refine EV.iconst (1) dX13_takeBit_136 (by decide) ?_
  refine EV.isub dX13_takeBit_137 ?_
  obtain ⟨w34, gw34, h⟩ := px_bs h
  refine ev_pV dX13_takeBit_138 flRX13_242 rfl rfl rfl rfl gw34 ?_
  refine EV.aload_n 0 dX13_takeBit_141 rfl rfl ?_
  obtain ⟨v35, gv35, h⟩ := px_bs h
  refine ev_gI dX13_takeBit_142 flRX13_251 gv35 ?_
  refine EV.aload_n 0 dX13_takeBit_145 rfl rfl ?_
  obtain ⟨v36, gv36, h⟩ := px_bs h
  refine ev_gI dX13_takeBit_146 flRX13_242 gv36 ?_
  refine EV.ishr dX13_takeBit_149 ?_
  refine EV.iconst (1) dX13_takeBit_150 (by decide) ?_
  refine EV.iand dX13_takeBit_151 ?_
  cases h
  exact EV.reti dX13_takeBit_152 rfl
set_option maxRecDepth 100000 in
set_option maxHeartbeats 4000000 in
theorem eX13_takeBit_121 {X : px_X}  : ∀ (a0 : Nat) (s0 : Int32) (s1 : Int32) (s2 : Nat) (w : px_W) (q : Int32 × px_W), fX13_takeBit_121 X  a0 s0 s1 s2 w = some q → EV X mX13_takeBit 121 [(0, .ref a0)] [.int s0, .int s1, .ref s2] w (some (.int q.1)) q.2 := by
  intro a0 s0 s1 s2 w q h
  unfold fX13_takeBit_121 at h
  refine EV.iadd dX13_takeBit_121 ?_
  obtain ⟨w37, gw37, h⟩ := px_bs h
  refine ev_pV dX13_takeBit_122 flRX13_239 rfl rfl rfl rfl gw37 ?_
  refine EV.aload_n 0 dX13_takeBit_125 rfl rfl ?_
  refine EV.bipush (8) dX13_takeBit_126 (by decide) ?_
  obtain ⟨w38, gw38, h⟩ := px_bs h
  refine ev_pV dX13_takeBit_128 flRX13_242 rfl rfl rfl rfl gw38 ?_
  refine EV.sub [0] rfl ?_
  exact eX13_takeBit_131  _ _ _ h
set_option maxRecDepth 100000 in
set_option maxHeartbeats 4000000 in
theorem eX13_takeBit_101 {X : px_X}  : ∀ (a0 : Nat) (w : px_W) (q : Int32 × px_W), fX13_takeBit_101 X  a0 w = some q → EV X mX13_takeBit 101 [(0, .ref a0)] [] w (some (.int q.1)) q.2 := by
  intro a0 w q h
  unfold fX13_takeBit_101 at h
  refine EV.aload_n 0 dX13_takeBit_101 rfl rfl ?_
  refine EV.dup dX13_takeBit_102 rfl ?_
  obtain ⟨v39, gv39, h⟩ := px_bs h
  refine ev_gI dX13_takeBit_103 flRX13_239 gv39 ?_
  refine EV.aload_n 0 dX13_takeBit_106 rfl rfl ?_
  obtain ⟨v40, gv40, h⟩ := px_bs h
  refine ev_gI dX13_takeBit_107 flRX13_251 gv40 ?_
  refine EV.sipush (255) dX13_takeBit_110 (by decide) ?_
  refine EV.icmp_ne 120 dX13_takeBit_113 (by decide) (fun c41 => ?_) (fun c41 => ?_)
  · rw [if_neg c41] at h
    refine EV.iconst (1) dX13_takeBit_120 (by decide) ?_
    refine EV.sub [0] rfl ?_
    exact eX13_takeBit_121  _ _ _ _ _ _ h
  · rw [if_pos c41] at h
    refine EV.iconst (2) dX13_takeBit_116 (by decide) ?_
    refine EV.goto 121 dX13_takeBit_117 (by decide) ?_
    refine EV.sub [0] rfl ?_
    exact eX13_takeBit_121  _ _ _ _ _ _ h
set_option maxRecDepth 100000 in
set_option maxHeartbeats 4000000 in
theorem eX13_takeBit {X : px_X} {w : px_W} {a0 : Nat} {q : Int32 × px_W} (h : fX13_takeBit X w a0 = some q) : EV X mX13_takeBit 0 (lv_args 0 [.ref a0]) [] w (some (.int q.1)) q.2 := by
  unfold fX13_takeBit at h
  show EV X mX13_takeBit 0 [(0, .ref a0)] [] w (some (.int q.1)) q.2
  refine EV.aload_n 0 dX13_takeBit_0 rfl rfl ?_
  obtain ⟨v42, gv42, h⟩ := px_bs h
  refine ev_gI dX13_takeBit_1 flRX13_236 gv42 ?_
  refine EV.if_le 9 dX13_takeBit_4 (by decide) (fun c43 => ?_) (fun c43 => ?_)
  · rw [if_pos c43] at h
    refine EV.aload_n 0 dX13_takeBit_9 rfl rfl ?_
    obtain ⟨v44, gv44, h⟩ := px_bs h
    refine ev_gI dX13_takeBit_10 flRX13_242 gv44 ?_
    refine EV.if_ne 131 dX13_takeBit_13 (by decide) (fun c45 => ?_) (fun c45 => ?_)
    · rw [if_neg c45] at h
      refine EV.sub [0] rfl ?_
      exact eX13_takeBit_131  _ _ _ h
    · rw [if_pos c45] at h
      refine EV.aload_n 0 dX13_takeBit_16 rfl rfl ?_
      obtain ⟨v46, gv46, h⟩ := px_bs h
      refine ev_gI dX13_takeBit_17 flRX13_239 gv46 ?_
      refine EV.aload_n 0 dX13_takeBit_20 rfl rfl ?_
      obtain ⟨v47, gv47, h⟩ := px_bs h
      refine ev_gI dX13_takeBit_21 flRX13_233 gv47 ?_
      refine EV.icmp_eq 34 dX13_takeBit_24 (by decide) (fun c48 => ?_) (fun c48 => ?_)
      · rw [if_pos c48] at h
        refine EV.sub [0] rfl ?_
        exact eX13_takeBit_34  _ _ _ h
      · rw [if_neg c48] at h
        refine EV.aload_n 0 dX13_takeBit_27 rfl rfl ?_
        obtain ⟨o49, go49, h⟩ := px_bs h
        obtain ⟨q50, gq50, h⟩ := px_bs h
        refine EV.callV (As := []) (rest := []) dX13_takeBit_28 kcX13_takeBit_245 (gO_ok go49) rfl rfl rfl (Nat.le_of_ble_eq_true rfl) (Nat.le_of_ble_eq_true rfl) (eX13_atRestart gq50) ?_
        refine EV.if_eq 40 dX13_takeBit_31 (by decide) (fun c51 => ?_) (fun c51 => ?_)
        · rw [if_pos c51] at h
          refine EV.aload_n 0 dX13_takeBit_40 rfl rfl ?_
          refine EV.aload_n 0 dX13_takeBit_41 rfl rfl ?_
          obtain ⟨v52, gv52, h⟩ := px_bs h
          refine ev_gR dX13_takeBit_42 flRX13_61 gv52 ?_
          refine EV.aload_n 0 dX13_takeBit_45 rfl rfl ?_
          obtain ⟨v53, gv53, h⟩ := px_bs h
          refine ev_gI dX13_takeBit_46 flRX13_239 gv53 ?_
          obtain ⟨v54, gv54, h⟩ := px_bs h
          refine ev_aB dX13_takeBit_49 gv54 ?_
          refine EV.sipush (255) dX13_takeBit_50 (by decide) ?_
          refine EV.iand dX13_takeBit_53 ?_
          obtain ⟨w55, gw55, h⟩ := px_bs h
          refine ev_pV dX13_takeBit_54 flRX13_251 rfl rfl rfl rfl gw55 ?_
          refine EV.aload_n 0 dX13_takeBit_57 rfl rfl ?_
          obtain ⟨v56, gv56, h⟩ := px_bs h
          refine ev_gI dX13_takeBit_58 flRX13_251 gv56 ?_
          refine EV.sipush (255) dX13_takeBit_61 (by decide) ?_
          refine EV.icmp_ne 101 dX13_takeBit_64 (by decide) (fun c57 => ?_) (fun c57 => ?_)
          · rw [if_neg c57] at h
            refine EV.sub [0] rfl ?_
            exact eX13_takeBit_101  _ _ _ h
          · rw [if_pos c57] at h
            refine EV.aload_n 0 dX13_takeBit_67 rfl rfl ?_
            obtain ⟨v58, gv58, h⟩ := px_bs h
            refine ev_gI dX13_takeBit_68 flRX13_239 gv58 ?_
            refine EV.iconst (1) dX13_takeBit_71 (by decide) ?_
            refine EV.iadd dX13_takeBit_72 ?_
            refine EV.aload_n 0 dX13_takeBit_73 rfl rfl ?_
            obtain ⟨v59, gv59, h⟩ := px_bs h
            refine ev_gI dX13_takeBit_74 flRX13_233 gv59 ?_
            refine EV.icmp_eq 94 dX13_takeBit_77 (by decide) (fun c60 => ?_) (fun c60 => ?_)
            · rw [if_pos c60] at h
              refine EV.sub [0] rfl ?_
              exact eX13_takeBit_94  _ _ _ h
            · rw [if_neg c60] at h
              refine EV.aload_n 0 dX13_takeBit_80 rfl rfl ?_
              obtain ⟨v61, gv61, h⟩ := px_bs h
              refine ev_gR dX13_takeBit_81 flRX13_61 gv61 ?_
              refine EV.aload_n 0 dX13_takeBit_84 rfl rfl ?_
              obtain ⟨v62, gv62, h⟩ := px_bs h
              refine ev_gI dX13_takeBit_85 flRX13_239 gv62 ?_
              refine EV.iconst (1) dX13_takeBit_88 (by decide) ?_
              refine EV.iadd dX13_takeBit_89 ?_
              obtain ⟨v63, gv63, h⟩ := px_bs h
              refine ev_aB dX13_takeBit_90 gv63 ?_
              refine EV.if_eq 101 dX13_takeBit_91 (by decide) (fun c64 => ?_) (fun c64 => ?_)
              · rw [if_pos c64] at h
                refine EV.sub [0] rfl ?_
                exact eX13_takeBit_101  _ _ _ h
              · rw [if_neg c64] at h
                refine EV.sub [0] rfl ?_
                exact eX13_takeBit_94  _ _ _ h
        · rw [if_neg c51] at h
          refine EV.sub [0] rfl ?_
          exact eX13_takeBit_34  _ _ _ h
  · rw [if_neg c43] at h
    refine EV.iconst (0) dX13_takeBit_7 (by decide) ?_
    cases h
    exact EV.reti dX13_takeBit_8 rfl
/-! WavePicturesModel$Scans.takeBits(I)I -/
theorem dX13_takeBits_0 : decode cX13_takeBits 0 = .ok (.iconst 0, 1) := by decide +kernel
theorem dX13_takeBits_1 : decode cX13_takeBits 1 = .ok (.istore_n 2, 1) := by decide +kernel
theorem dX13_takeBits_2 : decode cX13_takeBits 2 = .ok (.iconst 0, 1) := by decide +kernel
theorem dX13_takeBits_3 : decode cX13_takeBits 3 = .ok (.istore_n 3, 1) := by decide +kernel
theorem dX13_takeBits_4 : decode cX13_takeBits 4 = .ok (.iload_n 3, 1) := by decide +kernel
theorem dX13_takeBits_5 : decode cX13_takeBits 5 = .ok (.iload_n 1, 1) := by decide +kernel
theorem dX13_takeBits_6 : decode cX13_takeBits 6 = .ok (.if_icmp .ge 18, 3) := by decide +kernel
theorem dX13_takeBits_9 : decode cX13_takeBits 9 = .ok (.iconst 2, 1) := by decide +kernel
theorem dX13_takeBits_10 : decode cX13_takeBits 10 = .ok (.iload_n 2, 1) := by decide +kernel
theorem dX13_takeBits_11 : decode cX13_takeBits 11 = .ok (.imul, 1) := by decide +kernel
theorem dX13_takeBits_12 : decode cX13_takeBits 12 = .ok (.aload_n 0, 1) := by decide +kernel
theorem dX13_takeBits_13 : decode cX13_takeBits 13 = .ok (.invokevirtual 254, 3) := by decide +kernel
theorem dX13_takeBits_16 : decode cX13_takeBits 16 = .ok (.iadd, 1) := by decide +kernel
theorem dX13_takeBits_17 : decode cX13_takeBits 17 = .ok (.istore_n 2, 1) := by decide +kernel
theorem dX13_takeBits_18 : decode cX13_takeBits 18 = .ok (.iinc 3 1, 3) := by decide +kernel
theorem dX13_takeBits_21 : decode cX13_takeBits 21 = .ok (.goto (-17), 3) := by decide +kernel
theorem dX13_takeBits_24 : decode cX13_takeBits 24 = .ok (.iload_n 2, 1) := by decide +kernel
theorem dX13_takeBits_25 : decode cX13_takeBits 25 = .ok (.ireturn, 1) := by decide +kernel
theorem mbX13_takeBit : px_mB mX13_takeBit 0 := ⟨tb9 (List.mem_of_getElem? (i := 60) rfl), by decide +kernel, tb1 (List.mem_of_getElem? (i := 15) rfl), by decide +kernel, by decide +kernel⟩
theorem vbX13_takeBit : px_vB mX13_takeBit := ⟨tb9 (List.mem_of_getElem? (i := 59) rfl), List.mem_append_left _ (List.mem_of_getElem? (i := 122) (by decide +kernel))⟩
theorem kcX13_takeBits_254 : px_cV mX13_takeBits 254 mX13_takeBit 0 := ⟨⟨mbX13_takeBit, by decide, by decide⟩, Or.inl (tb9 (List.mem_of_getElem? (i := 57) rfl)), vbX13_takeBit⟩
set_option maxRecDepth 100000 in
set_option maxHeartbeats 4000000 in
theorem eX13_takeBits_4 {X : px_X}  : ∀ (m : Nat) (a0 : Nat) (a1 : Int32) (a2 : Int32) (a3 : Int32) (w : px_W) (q : Int32 × px_W), fX13_takeBits_4 X  m a0 a1 a2 a3 w = some q → EV X mX13_takeBits 4 [(0, .ref a0), (1, .int a1), (2, .int a2), (3, .int a3)] [] w (some (.int q.1)) q.2 := by
  intro m
  induction m with
  | zero => intro a0 a1 a2 a3 w q h; cases h
  | succ m ih =>
    intro a0 a1 a2 a3 w q h
    rw [fX13_takeBits_4.eq_2] at h
    refine EV.iload_n 3 dX13_takeBits_4 rfl rfl ?_
    refine EV.iload_n 1 dX13_takeBits_5 rfl rfl ?_
    refine EV.icmp_ge 24 dX13_takeBits_6 (by decide) (fun c3 => ?_) (fun c3 => ?_)
    · rw [if_pos c3] at h
      refine EV.iload_n 2 dX13_takeBits_24 rfl rfl ?_
      cases h
      exact EV.reti dX13_takeBits_25 rfl
    · rw [if_neg c3] at h
      refine EV.iconst (2) dX13_takeBits_9 (by decide) ?_
      refine EV.iload_n 2 dX13_takeBits_10 rfl rfl ?_
      refine EV.imul dX13_takeBits_11 ?_
      refine EV.aload_n 0 dX13_takeBits_12 rfl rfl ?_
      obtain ⟨o4, go4, h⟩ := px_bs h
      obtain ⟨q5, gq5, h⟩ := px_bs h
      refine EV.callV (As := []) (rest := [.int (2 * a2)]) dX13_takeBits_13 kcX13_takeBits_254 (gO_ok go4) rfl rfl rfl (Nat.le_of_ble_eq_true rfl) (Nat.le_of_ble_eq_true rfl) (eX13_takeBit gq5) ?_
      refine EV.iadd dX13_takeBits_16 ?_
      refine EV.istore_n [(2, .int ((2 * a2) + q5.1)), (0, .ref a0), (1, .int a1), (3, .int a3)] dX13_takeBits_17 rfl (by decide) rfl ?_
      refine EV.iinc 3 (a3 + 1) [(3, .int (a3 + 1)), (2, .int ((2 * a2) + q5.1)), (0, .ref a0), (1, .int a1)] dX13_takeBits_18 rfl rfl (by decide) rfl ?_
      refine EV.goto 4 dX13_takeBits_21 (by decide) ?_
      refine EV.sub [2, 3, 1, 0] rfl ?_
      exact ih _ _ _ _ _ _ h
set_option maxRecDepth 100000 in
set_option maxHeartbeats 4000000 in
theorem eX13_takeBits {X : px_X} {w : px_W} {a0 : Nat} {a1 : Int32} {q : Int32 × px_W} (h : fX13_takeBits X w a0 a1 = some q) : EV X mX13_takeBits 0 (lv_args 0 [.ref a0, .int a1]) [] w (some (.int q.1)) q.2 := by
  unfold fX13_takeBits at h
  show EV X mX13_takeBits 0 [(0, .ref a0), (1, .int a1)] [] w (some (.int q.1)) q.2
  refine EV.iconst (0) dX13_takeBits_0 (by decide) ?_
  refine EV.istore_n [(2, .int 0), (0, .ref a0), (1, .int a1)] dX13_takeBits_1 rfl (by decide) rfl ?_
  refine EV.iconst (0) dX13_takeBits_2 (by decide) ?_
  refine EV.istore_n [(3, .int 0), (2, .int 0), (0, .ref a0), (1, .int a1)] dX13_takeBits_3 rfl (by decide) rfl ?_
  refine EV.sub [2, 3, 1, 0] rfl ?_
  exact eX13_takeBits_4  FU _ _ _ _ _ _ h
/-! WavePicturesModel$Scans.symbol(I)I -/
theorem dX13_symbol_0 : decode cX13_symbol 0 = .ok (.iconst 0, 1) := by decide +kernel
theorem dX13_symbol_1 : decode cX13_symbol 1 = .ok (.istore_n 2, 1) := by decide +kernel
theorem dX13_symbol_2 : decode cX13_symbol 2 = .ok (.iconst 0, 1) := by decide +kernel
theorem dX13_symbol_3 : decode cX13_symbol 3 = .ok (.istore_n 3, 1) := by decide +kernel
theorem dX13_symbol_4 : decode cX13_symbol 4 = .ok (.iload_n 3, 1) := by decide +kernel
theorem dX13_symbol_5 : decode cX13_symbol 5 = .ok (.bipush 16, 2) := by decide +kernel
theorem dX13_symbol_7 : decode cX13_symbol 7 = .ok (.if_icmp .gt 142, 3) := by decide +kernel
theorem dX13_symbol_10 : decode cX13_symbol 10 = .ok (.aload_n 0, 1) := by decide +kernel
theorem dX13_symbol_11 : decode cX13_symbol 11 = .ok (.getfield 236, 3) := by decide +kernel
theorem dX13_symbol_14 : decode cX13_symbol 14 = .ok (.ifCond .ne 135, 3) := by decide +kernel
theorem dX13_symbol_17 : decode cX13_symbol 17 = .ok (.iconst 0, 1) := by decide +kernel
theorem dX13_symbol_18 : decode cX13_symbol 18 = .ok (.istore 4, 2) := by decide +kernel
theorem dX13_symbol_20 : decode cX13_symbol 20 = .ok (.iconst 0, 1) := by decide +kernel
theorem dX13_symbol_21 : decode cX13_symbol 21 = .ok (.istore 5, 2) := by decide +kernel
theorem dX13_symbol_23 : decode cX13_symbol 23 = .ok (.iload 5, 2) := by decide +kernel
theorem dX13_symbol_25 : decode cX13_symbol 25 = .ok (.sipush 256, 3) := by decide +kernel
theorem dX13_symbol_28 : decode cX13_symbol 28 = .ok (.if_icmp .ge 95, 3) := by decide +kernel
theorem dX13_symbol_31 : decode cX13_symbol 31 = .ok (.aload_n 0, 1) := by decide +kernel
theorem dX13_symbol_32 : decode cX13_symbol 32 = .ok (.getfield 49, 3) := by decide +kernel
theorem dX13_symbol_35 : decode cX13_symbol 35 = .ok (.sipush 256, 3) := by decide +kernel
theorem dX13_symbol_38 : decode cX13_symbol 38 = .ok (.iload_n 1, 1) := by decide +kernel
theorem dX13_symbol_39 : decode cX13_symbol 39 = .ok (.imul, 1) := by decide +kernel
theorem dX13_symbol_40 : decode cX13_symbol 40 = .ok (.iload 5, 2) := by decide +kernel
theorem dX13_symbol_42 : decode cX13_symbol 42 = .ok (.iadd, 1) := by decide +kernel
theorem dX13_symbol_43 : decode cX13_symbol 43 = .ok (.iaload, 1) := by decide +kernel
theorem dX13_symbol_44 : decode cX13_symbol 44 = .ok (.istore 6, 2) := by decide +kernel
theorem dX13_symbol_46 : decode cX13_symbol 46 = .ok (.iload 6, 2) := by decide +kernel
theorem dX13_symbol_48 : decode cX13_symbol 48 = .ok (.ifCond .le 29, 3) := by decide +kernel
theorem dX13_symbol_51 : decode cX13_symbol 51 = .ok (.iload 6, 2) := by decide +kernel
theorem dX13_symbol_53 : decode cX13_symbol 53 = .ok (.iload_n 3, 1) := by decide +kernel
theorem dX13_symbol_54 : decode cX13_symbol 54 = .ok (.if_icmp .ne 23, 3) := by decide +kernel
theorem dX13_symbol_57 : decode cX13_symbol 57 = .ok (.aload_n 0, 1) := by decide +kernel
theorem dX13_symbol_58 : decode cX13_symbol 58 = .ok (.getfield 52, 3) := by decide +kernel
theorem dX13_symbol_61 : decode cX13_symbol 61 = .ok (.sipush 256, 3) := by decide +kernel
theorem dX13_symbol_64 : decode cX13_symbol 64 = .ok (.iload_n 1, 1) := by decide +kernel
theorem dX13_symbol_65 : decode cX13_symbol 65 = .ok (.imul, 1) := by decide +kernel
theorem dX13_symbol_66 : decode cX13_symbol 66 = .ok (.iload 5, 2) := by decide +kernel
theorem dX13_symbol_68 : decode cX13_symbol 68 = .ok (.iadd, 1) := by decide +kernel
theorem dX13_symbol_69 : decode cX13_symbol 69 = .ok (.iaload, 1) := by decide +kernel
theorem dX13_symbol_70 : decode cX13_symbol 70 = .ok (.iload_n 2, 1) := by decide +kernel
theorem dX13_symbol_71 : decode cX13_symbol 71 = .ok (.if_icmp .ne 6, 3) := by decide +kernel
theorem dX13_symbol_74 : decode cX13_symbol 74 = .ok (.iload 5, 2) := by decide +kernel
theorem dX13_symbol_76 : decode cX13_symbol 76 = .ok (.ireturn, 1) := by decide +kernel
theorem dX13_symbol_77 : decode cX13_symbol 77 = .ok (.iload 4, 2) := by decide +kernel
theorem dX13_symbol_79 : decode cX13_symbol 79 = .ok (.ifCond .ne 31, 3) := by decide +kernel
theorem dX13_symbol_82 : decode cX13_symbol 82 = .ok (.iload 6, 2) := by decide +kernel
theorem dX13_symbol_84 : decode cX13_symbol 84 = .ok (.iload_n 3, 1) := by decide +kernel
theorem dX13_symbol_85 : decode cX13_symbol 85 = .ok (.if_icmp .le 29, 3) := by decide +kernel
theorem dX13_symbol_88 : decode cX13_symbol 88 = .ok (.aload_n 0, 1) := by decide +kernel
theorem dX13_symbol_89 : decode cX13_symbol 89 = .ok (.getfield 52, 3) := by decide +kernel
theorem dX13_symbol_92 : decode cX13_symbol 92 = .ok (.sipush 256, 3) := by decide +kernel
theorem dX13_symbol_95 : decode cX13_symbol 95 = .ok (.iload_n 1, 1) := by decide +kernel
theorem dX13_symbol_96 : decode cX13_symbol 96 = .ok (.imul, 1) := by decide +kernel
theorem dX13_symbol_97 : decode cX13_symbol 97 = .ok (.iload 5, 2) := by decide +kernel
theorem dX13_symbol_99 : decode cX13_symbol 99 = .ok (.iadd, 1) := by decide +kernel
theorem dX13_symbol_100 : decode cX13_symbol 100 = .ok (.iaload, 1) := by decide +kernel
theorem dX13_symbol_101 : decode cX13_symbol 101 = .ok (.iload 6, 2) := by decide +kernel
theorem dX13_symbol_103 : decode cX13_symbol 103 = .ok (.iload_n 3, 1) := by decide +kernel
theorem dX13_symbol_104 : decode cX13_symbol 104 = .ok (.isub, 1) := by decide +kernel
theorem dX13_symbol_105 : decode cX13_symbol 105 = .ok (.ishr, 1) := by decide +kernel
theorem dX13_symbol_106 : decode cX13_symbol 106 = .ok (.iload_n 2, 1) := by decide +kernel
theorem dX13_symbol_107 : decode cX13_symbol 107 = .ok (.if_icmp .ne 7, 3) := by decide +kernel
theorem dX13_symbol_110 : decode cX13_symbol 110 = .ok (.iconst 1, 1) := by decide +kernel
theorem dX13_symbol_111 : decode cX13_symbol 111 = .ok (.goto 4, 3) := by decide +kernel
theorem dX13_symbol_114 : decode cX13_symbol 114 = .ok (.iconst 0, 1) := by decide +kernel
theorem dX13_symbol_115 : decode cX13_symbol 115 = .ok (.istore 4, 2) := by decide +kernel
theorem dX13_symbol_117 : decode cX13_symbol 117 = .ok (.iinc 5 1, 3) := by decide +kernel
theorem dX13_symbol_120 : decode cX13_symbol 120 = .ok (.goto (-97), 3) := by decide +kernel
theorem dX13_symbol_123 : decode cX13_symbol 123 = .ok (.iload 4, 2) := by decide +kernel
theorem dX13_symbol_125 : decode cX13_symbol 125 = .ok (.ifCond .ne 9, 3) := by decide +kernel
theorem dX13_symbol_128 : decode cX13_symbol 128 = .ok (.aload_n 0, 1) := by decide +kernel
theorem dX13_symbol_129 : decode cX13_symbol 129 = .ok (.iconst 2, 1) := by decide +kernel
theorem dX13_symbol_130 : decode cX13_symbol 130 = .ok (.invokevirtual 248, 3) := by decide +kernel
theorem dX13_symbol_133 : decode cX13_symbol 133 = .ok (.ireturn, 1) := by decide +kernel
theorem dX13_symbol_134 : decode cX13_symbol 134 = .ok (.iconst 2, 1) := by decide +kernel
theorem dX13_symbol_135 : decode cX13_symbol 135 = .ok (.iload_n 2, 1) := by decide +kernel
theorem dX13_symbol_136 : decode cX13_symbol 136 = .ok (.imul, 1) := by decide +kernel
theorem dX13_symbol_137 : decode cX13_symbol 137 = .ok (.aload_n 0, 1) := by decide +kernel
theorem dX13_symbol_138 : decode cX13_symbol 138 = .ok (.invokevirtual 254, 3) := by decide +kernel
theorem dX13_symbol_141 : decode cX13_symbol 141 = .ok (.iadd, 1) := by decide +kernel
theorem dX13_symbol_142 : decode cX13_symbol 142 = .ok (.istore_n 2, 1) := by decide +kernel
theorem dX13_symbol_143 : decode cX13_symbol 143 = .ok (.iinc 3 1, 3) := by decide +kernel
theorem dX13_symbol_146 : decode cX13_symbol 146 = .ok (.goto (-142), 3) := by decide +kernel
theorem dX13_symbol_149 : decode cX13_symbol 149 = .ok (.iconst 0, 1) := by decide +kernel
theorem dX13_symbol_150 : decode cX13_symbol 150 = .ok (.ireturn, 1) := by decide +kernel
theorem kcX13_symbol_248 : px_cV mX13_symbol 248 mX13_wrong 1 := ⟨⟨mbX13_wrong, by decide, by decide⟩, Or.inl (tb9 (List.mem_of_getElem? (i := 37) rfl)), vbX13_wrong⟩
theorem kcX13_symbol_254 : px_cV mX13_symbol 254 mX13_takeBit 0 := ⟨⟨mbX13_takeBit, by decide, by decide⟩, Or.inl (tb9 (List.mem_of_getElem? (i := 57) rfl)), vbX13_takeBit⟩
set_option maxRecDepth 100000 in
set_option maxHeartbeats 4000000 in
theorem eX13_symbol_128 {X : px_X}  : ∀ (a0 : Nat) (w : px_W) (q : Int32 × px_W), fX13_symbol_128 X  a0 w = some q → EV X mX13_symbol 128 [(0, .ref a0)] [] w (some (.int q.1)) q.2 := by
  intro a0 w q h
  unfold fX13_symbol_128 at h
  refine EV.aload_n 0 dX13_symbol_128 rfl rfl ?_
  refine EV.iconst (2) dX13_symbol_129 (by decide) ?_
  obtain ⟨o12, go12, h⟩ := px_bs h
  obtain ⟨q13, gq13, h⟩ := px_bs h
  refine EV.callV (As := [.int 2]) (rest := []) dX13_symbol_130 kcX13_symbol_248 (gO_ok go12) rfl rfl rfl (Nat.le_of_ble_eq_true rfl) (Nat.le_of_ble_eq_true rfl) (eX13_wrong gq13) ?_
  cases h
  exact EV.reti dX13_symbol_133 rfl
set_option maxRecDepth 100000 in
set_option maxHeartbeats 4000000 in
theorem eX13_symbol_123 {X : px_X} {k4 : Nat → Int32 → Int32 → Int32 → px_W → Option (Int32 × px_W)} (hk4 : ∀ (a0 : Nat) (a1 : Int32) (a2 : Int32) (a3 : Int32) (w : px_W) (q : Int32 × px_W), k4 a0 a1 a2 a3 w = some q → EV X mX13_symbol 4 [(0, .ref a0), (1, .int a1), (2, .int a2), (3, .int a3)] [] w (some (.int q.1)) q.2) : ∀ (a0 : Nat) (a1 : Int32) (a2 : Int32) (a3 : Int32) (a4 : Int32) (w : px_W) (q : Int32 × px_W), fX13_symbol_123 X k4 a0 a1 a2 a3 a4 w = some q → EV X mX13_symbol 123 [(0, .ref a0), (1, .int a1), (2, .int a2), (3, .int a3), (4, .int a4)] [] w (some (.int q.1)) q.2 := by
  intro a0 a1 a2 a3 a4 w q h
  unfold fX13_symbol_123 at h
  refine EV.iload 4 dX13_symbol_123 rfl ?_
  refine EV.if_ne 134 dX13_symbol_125 (by decide) (fun c14 => ?_) (fun c14 => ?_)
  · rw [if_neg c14] at h
    refine EV.iconst (2) dX13_symbol_134 (by decide) ?_
    refine EV.iload_n 2 dX13_symbol_135 rfl rfl ?_
    refine EV.imul dX13_symbol_136 ?_
    refine EV.aload_n 0 dX13_symbol_137 rfl rfl ?_
    obtain ⟨o15, go15, h⟩ := px_bs h
    obtain ⟨q16, gq16, h⟩ := px_bs h
    refine EV.callV (As := []) (rest := [.int (2 * a2)]) dX13_symbol_138 kcX13_symbol_254 (gO_ok go15) rfl rfl rfl (Nat.le_of_ble_eq_true rfl) (Nat.le_of_ble_eq_true rfl) (eX13_takeBit gq16) ?_
    refine EV.iadd dX13_symbol_141 ?_
    refine EV.istore_n [(2, .int ((2 * a2) + q16.1)), (0, .ref a0), (1, .int a1), (3, .int a3), (4, .int a4)] dX13_symbol_142 rfl (by decide) rfl ?_
    refine EV.iinc 3 (a3 + 1) [(3, .int (a3 + 1)), (2, .int ((2 * a2) + q16.1)), (0, .ref a0), (1, .int a1), (4, .int a4)] dX13_symbol_143 rfl rfl (by decide) rfl ?_
    refine EV.goto 4 dX13_symbol_146 (by decide) ?_
    refine EV.sub [2, 3, 1, 0] rfl ?_
    exact hk4 _ _ _ _ _ _ h
  · rw [if_pos c14] at h
    refine EV.sub [0] rfl ?_
    exact eX13_symbol_128  _ _ _ h
set_option maxRecDepth 100000 in
set_option maxHeartbeats 4000000 in
theorem eX13_symbol_115 {X : px_X} {k4 : Nat → Int32 → Int32 → Int32 → px_W → Option (Int32 × px_W)} (hk4 : ∀ (a0 : Nat) (a1 : Int32) (a2 : Int32) (a3 : Int32) (w : px_W) (q : Int32 × px_W), k4 a0 a1 a2 a3 w = some q → EV X mX13_symbol 4 [(0, .ref a0), (1, .int a1), (2, .int a2), (3, .int a3)] [] w (some (.int q.1)) q.2) {k23 : Nat → Int32 → Int32 → Int32 → Int32 → Int32 → px_W → Option (Int32 × px_W)} (hk23 : ∀ (a0 : Nat) (a1 : Int32) (a2 : Int32) (a3 : Int32) (a4 : Int32) (a5 : Int32) (w : px_W) (q : Int32 × px_W), k23 a0 a1 a2 a3 a4 a5 w = some q → EV X mX13_symbol 23 [(0, .ref a0), (1, .int a1), (2, .int a2), (3, .int a3), (4, .int a4), (5, .int a5)] [] w (some (.int q.1)) q.2) : ∀ (a0 : Nat) (a1 : Int32) (a2 : Int32) (a3 : Int32) (a5 : Int32) (s0 : Int32) (w : px_W) (q : Int32 × px_W), fX13_symbol_115 X k4 k23 a0 a1 a2 a3 a5 s0 w = some q → EV X mX13_symbol 115 [(0, .ref a0), (1, .int a1), (2, .int a2), (3, .int a3), (5, .int a5)] [.int s0] w (some (.int q.1)) q.2 := by
  intro a0 a1 a2 a3 a5 s0 w q h
  unfold fX13_symbol_115 at h
  refine EV.istore [(4, .int s0), (0, .ref a0), (1, .int a1), (2, .int a2), (3, .int a3), (5, .int a5)] dX13_symbol_115 (by decide) rfl ?_
  refine EV.iinc 5 (a5 + 1) [(5, .int (a5 + 1)), (4, .int s0), (0, .ref a0), (1, .int a1), (2, .int a2), (3, .int a3)] dX13_symbol_117 rfl rfl (by decide) rfl ?_
  refine EV.goto 23 dX13_symbol_120 (by decide) ?_
  refine EV.sub [2, 3, 4, 5, 1, 0] rfl ?_
  exact hk23 _ _ _ _ _ _ _ _ h
set_option maxRecDepth 100000 in
set_option maxHeartbeats 4000000 in
theorem eX13_symbol_114 {X : px_X} {k4 : Nat → Int32 → Int32 → Int32 → px_W → Option (Int32 × px_W)} (hk4 : ∀ (a0 : Nat) (a1 : Int32) (a2 : Int32) (a3 : Int32) (w : px_W) (q : Int32 × px_W), k4 a0 a1 a2 a3 w = some q → EV X mX13_symbol 4 [(0, .ref a0), (1, .int a1), (2, .int a2), (3, .int a3)] [] w (some (.int q.1)) q.2) {k23 : Nat → Int32 → Int32 → Int32 → Int32 → Int32 → px_W → Option (Int32 × px_W)} (hk23 : ∀ (a0 : Nat) (a1 : Int32) (a2 : Int32) (a3 : Int32) (a4 : Int32) (a5 : Int32) (w : px_W) (q : Int32 × px_W), k23 a0 a1 a2 a3 a4 a5 w = some q → EV X mX13_symbol 23 [(0, .ref a0), (1, .int a1), (2, .int a2), (3, .int a3), (4, .int a4), (5, .int a5)] [] w (some (.int q.1)) q.2) : ∀ (a0 : Nat) (a1 : Int32) (a2 : Int32) (a3 : Int32) (a5 : Int32) (w : px_W) (q : Int32 × px_W), fX13_symbol_114 X k4 k23 a0 a1 a2 a3 a5 w = some q → EV X mX13_symbol 114 [(0, .ref a0), (1, .int a1), (2, .int a2), (3, .int a3), (5, .int a5)] [] w (some (.int q.1)) q.2 := by
  intro a0 a1 a2 a3 a5 w q h
  unfold fX13_symbol_114 at h
  refine EV.iconst (0) dX13_symbol_114 (by decide) ?_
  refine EV.sub [0, 1, 2, 3, 4] rfl ?_
  exact eX13_symbol_115 hk4 hk23 _ _ _ _ _ _ _ _ h
set_option maxRecDepth 100000 in
set_option maxHeartbeats 4000000 in
theorem eX13_symbol_110 {X : px_X} {k4 : Nat → Int32 → Int32 → Int32 → px_W → Option (Int32 × px_W)} (hk4 : ∀ (a0 : Nat) (a1 : Int32) (a2 : Int32) (a3 : Int32) (w : px_W) (q : Int32 × px_W), k4 a0 a1 a2 a3 w = some q → EV X mX13_symbol 4 [(0, .ref a0), (1, .int a1), (2, .int a2), (3, .int a3)] [] w (some (.int q.1)) q.2) {k23 : Nat → Int32 → Int32 → Int32 → Int32 → Int32 → px_W → Option (Int32 × px_W)} (hk23 : ∀ (a0 : Nat) (a1 : Int32) (a2 : Int32) (a3 : Int32) (a4 : Int32) (a5 : Int32) (w : px_W) (q : Int32 × px_W), k23 a0 a1 a2 a3 a4 a5 w = some q → EV X mX13_symbol 23 [(0, .ref a0), (1, .int a1), (2, .int a2), (3, .int a3), (4, .int a4), (5, .int a5)] [] w (some (.int q.1)) q.2) : ∀ (a0 : Nat) (a1 : Int32) (a2 : Int32) (a3 : Int32) (a5 : Int32) (w : px_W) (q : Int32 × px_W), fX13_symbol_110 X k4 k23 a0 a1 a2 a3 a5 w = some q → EV X mX13_symbol 110 [(0, .ref a0), (1, .int a1), (2, .int a2), (3, .int a3), (5, .int a5)] [] w (some (.int q.1)) q.2 := by
  intro a0 a1 a2 a3 a5 w q h
  unfold fX13_symbol_110 at h
  refine EV.iconst (1) dX13_symbol_110 (by decide) ?_
  refine EV.goto 115 dX13_symbol_111 (by decide) ?_
  refine EV.sub [0, 1, 2, 3, 4] rfl ?_
  exact eX13_symbol_115 hk4 hk23 _ _ _ _ _ _ _ _ h
set_option maxRecDepth 100000 in
set_option maxHeartbeats 4000000 in
theorem eX13_symbol_77 {X : px_X} {k4 : Nat → Int32 → Int32 → Int32 → px_W → Option (Int32 × px_W)} (hk4 : ∀ (a0 : Nat) (a1 : Int32) (a2 : Int32) (a3 : Int32) (w : px_W) (q : Int32 × px_W), k4 a0 a1 a2 a3 w = some q → EV X mX13_symbol 4 [(0, .ref a0), (1, .int a1), (2, .int a2), (3, .int a3)] [] w (some (.int q.1)) q.2) {k23 : Nat → Int32 → Int32 → Int32 → Int32 → Int32 → px_W → Option (Int32 × px_W)} (hk23 : ∀ (a0 : Nat) (a1 : Int32) (a2 : Int32) (a3 : Int32) (a4 : Int32) (a5 : Int32) (w : px_W) (q : Int32 × px_W), k23 a0 a1 a2 a3 a4 a5 w = some q → EV X mX13_symbol 23 [(0, .ref a0), (1, .int a1), (2, .int a2), (3, .int a3), (4, .int a4), (5, .int a5)] [] w (some (.int q.1)) q.2) : ∀ (a0 : Nat) (a1 : Int32) (a2 : Int32) (a3 : Int32) (a4 : Int32) (a5 : Int32) (a6 : Int32) (w : px_W) (q : Int32 × px_W), fX13_symbol_77 X k4 k23 a0 a1 a2 a3 a4 a5 a6 w = some q → EV X mX13_symbol 77 [(0, .ref a0), (1, .int a1), (2, .int a2), (3, .int a3), (4, .int a4), (5, .int a5), (6, .int a6)] [] w (some (.int q.1)) q.2 := by
  intro a0 a1 a2 a3 a4 a5 a6 w q h
  unfold fX13_symbol_77 at h
  refine EV.iload 4 dX13_symbol_77 rfl ?_
  refine EV.if_ne 110 dX13_symbol_79 (by decide) (fun c17 => ?_) (fun c17 => ?_)
  · rw [if_neg c17] at h
    refine EV.sub [0, 1, 2, 3, 5] rfl ?_
    exact eX13_symbol_110 hk4 hk23 _ _ _ _ _ _ _ h
  · rw [if_pos c17] at h
    refine EV.iload 6 dX13_symbol_82 rfl ?_
    refine EV.iload_n 3 dX13_symbol_84 rfl rfl ?_
    refine EV.icmp_le 114 dX13_symbol_85 (by decide) (fun c18 => ?_) (fun c18 => ?_)
    · rw [if_pos c18] at h
      refine EV.sub [0, 1, 2, 3, 5] rfl ?_
      exact eX13_symbol_114 hk4 hk23 _ _ _ _ _ _ _ h
    · rw [if_neg c18] at h
      refine EV.aload_n 0 dX13_symbol_88 rfl rfl ?_
      obtain ⟨v19, gv19, h⟩ := px_bs h
      refine ev_gR dX13_symbol_89 flRX13_52 gv19 ?_
      refine EV.sipush (256) dX13_symbol_92 (by decide) ?_
      refine EV.iload_n 1 dX13_symbol_95 rfl rfl ?_
      refine EV.imul dX13_symbol_96 ?_
      refine EV.iload 5 dX13_symbol_97 rfl ?_
      refine EV.iadd dX13_symbol_99 ?_
      obtain ⟨v20, gv20, h⟩ := px_bs h
      refine ev_aI dX13_symbol_100 gv20 ?_
      refine EV.iload 6 dX13_symbol_101 rfl ?_
      refine EV.iload_n 3 dX13_symbol_103 rfl rfl ?_
      refine EV.isub dX13_symbol_104 ?_
      refine EV.ishr dX13_symbol_105 ?_
      refine EV.iload_n 2 dX13_symbol_106 rfl rfl ?_
      refine EV.icmp_ne 114 dX13_symbol_107 (by decide) (fun c21 => ?_) (fun c21 => ?_)
      · rw [if_neg c21] at h
        refine EV.sub [0, 1, 2, 3, 5] rfl ?_
        exact eX13_symbol_114 hk4 hk23 _ _ _ _ _ _ _ h
      · rw [if_pos c21] at h
        refine EV.sub [0, 1, 2, 3, 5] rfl ?_
        exact eX13_symbol_110 hk4 hk23 _ _ _ _ _ _ _ h
set_option maxRecDepth 100000 in
set_option maxHeartbeats 4000000 in
theorem eX13_symbol_23 {X : px_X} {k4 : Nat → Int32 → Int32 → Int32 → px_W → Option (Int32 × px_W)} (hk4 : ∀ (a0 : Nat) (a1 : Int32) (a2 : Int32) (a3 : Int32) (w : px_W) (q : Int32 × px_W), k4 a0 a1 a2 a3 w = some q → EV X mX13_symbol 4 [(0, .ref a0), (1, .int a1), (2, .int a2), (3, .int a3)] [] w (some (.int q.1)) q.2) : ∀ (m : Nat) (a0 : Nat) (a1 : Int32) (a2 : Int32) (a3 : Int32) (a4 : Int32) (a5 : Int32) (w : px_W) (q : Int32 × px_W), fX13_symbol_23 X k4 m a0 a1 a2 a3 a4 a5 w = some q → EV X mX13_symbol 23 [(0, .ref a0), (1, .int a1), (2, .int a2), (3, .int a3), (4, .int a4), (5, .int a5)] [] w (some (.int q.1)) q.2 := by
  intro m
  induction m with
  | zero => intro a0 a1 a2 a3 a4 a5 w q h; cases h
  | succ m ih =>
    intro a0 a1 a2 a3 a4 a5 w q h
    rw [fX13_symbol_23.eq_2] at h
    refine EV.iload 5 dX13_symbol_23 rfl ?_
    refine EV.sipush (256) dX13_symbol_25 (by decide) ?_
    refine EV.icmp_ge 123 dX13_symbol_28 (by decide) (fun c22 => ?_) (fun c22 => ?_)
    · rw [if_pos c22] at h
      refine EV.sub [0, 1, 2, 3, 4] rfl ?_
      exact eX13_symbol_123 hk4 _ _ _ _ _ _ _ h
    · rw [if_neg c22] at h
      refine EV.aload_n 0 dX13_symbol_31 rfl rfl ?_
      obtain ⟨v23, gv23, h⟩ := px_bs h
      refine ev_gR dX13_symbol_32 flRX13_49 gv23 ?_
      refine EV.sipush (256) dX13_symbol_35 (by decide) ?_
      refine EV.iload_n 1 dX13_symbol_38 rfl rfl ?_
      refine EV.imul dX13_symbol_39 ?_
      refine EV.iload 5 dX13_symbol_40 rfl ?_
      refine EV.iadd dX13_symbol_42 ?_
      obtain ⟨v24, gv24, h⟩ := px_bs h
      refine ev_aI dX13_symbol_43 gv24 ?_
      refine EV.istore [(6, .int v24), (0, .ref a0), (1, .int a1), (2, .int a2), (3, .int a3), (4, .int a4), (5, .int a5)] dX13_symbol_44 (by decide) rfl ?_
      refine EV.iload 0 dX13_symbol_46 rfl ?_
      refine EV.if_le 77 dX13_symbol_48 (by decide) (fun c25 => ?_) (fun c25 => ?_)
      · rw [if_pos c25] at h
        refine EV.sub [1, 2, 3, 4, 5, 6, 0] rfl ?_
        exact eX13_symbol_77 hk4 ih _ _ _ _ _ _ _ _ _ h
      · rw [if_neg c25] at h
        refine EV.iload 0 dX13_symbol_51 rfl ?_
        refine EV.iload_n 4 dX13_symbol_53 rfl rfl ?_
        refine EV.icmp_ne 77 dX13_symbol_54 (by decide) (fun c26 => ?_) (fun c26 => ?_)
        · rw [if_neg c26] at h
          refine EV.sub [1, 2, 3, 4, 5, 6, 0] rfl ?_
          exact eX13_symbol_77 hk4 ih _ _ _ _ _ _ _ _ _ h
        · rw [if_pos c26] at h
          refine EV.aload_n 1 dX13_symbol_57 rfl rfl ?_
          obtain ⟨v27, gv27, h⟩ := px_bs h
          refine ev_gR dX13_symbol_58 flRX13_52 gv27 ?_
          refine EV.sipush (256) dX13_symbol_61 (by decide) ?_
          refine EV.iload_n 2 dX13_symbol_64 rfl rfl ?_
          refine EV.imul dX13_symbol_65 ?_
          refine EV.iload 6 dX13_symbol_66 rfl ?_
          refine EV.iadd dX13_symbol_68 ?_
          obtain ⟨v28, gv28, h⟩ := px_bs h
          refine ev_aI dX13_symbol_69 gv28 ?_
          refine EV.iload_n 3 dX13_symbol_70 rfl rfl ?_
          refine EV.icmp_ne 77 dX13_symbol_71 (by decide) (fun c29 => ?_) (fun c29 => ?_)
          · rw [if_neg c29] at h
            refine EV.sub [1, 2, 3, 4, 5, 6, 0] rfl ?_
            exact eX13_symbol_77 hk4 ih _ _ _ _ _ _ _ _ _ h
          · rw [if_pos c29] at h
            refine EV.iload 6 dX13_symbol_74 rfl ?_
            cases h
            exact EV.reti dX13_symbol_76 rfl
set_option maxRecDepth 100000 in
set_option maxHeartbeats 4000000 in
theorem eX13_symbol_4 {X : px_X}  : ∀ (m : Nat) (a0 : Nat) (a1 : Int32) (a2 : Int32) (a3 : Int32) (w : px_W) (q : Int32 × px_W), fX13_symbol_4 X  m a0 a1 a2 a3 w = some q → EV X mX13_symbol 4 [(0, .ref a0), (1, .int a1), (2, .int a2), (3, .int a3)] [] w (some (.int q.1)) q.2 := by
  intro m
  induction m with
  | zero => intro a0 a1 a2 a3 w q h; cases h
  | succ m ih =>
    intro a0 a1 a2 a3 w q h
    rw [fX13_symbol_4.eq_2] at h
    refine EV.iload_n 3 dX13_symbol_4 rfl rfl ?_
    refine EV.bipush (16) dX13_symbol_5 (by decide) ?_
    refine EV.icmp_gt 149 dX13_symbol_7 (by decide) (fun c30 => ?_) (fun c30 => ?_)
    · rw [if_pos c30] at h
      refine EV.iconst (0) dX13_symbol_149 (by decide) ?_
      cases h
      exact EV.reti dX13_symbol_150 rfl
    · rw [if_neg c30] at h
      refine EV.aload_n 0 dX13_symbol_10 rfl rfl ?_
      obtain ⟨v31, gv31, h⟩ := px_bs h
      refine ev_gI dX13_symbol_11 flRX13_236 gv31 ?_
      refine EV.if_ne 149 dX13_symbol_14 (by decide) (fun c32 => ?_) (fun c32 => ?_)
      · rw [if_neg c32] at h
        refine EV.iconst (0) dX13_symbol_149 (by decide) ?_
        cases h
        exact EV.reti dX13_symbol_150 rfl
      · rw [if_pos c32] at h
        refine EV.iconst (0) dX13_symbol_17 (by decide) ?_
        refine EV.istore [(4, .int 0), (0, .ref a0), (1, .int a1), (2, .int a2), (3, .int a3)] dX13_symbol_18 (by decide) rfl ?_
        refine EV.iconst (0) dX13_symbol_20 (by decide) ?_
        refine EV.istore [(5, .int 0), (4, .int 0), (0, .ref a0), (1, .int a1), (2, .int a2), (3, .int a3)] dX13_symbol_21 (by decide) rfl ?_
        refine EV.sub [2, 3, 4, 5, 1, 0] rfl ?_
        exact eX13_symbol_23 ih FU _ _ _ _ _ _ _ _ h
set_option maxRecDepth 100000 in
set_option maxHeartbeats 4000000 in
theorem eX13_symbol {X : px_X} {w : px_W} {a0 : Nat} {a1 : Int32} {q : Int32 × px_W} (h : fX13_symbol X w a0 a1 = some q) : EV X mX13_symbol 0 (lv_args 0 [.ref a0, .int a1]) [] w (some (.int q.1)) q.2 := by
  unfold fX13_symbol at h
  show EV X mX13_symbol 0 [(0, .ref a0), (1, .int a1)] [] w (some (.int q.1)) q.2
  refine EV.iconst (0) dX13_symbol_0 (by decide) ?_
  refine EV.istore_n [(2, .int 0), (0, .ref a0), (1, .int a1)] dX13_symbol_1 rfl (by decide) rfl ?_
  refine EV.iconst (0) dX13_symbol_2 (by decide) ?_
  refine EV.istore_n [(3, .int 0), (2, .int 0), (0, .ref a0), (1, .int a1)] dX13_symbol_3 rfl (by decide) rfl ?_
  refine EV.sub [2, 3, 1, 0] rfl ?_
  exact eX13_symbol_4  FU _ _ _ _ _ _ h
/-! WavePicturesModel$Scans.numberOf(I)I -/
theorem dX13_numberOf_0 : decode cX13_numberOf 0 = .ok (.aload_n 0, 1) := by decide +kernel
theorem dX13_numberOf_1 : decode cX13_numberOf 1 = .ok (.iload_n 1, 1) := by decide +kernel
theorem dX13_numberOf_2 : decode cX13_numberOf 2 = .ok (.invokevirtual 257, 3) := by decide +kernel
theorem dX13_numberOf_5 : decode cX13_numberOf 5 = .ok (.istore_n 2, 1) := by decide +kernel
theorem dX13_numberOf_6 : decode cX13_numberOf 6 = .ok (.iload_n 1, 1) := by decide +kernel
theorem dX13_numberOf_7 : decode cX13_numberOf 7 = .ok (.ifCond .ne 7, 3) := by decide +kernel
theorem dX13_numberOf_10 : decode cX13_numberOf 10 = .ok (.iconst 0, 1) := by decide +kernel
theorem dX13_numberOf_11 : decode cX13_numberOf 11 = .ok (.goto 23, 3) := by decide +kernel
theorem dX13_numberOf_14 : decode cX13_numberOf 14 = .ok (.iload_n 2, 1) := by decide +kernel
theorem dX13_numberOf_15 : decode cX13_numberOf 15 = .ok (.iload_n 1, 1) := by decide +kernel
theorem dX13_numberOf_16 : decode cX13_numberOf 16 = .ok (.iconst 1, 1) := by decide +kernel
theorem dX13_numberOf_17 : decode cX13_numberOf 17 = .ok (.isub, 1) := by decide +kernel
theorem dX13_numberOf_18 : decode cX13_numberOf 18 = .ok (.ishr, 1) := by decide +kernel
theorem dX13_numberOf_19 : decode cX13_numberOf 19 = .ok (.iconst 1, 1) := by decide +kernel
theorem dX13_numberOf_20 : decode cX13_numberOf 20 = .ok (.if_icmp .ne 7, 3) := by decide +kernel
theorem dX13_numberOf_23 : decode cX13_numberOf 23 = .ok (.iload_n 2, 1) := by decide +kernel
theorem dX13_numberOf_24 : decode cX13_numberOf 24 = .ok (.goto 10, 3) := by decide +kernel
theorem dX13_numberOf_27 : decode cX13_numberOf 27 = .ok (.iload_n 2, 1) := by decide +kernel
theorem dX13_numberOf_28 : decode cX13_numberOf 28 = .ok (.iconst 1, 1) := by decide +kernel
theorem dX13_numberOf_29 : decode cX13_numberOf 29 = .ok (.iload_n 1, 1) := by decide +kernel
theorem dX13_numberOf_30 : decode cX13_numberOf 30 = .ok (.ishl, 1) := by decide +kernel
theorem dX13_numberOf_31 : decode cX13_numberOf 31 = .ok (.isub, 1) := by decide +kernel
theorem dX13_numberOf_32 : decode cX13_numberOf 32 = .ok (.iconst 1, 1) := by decide +kernel
theorem dX13_numberOf_33 : decode cX13_numberOf 33 = .ok (.iadd, 1) := by decide +kernel
theorem dX13_numberOf_34 : decode cX13_numberOf 34 = .ok (.ireturn, 1) := by decide +kernel
theorem mbX13_takeBits : px_mB mX13_takeBits 1 := ⟨tb9 (List.mem_of_getElem? (i := 72) rfl), by decide +kernel, tb1 (List.mem_of_getElem? (i := 15) rfl), by decide +kernel, by decide +kernel⟩
theorem vbX13_takeBits : px_vB mX13_takeBits := ⟨tb9 (List.mem_of_getElem? (i := 71) rfl), List.mem_append_left _ (List.mem_of_getElem? (i := 125) (by decide +kernel))⟩
theorem kcX13_numberOf_257 : px_cV mX13_numberOf 257 mX13_takeBits 1 := ⟨⟨mbX13_takeBits, by decide, by decide⟩, Or.inl (tb9 (List.mem_of_getElem? (i := 69) rfl)), vbX13_takeBits⟩
set_option maxRecDepth 100000 in
set_option maxHeartbeats 4000000 in
theorem eX13_numberOf {X : px_X} {w : px_W} {a0 : Nat} {a1 : Int32} {q : Int32 × px_W} (h : fX13_numberOf X w a0 a1 = some q) : EV X mX13_numberOf 0 (lv_args 0 [.ref a0, .int a1]) [] w (some (.int q.1)) q.2 := by
  unfold fX13_numberOf at h
  show EV X mX13_numberOf 0 [(0, .ref a0), (1, .int a1)] [] w (some (.int q.1)) q.2
  refine EV.aload_n 0 dX13_numberOf_0 rfl rfl ?_
  refine EV.iload_n 1 dX13_numberOf_1 rfl rfl ?_
  obtain ⟨o3, go3, h⟩ := px_bs h
  obtain ⟨q4, gq4, h⟩ := px_bs h
  refine EV.callV (As := [.int a1]) (rest := []) dX13_numberOf_2 kcX13_numberOf_257 (gO_ok go3) rfl rfl rfl (Nat.le_of_ble_eq_true rfl) (Nat.le_of_ble_eq_true rfl) (eX13_takeBits gq4) ?_
  refine EV.istore_n [(2, .int q4.1), (0, .ref a0), (1, .int a1)] dX13_numberOf_5 rfl (by decide) rfl ?_
  refine EV.iload_n 2 dX13_numberOf_6 rfl rfl ?_
  refine EV.if_ne 14 dX13_numberOf_7 (by decide) (fun c5 => ?_) (fun c5 => ?_)
  · rw [if_neg c5] at h
    refine EV.iload_n 0 dX13_numberOf_14 rfl rfl ?_
    refine EV.iload_n 2 dX13_numberOf_15 rfl rfl ?_
    refine EV.iconst (1) dX13_numberOf_16 (by decide) ?_
    refine EV.isub dX13_numberOf_17 ?_
    refine EV.ishr dX13_numberOf_18 ?_
    refine EV.iconst (1) dX13_numberOf_19 (by decide) ?_
    refine EV.icmp_ne 27 dX13_numberOf_20 (by decide) (fun c6 => ?_) (fun c6 => ?_)
    · rw [if_neg c6] at h
      refine EV.iload_n 0 dX13_numberOf_27 rfl rfl ?_
      refine EV.iconst (1) dX13_numberOf_28 (by decide) ?_
      refine EV.iload_n 2 dX13_numberOf_29 rfl rfl ?_
      refine EV.ishl dX13_numberOf_30 ?_
      refine EV.isub dX13_numberOf_31 ?_
      refine EV.iconst (1) dX13_numberOf_32 (by decide) ?_
      refine EV.iadd dX13_numberOf_33 ?_
      cases h
      exact EV.reti dX13_numberOf_34 rfl
    · rw [if_pos c6] at h
      refine EV.iload_n 0 dX13_numberOf_23 rfl rfl ?_
      refine EV.goto 34 dX13_numberOf_24 (by decide) ?_
      cases h
      exact EV.reti dX13_numberOf_34 rfl
  · rw [if_pos c5] at h
    refine EV.iconst (0) dX13_numberOf_10 (by decide) ?_
    refine EV.goto 34 dX13_numberOf_11 (by decide) ?_
    cases h
    exact EV.reti dX13_numberOf_34 rfl
/-! WavePicturesModel$Scans.become(IIII)V -/
theorem dX13_become_0 : decode cX13_become 0 = .ok (.aload_n 0, 1) := by decide +kernel
theorem dX13_become_1 : decode cX13_become 1 = .ok (.getfield 236, 3) := by decide +kernel
theorem dX13_become_4 : decode cX13_become 4 = .ok (.ifCond .ne 19, 3) := by decide +kernel
theorem dX13_become_7 : decode cX13_become 7 = .ok (.iload_n 3, 1) := by decide +kernel
theorem dX13_become_8 : decode cX13_become 8 = .ok (.iload 4, 2) := by decide +kernel
theorem dX13_become_10 : decode cX13_become 10 = .ok (.invokestatic 260, 3) := by decide +kernel
theorem dX13_become_13 : decode cX13_become 13 = .ok (.ifCond .ne 10, 3) := by decide +kernel
theorem dX13_become_16 : decode cX13_become 16 = .ok (.aload_n 0, 1) := by decide +kernel
theorem dX13_become_17 : decode cX13_become 17 = .ok (.iconst 4, 1) := by decide +kernel
theorem dX13_become_18 : decode cX13_become 18 = .ok (.invokevirtual 248, 3) := by decide +kernel
theorem dX13_become_21 : decode cX13_become 21 = .ok (.istore 5, 2) := by decide +kernel
theorem dX13_become_23 : decode cX13_become 23 = .ok (.aload_n 0, 1) := by decide +kernel
theorem dX13_become_24 : decode cX13_become 24 = .ok (.getfield 236, 3) := by decide +kernel
theorem dX13_become_27 : decode cX13_become 27 = .ok (.ifCond .ne 24, 3) := by decide +kernel
theorem dX13_become_30 : decode cX13_become 30 = .ok (.aload_n 0, 1) := by decide +kernel
theorem dX13_become_31 : decode cX13_become 31 = .ok (.getfield 33, 3) := by decide +kernel
theorem dX13_become_34 : decode cX13_become 34 = .ok (.bipush 64, 2) := by decide +kernel
theorem dX13_become_36 : decode cX13_become 36 = .ok (.aload_n 0, 1) := by decide +kernel
theorem dX13_become_37 : decode cX13_become 37 = .ok (.getfield 30, 3) := by decide +kernel
theorem dX13_become_40 : decode cX13_become 40 = .ok (.iload_n 1, 1) := by decide +kernel
theorem dX13_become_41 : decode cX13_become 41 = .ok (.iaload, 1) := by decide +kernel
theorem dX13_become_42 : decode cX13_become 42 = .ok (.iload_n 2, 1) := by decide +kernel
theorem dX13_become_43 : decode cX13_become 43 = .ok (.iadd, 1) := by decide +kernel
theorem dX13_become_44 : decode cX13_become 44 = .ok (.imul, 1) := by decide +kernel
theorem dX13_become_45 : decode cX13_become 45 = .ok (.iload_n 3, 1) := by decide +kernel
theorem dX13_become_46 : decode cX13_become 46 = .ok (.iadd, 1) := by decide +kernel
theorem dX13_become_47 : decode cX13_become 47 = .ok (.iload 4, 2) := by decide +kernel
theorem dX13_become_49 : decode cX13_become 49 = .ok (.i2s, 1) := by decide +kernel
theorem dX13_become_50 : decode cX13_become 50 = .ok (.sastore, 1) := by decide +kernel
theorem dX13_become_51 : decode cX13_become 51 = .ok (.return_, 1) := by decide +kernel
theorem kcX13_become_248 : px_cV mX13_become 248 mX13_wrong 1 := ⟨⟨mbX13_wrong, by decide, by decide⟩, Or.inl (tb9 (List.mem_of_getElem? (i := 37) rfl)), vbX13_wrong⟩
theorem mbX13_canBe : px_mB mX13_canBe 2 := ⟨tb9 (List.mem_of_getElem? (i := 79) rfl), by decide +kernel, tb1 (List.mem_of_getElem? (i := 15) rfl), by decide +kernel, by decide +kernel⟩
theorem kcX13_become_260 : px_cS mX13_become 260 mX13_canBe 2 := ⟨⟨mbX13_canBe, by decide, by decide⟩, Or.inl (tb9 (List.mem_of_getElem? (i := 77) rfl)), tb9 (List.mem_of_getElem? (i := 78) rfl)⟩
set_option maxRecDepth 100000 in
set_option maxHeartbeats 4000000 in
theorem eX13_become_23 {X : px_X}  : ∀ (a0 : Nat) (a1 : Int32) (a2 : Int32) (a3 : Int32) (a4 : Int32) (w : px_W) (q : px_W), fX13_become_23 X  a0 a1 a2 a3 a4 w = some q → EV X mX13_become 23 [(0, .ref a0), (1, .int a1), (2, .int a2), (3, .int a3), (4, .int a4)] [] w none q := by
  intro a0 a1 a2 a3 a4 w q h
  unfold fX13_become_23 at h
  refine EV.aload_n 0 dX13_become_23 rfl rfl ?_
  obtain ⟨v10, gv10, h⟩ := px_bs h
  refine ev_gI dX13_become_24 flRX13_236 gv10 ?_
  refine EV.if_ne 51 dX13_become_27 (by decide) (fun c11 => ?_) (fun c11 => ?_)
  · rw [if_neg c11] at h
    cases h
    exact EV.ret0 dX13_become_51 trivial
  · rw [if_pos c11] at h
    refine EV.aload_n 0 dX13_become_30 rfl rfl ?_
    obtain ⟨v12, gv12, h⟩ := px_bs h
    refine ev_gR dX13_become_31 flRX13_33 gv12 ?_
    refine EV.bipush (64) dX13_become_34 (by decide) ?_
    refine EV.aload_n 0 dX13_become_36 rfl rfl ?_
    obtain ⟨v13, gv13, h⟩ := px_bs h
    refine ev_gR dX13_become_37 flRX13_30 gv13 ?_
    refine EV.iload_n 1 dX13_become_40 rfl rfl ?_
    obtain ⟨v14, gv14, h⟩ := px_bs h
    refine ev_aI dX13_become_41 gv14 ?_
    refine EV.iload_n 2 dX13_become_42 rfl rfl ?_
    refine EV.iadd dX13_become_43 ?_
    refine EV.imul dX13_become_44 ?_
    refine EV.iload_n 3 dX13_become_45 rfl rfl ?_
    refine EV.iadd dX13_become_46 ?_
    refine EV.iload 4 dX13_become_47 rfl ?_
    refine EV.i2s dX13_become_49 ?_
    obtain ⟨w15, gw15, h⟩ := px_bs h
    refine ev_sS dX13_become_50 gw15 ?_
    cases h
    exact EV.ret0 dX13_become_51 trivial
set_option maxRecDepth 100000 in
set_option maxHeartbeats 4000000 in
theorem eX13_become {X : px_X} {w : px_W} {a0 : Nat} {a1 : Int32} {a2 : Int32} {a3 : Int32} {a4 : Int32} {q : px_W} (h : fX13_become X w a0 a1 a2 a3 a4 = some q) : EV X mX13_become 0 (lv_args 0 [.ref a0, .int a1, .int a2, .int a3, .int a4]) [] w none q := by
  unfold fX13_become at h
  show EV X mX13_become 0 [(0, .ref a0), (1, .int a1), (2, .int a2), (3, .int a3), (4, .int a4)] [] w none q
  refine EV.aload_n 0 dX13_become_0 rfl rfl ?_
  obtain ⟨v16, gv16, h⟩ := px_bs h
  refine ev_gI dX13_become_1 flRX13_236 gv16 ?_
  refine EV.if_ne 23 dX13_become_4 (by decide) (fun c17 => ?_) (fun c17 => ?_)
  · rw [if_neg c17] at h
    refine EV.sub [0, 1, 2, 3, 4] rfl ?_
    exact eX13_become_23  _ _ _ _ _ _ _ h
  · rw [if_pos c17] at h
    refine EV.iload_n 3 dX13_become_7 rfl rfl ?_
    refine EV.iload 4 dX13_become_8 rfl ?_
    obtain ⟨q18, gq18, h⟩ := px_bs h
    refine EV.callS (As := [.int a3, .int a4]) (rest := []) dX13_become_10 kcX13_become_260 rfl (Nat.le_of_ble_eq_true rfl) (Nat.le_of_ble_eq_true rfl) (eX13_canBe gq18) ?_
    refine EV.if_ne 23 dX13_become_13 (by decide) (fun c19 => ?_) (fun c19 => ?_)
    · rw [if_neg c19] at h
      refine EV.sub [0, 1, 2, 3, 4] rfl ?_
      exact eX13_become_23  _ _ _ _ _ _ _ h
    · rw [if_pos c19] at h
      refine EV.aload_n 0 dX13_become_16 rfl rfl ?_
      refine EV.iconst (4) dX13_become_17 (by decide) ?_
      obtain ⟨o20, go20, h⟩ := px_bs h
      obtain ⟨q21, gq21, h⟩ := px_bs h
      refine EV.callV (As := [.int 4]) (rest := []) dX13_become_18 kcX13_become_248 (gO_ok go20) rfl rfl rfl (Nat.le_of_ble_eq_true rfl) (Nat.le_of_ble_eq_true rfl) (eX13_wrong gq21) ?_
      refine EV.istore [(5, .int q21.1), (0, .ref a0), (1, .int a1), (2, .int a2), (3, .int a3), (4, .int a4)] dX13_become_21 (by decide) rfl ?_
      refine EV.sub [1, 2, 3, 4, 5] rfl ?_
      exact eX13_become_23  _ _ _ _ _ _ _ h
/-! WavePicturesModel$Scans.readDirect(II)V -/
theorem dX13_readDirect_0 : decode cX13_readDirect 0 = .ok (.bipush 64, 2) := by decide +kernel
theorem dX13_readDirect_2 : decode cX13_readDirect 2 = .ok (.aload_n 0, 1) := by decide +kernel
theorem dX13_readDirect_3 : decode cX13_readDirect 3 = .ok (.getfield 30, 3) := by decide +kernel
theorem dX13_readDirect_6 : decode cX13_readDirect 6 = .ok (.iload_n 1, 1) := by decide +kernel
theorem dX13_readDirect_7 : decode cX13_readDirect 7 = .ok (.iaload, 1) := by decide +kernel
theorem dX13_readDirect_8 : decode cX13_readDirect 8 = .ok (.iload_n 2, 1) := by decide +kernel
theorem dX13_readDirect_9 : decode cX13_readDirect 9 = .ok (.iadd, 1) := by decide +kernel
theorem dX13_readDirect_10 : decode cX13_readDirect 10 = .ok (.imul, 1) := by decide +kernel
theorem dX13_readDirect_11 : decode cX13_readDirect 11 = .ok (.istore_n 3, 1) := by decide +kernel
theorem dX13_readDirect_12 : decode cX13_readDirect 12 = .ok (.aload_n 0, 1) := by decide +kernel
theorem dX13_readDirect_13 : decode cX13_readDirect 13 = .ok (.getfield 112, 3) := by decide +kernel
theorem dX13_readDirect_16 : decode cX13_readDirect 16 = .ok (.ifCond .le 41, 3) := by decide +kernel
theorem dX13_readDirect_19 : decode cX13_readDirect 19 = .ok (.aload_n 0, 1) := by decide +kernel
theorem dX13_readDirect_20 : decode cX13_readDirect 20 = .ok (.getfield 33, 3) := by decide +kernel
theorem dX13_readDirect_23 : decode cX13_readDirect 23 = .ok (.iload_n 3, 1) := by decide +kernel
theorem dX13_readDirect_24 : decode cX13_readDirect 24 = .ok (.aload_n 0, 1) := by decide +kernel
theorem dX13_readDirect_25 : decode cX13_readDirect 25 = .ok (.invokevirtual 254, 3) := by decide +kernel
theorem dX13_readDirect_28 : decode cX13_readDirect 28 = .ok (.iconst 1, 1) := by decide +kernel
theorem dX13_readDirect_29 : decode cX13_readDirect 29 = .ok (.if_icmp .ne 19, 3) := by decide +kernel
theorem dX13_readDirect_32 : decode cX13_readDirect 32 = .ok (.aload_n 0, 1) := by decide +kernel
theorem dX13_readDirect_33 : decode cX13_readDirect 33 = .ok (.getfield 33, 3) := by decide +kernel
theorem dX13_readDirect_36 : decode cX13_readDirect 36 = .ok (.iload_n 3, 1) := by decide +kernel
theorem dX13_readDirect_37 : decode cX13_readDirect 37 = .ok (.saload, 1) := by decide +kernel
theorem dX13_readDirect_38 : decode cX13_readDirect 38 = .ok (.iconst 1, 1) := by decide +kernel
theorem dX13_readDirect_39 : decode cX13_readDirect 39 = .ok (.aload_n 0, 1) := by decide +kernel
theorem dX13_readDirect_40 : decode cX13_readDirect 40 = .ok (.getfield 115, 3) := by decide +kernel
theorem dX13_readDirect_43 : decode cX13_readDirect 43 = .ok (.ishl, 1) := by decide +kernel
theorem dX13_readDirect_44 : decode cX13_readDirect 44 = .ok (.ior, 1) := by decide +kernel
theorem dX13_readDirect_45 : decode cX13_readDirect 45 = .ok (.goto 9, 3) := by decide +kernel
theorem dX13_readDirect_48 : decode cX13_readDirect 48 = .ok (.aload_n 0, 1) := by decide +kernel
theorem dX13_readDirect_49 : decode cX13_readDirect 49 = .ok (.getfield 33, 3) := by decide +kernel
theorem dX13_readDirect_52 : decode cX13_readDirect 52 = .ok (.iload_n 3, 1) := by decide +kernel
theorem dX13_readDirect_53 : decode cX13_readDirect 53 = .ok (.saload, 1) := by decide +kernel
theorem dX13_readDirect_54 : decode cX13_readDirect 54 = .ok (.i2s, 1) := by decide +kernel
theorem dX13_readDirect_55 : decode cX13_readDirect 55 = .ok (.sastore, 1) := by decide +kernel
theorem dX13_readDirect_56 : decode cX13_readDirect 56 = .ok (.return_, 1) := by decide +kernel
theorem dX13_readDirect_57 : decode cX13_readDirect 57 = .ok (.aload_n 0, 1) := by decide +kernel
theorem dX13_readDirect_58 : decode cX13_readDirect 58 = .ok (.aload_n 0, 1) := by decide +kernel
theorem dX13_readDirect_59 : decode cX13_readDirect 59 = .ok (.getfield 55, 3) := by decide +kernel
theorem dX13_readDirect_62 : decode cX13_readDirect 62 = .ok (.iload_n 1, 1) := by decide +kernel
theorem dX13_readDirect_63 : decode cX13_readDirect 63 = .ok (.iaload, 1) := by decide +kernel
theorem dX13_readDirect_64 : decode cX13_readDirect 64 = .ok (.invokevirtual 264, 3) := by decide +kernel
theorem dX13_readDirect_67 : decode cX13_readDirect 67 = .ok (.istore 4, 2) := by decide +kernel
theorem dX13_readDirect_69 : decode cX13_readDirect 69 = .ok (.iload 4, 2) := by decide +kernel
theorem dX13_readDirect_71 : decode cX13_readDirect 71 = .ok (.bipush 11, 2) := by decide +kernel
theorem dX13_readDirect_73 : decode cX13_readDirect 73 = .ok (.if_icmp .le 10, 3) := by decide +kernel
theorem dX13_readDirect_76 : decode cX13_readDirect 76 = .ok (.aload_n 0, 1) := by decide +kernel
theorem dX13_readDirect_77 : decode cX13_readDirect 77 = .ok (.iconst 3, 1) := by decide +kernel
theorem dX13_readDirect_78 : decode cX13_readDirect 78 = .ok (.invokevirtual 248, 3) := by decide +kernel
theorem dX13_readDirect_81 : decode cX13_readDirect 81 = .ok (.istore 5, 2) := by decide +kernel
theorem dX13_readDirect_83 : decode cX13_readDirect 83 = .ok (.aload_n 0, 1) := by decide +kernel
theorem dX13_readDirect_84 : decode cX13_readDirect 84 = .ok (.aload_n 0, 1) := by decide +kernel
theorem dX13_readDirect_85 : decode cX13_readDirect 85 = .ok (.getfield 236, 3) := by decide +kernel
theorem dX13_readDirect_88 : decode cX13_readDirect 88 = .ok (.ifCond .le 7, 3) := by decide +kernel
theorem dX13_readDirect_91 : decode cX13_readDirect 91 = .ok (.iconst 0, 1) := by decide +kernel
theorem dX13_readDirect_92 : decode cX13_readDirect 92 = .ok (.goto 5, 3) := by decide +kernel
theorem dX13_readDirect_95 : decode cX13_readDirect 95 = .ok (.iload 4, 2) := by decide +kernel
theorem dX13_readDirect_97 : decode cX13_readDirect 97 = .ok (.invokevirtual 267, 3) := by decide +kernel
theorem dX13_readDirect_100 : decode cX13_readDirect 100 = .ok (.istore 5, 2) := by decide +kernel
theorem dX13_readDirect_102 : decode cX13_readDirect 102 = .ok (.aload_n 0, 1) := by decide +kernel
theorem dX13_readDirect_103 : decode cX13_readDirect 103 = .ok (.getfield 71, 3) := by decide +kernel
theorem dX13_readDirect_106 : decode cX13_readDirect 106 = .ok (.iload_n 1, 1) := by decide +kernel
theorem dX13_readDirect_107 : decode cX13_readDirect 107 = .ok (.iaload, 1) := by decide +kernel
theorem dX13_readDirect_108 : decode cX13_readDirect 108 = .ok (.iload 5, 2) := by decide +kernel
theorem dX13_readDirect_110 : decode cX13_readDirect 110 = .ok (.iadd, 1) := by decide +kernel
theorem dX13_readDirect_111 : decode cX13_readDirect 111 = .ok (.istore 6, 2) := by decide +kernel
theorem dX13_readDirect_113 : decode cX13_readDirect 113 = .ok (.aload_n 0, 1) := by decide +kernel
theorem dX13_readDirect_114 : decode cX13_readDirect 114 = .ok (.iload_n 1, 1) := by decide +kernel
theorem dX13_readDirect_115 : decode cX13_readDirect 115 = .ok (.iload_n 2, 1) := by decide +kernel
theorem dX13_readDirect_116 : decode cX13_readDirect 116 = .ok (.iconst 0, 1) := by decide +kernel
theorem dX13_readDirect_117 : decode cX13_readDirect 117 = .ok (.iload 6, 2) := by decide +kernel
theorem dX13_readDirect_119 : decode cX13_readDirect 119 = .ok (.sipush (-1024), 3) := by decide +kernel
theorem dX13_readDirect_122 : decode cX13_readDirect 122 = .ok (.if_icmp .lt 11, 3) := by decide +kernel
theorem dX13_readDirect_125 : decode cX13_readDirect 125 = .ok (.iload 6, 2) := by decide +kernel
theorem dX13_readDirect_127 : decode cX13_readDirect 127 = .ok (.sipush 1023, 3) := by decide +kernel
theorem dX13_readDirect_130 : decode cX13_readDirect 130 = .ok (.if_icmp .le 9, 3) := by decide +kernel
theorem dX13_readDirect_133 : decode cX13_readDirect 133 = .ok (.sipush 9999, 3) := by decide +kernel
theorem dX13_readDirect_136 : decode cX13_readDirect 136 = .ok (.goto 12, 3) := by decide +kernel
theorem dX13_readDirect_139 : decode cX13_readDirect 139 = .ok (.iload 6, 2) := by decide +kernel
theorem dX13_readDirect_141 : decode cX13_readDirect 141 = .ok (.iconst 1, 1) := by decide +kernel
theorem dX13_readDirect_142 : decode cX13_readDirect 142 = .ok (.aload_n 0, 1) := by decide +kernel
theorem dX13_readDirect_143 : decode cX13_readDirect 143 = .ok (.getfield 115, 3) := by decide +kernel
theorem dX13_readDirect_146 : decode cX13_readDirect 146 = .ok (.ishl, 1) := by decide +kernel
theorem dX13_readDirect_147 : decode cX13_readDirect 147 = .ok (.imul, 1) := by decide +kernel
theorem dX13_readDirect_148 : decode cX13_readDirect 148 = .ok (.invokevirtual 270, 3) := by decide +kernel
theorem dX13_readDirect_151 : decode cX13_readDirect 151 = .ok (.aload_n 0, 1) := by decide +kernel
theorem dX13_readDirect_152 : decode cX13_readDirect 152 = .ok (.getfield 71, 3) := by decide +kernel
theorem dX13_readDirect_155 : decode cX13_readDirect 155 = .ok (.iload_n 1, 1) := by decide +kernel
theorem dX13_readDirect_156 : decode cX13_readDirect 156 = .ok (.iload 6, 2) := by decide +kernel
theorem dX13_readDirect_158 : decode cX13_readDirect 158 = .ok (.iastore, 1) := by decide +kernel
theorem dX13_readDirect_159 : decode cX13_readDirect 159 = .ok (.return_, 1) := by decide +kernel
theorem kcX13_readDirect_248 : px_cV mX13_readDirect 248 mX13_wrong 1 := ⟨⟨mbX13_wrong, by decide, by decide⟩, Or.inl (tb9 (List.mem_of_getElem? (i := 37) rfl)), vbX13_wrong⟩
theorem kcX13_readDirect_254 : px_cV mX13_readDirect 254 mX13_takeBit 0 := ⟨⟨mbX13_takeBit, by decide, by decide⟩, Or.inl (tb9 (List.mem_of_getElem? (i := 57) rfl)), vbX13_takeBit⟩
theorem mbX13_symbol : px_mB mX13_symbol 1 := ⟨tb9 (List.mem_of_getElem? (i := 64) rfl), by decide +kernel, tb1 (List.mem_of_getElem? (i := 15) rfl), by decide +kernel, by decide +kernel⟩
theorem vbX13_symbol : px_vB mX13_symbol := ⟨tb9 (List.mem_of_getElem? (i := 63) rfl), List.mem_append_left _ (List.mem_of_getElem? (i := 123) (by decide +kernel))⟩
theorem kcX13_readDirect_264 : px_cV mX13_readDirect 264 mX13_symbol 1 := ⟨⟨mbX13_symbol, by decide, by decide⟩, Or.inl (tb9 (List.mem_of_getElem? (i := 61) rfl)), vbX13_symbol⟩
theorem mbX13_numberOf : px_mB mX13_numberOf 1 := ⟨tb9 (List.mem_of_getElem? (i := 68) rfl), by decide +kernel, tb1 (List.mem_of_getElem? (i := 15) rfl), by decide +kernel, by decide +kernel⟩
theorem vbX13_numberOf : px_vB mX13_numberOf := ⟨tb9 (List.mem_of_getElem? (i := 67) rfl), List.mem_append_left _ (List.mem_of_getElem? (i := 124) (by decide +kernel))⟩
theorem kcX13_readDirect_267 : px_cV mX13_readDirect 267 mX13_numberOf 1 := ⟨⟨mbX13_numberOf, by decide, by decide⟩, Or.inl (tb9 (List.mem_of_getElem? (i := 65) rfl)), vbX13_numberOf⟩
theorem mbX13_become : px_mB mX13_become 4 := ⟨tb9 (List.mem_of_getElem? (i := 76) rfl), by decide +kernel, tb1 (List.mem_of_getElem? (i := 15) rfl), by decide +kernel, by decide +kernel⟩
theorem vbX13_become : px_vB mX13_become := ⟨tb9 (List.mem_of_getElem? (i := 75) rfl), List.mem_append_left _ (List.mem_of_getElem? (i := 126) (by decide +kernel))⟩
theorem kcX13_readDirect_270 : px_cV mX13_readDirect 270 mX13_become 4 := ⟨⟨mbX13_become, by decide, by decide⟩, Or.inl (tb9 (List.mem_of_getElem? (i := 73) rfl)), vbX13_become⟩
set_option maxRecDepth 100000 in
set_option maxHeartbeats 4000000 in
theorem eX13_readDirect_148 {X : px_X}  : ∀ (a0 : Nat) (a1 : Int32) (a6 : Int32) (s0 : Int32) (s1 : Int32) (s2 : Int32) (s3 : Int32) (s4 : Nat) (w : px_W) (q : px_W), fX13_readDirect_148 X  a0 a1 a6 s0 s1 s2 s3 s4 w = some q → EV X mX13_readDirect 148 [(0, .ref a0), (1, .int a1), (6, .int a6)] [.int s0, .int s1, .int s2, .int s3, .ref s4] w none q := by
  intro a0 a1 a6 s0 s1 s2 s3 s4 w q h
  unfold fX13_readDirect_148 at h
  obtain ⟨o29, go29, h⟩ := px_bs h
  obtain ⟨q30, gq30, h⟩ := px_bs h
  refine EV.callV (As := [.int s3, .int s2, .int s1, .int s0]) (rest := []) dX13_readDirect_148 kcX13_readDirect_270 (gO_ok go29) rfl rfl rfl (Nat.le_of_ble_eq_true rfl) (Nat.le_of_ble_eq_true rfl) (eX13_become gq30) ?_
  refine EV.aload_n 0 dX13_readDirect_151 rfl rfl ?_
  obtain ⟨v31, gv31, h⟩ := px_bs h
  refine ev_gR dX13_readDirect_152 flRX13_71 gv31 ?_
  refine EV.iload_n 1 dX13_readDirect_155 rfl rfl ?_
  refine EV.iload 2 dX13_readDirect_156 rfl ?_
  obtain ⟨w32, gw32, h⟩ := px_bs h
  refine ev_sI dX13_readDirect_158 gw32 ?_
  cases h
  exact EV.ret0 dX13_readDirect_159 trivial
set_option maxRecDepth 100000 in
set_option maxHeartbeats 4000000 in
theorem eX13_readDirect_133 {X : px_X}  : ∀ (a0 : Nat) (a1 : Int32) (a6 : Int32) (s0 : Int32) (s1 : Int32) (s2 : Int32) (s3 : Nat) (w : px_W) (q : px_W), fX13_readDirect_133 X  a0 a1 a6 s0 s1 s2 s3 w = some q → EV X mX13_readDirect 133 [(0, .ref a0), (1, .int a1), (6, .int a6)] [.int s0, .int s1, .int s2, .ref s3] w none q := by
  intro a0 a1 a6 s0 s1 s2 s3 w q h
  unfold fX13_readDirect_133 at h
  refine EV.sipush (9999) dX13_readDirect_133 (by decide) ?_
  refine EV.goto 148 dX13_readDirect_136 (by decide) ?_
  refine EV.sub [0, 1, 2] rfl ?_
  exact eX13_readDirect_148  _ _ _ _ _ _ _ _ _ _ h
set_option maxRecDepth 100000 in
set_option maxHeartbeats 4000000 in
theorem eX13_readDirect_97 {X : px_X}  : ∀ (a0 : Nat) (a1 : Int32) (a2 : Int32) (s0 : Int32) (s1 : Nat) (w : px_W) (q : px_W), fX13_readDirect_97 X  a0 a1 a2 s0 s1 w = some q → EV X mX13_readDirect 97 [(0, .ref a0), (1, .int a1), (2, .int a2)] [.int s0, .ref s1] w none q := by
  intro a0 a1 a2 s0 s1 w q h
  unfold fX13_readDirect_97 at h
  obtain ⟨o33, go33, h⟩ := px_bs h
  obtain ⟨q34, gq34, h⟩ := px_bs h
  refine EV.callV (As := [.int s0]) (rest := []) dX13_readDirect_97 kcX13_readDirect_267 (gO_ok go33) rfl rfl rfl (Nat.le_of_ble_eq_true rfl) (Nat.le_of_ble_eq_true rfl) (eX13_numberOf gq34) ?_
  refine EV.istore [(5, .int q34.1), (0, .ref a0), (1, .int a1), (2, .int a2)] dX13_readDirect_100 (by decide) rfl ?_
  refine EV.aload_n 1 dX13_readDirect_102 rfl rfl ?_
  obtain ⟨v35, gv35, h⟩ := px_bs h
  refine ev_gR dX13_readDirect_103 flRX13_71 gv35 ?_
  refine EV.iload_n 2 dX13_readDirect_106 rfl rfl ?_
  obtain ⟨v36, gv36, h⟩ := px_bs h
  refine ev_aI dX13_readDirect_107 gv36 ?_
  refine EV.iload 0 dX13_readDirect_108 rfl ?_
  refine EV.iadd dX13_readDirect_110 ?_
  refine EV.istore [(6, .int (v36 + q34.1)), (5, .int q34.1), (0, .ref a0), (1, .int a1), (2, .int a2)] dX13_readDirect_111 (by decide) rfl ?_
  refine EV.aload_n 2 dX13_readDirect_113 rfl rfl ?_
  refine EV.iload_n 3 dX13_readDirect_114 rfl rfl ?_
  refine EV.iload_n 4 dX13_readDirect_115 rfl rfl ?_
  refine EV.iconst (0) dX13_readDirect_116 (by decide) ?_
  refine EV.iload 0 dX13_readDirect_117 rfl ?_
  refine EV.sipush ((-1024)) dX13_readDirect_119 (by decide) ?_
  refine EV.icmp_lt 133 dX13_readDirect_122 (by decide) (fun c37 => ?_) (fun c37 => ?_)
  · rw [if_pos c37] at h
    refine EV.sub [2, 3, 0] rfl ?_
    exact eX13_readDirect_133  _ _ _ _ _ _ _ _ _ h
  · rw [if_neg c37] at h
    refine EV.iload 0 dX13_readDirect_125 rfl ?_
    refine EV.sipush (1023) dX13_readDirect_127 (by decide) ?_
    refine EV.icmp_le 139 dX13_readDirect_130 (by decide) (fun c38 => ?_) (fun c38 => ?_)
    · rw [if_pos c38] at h
      refine EV.iload 0 dX13_readDirect_139 rfl ?_
      refine EV.iconst (1) dX13_readDirect_141 (by decide) ?_
      refine EV.aload_n 2 dX13_readDirect_142 rfl rfl ?_
      obtain ⟨v39, gv39, h⟩ := px_bs h
      refine ev_gI dX13_readDirect_143 flRX13_115 gv39 ?_
      refine EV.ishl dX13_readDirect_146 ?_
      refine EV.imul dX13_readDirect_147 ?_
      refine EV.sub [2, 3, 0] rfl ?_
      exact eX13_readDirect_148  _ _ _ _ _ _ _ _ _ _ h
    · rw [if_neg c38] at h
      refine EV.sub [2, 3, 0] rfl ?_
      exact eX13_readDirect_133  _ _ _ _ _ _ _ _ _ h
set_option maxRecDepth 100000 in
set_option maxHeartbeats 4000000 in
theorem eX13_readDirect_83 {X : px_X}  : ∀ (a0 : Nat) (a1 : Int32) (a2 : Int32) (a4 : Int32) (w : px_W) (q : px_W), fX13_readDirect_83 X  a0 a1 a2 a4 w = some q → EV X mX13_readDirect 83 [(0, .ref a0), (1, .int a1), (2, .int a2), (4, .int a4)] [] w none q := by
  intro a0 a1 a2 a4 w q h
  unfold fX13_readDirect_83 at h
  refine EV.aload_n 0 dX13_readDirect_83 rfl rfl ?_
  refine EV.aload_n 0 dX13_readDirect_84 rfl rfl ?_
  obtain ⟨v40, gv40, h⟩ := px_bs h
  refine ev_gI dX13_readDirect_85 flRX13_236 gv40 ?_
  refine EV.if_le 95 dX13_readDirect_88 (by decide) (fun c41 => ?_) (fun c41 => ?_)
  · rw [if_pos c41] at h
    refine EV.iload 3 dX13_readDirect_95 rfl ?_
    refine EV.sub [0, 1, 2] rfl ?_
    exact eX13_readDirect_97  _ _ _ _ _ _ _ h
  · rw [if_neg c41] at h
    refine EV.iconst (0) dX13_readDirect_91 (by decide) ?_
    refine EV.goto 97 dX13_readDirect_92 (by decide) ?_
    refine EV.sub [0, 1, 2] rfl ?_
    exact eX13_readDirect_97  _ _ _ _ _ _ _ h
set_option maxRecDepth 100000 in
set_option maxHeartbeats 4000000 in
theorem eX13_readDirect {X : px_X} {w : px_W} {a0 : Nat} {a1 : Int32} {a2 : Int32} {q : px_W} (h : fX13_readDirect X w a0 a1 a2 = some q) : EV X mX13_readDirect 0 (lv_args 0 [.ref a0, .int a1, .int a2]) [] w none q := by
  unfold fX13_readDirect at h
  show EV X mX13_readDirect 0 [(0, .ref a0), (1, .int a1), (2, .int a2)] [] w none q
  refine EV.bipush (64) dX13_readDirect_0 (by decide) ?_
  refine EV.aload_n 0 dX13_readDirect_2 rfl rfl ?_
  obtain ⟨v42, gv42, h⟩ := px_bs h
  refine ev_gR dX13_readDirect_3 flRX13_30 gv42 ?_
  refine EV.iload_n 1 dX13_readDirect_6 rfl rfl ?_
  obtain ⟨v43, gv43, h⟩ := px_bs h
  refine ev_aI dX13_readDirect_7 gv43 ?_
  refine EV.iload_n 2 dX13_readDirect_8 rfl rfl ?_
  refine EV.iadd dX13_readDirect_9 ?_
  refine EV.imul dX13_readDirect_10 ?_
  refine EV.istore_n [(3, .int (64 * (v43 + a2))), (0, .ref a0), (1, .int a1), (2, .int a2)] dX13_readDirect_11 rfl (by decide) rfl ?_
  refine EV.aload_n 1 dX13_readDirect_12 rfl rfl ?_
  obtain ⟨v44, gv44, h⟩ := px_bs h
  refine ev_gI dX13_readDirect_13 flRX13_112 gv44 ?_
  refine EV.if_le 57 dX13_readDirect_16 (by decide) (fun c45 => ?_) (fun c45 => ?_)
  · rw [if_pos c45] at h
    refine EV.aload_n 1 dX13_readDirect_57 rfl rfl ?_
    refine EV.aload_n 1 dX13_readDirect_58 rfl rfl ?_
    obtain ⟨v46, gv46, h⟩ := px_bs h
    refine ev_gR dX13_readDirect_59 flRX13_55 gv46 ?_
    refine EV.iload_n 2 dX13_readDirect_62 rfl rfl ?_
    obtain ⟨v47, gv47, h⟩ := px_bs h
    refine ev_aI dX13_readDirect_63 gv47 ?_
    obtain ⟨o48, go48, h⟩ := px_bs h
    obtain ⟨q49, gq49, h⟩ := px_bs h
    refine EV.callV (As := [.int v47]) (rest := []) dX13_readDirect_64 kcX13_readDirect_264 (gO_ok go48) rfl rfl rfl (Nat.le_of_ble_eq_true rfl) (Nat.le_of_ble_eq_true rfl) (eX13_symbol gq49) ?_
    refine EV.istore [(4, .int q49.1), (3, .int (64 * (v43 + a2))), (0, .ref a0), (1, .int a1), (2, .int a2)] dX13_readDirect_67 (by decide) rfl ?_
    refine EV.iload 0 dX13_readDirect_69 rfl ?_
    refine EV.bipush (11) dX13_readDirect_71 (by decide) ?_
    refine EV.icmp_le 83 dX13_readDirect_73 (by decide) (fun c50 => ?_) (fun c50 => ?_)
    · rw [if_pos c50] at h
      refine EV.sub [2, 3, 4, 0] rfl ?_
      exact eX13_readDirect_83  _ _ _ _ _ _ h
    · rw [if_neg c50] at h
      refine EV.aload_n 2 dX13_readDirect_76 rfl rfl ?_
      refine EV.iconst (3) dX13_readDirect_77 (by decide) ?_
      obtain ⟨o51, go51, h⟩ := px_bs h
      obtain ⟨q52, gq52, h⟩ := px_bs h
      refine EV.callV (As := [.int 3]) (rest := []) dX13_readDirect_78 kcX13_readDirect_248 (gO_ok go51) rfl rfl rfl (Nat.le_of_ble_eq_true rfl) (Nat.le_of_ble_eq_true rfl) (eX13_wrong gq52) ?_
      refine EV.istore [(5, .int q52.1), (4, .int q49.1), (3, .int (64 * (v43 + a2))), (0, .ref a0), (1, .int a1), (2, .int a2)] dX13_readDirect_81 (by decide) rfl ?_
      refine EV.sub [3, 4, 5, 1] rfl ?_
      exact eX13_readDirect_83  _ _ _ _ _ _ h
  · rw [if_neg c45] at h
    refine EV.aload_n 1 dX13_readDirect_19 rfl rfl ?_
    obtain ⟨v53, gv53, h⟩ := px_bs h
    refine ev_gR dX13_readDirect_20 flRX13_33 gv53 ?_
    refine EV.iload_n 0 dX13_readDirect_23 rfl rfl ?_
    refine EV.aload_n 1 dX13_readDirect_24 rfl rfl ?_
    obtain ⟨o54, go54, h⟩ := px_bs h
    obtain ⟨q55, gq55, h⟩ := px_bs h
    refine EV.callV (As := []) (rest := [.int (64 * (v43 + a2)), .ref v53]) dX13_readDirect_25 kcX13_readDirect_254 (gO_ok go54) rfl rfl rfl (Nat.le_of_ble_eq_true rfl) (Nat.le_of_ble_eq_true rfl) (eX13_takeBit gq55) ?_
    refine EV.iconst (1) dX13_readDirect_28 (by decide) ?_
    refine EV.icmp_ne 48 dX13_readDirect_29 (by decide) (fun c56 => ?_) (fun c56 => ?_)
    · rw [if_neg c56] at h
      refine EV.aload_n 1 dX13_readDirect_48 rfl rfl ?_
      obtain ⟨v57, gv57, h⟩ := px_bs h
      refine ev_gR dX13_readDirect_49 flRX13_33 gv57 ?_
      refine EV.iload_n 0 dX13_readDirect_52 rfl rfl ?_
      obtain ⟨v58, gv58, h⟩ := px_bs h
      refine ev_aS dX13_readDirect_53 gv58 ?_
      refine EV.i2s dX13_readDirect_54 ?_
      obtain ⟨w59, gw59, h⟩ := px_bs h
      refine ev_sS dX13_readDirect_55 gw59 ?_
      cases h
      exact EV.ret0 dX13_readDirect_56 trivial
    · rw [if_pos c56] at h
      refine EV.aload_n 1 dX13_readDirect_32 rfl rfl ?_
      obtain ⟨v60, gv60, h⟩ := px_bs h
      refine ev_gR dX13_readDirect_33 flRX13_33 gv60 ?_
      refine EV.iload_n 0 dX13_readDirect_36 rfl rfl ?_
      obtain ⟨v61, gv61, h⟩ := px_bs h
      refine ev_aS dX13_readDirect_37 gv61 ?_
      refine EV.iconst (1) dX13_readDirect_38 (by decide) ?_
      refine EV.aload_n 1 dX13_readDirect_39 rfl rfl ?_
      obtain ⟨v62, gv62, h⟩ := px_bs h
      refine ev_gI dX13_readDirect_40 flRX13_115 gv62 ?_
      refine EV.ishl dX13_readDirect_43 ?_
      refine EV.ior dX13_readDirect_44 ?_
      refine EV.goto 54 dX13_readDirect_45 (by decide) ?_
      refine EV.i2s dX13_readDirect_54 ?_
      obtain ⟨w63, gw63, h⟩ := px_bs h
      refine ev_sS dX13_readDirect_55 gw63 ?_
      cases h
      exact EV.ret0 dX13_readDirect_56 trivial
