/-! WavePicturesModel$Segments.readFile()V -/
theorem dX14_readFile_0 : decode cX14_readFile 0 = .ok (.aload_n 0, 1) := by decide +kernel
theorem dX14_readFile_1 : decode cX14_readFile 1 = .ok (.invokevirtual 124, 3) := by decide +kernel
theorem dX14_readFile_4 : decode cX14_readFile 4 = .ok (.istore_n 1, 1) := by decide +kernel
theorem dX14_readFile_5 : decode cX14_readFile 5 = .ok (.aload_n 0, 1) := by decide +kernel
theorem dX14_readFile_6 : decode cX14_readFile 6 = .ok (.getfield 100, 3) := by decide +kernel
theorem dX14_readFile_9 : decode cX14_readFile 9 = .ok (.ifCond .ne 17, 3) := by decide +kernel
theorem dX14_readFile_12 : decode cX14_readFile 12 = .ok (.iload_n 1, 1) := by decide +kernel
theorem dX14_readFile_13 : decode cX14_readFile 13 = .ok (.sipush 255, 3) := by decide +kernel
theorem dX14_readFile_16 : decode cX14_readFile 16 = .ok (.if_icmp .eq 10, 3) := by decide +kernel
theorem dX14_readFile_19 : decode cX14_readFile 19 = .ok (.aload_n 0, 1) := by decide +kernel
theorem dX14_readFile_20 : decode cX14_readFile 20 = .ok (.iconst 2, 1) := by decide +kernel
theorem dX14_readFile_21 : decode cX14_readFile 21 = .ok (.iconst 0, 1) := by decide +kernel
theorem dX14_readFile_22 : decode cX14_readFile 22 = .ok (.invokevirtual 113, 3) := by decide +kernel
theorem dX14_readFile_25 : decode cX14_readFile 25 = .ok (.istore_n 2, 1) := by decide +kernel
theorem dX14_readFile_26 : decode cX14_readFile 26 = .ok (.aload_n 0, 1) := by decide +kernel
theorem dX14_readFile_27 : decode cX14_readFile 27 = .ok (.invokevirtual 124, 3) := by decide +kernel
theorem dX14_readFile_30 : decode cX14_readFile 30 = .ok (.istore_n 1, 1) := by decide +kernel
theorem dX14_readFile_31 : decode cX14_readFile 31 = .ok (.aload_n 0, 1) := by decide +kernel
theorem dX14_readFile_32 : decode cX14_readFile 32 = .ok (.getfield 100, 3) := by decide +kernel
theorem dX14_readFile_35 : decode cX14_readFile 35 = .ok (.ifCond .ne 17, 3) := by decide +kernel
theorem dX14_readFile_38 : decode cX14_readFile 38 = .ok (.iload_n 1, 1) := by decide +kernel
theorem dX14_readFile_39 : decode cX14_readFile 39 = .ok (.sipush 216, 3) := by decide +kernel
theorem dX14_readFile_42 : decode cX14_readFile 42 = .ok (.if_icmp .eq 10, 3) := by decide +kernel
theorem dX14_readFile_45 : decode cX14_readFile 45 = .ok (.aload_n 0, 1) := by decide +kernel
theorem dX14_readFile_46 : decode cX14_readFile 46 = .ok (.iconst 2, 1) := by decide +kernel
theorem dX14_readFile_47 : decode cX14_readFile 47 = .ok (.iconst 0, 1) := by decide +kernel
theorem dX14_readFile_48 : decode cX14_readFile 48 = .ok (.invokevirtual 113, 3) := by decide +kernel
theorem dX14_readFile_51 : decode cX14_readFile 51 = .ok (.istore_n 2, 1) := by decide +kernel
theorem dX14_readFile_52 : decode cX14_readFile 52 = .ok (.iconst 0, 1) := by decide +kernel
theorem dX14_readFile_53 : decode cX14_readFile 53 = .ok (.istore_n 2, 1) := by decide +kernel
theorem dX14_readFile_54 : decode cX14_readFile 54 = .ok (.iconst 1, 1) := by decide +kernel
theorem dX14_readFile_55 : decode cX14_readFile 55 = .ok (.istore_n 3, 1) := by decide +kernel
theorem dX14_readFile_56 : decode cX14_readFile 56 = .ok (.iload_n 3, 1) := by decide +kernel
theorem dX14_readFile_57 : decode cX14_readFile 57 = .ok (.ifCond .eq 226, 3) := by decide +kernel
theorem dX14_readFile_60 : decode cX14_readFile 60 = .ok (.aload_n 0, 1) := by decide +kernel
theorem dX14_readFile_61 : decode cX14_readFile 61 = .ok (.getfield 100, 3) := by decide +kernel
theorem dX14_readFile_64 : decode cX14_readFile 64 = .ok (.ifCond .ne 219, 3) := by decide +kernel
theorem dX14_readFile_67 : decode cX14_readFile 67 = .ok (.aload_n 0, 1) := by decide +kernel
theorem dX14_readFile_68 : decode cX14_readFile 68 = .ok (.getfield 182, 3) := by decide +kernel
theorem dX14_readFile_71 : decode cX14_readFile 71 = .ok (.ifCond .ne 212, 3) := by decide +kernel
theorem dX14_readFile_74 : decode cX14_readFile 74 = .ok (.aload_n 0, 1) := by decide +kernel
theorem dX14_readFile_75 : decode cX14_readFile 75 = .ok (.invokevirtual 185, 3) := by decide +kernel
theorem dX14_readFile_78 : decode cX14_readFile 78 = .ok (.istore 4, 2) := by decide +kernel
theorem dX14_readFile_80 : decode cX14_readFile 80 = .ok (.aload_n 0, 1) := by decide +kernel
theorem dX14_readFile_81 : decode cX14_readFile 81 = .ok (.getfield 106, 3) := by decide +kernel
theorem dX14_readFile_84 : decode cX14_readFile 84 = .ok (.iconst 1, 1) := by decide +kernel
theorem dX14_readFile_85 : decode cX14_readFile 85 = .ok (.isub, 1) := by decide +kernel
theorem dX14_readFile_86 : decode cX14_readFile 86 = .ok (.istore 5, 2) := by decide +kernel
theorem dX14_readFile_88 : decode cX14_readFile 88 = .ok (.iload_n 2, 1) := by decide +kernel
theorem dX14_readFile_89 : decode cX14_readFile 89 = .ok (.istore 6, 2) := by decide +kernel
theorem dX14_readFile_91 : decode cX14_readFile 91 = .ok (.iconst 0, 1) := by decide +kernel
theorem dX14_readFile_92 : decode cX14_readFile 92 = .ok (.istore_n 2, 1) := by decide +kernel
theorem dX14_readFile_93 : decode cX14_readFile 93 = .ok (.iload 4, 2) := by decide +kernel
theorem dX14_readFile_95 : decode cX14_readFile 95 = .ok (.sipush 217, 3) := by decide +kernel
theorem dX14_readFile_98 : decode cX14_readFile 98 = .ok (.if_icmp .ne 10, 3) := by decide +kernel
theorem dX14_readFile_101 : decode cX14_readFile 101 = .ok (.aload_n 0, 1) := by decide +kernel
theorem dX14_readFile_102 : decode cX14_readFile 102 = .ok (.invokevirtual 188, 3) := by decide +kernel
theorem dX14_readFile_105 : decode cX14_readFile 105 = .ok (.ifCond .ne 89, 3) := by decide +kernel
theorem dX14_readFile_108 : decode cX14_readFile 108 = .ok (.iload 4, 2) := by decide +kernel
theorem dX14_readFile_110 : decode cX14_readFile 110 = .ok (.sipush 224, 3) := by decide +kernel
theorem dX14_readFile_113 : decode cX14_readFile 113 = .ok (.if_icmp .lt 11, 3) := by decide +kernel
theorem dX14_readFile_116 : decode cX14_readFile 116 = .ok (.iload 4, 2) := by decide +kernel
theorem dX14_readFile_118 : decode cX14_readFile 118 = .ok (.sipush 239, 3) := by decide +kernel
theorem dX14_readFile_121 : decode cX14_readFile 121 = .ok (.if_icmp .le 73, 3) := by decide +kernel
theorem dX14_readFile_124 : decode cX14_readFile 124 = .ok (.iload 4, 2) := by decide +kernel
theorem dX14_readFile_126 : decode cX14_readFile 126 = .ok (.sipush 254, 3) := by decide +kernel
theorem dX14_readFile_129 : decode cX14_readFile 129 = .ok (.if_icmp .eq 65, 3) := by decide +kernel
theorem dX14_readFile_132 : decode cX14_readFile 132 = .ok (.iload 4, 2) := by decide +kernel
theorem dX14_readFile_134 : decode cX14_readFile 134 = .ok (.sipush 219, 3) := by decide +kernel
theorem dX14_readFile_137 : decode cX14_readFile 137 = .ok (.if_icmp .eq 57, 3) := by decide +kernel
theorem dX14_readFile_140 : decode cX14_readFile 140 = .ok (.iload 4, 2) := by decide +kernel
theorem dX14_readFile_142 : decode cX14_readFile 142 = .ok (.sipush 196, 3) := by decide +kernel
theorem dX14_readFile_145 : decode cX14_readFile 145 = .ok (.if_icmp .eq 49, 3) := by decide +kernel
theorem dX14_readFile_148 : decode cX14_readFile 148 = .ok (.iload 4, 2) := by decide +kernel
theorem dX14_readFile_150 : decode cX14_readFile 150 = .ok (.sipush 221, 3) := by decide +kernel
theorem dX14_readFile_153 : decode cX14_readFile 153 = .ok (.if_icmp .eq 41, 3) := by decide +kernel
theorem dX14_readFile_156 : decode cX14_readFile 156 = .ok (.iload 4, 2) := by decide +kernel
theorem dX14_readFile_158 : decode cX14_readFile 158 = .ok (.sipush 192, 3) := by decide +kernel
theorem dX14_readFile_161 : decode cX14_readFile 161 = .ok (.if_icmp .eq 11, 3) := by decide +kernel
theorem dX14_readFile_164 : decode cX14_readFile 164 = .ok (.iload 4, 2) := by decide +kernel
theorem dX14_readFile_166 : decode cX14_readFile 166 = .ok (.sipush 194, 3) := by decide +kernel
theorem dX14_readFile_169 : decode cX14_readFile 169 = .ok (.if_icmp .ne 10, 3) := by decide +kernel
theorem dX14_readFile_172 : decode cX14_readFile 172 = .ok (.aload_n 0, 1) := by decide +kernel
theorem dX14_readFile_173 : decode cX14_readFile 173 = .ok (.getfield 82, 3) := by decide +kernel
theorem dX14_readFile_176 : decode cX14_readFile 176 = .ok (.ifCond .eq 18, 3) := by decide +kernel
theorem dX14_readFile_179 : decode cX14_readFile 179 = .ok (.iload 4, 2) := by decide +kernel
theorem dX14_readFile_181 : decode cX14_readFile 181 = .ok (.sipush 218, 3) := by decide +kernel
theorem dX14_readFile_184 : decode cX14_readFile 184 = .ok (.if_icmp .ne 14, 3) := by decide +kernel
theorem dX14_readFile_187 : decode cX14_readFile 187 = .ok (.aload_n 0, 1) := by decide +kernel
theorem dX14_readFile_188 : decode cX14_readFile 188 = .ok (.getfield 82, 3) := by decide +kernel
theorem dX14_readFile_191 : decode cX14_readFile 191 = .ok (.ifCond .le 7, 3) := by decide +kernel
theorem dX14_readFile_194 : decode cX14_readFile 194 = .ok (.iconst 1, 1) := by decide +kernel
theorem dX14_readFile_195 : decode cX14_readFile 195 = .ok (.goto 4, 3) := by decide +kernel
theorem dX14_readFile_198 : decode cX14_readFile 198 = .ok (.iconst 0, 1) := by decide +kernel
theorem dX14_readFile_199 : decode cX14_readFile 199 = .ok (.istore 7, 2) := by decide +kernel
theorem dX14_readFile_201 : decode cX14_readFile 201 = .ok (.aload_n 0, 1) := by decide +kernel
theorem dX14_readFile_202 : decode cX14_readFile 202 = .ok (.getfield 100, 3) := by decide +kernel
theorem dX14_readFile_205 : decode cX14_readFile 205 = .ok (.ifCond .ne 33, 3) := by decide +kernel
theorem dX14_readFile_208 : decode cX14_readFile 208 = .ok (.iload 6, 2) := by decide +kernel
theorem dX14_readFile_210 : decode cX14_readFile 210 = .ok (.ifCond .eq 14, 3) := by decide +kernel
theorem dX14_readFile_213 : decode cX14_readFile 213 = .ok (.iload 4, 2) := by decide +kernel
theorem dX14_readFile_215 : decode cX14_readFile 215 = .ok (.sipush 220, 3) := by decide +kernel
theorem dX14_readFile_218 : decode cX14_readFile 218 = .ok (.if_icmp .eq 20, 3) := by decide +kernel
theorem dX14_readFile_221 : decode cX14_readFile 221 = .ok (.goto 8, 3) := by decide +kernel
theorem dX14_readFile_224 : decode cX14_readFile 224 = .ok (.iload 7, 2) := by decide +kernel
theorem dX14_readFile_226 : decode cX14_readFile 226 = .ok (.ifCond .ne 12, 3) := by decide +kernel
theorem dX14_readFile_229 : decode cX14_readFile 229 = .ok (.aload_n 0, 1) := by decide +kernel
theorem dX14_readFile_230 : decode cX14_readFile 230 = .ok (.iconst 4, 1) := by decide +kernel
theorem dX14_readFile_231 : decode cX14_readFile 231 = .ok (.iload 5, 2) := by decide +kernel
theorem dX14_readFile_233 : decode cX14_readFile 233 = .ok (.invokevirtual 113, 3) := by decide +kernel
theorem dX14_readFile_236 : decode cX14_readFile 236 = .ok (.istore 8, 2) := by decide +kernel
theorem dX14_readFile_238 : decode cX14_readFile 238 = .ok (.aload_n 0, 1) := by decide +kernel
theorem dX14_readFile_239 : decode cX14_readFile 239 = .ok (.getfield 100, 3) := by decide +kernel
theorem dX14_readFile_242 : decode cX14_readFile 242 = .ok (.ifCond .ne 24, 3) := by decide +kernel
theorem dX14_readFile_245 : decode cX14_readFile 245 = .ok (.iload 4, 2) := by decide +kernel
theorem dX14_readFile_247 : decode cX14_readFile 247 = .ok (.sipush 217, 3) := by decide +kernel
theorem dX14_readFile_250 : decode cX14_readFile 250 = .ok (.if_icmp .ne 16, 3) := by decide +kernel
theorem dX14_readFile_253 : decode cX14_readFile 253 = .ok (.aload_n 0, 1) := by decide +kernel
theorem dX14_readFile_254 : decode cX14_readFile 254 = .ok (.aload_n 0, 1) := by decide +kernel
theorem dX14_readFile_255 : decode cX14_readFile 255 = .ok (.getfield 106, 3) := by decide +kernel
theorem dX14_readFile_258 : decode cX14_readFile 258 = .ok (.putfield 76, 3) := by decide +kernel
theorem dX14_readFile_261 : decode cX14_readFile 261 = .ok (.iconst 0, 1) := by decide +kernel
theorem dX14_readFile_262 : decode cX14_readFile 262 = .ok (.istore_n 3, 1) := by decide +kernel
theorem dX14_readFile_263 : decode cX14_readFile 263 = .ok (.goto 17, 3) := by decide +kernel
theorem dX14_readFile_266 : decode cX14_readFile 266 = .ok (.aload_n 0, 1) := by decide +kernel
theorem dX14_readFile_267 : decode cX14_readFile 267 = .ok (.getfield 100, 3) := by decide +kernel
theorem dX14_readFile_270 : decode cX14_readFile 270 = .ok (.ifCond .ne 10, 3) := by decide +kernel
theorem dX14_readFile_273 : decode cX14_readFile 273 = .ok (.aload_n 0, 1) := by decide +kernel
theorem dX14_readFile_274 : decode cX14_readFile 274 = .ok (.iload 4, 2) := by decide +kernel
theorem dX14_readFile_276 : decode cX14_readFile 276 = .ok (.invokevirtual 192, 3) := by decide +kernel
theorem dX14_readFile_279 : decode cX14_readFile 279 = .ok (.istore_n 2, 1) := by decide +kernel
theorem dX14_readFile_280 : decode cX14_readFile 280 = .ok (.goto (-224), 3) := by decide +kernel
theorem dX14_readFile_283 : decode cX14_readFile 283 = .ok (.return_, 1) := by decide +kernel
theorem kcX14_readFile_113 : px_cV mX14_readFile 113 mX14_wrong 2 := ⟨⟨mbX14_wrong, by decide, by decide⟩, Or.inl (tb8 (List.mem_of_getElem? (i := 139) rfl)), vbX14_wrong⟩
theorem kcX14_readFile_124 : px_cV mX14_readFile 124 mX14_next 0 := ⟨⟨mbX14_next, by decide, by decide⟩, Or.inl (tb8 (List.mem_of_getElem? (i := 131) rfl)), vbX14_next⟩
theorem mbX14_marker : px_mB mX14_marker 0 := ⟨tb8 (List.mem_of_getElem? (i := 150) rfl), by decide +kernel, tb1 (List.mem_of_getElem? (i := 14) rfl), by decide +kernel, by decide +kernel⟩
theorem vbX14_marker : px_vB mX14_marker := ⟨tb8 (List.mem_of_getElem? (i := 149) rfl), List.mem_append_left _ (List.mem_of_getElem? (i := 91) (by decide +kernel))⟩
theorem kcX14_readFile_185 : px_cV mX14_readFile 185 mX14_marker 0 := ⟨⟨mbX14_marker, by decide, by decide⟩, Or.inl (tb8 (List.mem_of_getElem? (i := 147) rfl)), vbX14_marker⟩
theorem mbX14_isSent : px_mB mX14_isSent 0 := ⟨tb8 (List.mem_of_getElem? (i := 154) rfl), by decide +kernel, tb1 (List.mem_of_getElem? (i := 14) rfl), by decide +kernel, by decide +kernel⟩
theorem vbX14_isSent : px_vB mX14_isSent := ⟨tb8 (List.mem_of_getElem? (i := 153) rfl), List.mem_append_left _ (List.mem_of_getElem? (i := 92) (by decide +kernel))⟩
theorem kcX14_readFile_188 : px_cV mX14_readFile 188 mX14_isSent 0 := ⟨⟨mbX14_isSent, by decide, by decide⟩, Or.inl (tb8 (List.mem_of_getElem? (i := 151) rfl)), vbX14_isSent⟩
theorem mbX14_segment : px_mB mX14_segment 1 := ⟨tb8 (List.mem_of_getElem? (i := 158) rfl), by decide +kernel, tb1 (List.mem_of_getElem? (i := 14) rfl), by decide +kernel, by decide +kernel⟩
theorem vbX14_segment : px_vB mX14_segment := ⟨tb8 (List.mem_of_getElem? (i := 157) rfl), List.mem_append_left _ (List.mem_of_getElem? (i := 93) (by decide +kernel))⟩
theorem kcX14_readFile_192 : px_cV mX14_readFile 192 mX14_segment 1 := ⟨⟨mbX14_segment, by decide, by decide⟩, Or.inl (tb8 (List.mem_of_getElem? (i := 155) rfl)), vbX14_segment⟩
set_option maxRecDepth 100000 in
set_option maxHeartbeats 4000000 in
theorem eX14_readFile_280 {X : px_X} {k56 : Nat → Int32 → Int32 → px_W → Option (px_W)} (hk56 : ∀ (a0 : Nat) (a2 : Int32) (a3 : Int32) (w : px_W) (q : px_W), k56 a0 a2 a3 w = some q → EV X mX14_readFile 56 [(0, .ref a0), (2, .int a2), (3, .int a3)] [] w none q) : ∀ (a0 : Nat) (a2 : Int32) (a3 : Int32) (w : px_W) (q : px_W), fX14_readFile_280 X k56 a0 a2 a3 w = some q → EV X mX14_readFile 280 [(0, .ref a0), (2, .int a2), (3, .int a3)] [] w none q := by
  intro a0 a2 a3 w q h
  unfold fX14_readFile_280 at h
  refine EV.goto 56 dX14_readFile_280 (by decide) ?_
  refine EV.sub [0, 1, 2] rfl ?_
  exact hk56 _ _ _ _ _ h
set_option maxRecDepth 100000 in
set_option maxHeartbeats 4000000 in
theorem eX14_readFile_266 {X : px_X} {k56 : Nat → Int32 → Int32 → px_W → Option (px_W)} (hk56 : ∀ (a0 : Nat) (a2 : Int32) (a3 : Int32) (w : px_W) (q : px_W), k56 a0 a2 a3 w = some q → EV X mX14_readFile 56 [(0, .ref a0), (2, .int a2), (3, .int a3)] [] w none q) : ∀ (a0 : Nat) (a2 : Int32) (a3 : Int32) (a4 : Int32) (w : px_W) (q : px_W), fX14_readFile_266 X k56 a0 a2 a3 a4 w = some q → EV X mX14_readFile 266 [(0, .ref a0), (2, .int a2), (3, .int a3), (4, .int a4)] [] w none q := by
  intro a0 a2 a3 a4 w q h
  unfold fX14_readFile_266 at h
  refine EV.aload_n 0 dX14_readFile_266 rfl rfl ?_
  obtain ⟨v29, gv29, h⟩ := px_bs h
  refine ev_gI dX14_readFile_267 flRX14_100 gv29 ?_
  refine EV.if_ne 280 dX14_readFile_270 (by decide) (fun c30 => ?_) (fun c30 => ?_)
  · rw [if_neg c30] at h
    refine EV.sub [0, 1, 2] rfl ?_
    exact eX14_readFile_280 hk56 _ _ _ _ _ h
  · rw [if_pos c30] at h
    refine EV.aload_n 0 dX14_readFile_273 rfl rfl ?_
    refine EV.iload 3 dX14_readFile_274 rfl ?_
    obtain ⟨o31, go31, h⟩ := px_bs h
    obtain ⟨q32, gq32, h⟩ := px_bs h
    refine EV.callV (As := [.int a4]) (rest := []) dX14_readFile_276 kcX14_readFile_192 (gO_ok go31) rfl rfl rfl (Nat.le_of_ble_eq_true rfl) (Nat.le_of_ble_eq_true rfl) (eX14_segment gq32) ?_
    refine EV.istore_n [(2, .int q32.1), (0, .ref a0), (3, .int a3), (4, .int a4)] dX14_readFile_279 rfl (by decide) rfl ?_
    refine EV.sub [1, 0, 2] rfl ?_
    exact eX14_readFile_280 hk56 _ _ _ _ _ h
set_option maxRecDepth 100000 in
set_option maxHeartbeats 4000000 in
theorem eX14_readFile_238 {X : px_X} {k56 : Nat → Int32 → Int32 → px_W → Option (px_W)} (hk56 : ∀ (a0 : Nat) (a2 : Int32) (a3 : Int32) (w : px_W) (q : px_W), k56 a0 a2 a3 w = some q → EV X mX14_readFile 56 [(0, .ref a0), (2, .int a2), (3, .int a3)] [] w none q) : ∀ (a0 : Nat) (a2 : Int32) (a3 : Int32) (a4 : Int32) (w : px_W) (q : px_W), fX14_readFile_238 X k56 a0 a2 a3 a4 w = some q → EV X mX14_readFile 238 [(0, .ref a0), (2, .int a2), (3, .int a3), (4, .int a4)] [] w none q := by
  intro a0 a2 a3 a4 w q h
  unfold fX14_readFile_238 at h
  refine EV.aload_n 0 dX14_readFile_238 rfl rfl ?_
  obtain ⟨v33, gv33, h⟩ := px_bs h
  refine ev_gI dX14_readFile_239 flRX14_100 gv33 ?_
  refine EV.if_ne 266 dX14_readFile_242 (by decide) (fun c34 => ?_) (fun c34 => ?_)
  · rw [if_neg c34] at h
    refine EV.sub [0, 1, 2, 3] rfl ?_
    exact eX14_readFile_266 hk56 _ _ _ _ _ _ h
  · rw [if_pos c34] at h
    refine EV.iload 3 dX14_readFile_245 rfl ?_
    refine EV.sipush (217) dX14_readFile_247 (by decide) ?_
    refine EV.icmp_ne 266 dX14_readFile_250 (by decide) (fun c35 => ?_) (fun c35 => ?_)
    · rw [if_neg c35] at h
      refine EV.sub [0, 1, 2, 3] rfl ?_
      exact eX14_readFile_266 hk56 _ _ _ _ _ _ h
    · rw [if_pos c35] at h
      refine EV.aload_n 0 dX14_readFile_253 rfl rfl ?_
      refine EV.aload_n 0 dX14_readFile_254 rfl rfl ?_
      obtain ⟨v36, gv36, h⟩ := px_bs h
      refine ev_gI dX14_readFile_255 flRX14_106 gv36 ?_
      obtain ⟨w37, gw37, h⟩ := px_bs h
      refine ev_pV dX14_readFile_258 flRX14_76 rfl rfl rfl rfl gw37 ?_
      refine EV.iconst (0) dX14_readFile_261 (by decide) ?_
      refine EV.istore_n [(3, .int 0), (0, .ref a0), (2, .int a2), (4, .int a4)] dX14_readFile_262 rfl (by decide) rfl ?_
      refine EV.goto 280 dX14_readFile_263 (by decide) ?_
      refine EV.sub [1, 2, 0] rfl ?_
      exact eX14_readFile_280 hk56 _ _ _ _ _ h
set_option maxRecDepth 100000 in
set_option maxHeartbeats 4000000 in
theorem eX14_readFile_229 {X : px_X} {k56 : Nat → Int32 → Int32 → px_W → Option (px_W)} (hk56 : ∀ (a0 : Nat) (a2 : Int32) (a3 : Int32) (w : px_W) (q : px_W), k56 a0 a2 a3 w = some q → EV X mX14_readFile 56 [(0, .ref a0), (2, .int a2), (3, .int a3)] [] w none q) : ∀ (a0 : Nat) (a2 : Int32) (a3 : Int32) (a4 : Int32) (a5 : Int32) (w : px_W) (q : px_W), fX14_readFile_229 X k56 a0 a2 a3 a4 a5 w = some q → EV X mX14_readFile 229 [(0, .ref a0), (2, .int a2), (3, .int a3), (4, .int a4), (5, .int a5)] [] w none q := by
  intro a0 a2 a3 a4 a5 w q h
  unfold fX14_readFile_229 at h
  refine EV.aload_n 0 dX14_readFile_229 rfl rfl ?_
  refine EV.iconst (4) dX14_readFile_230 (by decide) ?_
  refine EV.iload 4 dX14_readFile_231 rfl ?_
  obtain ⟨o38, go38, h⟩ := px_bs h
  obtain ⟨q39, gq39, h⟩ := px_bs h
  refine EV.callV (As := [.int 4, .int a5]) (rest := []) dX14_readFile_233 kcX14_readFile_113 (gO_ok go38) rfl rfl rfl (Nat.le_of_ble_eq_true rfl) (Nat.le_of_ble_eq_true rfl) (eX14_wrong gq39) ?_
  refine EV.istore [(8, .int q39.1), (0, .ref a0), (2, .int a2), (3, .int a3), (4, .int a4), (5, .int a5)] dX14_readFile_236 (by decide) rfl ?_
  refine EV.sub [1, 2, 3, 4] rfl ?_
  exact eX14_readFile_238 hk56 _ _ _ _ _ _ h
set_option maxRecDepth 100000 in
set_option maxHeartbeats 4000000 in
theorem eX14_readFile_199 {X : px_X} {k56 : Nat → Int32 → Int32 → px_W → Option (px_W)} (hk56 : ∀ (a0 : Nat) (a2 : Int32) (a3 : Int32) (w : px_W) (q : px_W), k56 a0 a2 a3 w = some q → EV X mX14_readFile 56 [(0, .ref a0), (2, .int a2), (3, .int a3)] [] w none q) : ∀ (a0 : Nat) (a2 : Int32) (a3 : Int32) (a4 : Int32) (a5 : Int32) (a6 : Int32) (s0 : Int32) (w : px_W) (q : px_W), fX14_readFile_199 X k56 a0 a2 a3 a4 a5 a6 s0 w = some q → EV X mX14_readFile 199 [(0, .ref a0), (2, .int a2), (3, .int a3), (4, .int a4), (5, .int a5), (6, .int a6)] [.int s0] w none q := by
  intro a0 a2 a3 a4 a5 a6 s0 w q h
  unfold fX14_readFile_199 at h
  refine EV.istore [(7, .int s0), (0, .ref a0), (2, .int a2), (3, .int a3), (4, .int a4), (5, .int a5), (6, .int a6)] dX14_readFile_199 (by decide) rfl ?_
  refine EV.aload_n 1 dX14_readFile_201 rfl rfl ?_
  obtain ⟨v40, gv40, h⟩ := px_bs h
  refine ev_gI dX14_readFile_202 flRX14_100 gv40 ?_
  refine EV.if_ne 238 dX14_readFile_205 (by decide) (fun c41 => ?_) (fun c41 => ?_)
  · rw [if_neg c41] at h
    refine EV.sub [1, 2, 3, 4] rfl ?_
    exact eX14_readFile_238 hk56 _ _ _ _ _ _ h
  · rw [if_pos c41] at h
    refine EV.iload 6 dX14_readFile_208 rfl ?_
    refine EV.if_eq 224 dX14_readFile_210 (by decide) (fun c42 => ?_) (fun c42 => ?_)
    · rw [if_pos c42] at h
      refine EV.iload 0 dX14_readFile_224 rfl ?_
      refine EV.if_ne 238 dX14_readFile_226 (by decide) (fun c43 => ?_) (fun c43 => ?_)
      · rw [if_neg c43] at h
        refine EV.sub [1, 2, 3, 4] rfl ?_
        exact eX14_readFile_238 hk56 _ _ _ _ _ _ h
      · rw [if_pos c43] at h
        refine EV.sub [1, 2, 3, 4, 5] rfl ?_
        exact eX14_readFile_229 hk56 _ _ _ _ _ _ _ h
    · rw [if_neg c42] at h
      refine EV.iload 4 dX14_readFile_213 rfl ?_
      refine EV.sipush (220) dX14_readFile_215 (by decide) ?_
      refine EV.icmp_eq 238 dX14_readFile_218 (by decide) (fun c44 => ?_) (fun c44 => ?_)
      · rw [if_pos c44] at h
        refine EV.sub [1, 2, 3, 4] rfl ?_
        exact eX14_readFile_238 hk56 _ _ _ _ _ _ h
      · rw [if_neg c44] at h
        refine EV.goto 229 dX14_readFile_221 (by decide) ?_
        refine EV.sub [1, 2, 3, 4, 5] rfl ?_
        exact eX14_readFile_229 hk56 _ _ _ _ _ _ _ h
set_option maxRecDepth 100000 in
set_option maxHeartbeats 4000000 in
theorem eX14_readFile_194 {X : px_X} {k56 : Nat → Int32 → Int32 → px_W → Option (px_W)} (hk56 : ∀ (a0 : Nat) (a2 : Int32) (a3 : Int32) (w : px_W) (q : px_W), k56 a0 a2 a3 w = some q → EV X mX14_readFile 56 [(0, .ref a0), (2, .int a2), (3, .int a3)] [] w none q) : ∀ (a0 : Nat) (a2 : Int32) (a3 : Int32) (a4 : Int32) (a5 : Int32) (a6 : Int32) (w : px_W) (q : px_W), fX14_readFile_194 X k56 a0 a2 a3 a4 a5 a6 w = some q → EV X mX14_readFile 194 [(0, .ref a0), (2, .int a2), (3, .int a3), (4, .int a4), (5, .int a5), (6, .int a6)] [] w none q := by
  intro a0 a2 a3 a4 a5 a6 w q h
  unfold fX14_readFile_194 at h
  refine EV.iconst (1) dX14_readFile_194 (by decide) ?_
  refine EV.goto 199 dX14_readFile_195 (by decide) ?_
  refine EV.sub [0, 1, 2, 3, 4, 5] rfl ?_
  exact eX14_readFile_199 hk56 _ _ _ _ _ _ _ _ _ h
set_option maxRecDepth 100000 in
set_option maxHeartbeats 4000000 in
theorem eX14_readFile_198 {X : px_X} {k56 : Nat → Int32 → Int32 → px_W → Option (px_W)} (hk56 : ∀ (a0 : Nat) (a2 : Int32) (a3 : Int32) (w : px_W) (q : px_W), k56 a0 a2 a3 w = some q → EV X mX14_readFile 56 [(0, .ref a0), (2, .int a2), (3, .int a3)] [] w none q) : ∀ (a0 : Nat) (a2 : Int32) (a3 : Int32) (a4 : Int32) (a5 : Int32) (a6 : Int32) (w : px_W) (q : px_W), fX14_readFile_198 X k56 a0 a2 a3 a4 a5 a6 w = some q → EV X mX14_readFile 198 [(0, .ref a0), (2, .int a2), (3, .int a3), (4, .int a4), (5, .int a5), (6, .int a6)] [] w none q := by
  intro a0 a2 a3 a4 a5 a6 w q h
  unfold fX14_readFile_198 at h
  refine EV.iconst (0) dX14_readFile_198 (by decide) ?_
  refine EV.sub [0, 1, 2, 3, 4, 5] rfl ?_
  exact eX14_readFile_199 hk56 _ _ _ _ _ _ _ _ _ h
set_option maxRecDepth 100000 in
set_option maxHeartbeats 4000000 in
theorem eX14_readFile_179 {X : px_X} {k56 : Nat → Int32 → Int32 → px_W → Option (px_W)} (hk56 : ∀ (a0 : Nat) (a2 : Int32) (a3 : Int32) (w : px_W) (q : px_W), k56 a0 a2 a3 w = some q → EV X mX14_readFile 56 [(0, .ref a0), (2, .int a2), (3, .int a3)] [] w none q) : ∀ (a0 : Nat) (a2 : Int32) (a3 : Int32) (a4 : Int32) (a5 : Int32) (a6 : Int32) (w : px_W) (q : px_W), fX14_readFile_179 X k56 a0 a2 a3 a4 a5 a6 w = some q → EV X mX14_readFile 179 [(0, .ref a0), (2, .int a2), (3, .int a3), (4, .int a4), (5, .int a5), (6, .int a6)] [] w none q := by
  intro a0 a2 a3 a4 a5 a6 w q h
  unfold fX14_readFile_179 at h
  refine EV.iload 3 dX14_readFile_179 rfl ?_
  refine EV.sipush (218) dX14_readFile_181 (by decide) ?_
  refine EV.icmp_ne 198 dX14_readFile_184 (by decide) (fun c45 => ?_) (fun c45 => ?_)
  · rw [if_neg c45] at h
    refine EV.sub [0, 1, 2, 3, 4, 5] rfl ?_
    exact eX14_readFile_198 hk56 _ _ _ _ _ _ _ _ h
  · rw [if_pos c45] at h
    refine EV.aload_n 0 dX14_readFile_187 rfl rfl ?_
    obtain ⟨v46, gv46, h⟩ := px_bs h
    refine ev_gI dX14_readFile_188 flRX14_82 gv46 ?_
    refine EV.if_le 198 dX14_readFile_191 (by decide) (fun c47 => ?_) (fun c47 => ?_)
    · rw [if_pos c47] at h
      refine EV.sub [0, 1, 2, 3, 4, 5] rfl ?_
      exact eX14_readFile_198 hk56 _ _ _ _ _ _ _ _ h
    · rw [if_neg c47] at h
      refine EV.sub [0, 1, 2, 3, 4, 5] rfl ?_
      exact eX14_readFile_194 hk56 _ _ _ _ _ _ _ _ h
set_option maxRecDepth 100000 in
set_option maxHeartbeats 4000000 in
theorem eX14_readFile_172 {X : px_X} {k56 : Nat → Int32 → Int32 → px_W → Option (px_W)} (hk56 : ∀ (a0 : Nat) (a2 : Int32) (a3 : Int32) (w : px_W) (q : px_W), k56 a0 a2 a3 w = some q → EV X mX14_readFile 56 [(0, .ref a0), (2, .int a2), (3, .int a3)] [] w none q) : ∀ (a0 : Nat) (a2 : Int32) (a3 : Int32) (a4 : Int32) (a5 : Int32) (a6 : Int32) (w : px_W) (q : px_W), fX14_readFile_172 X k56 a0 a2 a3 a4 a5 a6 w = some q → EV X mX14_readFile 172 [(0, .ref a0), (2, .int a2), (3, .int a3), (4, .int a4), (5, .int a5), (6, .int a6)] [] w none q := by
  intro a0 a2 a3 a4 a5 a6 w q h
  unfold fX14_readFile_172 at h
  refine EV.aload_n 0 dX14_readFile_172 rfl rfl ?_
  obtain ⟨v48, gv48, h⟩ := px_bs h
  refine ev_gI dX14_readFile_173 flRX14_82 gv48 ?_
  refine EV.if_eq 194 dX14_readFile_176 (by decide) (fun c49 => ?_) (fun c49 => ?_)
  · rw [if_pos c49] at h
    refine EV.sub [0, 1, 2, 3, 4, 5] rfl ?_
    exact eX14_readFile_194 hk56 _ _ _ _ _ _ _ _ h
  · rw [if_neg c49] at h
    refine EV.sub [0, 1, 2, 3, 4, 5] rfl ?_
    exact eX14_readFile_179 hk56 _ _ _ _ _ _ _ _ h
set_option maxRecDepth 100000 in
set_option maxHeartbeats 4000000 in
theorem eX14_readFile_124 {X : px_X} {k56 : Nat → Int32 → Int32 → px_W → Option (px_W)} (hk56 : ∀ (a0 : Nat) (a2 : Int32) (a3 : Int32) (w : px_W) (q : px_W), k56 a0 a2 a3 w = some q → EV X mX14_readFile 56 [(0, .ref a0), (2, .int a2), (3, .int a3)] [] w none q) : ∀ (a0 : Nat) (a2 : Int32) (a3 : Int32) (a4 : Int32) (a5 : Int32) (a6 : Int32) (w : px_W) (q : px_W), fX14_readFile_124 X k56 a0 a2 a3 a4 a5 a6 w = some q → EV X mX14_readFile 124 [(0, .ref a0), (2, .int a2), (3, .int a3), (4, .int a4), (5, .int a5), (6, .int a6)] [] w none q := by
  intro a0 a2 a3 a4 a5 a6 w q h
  unfold fX14_readFile_124 at h
  refine EV.iload 3 dX14_readFile_124 rfl ?_
  refine EV.sipush (254) dX14_readFile_126 (by decide) ?_
  refine EV.icmp_eq 194 dX14_readFile_129 (by decide) (fun c50 => ?_) (fun c50 => ?_)
  · rw [if_pos c50] at h
    refine EV.sub [0, 1, 2, 3, 4, 5] rfl ?_
    exact eX14_readFile_194 hk56 _ _ _ _ _ _ _ _ h
  · rw [if_neg c50] at h
    refine EV.iload 3 dX14_readFile_132 rfl ?_
    refine EV.sipush (219) dX14_readFile_134 (by decide) ?_
    refine EV.icmp_eq 194 dX14_readFile_137 (by decide) (fun c51 => ?_) (fun c51 => ?_)
    · rw [if_pos c51] at h
      refine EV.sub [0, 1, 2, 3, 4, 5] rfl ?_
      exact eX14_readFile_194 hk56 _ _ _ _ _ _ _ _ h
    · rw [if_neg c51] at h
      refine EV.iload 3 dX14_readFile_140 rfl ?_
      refine EV.sipush (196) dX14_readFile_142 (by decide) ?_
      refine EV.icmp_eq 194 dX14_readFile_145 (by decide) (fun c52 => ?_) (fun c52 => ?_)
      · rw [if_pos c52] at h
        refine EV.sub [0, 1, 2, 3, 4, 5] rfl ?_
        exact eX14_readFile_194 hk56 _ _ _ _ _ _ _ _ h
      · rw [if_neg c52] at h
        refine EV.iload 3 dX14_readFile_148 rfl ?_
        refine EV.sipush (221) dX14_readFile_150 (by decide) ?_
        refine EV.icmp_eq 194 dX14_readFile_153 (by decide) (fun c53 => ?_) (fun c53 => ?_)
        · rw [if_pos c53] at h
          refine EV.sub [0, 1, 2, 3, 4, 5] rfl ?_
          exact eX14_readFile_194 hk56 _ _ _ _ _ _ _ _ h
        · rw [if_neg c53] at h
          refine EV.iload 3 dX14_readFile_156 rfl ?_
          refine EV.sipush (192) dX14_readFile_158 (by decide) ?_
          refine EV.icmp_eq 172 dX14_readFile_161 (by decide) (fun c54 => ?_) (fun c54 => ?_)
          · rw [if_pos c54] at h
            refine EV.sub [0, 1, 2, 3, 4, 5] rfl ?_
            exact eX14_readFile_172 hk56 _ _ _ _ _ _ _ _ h
          · rw [if_neg c54] at h
            refine EV.iload 3 dX14_readFile_164 rfl ?_
            refine EV.sipush (194) dX14_readFile_166 (by decide) ?_
            refine EV.icmp_ne 179 dX14_readFile_169 (by decide) (fun c55 => ?_) (fun c55 => ?_)
            · rw [if_neg c55] at h
              refine EV.sub [0, 1, 2, 3, 4, 5] rfl ?_
              exact eX14_readFile_179 hk56 _ _ _ _ _ _ _ _ h
            · rw [if_pos c55] at h
              refine EV.sub [0, 1, 2, 3, 4, 5] rfl ?_
              exact eX14_readFile_172 hk56 _ _ _ _ _ _ _ _ h
set_option maxRecDepth 100000 in
set_option maxHeartbeats 4000000 in
theorem eX14_readFile_108 {X : px_X} {k56 : Nat → Int32 → Int32 → px_W → Option (px_W)} (hk56 : ∀ (a0 : Nat) (a2 : Int32) (a3 : Int32) (w : px_W) (q : px_W), k56 a0 a2 a3 w = some q → EV X mX14_readFile 56 [(0, .ref a0), (2, .int a2), (3, .int a3)] [] w none q) : ∀ (a0 : Nat) (a2 : Int32) (a3 : Int32) (a4 : Int32) (a5 : Int32) (a6 : Int32) (w : px_W) (q : px_W), fX14_readFile_108 X k56 a0 a2 a3 a4 a5 a6 w = some q → EV X mX14_readFile 108 [(0, .ref a0), (2, .int a2), (3, .int a3), (4, .int a4), (5, .int a5), (6, .int a6)] [] w none q := by
  intro a0 a2 a3 a4 a5 a6 w q h
  unfold fX14_readFile_108 at h
  refine EV.iload 3 dX14_readFile_108 rfl ?_
  refine EV.sipush (224) dX14_readFile_110 (by decide) ?_
  refine EV.icmp_lt 124 dX14_readFile_113 (by decide) (fun c56 => ?_) (fun c56 => ?_)
  · rw [if_pos c56] at h
    refine EV.sub [0, 1, 2, 3, 4, 5] rfl ?_
    exact eX14_readFile_124 hk56 _ _ _ _ _ _ _ _ h
  · rw [if_neg c56] at h
    refine EV.iload 3 dX14_readFile_116 rfl ?_
    refine EV.sipush (239) dX14_readFile_118 (by decide) ?_
    refine EV.icmp_le 194 dX14_readFile_121 (by decide) (fun c57 => ?_) (fun c57 => ?_)
    · rw [if_pos c57] at h
      refine EV.sub [0, 1, 2, 3, 4, 5] rfl ?_
      exact eX14_readFile_194 hk56 _ _ _ _ _ _ _ _ h
    · rw [if_neg c57] at h
      refine EV.sub [0, 1, 2, 3, 4, 5] rfl ?_
      exact eX14_readFile_124 hk56 _ _ _ _ _ _ _ _ h
set_option maxRecDepth 100000 in
set_option maxHeartbeats 4000000 in
theorem eX14_readFile_56 {X : px_X}  : ∀ (m : Nat) (a0 : Nat) (a2 : Int32) (a3 : Int32) (w : px_W) (q : px_W), fX14_readFile_56 X  m a0 a2 a3 w = some q → EV X mX14_readFile 56 [(0, .ref a0), (2, .int a2), (3, .int a3)] [] w none q := by
  intro m
  induction m with
  | zero => intro a0 a2 a3 w q h; cases h
  | succ m ih =>
    intro a0 a2 a3 w q h
    rw [fX14_readFile_56.eq_2] at h
    refine EV.iload_n 2 dX14_readFile_56 rfl rfl ?_
    refine EV.if_eq 283 dX14_readFile_57 (by decide) (fun c58 => ?_) (fun c58 => ?_)
    · rw [if_pos c58] at h
      cases h
      exact EV.ret0 dX14_readFile_283 trivial
    · rw [if_neg c58] at h
      refine EV.aload_n 0 dX14_readFile_60 rfl rfl ?_
      obtain ⟨v59, gv59, h⟩ := px_bs h
      refine ev_gI dX14_readFile_61 flRX14_100 gv59 ?_
      refine EV.if_ne 283 dX14_readFile_64 (by decide) (fun c60 => ?_) (fun c60 => ?_)
      · rw [if_neg c60] at h
        cases h
        exact EV.ret0 dX14_readFile_283 trivial
      · rw [if_pos c60] at h
        refine EV.aload_n 0 dX14_readFile_67 rfl rfl ?_
        obtain ⟨v61, gv61, h⟩ := px_bs h
        refine ev_gI dX14_readFile_68 flRX14_182 gv61 ?_
        refine EV.if_ne 283 dX14_readFile_71 (by decide) (fun c62 => ?_) (fun c62 => ?_)
        · rw [if_neg c62] at h
          cases h
          exact EV.ret0 dX14_readFile_283 trivial
        · rw [if_pos c62] at h
          refine EV.aload_n 0 dX14_readFile_74 rfl rfl ?_
          obtain ⟨o63, go63, h⟩ := px_bs h
          obtain ⟨q64, gq64, h⟩ := px_bs h
          refine EV.callV (As := []) (rest := []) dX14_readFile_75 kcX14_readFile_185 (gO_ok go63) rfl rfl rfl (Nat.le_of_ble_eq_true rfl) (Nat.le_of_ble_eq_true rfl) (eX14_marker gq64) ?_
          refine EV.istore [(4, .int q64.1), (0, .ref a0), (2, .int a2), (3, .int a3)] dX14_readFile_78 (by decide) rfl ?_
          refine EV.aload_n 1 dX14_readFile_80 rfl rfl ?_
          obtain ⟨v65, gv65, h⟩ := px_bs h
          refine ev_gI dX14_readFile_81 flRX14_106 gv65 ?_
          refine EV.iconst (1) dX14_readFile_84 (by decide) ?_
          refine EV.isub dX14_readFile_85 ?_
          refine EV.istore [(5, .int (v65 - 1)), (4, .int q64.1), (0, .ref a0), (2, .int a2), (3, .int a3)] dX14_readFile_86 (by decide) rfl ?_
          refine EV.iload_n 3 dX14_readFile_88 rfl rfl ?_
          refine EV.istore [(6, .int a2), (5, .int (v65 - 1)), (4, .int q64.1), (0, .ref a0), (2, .int a2), (3, .int a3)] dX14_readFile_89 (by decide) rfl ?_
          refine EV.iconst (0) dX14_readFile_91 (by decide) ?_
          refine EV.istore_n [(2, .int 0), (6, .int a2), (5, .int (v65 - 1)), (4, .int q64.1), (0, .ref a0), (3, .int a3)] dX14_readFile_92 rfl (by decide) rfl ?_
          refine EV.iload 3 dX14_readFile_93 rfl ?_
          refine EV.sipush (217) dX14_readFile_95 (by decide) ?_
          refine EV.icmp_ne 108 dX14_readFile_98 (by decide) (fun c66 => ?_) (fun c66 => ?_)
          · rw [if_neg c66] at h
            refine EV.sub [4, 0, 5, 3, 2, 1] rfl ?_
            exact eX14_readFile_108 ih _ _ _ _ _ _ _ _ h
          · rw [if_pos c66] at h
            refine EV.aload_n 4 dX14_readFile_101 rfl rfl ?_
            obtain ⟨o67, go67, h⟩ := px_bs h
            obtain ⟨q68, gq68, h⟩ := px_bs h
            refine EV.callV (As := []) (rest := []) dX14_readFile_102 kcX14_readFile_188 (gO_ok go67) rfl rfl rfl (Nat.le_of_ble_eq_true rfl) (Nat.le_of_ble_eq_true rfl) (eX14_isSent gq68) ?_
            refine EV.if_ne 194 dX14_readFile_105 (by decide) (fun c69 => ?_) (fun c69 => ?_)
            · rw [if_neg c69] at h
              refine EV.sub [4, 0, 5, 3, 2, 1] rfl ?_
              exact eX14_readFile_194 ih _ _ _ _ _ _ _ _ h
            · rw [if_pos c69] at h
              refine EV.sub [4, 0, 5, 3, 2, 1] rfl ?_
              exact eX14_readFile_108 ih _ _ _ _ _ _ _ _ h
set_option maxRecDepth 100000 in
set_option maxHeartbeats 4000000 in
theorem eX14_readFile_52 {X : px_X}  : ∀ (a0 : Nat) (w : px_W) (q : px_W), fX14_readFile_52 X  a0 w = some q → EV X mX14_readFile 52 [(0, .ref a0)] [] w none q := by
  intro a0 w q h
  unfold fX14_readFile_52 at h
  refine EV.iconst (0) dX14_readFile_52 (by decide) ?_
  refine EV.istore_n [(2, .int 0), (0, .ref a0)] dX14_readFile_53 rfl (by decide) rfl ?_
  refine EV.iconst (1) dX14_readFile_54 (by decide) ?_
  refine EV.istore_n [(3, .int 1), (2, .int 0), (0, .ref a0)] dX14_readFile_55 rfl (by decide) rfl ?_
  refine EV.sub [2, 1, 0] rfl ?_
  exact eX14_readFile_56  FU _ _ _ _ _ h
set_option maxRecDepth 100000 in
set_option maxHeartbeats 4000000 in
theorem eX14_readFile_26 {X : px_X}  : ∀ (a0 : Nat) (w : px_W) (q : px_W), fX14_readFile_26 X  a0 w = some q → EV X mX14_readFile 26 [(0, .ref a0)] [] w none q := by
  intro a0 w q h
  unfold fX14_readFile_26 at h
  refine EV.aload_n 0 dX14_readFile_26 rfl rfl ?_
  obtain ⟨o70, go70, h⟩ := px_bs h
  obtain ⟨q71, gq71, h⟩ := px_bs h
  refine EV.callV (As := []) (rest := []) dX14_readFile_27 kcX14_readFile_124 (gO_ok go70) rfl rfl rfl (Nat.le_of_ble_eq_true rfl) (Nat.le_of_ble_eq_true rfl) (eX14_next gq71) ?_
  refine EV.istore_n [(1, .int q71.1), (0, .ref a0)] dX14_readFile_30 rfl (by decide) rfl ?_
  refine EV.aload_n 1 dX14_readFile_31 rfl rfl ?_
  obtain ⟨v72, gv72, h⟩ := px_bs h
  refine ev_gI dX14_readFile_32 flRX14_100 gv72 ?_
  refine EV.if_ne 52 dX14_readFile_35 (by decide) (fun c73 => ?_) (fun c73 => ?_)
  · rw [if_neg c73] at h
    refine EV.sub [1] rfl ?_
    exact eX14_readFile_52  _ _ _ h
  · rw [if_pos c73] at h
    refine EV.iload_n 0 dX14_readFile_38 rfl rfl ?_
    refine EV.sipush (216) dX14_readFile_39 (by decide) ?_
    refine EV.icmp_eq 52 dX14_readFile_42 (by decide) (fun c74 => ?_) (fun c74 => ?_)
    · rw [if_pos c74] at h
      refine EV.sub [1] rfl ?_
      exact eX14_readFile_52  _ _ _ h
    · rw [if_neg c74] at h
      refine EV.aload_n 1 dX14_readFile_45 rfl rfl ?_
      refine EV.iconst (2) dX14_readFile_46 (by decide) ?_
      refine EV.iconst (0) dX14_readFile_47 (by decide) ?_
      obtain ⟨o75, go75, h⟩ := px_bs h
      obtain ⟨q76, gq76, h⟩ := px_bs h
      refine EV.callV (As := [.int 2, .int 0]) (rest := []) dX14_readFile_48 kcX14_readFile_113 (gO_ok go75) rfl rfl rfl (Nat.le_of_ble_eq_true rfl) (Nat.le_of_ble_eq_true rfl) (eX14_wrong gq76) ?_
      refine EV.istore_n [(2, .int q76.1), (1, .int q71.1), (0, .ref a0)] dX14_readFile_51 rfl (by decide) rfl ?_
      refine EV.sub [2] rfl ?_
      exact eX14_readFile_52  _ _ _ h
set_option maxRecDepth 100000 in
set_option maxHeartbeats 4000000 in
theorem eX14_readFile {X : px_X} {w : px_W} {a0 : Nat} {q : px_W} (h : fX14_readFile X w a0 = some q) : EV X mX14_readFile 0 (lv_args 0 [.ref a0]) [] w none q := by
  unfold fX14_readFile at h
  show EV X mX14_readFile 0 [(0, .ref a0)] [] w none q
  refine EV.aload_n 0 dX14_readFile_0 rfl rfl ?_
  obtain ⟨o77, go77, h⟩ := px_bs h
  obtain ⟨q78, gq78, h⟩ := px_bs h
  refine EV.callV (As := []) (rest := []) dX14_readFile_1 kcX14_readFile_124 (gO_ok go77) rfl rfl rfl (Nat.le_of_ble_eq_true rfl) (Nat.le_of_ble_eq_true rfl) (eX14_next gq78) ?_
  refine EV.istore_n [(1, .int q78.1), (0, .ref a0)] dX14_readFile_4 rfl (by decide) rfl ?_
  refine EV.aload_n 1 dX14_readFile_5 rfl rfl ?_
  obtain ⟨v79, gv79, h⟩ := px_bs h
  refine ev_gI dX14_readFile_6 flRX14_100 gv79 ?_
  refine EV.if_ne 26 dX14_readFile_9 (by decide) (fun c80 => ?_) (fun c80 => ?_)
  · rw [if_neg c80] at h
    refine EV.sub [1] rfl ?_
    exact eX14_readFile_26  _ _ _ h
  · rw [if_pos c80] at h
    refine EV.iload_n 0 dX14_readFile_12 rfl rfl ?_
    refine EV.sipush (255) dX14_readFile_13 (by decide) ?_
    refine EV.icmp_eq 26 dX14_readFile_16 (by decide) (fun c81 => ?_) (fun c81 => ?_)
    · rw [if_pos c81] at h
      refine EV.sub [1] rfl ?_
      exact eX14_readFile_26  _ _ _ h
    · rw [if_neg c81] at h
      refine EV.aload_n 1 dX14_readFile_19 rfl rfl ?_
      refine EV.iconst (2) dX14_readFile_20 (by decide) ?_
      refine EV.iconst (0) dX14_readFile_21 (by decide) ?_
      obtain ⟨o82, go82, h⟩ := px_bs h
      obtain ⟨q83, gq83, h⟩ := px_bs h
      refine EV.callV (As := [.int 2, .int 0]) (rest := []) dX14_readFile_22 kcX14_readFile_113 (gO_ok go82) rfl rfl rfl (Nat.le_of_ble_eq_true rfl) (Nat.le_of_ble_eq_true rfl) (eX14_wrong gq83) ?_
      refine EV.istore_n [(2, .int q83.1), (1, .int q78.1), (0, .ref a0)] dX14_readFile_25 rfl (by decide) rfl ?_
      refine EV.sub [2] rfl ?_
      exact eX14_readFile_26  _ _ _ h
/-! WavePicturesModel$Segments.readAll()I -/
theorem dX14_readAll_0 : decode cX14_readAll 0 = .ok (.aload_n 0, 1) := by decide +kernel
theorem dX14_readAll_1 : decode cX14_readAll 1 = .ok (.iconst 0, 1) := by decide +kernel
theorem dX14_readAll_2 : decode cX14_readAll 2 = .ok (.putfield 100, 3) := by decide +kernel
theorem dX14_readAll_5 : decode cX14_readAll 5 = .ok (.aload_n 0, 1) := by decide +kernel
theorem dX14_readAll_6 : decode cX14_readAll 6 = .ok (.iconst (-1), 1) := by decide +kernel
theorem dX14_readAll_7 : decode cX14_readAll 7 = .ok (.putfield 15, 3) := by decide +kernel
theorem dX14_readAll_10 : decode cX14_readAll 10 = .ok (.aload_n 0, 1) := by decide +kernel
theorem dX14_readAll_11 : decode cX14_readAll 11 = .ok (.invokevirtual 220, 3) := by decide +kernel
theorem dX14_readAll_14 : decode cX14_readAll 14 = .ok (.aload_n 0, 1) := by decide +kernel
theorem dX14_readAll_15 : decode cX14_readAll 15 = .ok (.iconst 0, 1) := by decide +kernel
theorem dX14_readAll_16 : decode cX14_readAll 16 = .ok (.putfield 106, 3) := by decide +kernel
theorem dX14_readAll_19 : decode cX14_readAll 19 = .ok (.aload_n 0, 1) := by decide +kernel
theorem dX14_readAll_20 : decode cX14_readAll 20 = .ok (.iconst (-1), 1) := by decide +kernel
theorem dX14_readAll_21 : decode cX14_readAll 21 = .ok (.putfield 103, 3) := by decide +kernel
theorem dX14_readAll_24 : decode cX14_readAll 24 = .ok (.aload_n 0, 1) := by decide +kernel
theorem dX14_readAll_25 : decode cX14_readAll 25 = .ok (.invokevirtual 223, 3) := by decide +kernel
theorem dX14_readAll_28 : decode cX14_readAll 28 = .ok (.aload_n 0, 1) := by decide +kernel
theorem dX14_readAll_29 : decode cX14_readAll 29 = .ok (.getfield 100, 3) := by decide +kernel
theorem dX14_readAll_32 : decode cX14_readAll 32 = .ok (.ifCond .le 7, 3) := by decide +kernel
theorem dX14_readAll_35 : decode cX14_readAll 35 = .ok (.aload_n 0, 1) := by decide +kernel
theorem dX14_readAll_36 : decode cX14_readAll 36 = .ok (.invokevirtual 220, 3) := by decide +kernel
theorem dX14_readAll_39 : decode cX14_readAll 39 = .ok (.aload_n 0, 1) := by decide +kernel
theorem dX14_readAll_40 : decode cX14_readAll 40 = .ok (.getfield 100, 3) := by decide +kernel
theorem dX14_readAll_43 : decode cX14_readAll 43 = .ok (.ireturn, 1) := by decide +kernel
theorem mbX14_forget : px_mB mX14_forget 0 := ⟨tb8 (List.mem_of_getElem? (i := 126) rfl), by decide +kernel, tb1 (List.mem_of_getElem? (i := 14) rfl), by decide +kernel, by decide +kernel⟩
theorem vbX14_forget : px_vB mX14_forget := ⟨tb8 (List.mem_of_getElem? (i := 125) rfl), List.mem_append_left _ (List.mem_of_getElem? (i := 85) (by decide +kernel))⟩
theorem kcX14_readAll_220 : px_cV mX14_readAll 220 mX14_forget 0 := ⟨⟨mbX14_forget, by decide, by decide⟩, Or.inl (tb8 (List.mem_of_getElem? (i := 123) rfl)), vbX14_forget⟩
theorem mbX14_readFile : px_mB mX14_readFile 0 := ⟨tb8 (List.mem_of_getElem? (i := 130) rfl), by decide +kernel, tb1 (List.mem_of_getElem? (i := 14) rfl), by decide +kernel, by decide +kernel⟩
theorem vbX14_readFile : px_vB mX14_readFile := ⟨tb8 (List.mem_of_getElem? (i := 129) rfl), List.mem_append_left _ (List.mem_of_getElem? (i := 86) (by decide +kernel))⟩
theorem kcX14_readAll_223 : px_cV mX14_readAll 223 mX14_readFile 0 := ⟨⟨mbX14_readFile, by decide, by decide⟩, Or.inl (tb8 (List.mem_of_getElem? (i := 127) rfl)), vbX14_readFile⟩
set_option maxRecDepth 100000 in
set_option maxHeartbeats 4000000 in
theorem eX14_readAll_39 {X : px_X}  : ∀ (a0 : Nat) (w : px_W) (q : Int32 × px_W), fX14_readAll_39 X  a0 w = some q → EV X mX14_readAll 39 [(0, .ref a0)] [] w (some (.int q.1)) q.2 := by
  intro a0 w q h
  unfold fX14_readAll_39 at h
  refine EV.aload_n 0 dX14_readAll_39 rfl rfl ?_
  obtain ⟨v13, gv13, h⟩ := px_bs h
  refine ev_gI dX14_readAll_40 flRX14_100 gv13 ?_
  cases h
  exact EV.reti dX14_readAll_43 rfl
set_option maxRecDepth 100000 in
set_option maxHeartbeats 4000000 in
theorem eX14_readAll {X : px_X} {w : px_W} {a0 : Nat} {q : Int32 × px_W} (h : fX14_readAll X w a0 = some q) : EV X mX14_readAll 0 (lv_args 0 [.ref a0]) [] w (some (.int q.1)) q.2 := by
  unfold fX14_readAll at h
  show EV X mX14_readAll 0 [(0, .ref a0)] [] w (some (.int q.1)) q.2
  refine EV.aload_n 0 dX14_readAll_0 rfl rfl ?_
  refine EV.iconst (0) dX14_readAll_1 (by decide) ?_
  obtain ⟨w14, gw14, h⟩ := px_bs h
  refine ev_pV dX14_readAll_2 flRX14_100 rfl rfl rfl rfl gw14 ?_
  refine EV.aload_n 0 dX14_readAll_5 rfl rfl ?_
  refine EV.iconst ((-1)) dX14_readAll_6 (by decide) ?_
  obtain ⟨w15, gw15, h⟩ := px_bs h
  refine ev_pV dX14_readAll_7 flRX14_15 rfl rfl rfl rfl gw15 ?_
  refine EV.aload_n 0 dX14_readAll_10 rfl rfl ?_
  obtain ⟨o16, go16, h⟩ := px_bs h
  obtain ⟨q17, gq17, h⟩ := px_bs h
  refine EV.callV (As := []) (rest := []) dX14_readAll_11 kcX14_readAll_220 (gO_ok go16) rfl rfl rfl (Nat.le_of_ble_eq_true rfl) (Nat.le_of_ble_eq_true rfl) (eX14_forget gq17) ?_
  refine EV.aload_n 0 dX14_readAll_14 rfl rfl ?_
  refine EV.iconst (0) dX14_readAll_15 (by decide) ?_
  obtain ⟨w18, gw18, h⟩ := px_bs h
  refine ev_pV dX14_readAll_16 flRX14_106 rfl rfl rfl rfl gw18 ?_
  refine EV.aload_n 0 dX14_readAll_19 rfl rfl ?_
  refine EV.iconst ((-1)) dX14_readAll_20 (by decide) ?_
  obtain ⟨w19, gw19, h⟩ := px_bs h
  refine ev_pV dX14_readAll_21 flRX14_103 rfl rfl rfl rfl gw19 ?_
  refine EV.aload_n 0 dX14_readAll_24 rfl rfl ?_
  obtain ⟨o20, go20, h⟩ := px_bs h
  obtain ⟨q21, gq21, h⟩ := px_bs h
  refine EV.callV (As := []) (rest := []) dX14_readAll_25 kcX14_readAll_223 (gO_ok go20) rfl rfl rfl (Nat.le_of_ble_eq_true rfl) (Nat.le_of_ble_eq_true rfl) (eX14_readFile gq21) ?_
  refine EV.aload_n 0 dX14_readAll_28 rfl rfl ?_
  obtain ⟨v22, gv22, h⟩ := px_bs h
  refine ev_gI dX14_readAll_29 flRX14_100 gv22 ?_
  refine EV.if_le 39 dX14_readAll_32 (by decide) (fun c23 => ?_) (fun c23 => ?_)
  · rw [if_pos c23] at h
    refine EV.sub [0] rfl ?_
    exact eX14_readAll_39  _ _ _ h
  · rw [if_neg c23] at h
    refine EV.aload_n 0 dX14_readAll_35 rfl rfl ?_
    obtain ⟨o24, go24, h⟩ := px_bs h
    obtain ⟨q25, gq25, h⟩ := px_bs h
    refine EV.callV (As := []) (rest := []) dX14_readAll_36 kcX14_readAll_220 (gO_ok go24) rfl rfl rfl (Nat.le_of_ble_eq_true rfl) (Nat.le_of_ble_eq_true rfl) (eX14_forget gq25) ?_
    refine EV.sub [0] rfl ?_
    exact eX14_readAll_39  _ _ _ h
/-! WavePicturesModel.<init>()V -/
theorem dX15_init_0 : decode cX15_init 0 = .ok (.aload_n 0, 1) := by decide +kernel
theorem dX15_init_1 : decode cX15_init 1 = .ok (.invokespecial 1, 3) := by decide +kernel
theorem dX15_init_4 : decode cX15_init 4 = .ok (.aload_n 0, 1) := by decide +kernel
theorem dX15_init_5 : decode cX15_init 5 = .ok (.sipush 16384, 3) := by decide +kernel
theorem dX15_init_8 : decode cX15_init 8 = .ok (.newarray .byte, 2) := by decide +kernel
theorem dX15_init_10 : decode cX15_init 10 = .ok (.putfield 7, 3) := by decide +kernel
theorem dX15_init_13 : decode cX15_init 13 = .ok (.aload_n 0, 1) := by decide +kernel
theorem dX15_init_14 : decode cX15_init 14 = .ok (.sipush 16384, 3) := by decide +kernel
theorem dX15_init_17 : decode cX15_init 17 = .ok (.newarray .byte, 2) := by decide +kernel
theorem dX15_init_19 : decode cX15_init 19 = .ok (.putfield 13, 3) := by decide +kernel
theorem dX15_init_22 : decode cX15_init 22 = .ok (.aload_n 0, 1) := by decide +kernel
theorem dX15_init_23 : decode cX15_init 23 = .ok (.sipush 16384, 3) := by decide +kernel
theorem dX15_init_26 : decode cX15_init 26 = .ok (.newarray .byte, 2) := by decide +kernel
theorem dX15_init_28 : decode cX15_init 28 = .ok (.putfield 16, 3) := by decide +kernel
theorem dX15_init_31 : decode cX15_init 31 = .ok (.aload_n 0, 1) := by decide +kernel
theorem dX15_init_32 : decode cX15_init 32 = .ok (.iconst (-1), 1) := by decide +kernel
theorem dX15_init_33 : decode cX15_init 33 = .ok (.putfield 19, 3) := by decide +kernel
theorem dX15_init_36 : decode cX15_init 36 = .ok (.aload_n 0, 1) := by decide +kernel
theorem dX15_init_37 : decode cX15_init 37 = .ok (.new 23, 3) := by decide +kernel
theorem dX15_init_40 : decode cX15_init 40 = .ok (.dup, 1) := by decide +kernel
theorem dX15_init_41 : decode cX15_init 41 = .ok (.invokespecial 25, 3) := by decide +kernel
theorem dX15_init_44 : decode cX15_init 44 = .ok (.putfield 26, 3) := by decide +kernel
theorem dX15_init_47 : decode cX15_init 47 = .ok (.aload_n 0, 1) := by decide +kernel
theorem dX15_init_48 : decode cX15_init 48 = .ok (.new 30, 3) := by decide +kernel
theorem dX15_init_51 : decode cX15_init 51 = .ok (.dup, 1) := by decide +kernel
theorem dX15_init_52 : decode cX15_init 52 = .ok (.invokespecial 32, 3) := by decide +kernel
theorem dX15_init_55 : decode cX15_init 55 = .ok (.putfield 33, 3) := by decide +kernel
theorem dX15_init_58 : decode cX15_init 58 = .ok (.aload_n 0, 1) := by decide +kernel
theorem dX15_init_59 : decode cX15_init 59 = .ok (.new 37, 3) := by decide +kernel
theorem dX15_init_62 : decode cX15_init 62 = .ok (.dup, 1) := by decide +kernel
theorem dX15_init_63 : decode cX15_init 63 = .ok (.invokespecial 39, 3) := by decide +kernel
theorem dX15_init_66 : decode cX15_init 66 = .ok (.putfield 40, 3) := by decide +kernel
theorem dX15_init_69 : decode cX15_init 69 = .ok (.aload_n 0, 1) := by decide +kernel
theorem dX15_init_70 : decode cX15_init 70 = .ok (.sipush 256, 3) := by decide +kernel
theorem dX15_init_73 : decode cX15_init 73 = .ok (.newarray .int, 2) := by decide +kernel
theorem dX15_init_75 : decode cX15_init 75 = .ok (.putfield 44, 3) := by decide +kernel
theorem dX15_init_78 : decode cX15_init 78 = .ok (.aload_n 0, 1) := by decide +kernel
theorem dX15_init_79 : decode cX15_init 79 = .ok (.iconst 4, 1) := by decide +kernel
theorem dX15_init_80 : decode cX15_init 80 = .ok (.newarray .boolean, 2) := by decide +kernel
theorem dX15_init_82 : decode cX15_init 82 = .ok (.putfield 48, 3) := by decide +kernel
theorem dX15_init_85 : decode cX15_init 85 = .ok (.aload_n 0, 1) := by decide +kernel
theorem dX15_init_86 : decode cX15_init 86 = .ok (.iconst 4, 1) := by decide +kernel
theorem dX15_init_87 : decode cX15_init 87 = .ok (.newarray .int, 2) := by decide +kernel
theorem dX15_init_89 : decode cX15_init 89 = .ok (.putfield 52, 3) := by decide +kernel
theorem dX15_init_92 : decode cX15_init 92 = .ok (.aload_n 0, 1) := by decide +kernel
theorem dX15_init_93 : decode cX15_init 93 = .ok (.iconst 4, 1) := by decide +kernel
theorem dX15_init_94 : decode cX15_init 94 = .ok (.newarray .int, 2) := by decide +kernel
theorem dX15_init_96 : decode cX15_init 96 = .ok (.putfield 55, 3) := by decide +kernel
theorem dX15_init_99 : decode cX15_init 99 = .ok (.aload_n 0, 1) := by decide +kernel
theorem dX15_init_100 : decode cX15_init 100 = .ok (.iconst 4, 1) := by decide +kernel
theorem dX15_init_101 : decode cX15_init 101 = .ok (.newarray .int, 2) := by decide +kernel
theorem dX15_init_103 : decode cX15_init 103 = .ok (.putfield 58, 3) := by decide +kernel
theorem dX15_init_106 : decode cX15_init 106 = .ok (.aload_n 0, 1) := by decide +kernel
theorem dX15_init_107 : decode cX15_init 107 = .ok (.iconst 4, 1) := by decide +kernel
theorem dX15_init_108 : decode cX15_init 108 = .ok (.newarray .int, 2) := by decide +kernel
theorem dX15_init_110 : decode cX15_init 110 = .ok (.putfield 61, 3) := by decide +kernel
theorem dX15_init_113 : decode cX15_init 113 = .ok (.aload_n 0, 1) := by decide +kernel
theorem dX15_init_114 : decode cX15_init 114 = .ok (.iconst 4, 1) := by decide +kernel
theorem dX15_init_115 : decode cX15_init 115 = .ok (.newarray .int, 2) := by decide +kernel
theorem dX15_init_117 : decode cX15_init 117 = .ok (.putfield 64, 3) := by decide +kernel
theorem dX15_init_120 : decode cX15_init 120 = .ok (.aload_n 0, 1) := by decide +kernel
theorem dX15_init_121 : decode cX15_init 121 = .ok (.sipush 256, 3) := by decide +kernel
theorem dX15_init_124 : decode cX15_init 124 = .ok (.newarray .int, 2) := by decide +kernel
theorem dX15_init_126 : decode cX15_init 126 = .ok (.putfield 67, 3) := by decide +kernel
theorem dX15_init_129 : decode cX15_init 129 = .ok (.aload_n 0, 1) := by decide +kernel
theorem dX15_init_130 : decode cX15_init 130 = .ok (.sipush 12288, 3) := by decide +kernel
theorem dX15_init_133 : decode cX15_init 133 = .ok (.newarray .short, 2) := by decide +kernel
theorem dX15_init_135 : decode cX15_init 135 = .ok (.putfield 70, 3) := by decide +kernel
theorem dX15_init_138 : decode cX15_init 138 = .ok (.aload_n 0, 1) := by decide +kernel
theorem dX15_init_139 : decode cX15_init 139 = .ok (.sipush 12288, 3) := by decide +kernel
theorem dX15_init_142 : decode cX15_init 142 = .ok (.newarray .short, 2) := by decide +kernel
theorem dX15_init_144 : decode cX15_init 144 = .ok (.putfield 74, 3) := by decide +kernel
theorem dX15_init_147 : decode cX15_init 147 = .ok (.aload_n 0, 1) := by decide +kernel
theorem dX15_init_148 : decode cX15_init 148 = .ok (.iconst 4, 1) := by decide +kernel
theorem dX15_init_149 : decode cX15_init 149 = .ok (.newarray .int, 2) := by decide +kernel
theorem dX15_init_151 : decode cX15_init 151 = .ok (.putfield 77, 3) := by decide +kernel
theorem dX15_init_154 : decode cX15_init 154 = .ok (.aload_n 0, 1) := by decide +kernel
theorem dX15_init_155 : decode cX15_init 155 = .ok (.iconst 4, 1) := by decide +kernel
theorem dX15_init_156 : decode cX15_init 156 = .ok (.newarray .int, 2) := by decide +kernel
theorem dX15_init_158 : decode cX15_init 158 = .ok (.putfield 80, 3) := by decide +kernel
theorem dX15_init_161 : decode cX15_init 161 = .ok (.aload_n 0, 1) := by decide +kernel
theorem dX15_init_162 : decode cX15_init 162 = .ok (.sipush 256, 3) := by decide +kernel
theorem dX15_init_165 : decode cX15_init 165 = .ok (.newarray .int, 2) := by decide +kernel
theorem dX15_init_167 : decode cX15_init 167 = .ok (.putfield 83, 3) := by decide +kernel
theorem dX15_init_170 : decode cX15_init 170 = .ok (.aload_n 0, 1) := by decide +kernel
theorem dX15_init_171 : decode cX15_init 171 = .ok (.bipush 64, 2) := by decide +kernel
theorem dX15_init_173 : decode cX15_init 173 = .ok (.newarray .int, 2) := by decide +kernel
theorem dX15_init_175 : decode cX15_init 175 = .ok (.putfield 86, 3) := by decide +kernel
theorem dX15_init_178 : decode cX15_init 178 = .ok (.aload_n 0, 1) := by decide +kernel
theorem dX15_init_179 : decode cX15_init 179 = .ok (.bipush 64, 2) := by decide +kernel
theorem dX15_init_181 : decode cX15_init 181 = .ok (.newarray .int, 2) := by decide +kernel
theorem dX15_init_183 : decode cX15_init 183 = .ok (.putfield 89, 3) := by decide +kernel
theorem dX15_init_186 : decode cX15_init 186 = .ok (.aload_n 0, 1) := by decide +kernel
theorem dX15_init_187 : decode cX15_init 187 = .ok (.bipush 64, 2) := by decide +kernel
theorem dX15_init_189 : decode cX15_init 189 = .ok (.newarray .int, 2) := by decide +kernel
theorem dX15_init_191 : decode cX15_init 191 = .ok (.putfield 92, 3) := by decide +kernel
theorem dX15_init_194 : decode cX15_init 194 = .ok (.aload_n 0, 1) := by decide +kernel
theorem dX15_init_195 : decode cX15_init 195 = .ok (.sipush 4096, 3) := by decide +kernel
theorem dX15_init_198 : decode cX15_init 198 = .ok (.newarray .int, 2) := by decide +kernel
theorem dX15_init_200 : decode cX15_init 200 = .ok (.putfield 95, 3) := by decide +kernel
theorem dX15_init_203 : decode cX15_init 203 = .ok (.aload_n 0, 1) := by decide +kernel
theorem dX15_init_204 : decode cX15_init 204 = .ok (.iconst 4, 1) := by decide +kernel
theorem dX15_init_205 : decode cX15_init 205 = .ok (.newarray .int, 2) := by decide +kernel
theorem dX15_init_207 : decode cX15_init 207 = .ok (.putfield 98, 3) := by decide +kernel
theorem dX15_init_210 : decode cX15_init 210 = .ok (.aload_n 0, 1) := by decide +kernel
theorem dX15_init_211 : decode cX15_init 211 = .ok (.iconst 4, 1) := by decide +kernel
theorem dX15_init_212 : decode cX15_init 212 = .ok (.newarray .int, 2) := by decide +kernel
theorem dX15_init_214 : decode cX15_init 214 = .ok (.putfield 101, 3) := by decide +kernel
theorem dX15_init_217 : decode cX15_init 217 = .ok (.aload_n 0, 1) := by decide +kernel
theorem dX15_init_218 : decode cX15_init 218 = .ok (.sipush 4356, 3) := by decide +kernel
theorem dX15_init_221 : decode cX15_init 221 = .ok (.newarray .int, 2) := by decide +kernel
theorem dX15_init_223 : decode cX15_init 223 = .ok (.putfield 104, 3) := by decide +kernel
theorem dX15_init_226 : decode cX15_init 226 = .ok (.aload_n 0, 1) := by decide +kernel
theorem dX15_init_227 : decode cX15_init 227 = .ok (.sipush 4356, 3) := by decide +kernel
theorem dX15_init_230 : decode cX15_init 230 = .ok (.newarray .int, 2) := by decide +kernel
theorem dX15_init_232 : decode cX15_init 232 = .ok (.putfield 107, 3) := by decide +kernel
theorem dX15_init_235 : decode cX15_init 235 = .ok (.aload_n 0, 1) := by decide +kernel
theorem dX15_init_236 : decode cX15_init 236 = .ok (.bipush 64, 2) := by decide +kernel
theorem dX15_init_238 : decode cX15_init 238 = .ok (.newarray .long, 2) := by decide +kernel
theorem dX15_init_240 : decode cX15_init 240 = .ok (.putfield 110, 3) := by decide +kernel
theorem dX15_init_243 : decode cX15_init 243 = .ok (.iconst 0, 1) := by decide +kernel
theorem dX15_init_244 : decode cX15_init 244 = .ok (.istore_n 1, 1) := by decide +kernel
theorem dX15_init_245 : decode cX15_init 245 = .ok (.iconst 0, 1) := by decide +kernel
theorem dX15_init_246 : decode cX15_init 246 = .ok (.istore_n 2, 1) := by decide +kernel
theorem dX15_init_247 : decode cX15_init 247 = .ok (.iload_n 2, 1) := by decide +kernel
theorem dX15_init_248 : decode cX15_init 248 = .ok (.bipush 15, 2) := by decide +kernel
theorem dX15_init_250 : decode cX15_init 250 = .ok (.if_icmp .ge 91, 3) := by decide +kernel
theorem dX15_init_253 : decode cX15_init 253 = .ok (.iconst 0, 1) := by decide +kernel
theorem dX15_init_254 : decode cX15_init 254 = .ok (.istore_n 3, 1) := by decide +kernel
theorem dX15_init_255 : decode cX15_init 255 = .ok (.iload_n 3, 1) := by decide +kernel
theorem dX15_init_256 : decode cX15_init 256 = .ok (.iload_n 2, 1) := by decide +kernel
theorem dX15_init_257 : decode cX15_init 257 = .ok (.if_icmp .gt 78, 3) := by decide +kernel
theorem dX15_init_260 : decode cX15_init 260 = .ok (.iload_n 2, 1) := by decide +kernel
theorem dX15_init_261 : decode cX15_init 261 = .ok (.iconst 2, 1) := by decide +kernel
theorem dX15_init_262 : decode cX15_init 262 = .ok (.irem, 1) := by decide +kernel
theorem dX15_init_263 : decode cX15_init 263 = .ok (.iconst 1, 1) := by decide +kernel
theorem dX15_init_264 : decode cX15_init 264 = .ok (.if_icmp .ne 9, 3) := by decide +kernel
theorem dX15_init_267 : decode cX15_init 267 = .ok (.iload_n 2, 1) := by decide +kernel
theorem dX15_init_268 : decode cX15_init 268 = .ok (.iload_n 3, 1) := by decide +kernel
theorem dX15_init_269 : decode cX15_init 269 = .ok (.isub, 1) := by decide +kernel
theorem dX15_init_270 : decode cX15_init 270 = .ok (.goto 4, 3) := by decide +kernel
theorem dX15_init_273 : decode cX15_init 273 = .ok (.iload_n 3, 1) := by decide +kernel
theorem dX15_init_274 : decode cX15_init 274 = .ok (.istore 4, 2) := by decide +kernel
theorem dX15_init_276 : decode cX15_init 276 = .ok (.iload_n 2, 1) := by decide +kernel
theorem dX15_init_277 : decode cX15_init 277 = .ok (.iload 4, 2) := by decide +kernel
theorem dX15_init_279 : decode cX15_init 279 = .ok (.isub, 1) := by decide +kernel
theorem dX15_init_280 : decode cX15_init 280 = .ok (.istore 5, 2) := by decide +kernel
theorem dX15_init_282 : decode cX15_init 282 = .ok (.iload 4, 2) := by decide +kernel
theorem dX15_init_284 : decode cX15_init 284 = .ok (.bipush 8, 2) := by decide +kernel
theorem dX15_init_286 : decode cX15_init 286 = .ok (.if_icmp .ge 43, 3) := by decide +kernel
theorem dX15_init_289 : decode cX15_init 289 = .ok (.iload 5, 2) := by decide +kernel
theorem dX15_init_291 : decode cX15_init 291 = .ok (.bipush 8, 2) := by decide +kernel
theorem dX15_init_293 : decode cX15_init 293 = .ok (.if_icmp .ge 36, 3) := by decide +kernel
theorem dX15_init_296 : decode cX15_init 296 = .ok (.aload_n 0, 1) := by decide +kernel
theorem dX15_init_297 : decode cX15_init 297 = .ok (.getfield 86, 3) := by decide +kernel
theorem dX15_init_300 : decode cX15_init 300 = .ok (.iload_n 1, 1) := by decide +kernel
theorem dX15_init_301 : decode cX15_init 301 = .ok (.iload 5, 2) := by decide +kernel
theorem dX15_init_303 : decode cX15_init 303 = .ok (.iastore, 1) := by decide +kernel
theorem dX15_init_304 : decode cX15_init 304 = .ok (.aload_n 0, 1) := by decide +kernel
theorem dX15_init_305 : decode cX15_init 305 = .ok (.getfield 89, 3) := by decide +kernel
theorem dX15_init_308 : decode cX15_init 308 = .ok (.iload_n 1, 1) := by decide +kernel
theorem dX15_init_309 : decode cX15_init 309 = .ok (.iload 4, 2) := by decide +kernel
theorem dX15_init_311 : decode cX15_init 311 = .ok (.iastore, 1) := by decide +kernel
theorem dX15_init_312 : decode cX15_init 312 = .ok (.aload_n 0, 1) := by decide +kernel
theorem dX15_init_313 : decode cX15_init 313 = .ok (.getfield 92, 3) := by decide +kernel
theorem dX15_init_316 : decode cX15_init 316 = .ok (.bipush 8, 2) := by decide +kernel
theorem dX15_init_318 : decode cX15_init 318 = .ok (.iload 5, 2) := by decide +kernel
theorem dX15_init_320 : decode cX15_init 320 = .ok (.imul, 1) := by decide +kernel
theorem dX15_init_321 : decode cX15_init 321 = .ok (.iload 4, 2) := by decide +kernel
theorem dX15_init_323 : decode cX15_init 323 = .ok (.iadd, 1) := by decide +kernel
theorem dX15_init_324 : decode cX15_init 324 = .ok (.iload_n 1, 1) := by decide +kernel
theorem dX15_init_325 : decode cX15_init 325 = .ok (.iastore, 1) := by decide +kernel
theorem dX15_init_326 : decode cX15_init 326 = .ok (.iinc 1 1, 3) := by decide +kernel
theorem dX15_init_329 : decode cX15_init 329 = .ok (.iinc 3 1, 3) := by decide +kernel
theorem dX15_init_332 : decode cX15_init 332 = .ok (.goto (-77), 3) := by decide +kernel
theorem dX15_init_335 : decode cX15_init 335 = .ok (.iinc 2 1, 3) := by decide +kernel
theorem dX15_init_338 : decode cX15_init 338 = .ok (.goto (-91), 3) := by decide +kernel
theorem dX15_init_341 : decode cX15_init 341 = .ok (.iconst 0, 1) := by decide +kernel
theorem dX15_init_342 : decode cX15_init 342 = .ok (.istore_n 2, 1) := by decide +kernel
theorem dX15_init_343 : decode cX15_init 343 = .ok (.iload_n 2, 1) := by decide +kernel
theorem dX15_init_344 : decode cX15_init 344 = .ok (.iconst 4, 1) := by decide +kernel
theorem dX15_init_345 : decode cX15_init 345 = .ok (.if_icmp .ge 23, 3) := by decide +kernel
theorem dX15_init_348 : decode cX15_init 348 = .ok (.aload_n 0, 1) := by decide +kernel
theorem dX15_init_349 : decode cX15_init 349 = .ok (.getfield 98, 3) := by decide +kernel
theorem dX15_init_352 : decode cX15_init 352 = .ok (.iload_n 2, 1) := by decide +kernel
theorem dX15_init_353 : decode cX15_init 353 = .ok (.iconst 1, 1) := by decide +kernel
theorem dX15_init_354 : decode cX15_init 354 = .ok (.iastore, 1) := by decide +kernel
theorem dX15_init_355 : decode cX15_init 355 = .ok (.aload_n 0, 1) := by decide +kernel
theorem dX15_init_356 : decode cX15_init 356 = .ok (.getfield 101, 3) := by decide +kernel
theorem dX15_init_359 : decode cX15_init 359 = .ok (.iload_n 2, 1) := by decide +kernel
theorem dX15_init_360 : decode cX15_init 360 = .ok (.iconst 1, 1) := by decide +kernel
theorem dX15_init_361 : decode cX15_init 361 = .ok (.iastore, 1) := by decide +kernel
theorem dX15_init_362 : decode cX15_init 362 = .ok (.iinc 2 1, 3) := by decide +kernel
theorem dX15_init_365 : decode cX15_init 365 = .ok (.goto (-22), 3) := by decide +kernel
theorem dX15_init_368 : decode cX15_init 368 = .ok (.return_, 1) := by decide +kernel
theorem flRX15_86 : px_f RX15 86 15 36 := ⟨_, rfl, by decide, Or.inl (tb7 (List.mem_of_getElem? (i := 237) rfl))⟩
theorem flRX15_89 : px_f RX15 89 15 37 := ⟨_, rfl, by decide, Or.inl (tb7 (List.mem_of_getElem? (i := 238) rfl))⟩
theorem flRX15_92 : px_f RX15 92 15 38 := ⟨_, rfl, by decide, Or.inl (tb7 (List.mem_of_getElem? (i := 239) rfl))⟩
theorem flRX15_98 : px_f RX15 98 15 40 := ⟨_, rfl, by decide, Or.inl (tb8 (List.mem_of_getElem? (i := 1) rfl))⟩
theorem flRX15_101 : px_f RX15 101 15 41 := ⟨_, rfl, by decide, Or.inl (tb8 (List.mem_of_getElem? (i := 2) rfl))⟩
theorem nd12 : ∀ j, j < 9 → defaultValue (px_fty (RX12, TX12, 9) j) = vp_V [.null, .null, .int 0, .null, .int 0, .null, .null, .null, .null] j := by decide +kernel
theorem nd13 : ∀ j, j < 48 → defaultValue (px_fty (RX13, TX13, 48) j) = vp_V [.int 0, .int 0, .int 0, .null, .null, .null, .null, .null, .null, .null, .int 0, .int 0, .null, .null, .null, .null, .int 0, .null, .null, .null, .null, .null, .int 0, .int 0, .int 0, .int 0, .int 0, .int 0, .null, .int 0, .null, .int 0, .int 0, .int 0, .int 0, .int 0, .null, .null, .int 0, .null, .int 0, .null, .int 0, .int 0, .int 0, .int 0, .int 0, .null] j := by decide +kernel
theorem nd14 : ∀ j, j < 41 → defaultValue (px_fty (RX14, TX14, 41) j) = vp_V [.null, .int 0, .null, .int 0, .int 0, .int 0, .int 0, .int 0, .int 0, .int 0, .int 0, .null, .int 0, .int 0, .int 0, .int 0, .null, .null, .null, .null, .int 0, .null, .null, .null, .null, .null, .null, .int 0, .null, .null, .int 0, .null, .null, .null, .null, .null, .int 0, .int 0, .int 0, .int 0, .int 0] j := by decide +kernel
theorem mbX14_init : px_mB mX14_init 0 := ⟨tb6 (List.mem_of_getElem? (i := 96) rfl), by decide +kernel, tb1 (List.mem_of_getElem? (i := 14) rfl), by decide +kernel, by decide +kernel⟩
theorem kcX15_init_25 : px_cI mX15_init 25 mX14_init 0 := ⟨⟨mbX14_init, by decide, by decide⟩, Or.inr ⟨"WavePicturesModel", tT6 (List.mem_of_getElem? (i := 94) rfl)⟩, rfl, tb6 (List.mem_of_getElem? (i := 95) rfl), rfl⟩
theorem mbX13_init : px_mB mX13_init 0 := ⟨tb7 (List.mem_of_getElem? (i := 7) rfl), by decide +kernel, tb1 (List.mem_of_getElem? (i := 15) rfl), by decide +kernel, by decide +kernel⟩
theorem kcX15_init_32 : px_cI mX15_init 32 mX13_init 0 := ⟨⟨mbX13_init, by decide, by decide⟩, Or.inr ⟨"WavePicturesModel", tT7 (List.mem_of_getElem? (i := 5) rfl)⟩, rfl, tb7 (List.mem_of_getElem? (i := 6) rfl), rfl⟩
theorem mbX12_init : px_mB mX12_init 0 := ⟨tb7 (List.mem_of_getElem? (i := 166) rfl), by decide +kernel, tb1 (List.mem_of_getElem? (i := 16) rfl), by decide +kernel, by decide +kernel⟩
theorem kcX15_init_39 : px_cI mX15_init 39 mX12_init 0 := ⟨⟨mbX12_init, by decide, by decide⟩, Or.inr ⟨"WavePicturesModel", tT7 (List.mem_of_getElem? (i := 164) rfl)⟩, rfl, tb7 (List.mem_of_getElem? (i := 165) rfl), rfl⟩
set_option maxRecDepth 100000 in
set_option maxHeartbeats 4000000 in
theorem eX15_init_343 {X : px_X}  : ∀ (m : Nat) (a0 : Nat) (a2 : Int32) (w : px_W) (q : px_W), fX15_init_343 X  m a0 a2 w = some q → EV X mX15_init 343 [(0, .ref a0), (2, .int a2)] [] w none q := by
  intro m
  induction m with
  | zero => intro a0 a2 w q h; cases h
  | succ m ih =>
    intro a0 a2 w q h
    rw [fX15_init_343.eq_2] at h
    refine EV.iload_n 1 dX15_init_343 rfl rfl ?_
    refine EV.iconst (4) dX15_init_344 (by decide) ?_
    refine EV.icmp_ge 368 dX15_init_345 (by decide) (fun c72 => ?_) (fun c72 => ?_)
    · rw [if_pos c72] at h
      cases h
      exact EV.ret0 dX15_init_368 trivial
    · rw [if_neg c72] at h
      refine EV.aload_n 0 dX15_init_348 rfl rfl ?_
      obtain ⟨v73, gv73, h⟩ := px_bs h
      refine ev_gR dX15_init_349 flRX15_98 gv73 ?_
      refine EV.iload_n 1 dX15_init_352 rfl rfl ?_
      refine EV.iconst (1) dX15_init_353 (by decide) ?_
      obtain ⟨w74, gw74, h⟩ := px_bs h
      refine ev_sI dX15_init_354 gw74 ?_
      refine EV.aload_n 0 dX15_init_355 rfl rfl ?_
      obtain ⟨v75, gv75, h⟩ := px_bs h
      refine ev_gR dX15_init_356 flRX15_101 gv75 ?_
      refine EV.iload_n 1 dX15_init_359 rfl rfl ?_
      refine EV.iconst (1) dX15_init_360 (by decide) ?_
      obtain ⟨w76, gw76, h⟩ := px_bs h
      refine ev_sI dX15_init_361 gw76 ?_
      refine EV.iinc 1 (a2 + 1) [(2, .int (a2 + 1)), (0, .ref a0)] dX15_init_362 rfl rfl (by decide) rfl ?_
      refine EV.goto 343 dX15_init_365 (by decide) ?_
      refine EV.sub [1, 0] rfl ?_
      exact ih _ _ _ _ h
set_option maxRecDepth 100000 in
set_option maxHeartbeats 4000000 in
theorem eX15_init_341 {X : px_X}  : ∀ (a0 : Nat) (w : px_W) (q : px_W), fX15_init_341 X  a0 w = some q → EV X mX15_init 341 [(0, .ref a0)] [] w none q := by
  intro a0 w q h
  unfold fX15_init_341 at h
  refine EV.iconst (0) dX15_init_341 (by decide) ?_
  refine EV.istore_n [(2, .int 0), (0, .ref a0)] dX15_init_342 rfl (by decide) rfl ?_
  refine EV.sub [1, 0] rfl ?_
  exact eX15_init_343  FU _ _ _ _ h
set_option maxRecDepth 100000 in
set_option maxHeartbeats 4000000 in
theorem eX15_init_329 {X : px_X} {k247 : Nat → Int32 → Int32 → px_W → Option (px_W)} (hk247 : ∀ (a0 : Nat) (a1 : Int32) (a2 : Int32) (w : px_W) (q : px_W), k247 a0 a1 a2 w = some q → EV X mX15_init 247 [(0, .ref a0), (1, .int a1), (2, .int a2)] [] w none q) {k255 : Nat → Int32 → Int32 → Int32 → px_W → Option (px_W)} (hk255 : ∀ (a0 : Nat) (a1 : Int32) (a2 : Int32) (a3 : Int32) (w : px_W) (q : px_W), k255 a0 a1 a2 a3 w = some q → EV X mX15_init 255 [(0, .ref a0), (1, .int a1), (2, .int a2), (3, .int a3)] [] w none q) : ∀ (a0 : Nat) (a1 : Int32) (a2 : Int32) (a3 : Int32) (w : px_W) (q : px_W), fX15_init_329 X k247 k255 a0 a1 a2 a3 w = some q → EV X mX15_init 329 [(0, .ref a0), (1, .int a1), (2, .int a2), (3, .int a3)] [] w none q := by
  intro a0 a1 a2 a3 w q h
  unfold fX15_init_329 at h
  refine EV.iinc 3 (a3 + 1) [(3, .int (a3 + 1)), (0, .ref a0), (1, .int a1), (2, .int a2)] dX15_init_329 rfl rfl (by decide) rfl ?_
  refine EV.goto 255 dX15_init_332 (by decide) ?_
  refine EV.sub [1, 2, 3, 0] rfl ?_
  exact hk255 _ _ _ _ _ _ h
set_option maxRecDepth 100000 in
set_option maxHeartbeats 4000000 in
theorem eX15_init_274 {X : px_X} {k247 : Nat → Int32 → Int32 → px_W → Option (px_W)} (hk247 : ∀ (a0 : Nat) (a1 : Int32) (a2 : Int32) (w : px_W) (q : px_W), k247 a0 a1 a2 w = some q → EV X mX15_init 247 [(0, .ref a0), (1, .int a1), (2, .int a2)] [] w none q) {k255 : Nat → Int32 → Int32 → Int32 → px_W → Option (px_W)} (hk255 : ∀ (a0 : Nat) (a1 : Int32) (a2 : Int32) (a3 : Int32) (w : px_W) (q : px_W), k255 a0 a1 a2 a3 w = some q → EV X mX15_init 255 [(0, .ref a0), (1, .int a1), (2, .int a2), (3, .int a3)] [] w none q) : ∀ (a0 : Nat) (a1 : Int32) (a2 : Int32) (a3 : Int32) (s0 : Int32) (w : px_W) (q : px_W), fX15_init_274 X k247 k255 a0 a1 a2 a3 s0 w = some q → EV X mX15_init 274 [(0, .ref a0), (1, .int a1), (2, .int a2), (3, .int a3)] [.int s0] w none q := by
  intro a0 a1 a2 a3 s0 w q h
  unfold fX15_init_274 at h
  refine EV.istore [(4, .int s0), (0, .ref a0), (1, .int a1), (2, .int a2), (3, .int a3)] dX15_init_274 (by decide) rfl ?_
  refine EV.iload_n 3 dX15_init_276 rfl rfl ?_
  refine EV.iload 0 dX15_init_277 rfl ?_
  refine EV.isub dX15_init_279 ?_
  refine EV.istore [(5, .int (a2 - s0)), (4, .int s0), (0, .ref a0), (1, .int a1), (2, .int a2), (3, .int a3)] dX15_init_280 (by decide) rfl ?_
  refine EV.iload 1 dX15_init_282 rfl ?_
  refine EV.bipush (8) dX15_init_284 (by decide) ?_
  refine EV.icmp_ge 329 dX15_init_286 (by decide) (fun c77 => ?_) (fun c77 => ?_)
  · rw [if_pos c77] at h
    refine EV.sub [2, 3, 4, 5] rfl ?_
    exact eX15_init_329 hk247 hk255 _ _ _ _ _ _ h
  · rw [if_neg c77] at h
    refine EV.iload 0 dX15_init_289 rfl ?_
    refine EV.bipush (8) dX15_init_291 (by decide) ?_
    refine EV.icmp_ge 329 dX15_init_293 (by decide) (fun c78 => ?_) (fun c78 => ?_)
    · rw [if_pos c78] at h
      refine EV.sub [2, 3, 4, 5] rfl ?_
      exact eX15_init_329 hk247 hk255 _ _ _ _ _ _ h
    · rw [if_neg c78] at h
      refine EV.aload_n 2 dX15_init_296 rfl rfl ?_
      obtain ⟨v79, gv79, h⟩ := px_bs h
      refine ev_gR dX15_init_297 flRX15_86 gv79 ?_
      refine EV.iload_n 3 dX15_init_300 rfl rfl ?_
      refine EV.iload 0 dX15_init_301 rfl ?_
      obtain ⟨w80, gw80, h⟩ := px_bs h
      refine ev_sI dX15_init_303 gw80 ?_
      refine EV.aload_n 2 dX15_init_304 rfl rfl ?_
      obtain ⟨v81, gv81, h⟩ := px_bs h
      refine ev_gR dX15_init_305 flRX15_89 gv81 ?_
      refine EV.iload_n 3 dX15_init_308 rfl rfl ?_
      refine EV.iload 1 dX15_init_309 rfl ?_
      obtain ⟨w82, gw82, h⟩ := px_bs h
      refine ev_sI dX15_init_311 gw82 ?_
      refine EV.aload_n 2 dX15_init_312 rfl rfl ?_
      obtain ⟨v83, gv83, h⟩ := px_bs h
      refine ev_gR dX15_init_313 flRX15_92 gv83 ?_
      refine EV.bipush (8) dX15_init_316 (by decide) ?_
      refine EV.iload 0 dX15_init_318 rfl ?_
      refine EV.imul dX15_init_320 ?_
      refine EV.iload 1 dX15_init_321 rfl ?_
      refine EV.iadd dX15_init_323 ?_
      refine EV.iload_n 3 dX15_init_324 rfl rfl ?_
      obtain ⟨w84, gw84, h⟩ := px_bs h
      refine ev_sI dX15_init_325 gw84 ?_
      refine EV.iinc 3 (a1 + 1) [(1, .int (a1 + 1)), (5, .int (a2 - s0)), (4, .int s0), (0, .ref a0), (2, .int a2), (3, .int a3)] dX15_init_326 rfl rfl (by decide) rfl ?_
      refine EV.sub [3, 0, 4, 5] rfl ?_
      exact eX15_init_329 hk247 hk255 _ _ _ _ _ _ h
set_option maxRecDepth 100000 in
set_option maxHeartbeats 4000000 in
theorem eX15_init_335 {X : px_X} {k247 : Nat → Int32 → Int32 → px_W → Option (px_W)} (hk247 : ∀ (a0 : Nat) (a1 : Int32) (a2 : Int32) (w : px_W) (q : px_W), k247 a0 a1 a2 w = some q → EV X mX15_init 247 [(0, .ref a0), (1, .int a1), (2, .int a2)] [] w none q) : ∀ (a0 : Nat) (a1 : Int32) (a2 : Int32) (w : px_W) (q : px_W), fX15_init_335 X k247 a0 a1 a2 w = some q → EV X mX15_init 335 [(0, .ref a0), (1, .int a1), (2, .int a2)] [] w none q := by
  intro a0 a1 a2 w q h
  unfold fX15_init_335 at h
  refine EV.iinc 2 (a2 + 1) [(2, .int (a2 + 1)), (0, .ref a0), (1, .int a1)] dX15_init_335 rfl rfl (by decide) rfl ?_
  refine EV.goto 247 dX15_init_338 (by decide) ?_
  refine EV.sub [1, 2, 0] rfl ?_
  exact hk247 _ _ _ _ _ h
set_option maxRecDepth 100000 in
set_option maxHeartbeats 4000000 in
theorem eX15_init_255 {X : px_X} {k247 : Nat → Int32 → Int32 → px_W → Option (px_W)} (hk247 : ∀ (a0 : Nat) (a1 : Int32) (a2 : Int32) (w : px_W) (q : px_W), k247 a0 a1 a2 w = some q → EV X mX15_init 247 [(0, .ref a0), (1, .int a1), (2, .int a2)] [] w none q) : ∀ (m : Nat) (a0 : Nat) (a1 : Int32) (a2 : Int32) (a3 : Int32) (w : px_W) (q : px_W), fX15_init_255 X k247 m a0 a1 a2 a3 w = some q → EV X mX15_init 255 [(0, .ref a0), (1, .int a1), (2, .int a2), (3, .int a3)] [] w none q := by
  intro m
  induction m with
  | zero => intro a0 a1 a2 a3 w q h; cases h
  | succ m ih =>
    intro a0 a1 a2 a3 w q h
    rw [fX15_init_255.eq_2] at h
    refine EV.iload_n 3 dX15_init_255 rfl rfl ?_
    refine EV.iload_n 2 dX15_init_256 rfl rfl ?_
    refine EV.icmp_gt 335 dX15_init_257 (by decide) (fun c85 => ?_) (fun c85 => ?_)
    · rw [if_pos c85] at h
      refine EV.sub [0, 1, 2] rfl ?_
      exact eX15_init_335 hk247 _ _ _ _ _ h
    · rw [if_neg c85] at h
      refine EV.iload_n 2 dX15_init_260 rfl rfl ?_
      refine EV.iconst (2) dX15_init_261 (by decide) ?_
      obtain ⟨v86, gv86, h⟩ := px_bs h
      refine ev_rI dX15_init_262 gv86 ?_
      refine EV.iconst (1) dX15_init_263 (by decide) ?_
      refine EV.icmp_ne 273 dX15_init_264 (by decide) (fun c87 => ?_) (fun c87 => ?_)
      · rw [if_neg c87] at h
        refine EV.iload_n 3 dX15_init_273 rfl rfl ?_
        refine EV.sub [0, 1, 2, 3] rfl ?_
        exact eX15_init_274 hk247 ih _ _ _ _ _ _ _ h
      · rw [if_pos c87] at h
        refine EV.iload_n 2 dX15_init_267 rfl rfl ?_
        refine EV.iload_n 3 dX15_init_268 rfl rfl ?_
        refine EV.isub dX15_init_269 ?_
        refine EV.goto 274 dX15_init_270 (by decide) ?_
        refine EV.sub [0, 1, 2, 3] rfl ?_
        exact eX15_init_274 hk247 ih _ _ _ _ _ _ _ h
set_option maxRecDepth 100000 in
set_option maxHeartbeats 4000000 in
theorem eX15_init_247 {X : px_X}  : ∀ (m : Nat) (a0 : Nat) (a1 : Int32) (a2 : Int32) (w : px_W) (q : px_W), fX15_init_247 X  m a0 a1 a2 w = some q → EV X mX15_init 247 [(0, .ref a0), (1, .int a1), (2, .int a2)] [] w none q := by
  intro m
  induction m with
  | zero => intro a0 a1 a2 w q h; cases h
  | succ m ih =>
    intro a0 a1 a2 w q h
    rw [fX15_init_247.eq_2] at h
    refine EV.iload_n 2 dX15_init_247 rfl rfl ?_
    refine EV.bipush (15) dX15_init_248 (by decide) ?_
    refine EV.icmp_ge 341 dX15_init_250 (by decide) (fun c88 => ?_) (fun c88 => ?_)
    · rw [if_pos c88] at h
      refine EV.sub [0] rfl ?_
      exact eX15_init_341  _ _ _ h
    · rw [if_neg c88] at h
      refine EV.iconst (0) dX15_init_253 (by decide) ?_
      refine EV.istore_n [(3, .int 0), (0, .ref a0), (1, .int a1), (2, .int a2)] dX15_init_254 rfl (by decide) rfl ?_
      refine EV.sub [1, 2, 3, 0] rfl ?_
      exact eX15_init_255 ih FU _ _ _ _ _ _ h
set_option maxRecDepth 100000 in
set_option maxHeartbeats 4000000 in
theorem eX15_init {X : px_X} {w : px_W} {a0 : Nat} {q : px_W} (h : fX15_init X w a0 = some q) : EV X mX15_init 0 (lv_args 0 [.ref a0]) [] w none q := by
  unfold fX15_init at h
  show EV X mX15_init 0 [(0, .ref a0)] [] w none q
  refine EV.aload_n 0 dX15_init_0 rfl rfl ?_
  refine EV.objI dX15_init_1 (tb6 (List.mem_of_getElem? (i := 91) rfl)) (by decide) (by decide) (Nat.le_of_ble_eq_true rfl) ?_
  refine EV.aload_n 0 dX15_init_4 rfl rfl ?_
  refine EV.sipush (16384) dX15_init_5 (by decide) ?_
  obtain ⟨q89, gq89, h⟩ := px_bs h
  refine ev_nB dX15_init_8 gq89 ?_
  obtain ⟨w90, gw90, h⟩ := px_bs h
  refine ev_pF dX15_init_10 (ci := 15) (k := 0) rfl (by decide) (tb7 (List.mem_of_getElem? (i := 201) rfl)) rfl rfl rfl rfl rfl gw90 ?_
  refine EV.aload_n 0 dX15_init_13 rfl rfl ?_
  refine EV.sipush (16384) dX15_init_14 (by decide) ?_
  obtain ⟨q91, gq91, h⟩ := px_bs h
  refine ev_nB dX15_init_17 gq91 ?_
  obtain ⟨w92, gw92, h⟩ := px_bs h
  refine ev_pF dX15_init_19 (ci := 15) (k := 2) rfl (by decide) (tb7 (List.mem_of_getElem? (i := 203) rfl)) rfl rfl rfl rfl rfl gw92 ?_
  refine EV.aload_n 0 dX15_init_22 rfl rfl ?_
  refine EV.sipush (16384) dX15_init_23 (by decide) ?_
  obtain ⟨q93, gq93, h⟩ := px_bs h
  refine ev_nB dX15_init_26 gq93 ?_
  obtain ⟨w94, gw94, h⟩ := px_bs h
  refine ev_pF dX15_init_28 (ci := 15) (k := 4) rfl (by decide) (tb7 (List.mem_of_getElem? (i := 205) rfl)) rfl rfl rfl rfl rfl gw94 ?_
  refine EV.aload_n 0 dX15_init_31 rfl rfl ?_
  refine EV.iconst ((-1)) dX15_init_32 (by decide) ?_
  obtain ⟨w95, gw95, h⟩ := px_bs h
  refine ev_pV dX15_init_33 flRX15_19 rfl rfl rfl rfl gw95 ?_
  refine EV.aload_n 0 dX15_init_36 rfl rfl ?_
  obtain ⟨q96, gq96, h⟩ := px_bs h
  refine ev_nO (q := (RX14, TX14, 41)) dX15_init_37 rfl rfl (tb6 (List.mem_of_getElem? (i := 92) rfl)) (tb6 (List.mem_of_getElem? (i := 93) rfl)) (tb1 (List.mem_of_getElem? (i := 14) rfl)) nd14 gq96 ?_
  refine EV.dup dX15_init_40 rfl ?_
  obtain ⟨q97, gq97, h⟩ := px_bs h
  refine EV.callI (As := []) (rest := [.ref q96.1, .ref a0]) dX15_init_41 kcX15_init_25 rfl (Nat.le_of_ble_eq_true rfl) (Nat.le_of_ble_eq_true rfl) (eX14_init gq97) ?_
  obtain ⟨w98, gw98, h⟩ := px_bs h
  refine ev_pF dX15_init_44 (ci := 15) (k := 12) rfl (by decide) (tb7 (List.mem_of_getElem? (i := 213) rfl)) rfl rfl rfl rfl rfl gw98 ?_
  refine EV.aload_n 0 dX15_init_47 rfl rfl ?_
  obtain ⟨q99, gq99, h⟩ := px_bs h
  refine ev_nO (q := (RX13, TX13, 48)) dX15_init_48 rfl rfl (tb7 (List.mem_of_getElem? (i := 3) rfl)) (tb7 (List.mem_of_getElem? (i := 4) rfl)) (tb1 (List.mem_of_getElem? (i := 15) rfl)) nd13 gq99 ?_
  refine EV.dup dX15_init_51 rfl ?_
  obtain ⟨q100, gq100, h⟩ := px_bs h
  refine EV.callI (As := []) (rest := [.ref q99.1, .ref a0]) dX15_init_52 kcX15_init_32 rfl (Nat.le_of_ble_eq_true rfl) (Nat.le_of_ble_eq_true rfl) (eX13_init gq100) ?_
  obtain ⟨w101, gw101, h⟩ := px_bs h
  refine ev_pF dX15_init_55 (ci := 15) (k := 13) rfl (by decide) (tb7 (List.mem_of_getElem? (i := 214) rfl)) rfl rfl rfl rfl rfl gw101 ?_
  refine EV.aload_n 0 dX15_init_58 rfl rfl ?_
  obtain ⟨q102, gq102, h⟩ := px_bs h
  refine ev_nO (q := (RX12, TX12, 9)) dX15_init_59 rfl rfl (tb7 (List.mem_of_getElem? (i := 162) rfl)) (tb7 (List.mem_of_getElem? (i := 163) rfl)) (tb1 (List.mem_of_getElem? (i := 16) rfl)) nd12 gq102 ?_
  refine EV.dup dX15_init_62 rfl ?_
  obtain ⟨q103, gq103, h⟩ := px_bs h
  refine EV.callI (As := []) (rest := [.ref q102.1, .ref a0]) dX15_init_63 kcX15_init_39 rfl (Nat.le_of_ble_eq_true rfl) (Nat.le_of_ble_eq_true rfl) (eX12_init gq103) ?_
  obtain ⟨w104, gw104, h⟩ := px_bs h
  refine ev_pF dX15_init_66 (ci := 15) (k := 14) rfl (by decide) (tb7 (List.mem_of_getElem? (i := 215) rfl)) rfl rfl rfl rfl rfl gw104 ?_
  refine EV.aload_n 0 dX15_init_69 rfl rfl ?_
  refine EV.sipush (256) dX15_init_70 (by decide) ?_
  obtain ⟨q105, gq105, h⟩ := px_bs h
  refine ev_nI dX15_init_73 gq105 ?_
  obtain ⟨w106, gw106, h⟩ := px_bs h
  refine ev_pF dX15_init_75 (ci := 15) (k := 15) rfl (by decide) (tb7 (List.mem_of_getElem? (i := 216) rfl)) rfl rfl rfl rfl rfl gw106 ?_
  refine EV.aload_n 0 dX15_init_78 rfl rfl ?_
  refine EV.iconst (4) dX15_init_79 (by decide) ?_
  obtain ⟨q107, gq107, h⟩ := px_bs h
  refine ev_nZ dX15_init_80 gq107 ?_
  obtain ⟨w108, gw108, h⟩ := px_bs h
  refine ev_pF dX15_init_82 (ci := 15) (k := 16) rfl (by decide) (tb7 (List.mem_of_getElem? (i := 217) rfl)) rfl rfl rfl rfl rfl gw108 ?_
  refine EV.aload_n 0 dX15_init_85 rfl rfl ?_
  refine EV.iconst (4) dX15_init_86 (by decide) ?_
  obtain ⟨q109, gq109, h⟩ := px_bs h
  refine ev_nI dX15_init_87 gq109 ?_
  obtain ⟨w110, gw110, h⟩ := px_bs h
  refine ev_pF dX15_init_89 (ci := 15) (k := 21) rfl (by decide) (tb7 (List.mem_of_getElem? (i := 222) rfl)) rfl rfl rfl rfl rfl gw110 ?_
  refine EV.aload_n 0 dX15_init_92 rfl rfl ?_
  refine EV.iconst (4) dX15_init_93 (by decide) ?_
  obtain ⟨q111, gq111, h⟩ := px_bs h
  refine ev_nI dX15_init_94 gq111 ?_
  obtain ⟨w112, gw112, h⟩ := px_bs h
  refine ev_pF dX15_init_96 (ci := 15) (k := 22) rfl (by decide) (tb7 (List.mem_of_getElem? (i := 223) rfl)) rfl rfl rfl rfl rfl gw112 ?_
  refine EV.aload_n 0 dX15_init_99 rfl rfl ?_
  refine EV.iconst (4) dX15_init_100 (by decide) ?_
  obtain ⟨q113, gq113, h⟩ := px_bs h
  refine ev_nI dX15_init_101 gq113 ?_
  obtain ⟨w114, gw114, h⟩ := px_bs h
  refine ev_pF dX15_init_103 (ci := 15) (k := 23) rfl (by decide) (tb7 (List.mem_of_getElem? (i := 224) rfl)) rfl rfl rfl rfl rfl gw114 ?_
  refine EV.aload_n 0 dX15_init_106 rfl rfl ?_
  refine EV.iconst (4) dX15_init_107 (by decide) ?_
  obtain ⟨q115, gq115, h⟩ := px_bs h
  refine ev_nI dX15_init_108 gq115 ?_
  obtain ⟨w116, gw116, h⟩ := px_bs h
  refine ev_pF dX15_init_110 (ci := 15) (k := 24) rfl (by decide) (tb7 (List.mem_of_getElem? (i := 225) rfl)) rfl rfl rfl rfl rfl gw116 ?_
  refine EV.aload_n 0 dX15_init_113 rfl rfl ?_
  refine EV.iconst (4) dX15_init_114 (by decide) ?_
  obtain ⟨q117, gq117, h⟩ := px_bs h
  refine ev_nI dX15_init_115 gq117 ?_
  obtain ⟨w118, gw118, h⟩ := px_bs h
  refine ev_pF dX15_init_117 (ci := 15) (k := 25) rfl (by decide) (tb7 (List.mem_of_getElem? (i := 226) rfl)) rfl rfl rfl rfl rfl gw118 ?_
  refine EV.aload_n 0 dX15_init_120 rfl rfl ?_
  refine EV.sipush (256) dX15_init_121 (by decide) ?_
  obtain ⟨q119, gq119, h⟩ := px_bs h
  refine ev_nI dX15_init_124 gq119 ?_
  obtain ⟨w120, gw120, h⟩ := px_bs h
  refine ev_pF dX15_init_126 (ci := 15) (k := 30) rfl (by decide) (tb7 (List.mem_of_getElem? (i := 231) rfl)) rfl rfl rfl rfl rfl gw120 ?_
  refine EV.aload_n 0 dX15_init_129 rfl rfl ?_
  refine EV.sipush (12288) dX15_init_130 (by decide) ?_
  obtain ⟨q121, gq121, h⟩ := px_bs h
  refine ev_nS dX15_init_133 gq121 ?_
  obtain ⟨w122, gw122, h⟩ := px_bs h
  refine ev_pF dX15_init_135 (ci := 15) (k := 31) rfl (by decide) (tb7 (List.mem_of_getElem? (i := 232) rfl)) rfl rfl rfl rfl rfl gw122 ?_
  refine EV.aload_n 0 dX15_init_138 rfl rfl ?_
  refine EV.sipush (12288) dX15_init_139 (by decide) ?_
  obtain ⟨q123, gq123, h⟩ := px_bs h
  refine ev_nS dX15_init_142 gq123 ?_
  obtain ⟨w124, gw124, h⟩ := px_bs h
  refine ev_pF dX15_init_144 (ci := 15) (k := 32) rfl (by decide) (tb7 (List.mem_of_getElem? (i := 233) rfl)) rfl rfl rfl rfl rfl gw124 ?_
  refine EV.aload_n 0 dX15_init_147 rfl rfl ?_
  refine EV.iconst (4) dX15_init_148 (by decide) ?_
  obtain ⟨q125, gq125, h⟩ := px_bs h
  refine ev_nI dX15_init_149 gq125 ?_
  obtain ⟨w126, gw126, h⟩ := px_bs h
  refine ev_pF dX15_init_151 (ci := 15) (k := 33) rfl (by decide) (tb7 (List.mem_of_getElem? (i := 234) rfl)) rfl rfl rfl rfl rfl gw126 ?_
  refine EV.aload_n 0 dX15_init_154 rfl rfl ?_
  refine EV.iconst (4) dX15_init_155 (by decide) ?_
  obtain ⟨q127, gq127, h⟩ := px_bs h
  refine ev_nI dX15_init_156 gq127 ?_
  obtain ⟨w128, gw128, h⟩ := px_bs h
  refine ev_pF dX15_init_158 (ci := 15) (k := 34) rfl (by decide) (tb7 (List.mem_of_getElem? (i := 235) rfl)) rfl rfl rfl rfl rfl gw128 ?_
  refine EV.aload_n 0 dX15_init_161 rfl rfl ?_
  refine EV.sipush (256) dX15_init_162 (by decide) ?_
  obtain ⟨q129, gq129, h⟩ := px_bs h
  refine ev_nI dX15_init_165 gq129 ?_
  obtain ⟨w130, gw130, h⟩ := px_bs h
  refine ev_pF dX15_init_167 (ci := 15) (k := 35) rfl (by decide) (tb7 (List.mem_of_getElem? (i := 236) rfl)) rfl rfl rfl rfl rfl gw130 ?_
  refine EV.aload_n 0 dX15_init_170 rfl rfl ?_
  refine EV.bipush (64) dX15_init_171 (by decide) ?_
  obtain ⟨q131, gq131, h⟩ := px_bs h
  refine ev_nI dX15_init_173 gq131 ?_
  obtain ⟨w132, gw132, h⟩ := px_bs h
  refine ev_pF dX15_init_175 (ci := 15) (k := 36) rfl (by decide) (tb7 (List.mem_of_getElem? (i := 237) rfl)) rfl rfl rfl rfl rfl gw132 ?_
  refine EV.aload_n 0 dX15_init_178 rfl rfl ?_
  refine EV.bipush (64) dX15_init_179 (by decide) ?_
  obtain ⟨q133, gq133, h⟩ := px_bs h
  refine ev_nI dX15_init_181 gq133 ?_
  obtain ⟨w134, gw134, h⟩ := px_bs h
  refine ev_pF dX15_init_183 (ci := 15) (k := 37) rfl (by decide) (tb7 (List.mem_of_getElem? (i := 238) rfl)) rfl rfl rfl rfl rfl gw134 ?_
  refine EV.aload_n 0 dX15_init_186 rfl rfl ?_
  refine EV.bipush (64) dX15_init_187 (by decide) ?_
  obtain ⟨q135, gq135, h⟩ := px_bs h
  refine ev_nI dX15_init_189 gq135 ?_
  obtain ⟨w136, gw136, h⟩ := px_bs h
  refine ev_pF dX15_init_191 (ci := 15) (k := 38) rfl (by decide) (tb7 (List.mem_of_getElem? (i := 239) rfl)) rfl rfl rfl rfl rfl gw136 ?_
  refine EV.aload_n 0 dX15_init_194 rfl rfl ?_
  refine EV.sipush (4096) dX15_init_195 (by decide) ?_
  obtain ⟨q137, gq137, h⟩ := px_bs h
  refine ev_nI dX15_init_198 gq137 ?_
  obtain ⟨w138, gw138, h⟩ := px_bs h
  refine ev_pF dX15_init_200 (ci := 15) (k := 39) rfl (by decide) (tb8 (List.mem_of_getElem? (i := 0) rfl)) rfl rfl rfl rfl rfl gw138 ?_
  refine EV.aload_n 0 dX15_init_203 rfl rfl ?_
  refine EV.iconst (4) dX15_init_204 (by decide) ?_
  obtain ⟨q139, gq139, h⟩ := px_bs h
  refine ev_nI dX15_init_205 gq139 ?_
  obtain ⟨w140, gw140, h⟩ := px_bs h
  refine ev_pF dX15_init_207 (ci := 15) (k := 40) rfl (by decide) (tb8 (List.mem_of_getElem? (i := 1) rfl)) rfl rfl rfl rfl rfl gw140 ?_
  refine EV.aload_n 0 dX15_init_210 rfl rfl ?_
  refine EV.iconst (4) dX15_init_211 (by decide) ?_
  obtain ⟨q141, gq141, h⟩ := px_bs h
  refine ev_nI dX15_init_212 gq141 ?_
  obtain ⟨w142, gw142, h⟩ := px_bs h
  refine ev_pF dX15_init_214 (ci := 15) (k := 41) rfl (by decide) (tb8 (List.mem_of_getElem? (i := 2) rfl)) rfl rfl rfl rfl rfl gw142 ?_
  refine EV.aload_n 0 dX15_init_217 rfl rfl ?_
  refine EV.sipush (4356) dX15_init_218 (by decide) ?_
  obtain ⟨q143, gq143, h⟩ := px_bs h
  refine ev_nI dX15_init_221 gq143 ?_
  obtain ⟨w144, gw144, h⟩ := px_bs h
  refine ev_pF dX15_init_223 (ci := 15) (k := 42) rfl (by decide) (tb8 (List.mem_of_getElem? (i := 3) rfl)) rfl rfl rfl rfl rfl gw144 ?_
  refine EV.aload_n 0 dX15_init_226 rfl rfl ?_
  refine EV.sipush (4356) dX15_init_227 (by decide) ?_
  obtain ⟨q145, gq145, h⟩ := px_bs h
  refine ev_nI dX15_init_230 gq145 ?_
  obtain ⟨w146, gw146, h⟩ := px_bs h
  refine ev_pF dX15_init_232 (ci := 15) (k := 43) rfl (by decide) (tb8 (List.mem_of_getElem? (i := 4) rfl)) rfl rfl rfl rfl rfl gw146 ?_
  refine EV.aload_n 0 dX15_init_235 rfl rfl ?_
  refine EV.bipush (64) dX15_init_236 (by decide) ?_
  obtain ⟨q147, gq147, h⟩ := px_bs h
  refine ev_nJ dX15_init_238 gq147 ?_
  obtain ⟨w148, gw148, h⟩ := px_bs h
  refine ev_pF dX15_init_240 (ci := 15) (k := 46) rfl (by decide) (tb8 (List.mem_of_getElem? (i := 7) rfl)) rfl rfl rfl rfl rfl gw148 ?_
  refine EV.iconst (0) dX15_init_243 (by decide) ?_
  refine EV.istore_n [(1, .int 0), (0, .ref a0)] dX15_init_244 rfl (by decide) rfl ?_
  refine EV.iconst (0) dX15_init_245 (by decide) ?_
  refine EV.istore_n [(2, .int 0), (1, .int 0), (0, .ref a0)] dX15_init_246 rfl (by decide) rfl ?_
  refine EV.sub [2, 1, 0] rfl ?_
  exact eX15_init_247  FU _ _ _ _ _ h
/-! WavePicturesModel.up(II)I -/
theorem dX15_up_0 : decode cX15_up 0 = .ok (.iload_n 0, 1) := by decide +kernel
theorem dX15_up_1 : decode cX15_up 1 = .ok (.iload_n 1, 1) := by decide +kernel
theorem dX15_up_2 : decode cX15_up 2 = .ok (.iadd, 1) := by decide +kernel
theorem dX15_up_3 : decode cX15_up 3 = .ok (.iconst 1, 1) := by decide +kernel
theorem dX15_up_4 : decode cX15_up 4 = .ok (.isub, 1) := by decide +kernel
theorem dX15_up_5 : decode cX15_up 5 = .ok (.iload_n 1, 1) := by decide +kernel
theorem dX15_up_6 : decode cX15_up 6 = .ok (.idiv, 1) := by decide +kernel
theorem dX15_up_7 : decode cX15_up 7 = .ok (.ireturn, 1) := by decide +kernel
set_option maxRecDepth 100000 in
set_option maxHeartbeats 4000000 in
theorem eX15_up {X : px_X} {w : px_W} {a0 : Int32} {a1 : Int32} {q : Int32 × px_W} (h : fX15_up X w a0 a1 = some q) : EV X mX15_up 0 (lv_args 0 [.int a0, .int a1]) [] w (some (.int q.1)) q.2 := by
  unfold fX15_up at h
  show EV X mX15_up 0 [(0, .int a0), (1, .int a1)] [] w (some (.int q.1)) q.2
  refine EV.iload_n 0 dX15_up_0 rfl rfl ?_
  refine EV.iload_n 1 dX15_up_1 rfl rfl ?_
  refine EV.iadd dX15_up_2 ?_
  refine EV.iconst (1) dX15_up_3 (by decide) ?_
  refine EV.isub dX15_up_4 ?_
  refine EV.iload_n 1 dX15_up_5 rfl rfl ?_
  obtain ⟨v2, gv2, h⟩ := px_bs h
  refine ev_dI dX15_up_6 gv2 ?_
  cases h
  exact EV.reti dX15_up_7 rfl
/-! WavePicturesModel.canBe(II)Z -/
theorem dX15_canBe_0 : decode cX15_canBe 0 = .ok (.iload_n 1, 1) := by decide +kernel
theorem dX15_canBe_1 : decode cX15_canBe 1 = .ok (.iload_n 0, 1) := by decide +kernel
theorem dX15_canBe_2 : decode cX15_canBe 2 = .ok (.ifCond .ne 9, 3) := by decide +kernel
theorem dX15_canBe_5 : decode cX15_canBe 5 = .ok (.sipush (-1024), 3) := by decide +kernel
theorem dX15_canBe_8 : decode cX15_canBe 8 = .ok (.goto 6, 3) := by decide +kernel
theorem dX15_canBe_11 : decode cX15_canBe 11 = .ok (.sipush (-1023), 3) := by decide +kernel
theorem dX15_canBe_14 : decode cX15_canBe 14 = .ok (.if_icmp .lt 14, 3) := by decide +kernel
theorem dX15_canBe_17 : decode cX15_canBe 17 = .ok (.iload_n 1, 1) := by decide +kernel
theorem dX15_canBe_18 : decode cX15_canBe 18 = .ok (.sipush 1023, 3) := by decide +kernel
theorem dX15_canBe_21 : decode cX15_canBe 21 = .ok (.if_icmp .gt 7, 3) := by decide +kernel
theorem dX15_canBe_24 : decode cX15_canBe 24 = .ok (.iconst 1, 1) := by decide +kernel
theorem dX15_canBe_25 : decode cX15_canBe 25 = .ok (.goto 4, 3) := by decide +kernel
theorem dX15_canBe_28 : decode cX15_canBe 28 = .ok (.iconst 0, 1) := by decide +kernel
theorem dX15_canBe_29 : decode cX15_canBe 29 = .ok (.ireturn, 1) := by decide +kernel
set_option maxRecDepth 100000 in
set_option maxHeartbeats 4000000 in
theorem eX15_canBe_14 {X : px_X}  : ∀ (a1 : Int32) (s0 : Int32) (s1 : Int32) (w : px_W) (q : Int32 × px_W), fX15_canBe_14 X  a1 s0 s1 w = some q → EV X mX15_canBe 14 [(1, .int a1)] [.int s0, .int s1] w (some (.int q.1)) q.2 := by
  intro a1 s0 s1 w q h
  unfold fX15_canBe_14 at h
  refine EV.icmp_lt 28 dX15_canBe_14 (by decide) (fun c1 => ?_) (fun c1 => ?_)
  · rw [if_pos c1] at h
    refine EV.iconst (0) dX15_canBe_28 (by decide) ?_
    cases h
    exact EV.reti dX15_canBe_29 rfl
  · rw [if_neg c1] at h
    refine EV.iload_n 0 dX15_canBe_17 rfl rfl ?_
    refine EV.sipush (1023) dX15_canBe_18 (by decide) ?_
    refine EV.icmp_gt 28 dX15_canBe_21 (by decide) (fun c2 => ?_) (fun c2 => ?_)
    · rw [if_pos c2] at h
      refine EV.iconst (0) dX15_canBe_28 (by decide) ?_
      cases h
      exact EV.reti dX15_canBe_29 rfl
    · rw [if_neg c2] at h
      refine EV.iconst (1) dX15_canBe_24 (by decide) ?_
      refine EV.goto 29 dX15_canBe_25 (by decide) ?_
      cases h
      exact EV.reti dX15_canBe_29 rfl
set_option maxRecDepth 100000 in
set_option maxHeartbeats 4000000 in
theorem eX15_canBe {X : px_X} {w : px_W} {a0 : Int32} {a1 : Int32} {q : Int32 × px_W} (h : fX15_canBe X w a0 a1 = some q) : EV X mX15_canBe 0 (lv_args 0 [.int a0, .int a1]) [] w (some (.int q.1)) q.2 := by
  unfold fX15_canBe at h
  show EV X mX15_canBe 0 [(0, .int a0), (1, .int a1)] [] w (some (.int q.1)) q.2
  refine EV.iload_n 1 dX15_canBe_0 rfl rfl ?_
  refine EV.iload_n 0 dX15_canBe_1 rfl rfl ?_
  refine EV.if_ne 11 dX15_canBe_2 (by decide) (fun c3 => ?_) (fun c3 => ?_)
  · rw [if_neg c3] at h
    refine EV.sipush ((-1023)) dX15_canBe_11 (by decide) ?_
    refine EV.sub [1] rfl ?_
    exact eX15_canBe_14  _ _ _ _ _ h
  · rw [if_pos c3] at h
    refine EV.sipush ((-1024)) dX15_canBe_5 (by decide) ?_
    refine EV.goto 14 dX15_canBe_8 (by decide) ?_
    refine EV.sub [1] rfl ?_
    exact eX15_canBe_14  _ _ _ _ _ h
/-! WavePicturesModel.giveInput(JI)Z -/
theorem dX15_giveInput_0 : decode cX15_giveInput 0 = .ok (.iload_n 3, 1) := by decide +kernel
theorem dX15_giveInput_1 : decode cX15_giveInput 1 = .ok (.iconst 1, 1) := by decide +kernel
theorem dX15_giveInput_2 : decode cX15_giveInput 2 = .ok (.if_icmp .lt 21, 3) := by decide +kernel
theorem dX15_giveInput_5 : decode cX15_giveInput 5 = .ok (.iload_n 3, 1) := by decide +kernel
theorem dX15_giveInput_6 : decode cX15_giveInput 6 = .ok (.bipush 8, 2) := by decide +kernel
theorem dX15_giveInput_8 : decode cX15_giveInput 8 = .ok (.if_icmp .gt 15, 3) := by decide +kernel
theorem dX15_giveInput_11 : decode cX15_giveInput 11 = .ok (.aload_n 0, 1) := by decide +kernel
theorem dX15_giveInput_12 : decode cX15_giveInput 12 = .ok (.getfield 114, 3) := by decide +kernel
theorem dX15_giveInput_15 : decode cX15_giveInput 15 = .ok (.iload_n 3, 1) := by decide +kernel
theorem dX15_giveInput_16 : decode cX15_giveInput 16 = .ok (.iadd, 1) := by decide +kernel
theorem dX15_giveInput_17 : decode cX15_giveInput 17 = .ok (.sipush 16384, 3) := by decide +kernel
theorem dX15_giveInput_20 : decode cX15_giveInput 20 = .ok (.if_icmp .le 5, 3) := by decide +kernel
theorem dX15_giveInput_23 : decode cX15_giveInput 23 = .ok (.iconst 0, 1) := by decide +kernel
theorem dX15_giveInput_24 : decode cX15_giveInput 24 = .ok (.ireturn, 1) := by decide +kernel
theorem dX15_giveInput_25 : decode cX15_giveInput 25 = .ok (.iload_n 3, 1) := by decide +kernel
theorem dX15_giveInput_26 : decode cX15_giveInput 26 = .ok (.iconst 1, 1) := by decide +kernel
theorem dX15_giveInput_27 : decode cX15_giveInput 27 = .ok (.isub, 1) := by decide +kernel
theorem dX15_giveInput_28 : decode cX15_giveInput 28 = .ok (.istore 4, 2) := by decide +kernel
theorem dX15_giveInput_30 : decode cX15_giveInput 30 = .ok (.iload 4, 2) := by decide +kernel
theorem dX15_giveInput_32 : decode cX15_giveInput 32 = .ok (.ifCond .lt 37, 3) := by decide +kernel
theorem dX15_giveInput_35 : decode cX15_giveInput 35 = .ok (.aload_n 0, 1) := by decide +kernel
theorem dX15_giveInput_36 : decode cX15_giveInput 36 = .ok (.getfield 7, 3) := by decide +kernel
theorem dX15_giveInput_39 : decode cX15_giveInput 39 = .ok (.aload_n 0, 1) := by decide +kernel
theorem dX15_giveInput_40 : decode cX15_giveInput 40 = .ok (.getfield 114, 3) := by decide +kernel
theorem dX15_giveInput_43 : decode cX15_giveInput 43 = .ok (.lload_n 1, 1) := by decide +kernel
theorem dX15_giveInput_44 : decode cX15_giveInput 44 = .ok (.bipush 8, 2) := by decide +kernel
theorem dX15_giveInput_46 : decode cX15_giveInput 46 = .ok (.iload 4, 2) := by decide +kernel
theorem dX15_giveInput_48 : decode cX15_giveInput 48 = .ok (.imul, 1) := by decide +kernel
theorem dX15_giveInput_49 : decode cX15_giveInput 49 = .ok (.lshr, 1) := by decide +kernel
theorem dX15_giveInput_50 : decode cX15_giveInput 50 = .ok (.l2i, 1) := by decide +kernel
theorem dX15_giveInput_51 : decode cX15_giveInput 51 = .ok (.i2b, 1) := by decide +kernel
theorem dX15_giveInput_52 : decode cX15_giveInput 52 = .ok (.bastore, 1) := by decide +kernel
theorem dX15_giveInput_53 : decode cX15_giveInput 53 = .ok (.aload_n 0, 1) := by decide +kernel
theorem dX15_giveInput_54 : decode cX15_giveInput 54 = .ok (.dup, 1) := by decide +kernel
theorem dX15_giveInput_55 : decode cX15_giveInput 55 = .ok (.getfield 114, 3) := by decide +kernel
theorem dX15_giveInput_58 : decode cX15_giveInput 58 = .ok (.iconst 1, 1) := by decide +kernel
theorem dX15_giveInput_59 : decode cX15_giveInput 59 = .ok (.iadd, 1) := by decide +kernel
theorem dX15_giveInput_60 : decode cX15_giveInput 60 = .ok (.putfield 114, 3) := by decide +kernel
theorem dX15_giveInput_63 : decode cX15_giveInput 63 = .ok (.iinc 4 (-1), 3) := by decide +kernel
theorem dX15_giveInput_66 : decode cX15_giveInput 66 = .ok (.goto (-36), 3) := by decide +kernel
theorem dX15_giveInput_69 : decode cX15_giveInput 69 = .ok (.iconst 1, 1) := by decide +kernel
theorem dX15_giveInput_70 : decode cX15_giveInput 70 = .ok (.ireturn, 1) := by decide +kernel
theorem flRX15_7 : px_f RX15 7 15 0 := ⟨_, rfl, by decide, Or.inl (tb7 (List.mem_of_getElem? (i := 201) rfl))⟩
theorem flRX15_114 : px_f RX15 114 15 1 := ⟨_, rfl, by decide, Or.inl (tb7 (List.mem_of_getElem? (i := 202) rfl))⟩
set_option maxRecDepth 100000 in
set_option maxHeartbeats 4000000 in
theorem eX15_giveInput_30 {X : px_X}  : ∀ (m : Nat) (a0 : Nat) (a1 : Int64) (a4 : Int32) (w : px_W) (q : Int32 × px_W), fX15_giveInput_30 X  m a0 a1 a4 w = some q → EV X mX15_giveInput 30 [(0, .ref a0), (1, .long a1), (4, .int a4)] [] w (some (.int q.1)) q.2 := by
  intro m
  induction m with
  | zero => intro a0 a1 a4 w q h; cases h
  | succ m ih =>
    intro a0 a1 a4 w q h
    rw [fX15_giveInput_30.eq_2] at h
    refine EV.iload 2 dX15_giveInput_30 rfl ?_
    refine EV.if_lt 69 dX15_giveInput_32 (by decide) (fun c7 => ?_) (fun c7 => ?_)
    · rw [if_pos c7] at h
      refine EV.iconst (1) dX15_giveInput_69 (by decide) ?_
      cases h
      exact EV.reti dX15_giveInput_70 rfl
    · rw [if_neg c7] at h
      refine EV.aload_n 0 dX15_giveInput_35 rfl rfl ?_
      obtain ⟨v8, gv8, h⟩ := px_bs h
      refine ev_gR dX15_giveInput_36 flRX15_7 gv8 ?_
      refine EV.aload_n 0 dX15_giveInput_39 rfl rfl ?_
      obtain ⟨v9, gv9, h⟩ := px_bs h
      refine ev_gI dX15_giveInput_40 flRX15_114 gv9 ?_
      refine EV.lload_n 1 dX15_giveInput_43 rfl rfl ?_
      refine EV.bipush (8) dX15_giveInput_44 (by decide) ?_
      refine EV.iload 2 dX15_giveInput_46 rfl ?_
      refine EV.imul dX15_giveInput_48 ?_
      refine EV.lshr dX15_giveInput_49 ?_
      refine EV.l2i dX15_giveInput_50 ?_
      refine EV.i2b dX15_giveInput_51 ?_
      obtain ⟨w10, gw10, h⟩ := px_bs h
      refine ev_sB dX15_giveInput_52 gw10 ?_
      refine EV.aload_n 0 dX15_giveInput_53 rfl rfl ?_
      refine EV.dup dX15_giveInput_54 rfl ?_
      obtain ⟨v11, gv11, h⟩ := px_bs h
      refine ev_gI dX15_giveInput_55 flRX15_114 gv11 ?_
      refine EV.iconst (1) dX15_giveInput_58 (by decide) ?_
      refine EV.iadd dX15_giveInput_59 ?_
      obtain ⟨w12, gw12, h⟩ := px_bs h
      refine ev_pV dX15_giveInput_60 flRX15_114 rfl rfl rfl rfl gw12 ?_
      refine EV.iinc 2 (a4 + (-1)) [(4, .int (a4 + (-1))), (0, .ref a0), (1, .long a1)] dX15_giveInput_63 rfl rfl (by decide) rfl ?_
      refine EV.goto 30 dX15_giveInput_66 (by decide) ?_
      refine EV.sub [1, 2, 0] rfl ?_
      exact ih _ _ _ _ _ h
set_option maxRecDepth 100000 in
set_option maxHeartbeats 4000000 in
theorem eX15_giveInput {X : px_X} {w : px_W} {a0 : Nat} {a1 : Int64} {a3 : Int32} {q : Int32 × px_W} (h : fX15_giveInput X w a0 a1 a3 = some q) : EV X mX15_giveInput 0 (lv_args 0 [.ref a0, .long a1, .int a3]) [] w (some (.int q.1)) q.2 := by
  unfold fX15_giveInput at h
  show EV X mX15_giveInput 0 [(0, .ref a0), (1, .long a1), (3, .int a3)] [] w (some (.int q.1)) q.2
  refine EV.iload_n 2 dX15_giveInput_0 rfl rfl ?_
  refine EV.iconst (1) dX15_giveInput_1 (by decide) ?_
  refine EV.icmp_lt 23 dX15_giveInput_2 (by decide) (fun c13 => ?_) (fun c13 => ?_)
  · rw [if_pos c13] at h
    refine EV.iconst (0) dX15_giveInput_23 (by decide) ?_
    cases h
    exact EV.reti dX15_giveInput_24 rfl
  · rw [if_neg c13] at h
    refine EV.iload_n 2 dX15_giveInput_5 rfl rfl ?_
    refine EV.bipush (8) dX15_giveInput_6 (by decide) ?_
    refine EV.icmp_gt 23 dX15_giveInput_8 (by decide) (fun c14 => ?_) (fun c14 => ?_)
    · rw [if_pos c14] at h
      refine EV.iconst (0) dX15_giveInput_23 (by decide) ?_
      cases h
      exact EV.reti dX15_giveInput_24 rfl
    · rw [if_neg c14] at h
      refine EV.aload_n 0 dX15_giveInput_11 rfl rfl ?_
      obtain ⟨v15, gv15, h⟩ := px_bs h
      refine ev_gI dX15_giveInput_12 flRX15_114 gv15 ?_
      refine EV.iload_n 2 dX15_giveInput_15 rfl rfl ?_
      refine EV.iadd dX15_giveInput_16 ?_
      refine EV.sipush (16384) dX15_giveInput_17 (by decide) ?_
      refine EV.icmp_le 25 dX15_giveInput_20 (by decide) (fun c16 => ?_) (fun c16 => ?_)
      · rw [if_pos c16] at h
        refine EV.iload_n 2 dX15_giveInput_25 rfl rfl ?_
        refine EV.iconst (1) dX15_giveInput_26 (by decide) ?_
        refine EV.isub dX15_giveInput_27 ?_
        refine EV.istore [(4, .int (a3 - 1)), (0, .ref a0), (1, .long a1), (3, .int a3)] dX15_giveInput_28 (by decide) rfl ?_
        refine EV.sub [1, 2, 0] rfl ?_
        exact eX15_giveInput_30  FU _ _ _ _ _ h
      · rw [if_neg c16] at h
        refine EV.iconst (0) dX15_giveInput_23 (by decide) ?_
        cases h
        exact EV.reti dX15_giveInput_24 rfl
/-! WavePicturesModel.wipeInput()V -/
theorem dX15_wipeInput_0 : decode cX15_wipeInput 0 = .ok (.aload_n 0, 1) := by decide +kernel
theorem dX15_wipeInput_1 : decode cX15_wipeInput 1 = .ok (.iconst 0, 1) := by decide +kernel
theorem dX15_wipeInput_2 : decode cX15_wipeInput 2 = .ok (.putfield 114, 3) := by decide +kernel
theorem dX15_wipeInput_5 : decode cX15_wipeInput 5 = .ok (.return_, 1) := by decide +kernel
set_option maxRecDepth 100000 in
set_option maxHeartbeats 4000000 in
theorem eX15_wipeInput {X : px_X} {w : px_W} {a0 : Nat} {q : px_W} (h : fX15_wipeInput X w a0 = some q) : EV X mX15_wipeInput 0 (lv_args 0 [.ref a0]) [] w none q := by
  unfold fX15_wipeInput at h
  show EV X mX15_wipeInput 0 [(0, .ref a0)] [] w none q
  refine EV.aload_n 0 dX15_wipeInput_0 rfl rfl ?_
  refine EV.iconst (0) dX15_wipeInput_1 (by decide) ?_
  obtain ⟨w2, gw2, h⟩ := px_bs h
  refine ev_pV dX15_wipeInput_2 flRX15_114 rfl rfl rfl rfl gw2 ?_
  cases h
  exact EV.ret0 dX15_wipeInput_5 trivial
/-! WavePicturesModel.takeOutput()V -/
theorem dX15_takeOutput_0 : decode cX15_takeOutput 0 = .ok (.aload_n 0, 1) := by decide +kernel
theorem dX15_takeOutput_1 : decode cX15_takeOutput 1 = .ok (.aload_n 0, 1) := by decide +kernel
theorem dX15_takeOutput_2 : decode cX15_takeOutput 2 = .ok (.getfield 117, 3) := by decide +kernel
theorem dX15_takeOutput_5 : decode cX15_takeOutput 5 = .ok (.putfield 114, 3) := by decide +kernel
theorem dX15_takeOutput_8 : decode cX15_takeOutput 8 = .ok (.iconst 0, 1) := by decide +kernel
theorem dX15_takeOutput_9 : decode cX15_takeOutput 9 = .ok (.istore_n 1, 1) := by decide +kernel
theorem dX15_takeOutput_10 : decode cX15_takeOutput 10 = .ok (.iload_n 1, 1) := by decide +kernel
theorem dX15_takeOutput_11 : decode cX15_takeOutput 11 = .ok (.aload_n 0, 1) := by decide +kernel
theorem dX15_takeOutput_12 : decode cX15_takeOutput 12 = .ok (.getfield 117, 3) := by decide +kernel
theorem dX15_takeOutput_15 : decode cX15_takeOutput 15 = .ok (.if_icmp .ge 21, 3) := by decide +kernel
theorem dX15_takeOutput_18 : decode cX15_takeOutput 18 = .ok (.aload_n 0, 1) := by decide +kernel
theorem dX15_takeOutput_19 : decode cX15_takeOutput 19 = .ok (.getfield 7, 3) := by decide +kernel
theorem dX15_takeOutput_22 : decode cX15_takeOutput 22 = .ok (.iload_n 1, 1) := by decide +kernel
theorem dX15_takeOutput_23 : decode cX15_takeOutput 23 = .ok (.aload_n 0, 1) := by decide +kernel
theorem dX15_takeOutput_24 : decode cX15_takeOutput 24 = .ok (.getfield 13, 3) := by decide +kernel
theorem dX15_takeOutput_27 : decode cX15_takeOutput 27 = .ok (.iload_n 1, 1) := by decide +kernel
theorem dX15_takeOutput_28 : decode cX15_takeOutput 28 = .ok (.baload, 1) := by decide +kernel
theorem dX15_takeOutput_29 : decode cX15_takeOutput 29 = .ok (.bastore, 1) := by decide +kernel
theorem dX15_takeOutput_30 : decode cX15_takeOutput 30 = .ok (.iinc 1 1, 3) := by decide +kernel
theorem dX15_takeOutput_33 : decode cX15_takeOutput 33 = .ok (.goto (-23), 3) := by decide +kernel
theorem dX15_takeOutput_36 : decode cX15_takeOutput 36 = .ok (.return_, 1) := by decide +kernel
theorem flRX15_13 : px_f RX15 13 15 2 := ⟨_, rfl, by decide, Or.inl (tb7 (List.mem_of_getElem? (i := 203) rfl))⟩
theorem flRX15_117 : px_f RX15 117 15 3 := ⟨_, rfl, by decide, Or.inl (tb7 (List.mem_of_getElem? (i := 204) rfl))⟩
set_option maxRecDepth 100000 in
set_option maxHeartbeats 4000000 in
theorem eX15_takeOutput_10 {X : px_X}  : ∀ (m : Nat) (a0 : Nat) (a1 : Int32) (w : px_W) (q : px_W), fX15_takeOutput_10 X  m a0 a1 w = some q → EV X mX15_takeOutput 10 [(0, .ref a0), (1, .int a1)] [] w none q := by
  intro m
  induction m with
  | zero => intro a0 a1 w q h; cases h
  | succ m ih =>
    intro a0 a1 w q h
    rw [fX15_takeOutput_10.eq_2] at h
    refine EV.iload_n 1 dX15_takeOutput_10 rfl rfl ?_
    refine EV.aload_n 0 dX15_takeOutput_11 rfl rfl ?_
    obtain ⟨v8, gv8, h⟩ := px_bs h
    refine ev_gI dX15_takeOutput_12 flRX15_117 gv8 ?_
    refine EV.icmp_ge 36 dX15_takeOutput_15 (by decide) (fun c9 => ?_) (fun c9 => ?_)
    · rw [if_pos c9] at h
      cases h
      exact EV.ret0 dX15_takeOutput_36 trivial
    · rw [if_neg c9] at h
      refine EV.aload_n 0 dX15_takeOutput_18 rfl rfl ?_
      obtain ⟨v10, gv10, h⟩ := px_bs h
      refine ev_gR dX15_takeOutput_19 flRX15_7 gv10 ?_
      refine EV.iload_n 1 dX15_takeOutput_22 rfl rfl ?_
      refine EV.aload_n 0 dX15_takeOutput_23 rfl rfl ?_
      obtain ⟨v11, gv11, h⟩ := px_bs h
      refine ev_gR dX15_takeOutput_24 flRX15_13 gv11 ?_
      refine EV.iload_n 1 dX15_takeOutput_27 rfl rfl ?_
      obtain ⟨v12, gv12, h⟩ := px_bs h
      refine ev_aB dX15_takeOutput_28 gv12 ?_
      obtain ⟨w13, gw13, h⟩ := px_bs h
      refine ev_sB dX15_takeOutput_29 gw13 ?_
      refine EV.iinc 1 (a1 + 1) [(1, .int (a1 + 1)), (0, .ref a0)] dX15_takeOutput_30 rfl rfl (by decide) rfl ?_
      refine EV.goto 10 dX15_takeOutput_33 (by decide) ?_
      refine EV.sub [1, 0] rfl ?_
      exact ih _ _ _ _ h
set_option maxRecDepth 100000 in
set_option maxHeartbeats 4000000 in
theorem eX15_takeOutput {X : px_X} {w : px_W} {a0 : Nat} {q : px_W} (h : fX15_takeOutput X w a0 = some q) : EV X mX15_takeOutput 0 (lv_args 0 [.ref a0]) [] w none q := by
  unfold fX15_takeOutput at h
  show EV X mX15_takeOutput 0 [(0, .ref a0)] [] w none q
  refine EV.aload_n 0 dX15_takeOutput_0 rfl rfl ?_
  refine EV.aload_n 0 dX15_takeOutput_1 rfl rfl ?_
  obtain ⟨v14, gv14, h⟩ := px_bs h
  refine ev_gI dX15_takeOutput_2 flRX15_117 gv14 ?_
  obtain ⟨w15, gw15, h⟩ := px_bs h
  refine ev_pV dX15_takeOutput_5 flRX15_114 rfl rfl rfl rfl gw15 ?_
  refine EV.iconst (0) dX15_takeOutput_8 (by decide) ?_
  refine EV.istore_n [(1, .int 0), (0, .ref a0)] dX15_takeOutput_9 rfl (by decide) rfl ?_
  refine EV.sub [1, 0] rfl ?_
  exact eX15_takeOutput_10  FU _ _ _ _ h
/-! WavePicturesModel.layOut()V -/
theorem dX15_layOut_0 : decode cX15_layOut 0 = .ok (.aload_n 0, 1) := by decide +kernel
theorem dX15_layOut_1 : decode cX15_layOut 1 = .ok (.iconst 1, 1) := by decide +kernel
theorem dX15_layOut_2 : decode cX15_layOut 2 = .ok (.putfield 120, 3) := by decide +kernel
theorem dX15_layOut_5 : decode cX15_layOut 5 = .ok (.aload_n 0, 1) := by decide +kernel
theorem dX15_layOut_6 : decode cX15_layOut 6 = .ok (.iconst 1, 1) := by decide +kernel
theorem dX15_layOut_7 : decode cX15_layOut 7 = .ok (.putfield 123, 3) := by decide +kernel
theorem dX15_layOut_10 : decode cX15_layOut 10 = .ok (.iconst 0, 1) := by decide +kernel
theorem dX15_layOut_11 : decode cX15_layOut 11 = .ok (.istore_n 1, 1) := by decide +kernel
theorem dX15_layOut_12 : decode cX15_layOut 12 = .ok (.iload_n 1, 1) := by decide +kernel
theorem dX15_layOut_13 : decode cX15_layOut 13 = .ok (.aload_n 0, 1) := by decide +kernel
theorem dX15_layOut_14 : decode cX15_layOut 14 = .ok (.getfield 126, 3) := by decide +kernel
theorem dX15_layOut_17 : decode cX15_layOut 17 = .ok (.if_icmp .ge 69, 3) := by decide +kernel
theorem dX15_layOut_20 : decode cX15_layOut 20 = .ok (.aload_n 0, 1) := by decide +kernel
theorem dX15_layOut_21 : decode cX15_layOut 21 = .ok (.aload_n 0, 1) := by decide +kernel
theorem dX15_layOut_22 : decode cX15_layOut 22 = .ok (.getfield 52, 3) := by decide +kernel
theorem dX15_layOut_25 : decode cX15_layOut 25 = .ok (.iload_n 1, 1) := by decide +kernel
theorem dX15_layOut_26 : decode cX15_layOut 26 = .ok (.iaload, 1) := by decide +kernel
theorem dX15_layOut_27 : decode cX15_layOut 27 = .ok (.aload_n 0, 1) := by decide +kernel
theorem dX15_layOut_28 : decode cX15_layOut 28 = .ok (.getfield 120, 3) := by decide +kernel
theorem dX15_layOut_31 : decode cX15_layOut 31 = .ok (.if_icmp .le 12, 3) := by decide +kernel
theorem dX15_layOut_34 : decode cX15_layOut 34 = .ok (.aload_n 0, 1) := by decide +kernel
theorem dX15_layOut_35 : decode cX15_layOut 35 = .ok (.getfield 52, 3) := by decide +kernel
theorem dX15_layOut_38 : decode cX15_layOut 38 = .ok (.iload_n 1, 1) := by decide +kernel
theorem dX15_layOut_39 : decode cX15_layOut 39 = .ok (.iaload, 1) := by decide +kernel
theorem dX15_layOut_40 : decode cX15_layOut 40 = .ok (.goto 7, 3) := by decide +kernel
theorem dX15_layOut_43 : decode cX15_layOut 43 = .ok (.aload_n 0, 1) := by decide +kernel
theorem dX15_layOut_44 : decode cX15_layOut 44 = .ok (.getfield 120, 3) := by decide +kernel
theorem dX15_layOut_47 : decode cX15_layOut 47 = .ok (.putfield 120, 3) := by decide +kernel
theorem dX15_layOut_50 : decode cX15_layOut 50 = .ok (.aload_n 0, 1) := by decide +kernel
theorem dX15_layOut_51 : decode cX15_layOut 51 = .ok (.aload_n 0, 1) := by decide +kernel
theorem dX15_layOut_52 : decode cX15_layOut 52 = .ok (.getfield 55, 3) := by decide +kernel
theorem dX15_layOut_55 : decode cX15_layOut 55 = .ok (.iload_n 1, 1) := by decide +kernel
theorem dX15_layOut_56 : decode cX15_layOut 56 = .ok (.iaload, 1) := by decide +kernel
theorem dX15_layOut_57 : decode cX15_layOut 57 = .ok (.aload_n 0, 1) := by decide +kernel
theorem dX15_layOut_58 : decode cX15_layOut 58 = .ok (.getfield 123, 3) := by decide +kernel
theorem dX15_layOut_61 : decode cX15_layOut 61 = .ok (.if_icmp .le 12, 3) := by decide +kernel
theorem dX15_layOut_64 : decode cX15_layOut 64 = .ok (.aload_n 0, 1) := by decide +kernel
theorem dX15_layOut_65 : decode cX15_layOut 65 = .ok (.getfield 55, 3) := by decide +kernel
theorem dX15_layOut_68 : decode cX15_layOut 68 = .ok (.iload_n 1, 1) := by decide +kernel
theorem dX15_layOut_69 : decode cX15_layOut 69 = .ok (.iaload, 1) := by decide +kernel
theorem dX15_layOut_70 : decode cX15_layOut 70 = .ok (.goto 7, 3) := by decide +kernel
theorem dX15_layOut_73 : decode cX15_layOut 73 = .ok (.aload_n 0, 1) := by decide +kernel
theorem dX15_layOut_74 : decode cX15_layOut 74 = .ok (.getfield 123, 3) := by decide +kernel
theorem dX15_layOut_77 : decode cX15_layOut 77 = .ok (.putfield 123, 3) := by decide +kernel
theorem dX15_layOut_80 : decode cX15_layOut 80 = .ok (.iinc 1 1, 3) := by decide +kernel
theorem dX15_layOut_83 : decode cX15_layOut 83 = .ok (.goto (-71), 3) := by decide +kernel
theorem dX15_layOut_86 : decode cX15_layOut 86 = .ok (.aload_n 0, 1) := by decide +kernel
theorem dX15_layOut_87 : decode cX15_layOut 87 = .ok (.aload_n 0, 1) := by decide +kernel
theorem dX15_layOut_88 : decode cX15_layOut 88 = .ok (.getfield 129, 3) := by decide +kernel
theorem dX15_layOut_91 : decode cX15_layOut 91 = .ok (.bipush 8, 2) := by decide +kernel
theorem dX15_layOut_93 : decode cX15_layOut 93 = .ok (.aload_n 0, 1) := by decide +kernel
theorem dX15_layOut_94 : decode cX15_layOut 94 = .ok (.getfield 120, 3) := by decide +kernel
theorem dX15_layOut_97 : decode cX15_layOut 97 = .ok (.imul, 1) := by decide +kernel
theorem dX15_layOut_98 : decode cX15_layOut 98 = .ok (.invokestatic 132, 3) := by decide +kernel
theorem dX15_layOut_101 : decode cX15_layOut 101 = .ok (.putfield 136, 3) := by decide +kernel
theorem dX15_layOut_104 : decode cX15_layOut 104 = .ok (.aload_n 0, 1) := by decide +kernel
theorem dX15_layOut_105 : decode cX15_layOut 105 = .ok (.aload_n 0, 1) := by decide +kernel
theorem dX15_layOut_106 : decode cX15_layOut 106 = .ok (.getfield 139, 3) := by decide +kernel
theorem dX15_layOut_109 : decode cX15_layOut 109 = .ok (.bipush 8, 2) := by decide +kernel
theorem dX15_layOut_111 : decode cX15_layOut 111 = .ok (.aload_n 0, 1) := by decide +kernel
theorem dX15_layOut_112 : decode cX15_layOut 112 = .ok (.getfield 123, 3) := by decide +kernel
theorem dX15_layOut_115 : decode cX15_layOut 115 = .ok (.imul, 1) := by decide +kernel
theorem dX15_layOut_116 : decode cX15_layOut 116 = .ok (.invokestatic 132, 3) := by decide +kernel
theorem dX15_layOut_119 : decode cX15_layOut 119 = .ok (.putfield 142, 3) := by decide +kernel
theorem dX15_layOut_122 : decode cX15_layOut 122 = .ok (.iconst 0, 1) := by decide +kernel
theorem dX15_layOut_123 : decode cX15_layOut 123 = .ok (.istore_n 1, 1) := by decide +kernel
theorem dX15_layOut_124 : decode cX15_layOut 124 = .ok (.iconst 0, 1) := by decide +kernel
theorem dX15_layOut_125 : decode cX15_layOut 125 = .ok (.istore_n 2, 1) := by decide +kernel
theorem dX15_layOut_126 : decode cX15_layOut 126 = .ok (.iload_n 2, 1) := by decide +kernel
theorem dX15_layOut_127 : decode cX15_layOut 127 = .ok (.aload_n 0, 1) := by decide +kernel
theorem dX15_layOut_128 : decode cX15_layOut 128 = .ok (.getfield 126, 3) := by decide +kernel
theorem dX15_layOut_131 : decode cX15_layOut 131 = .ok (.if_icmp .ge 66, 3) := by decide +kernel
theorem dX15_layOut_134 : decode cX15_layOut 134 = .ok (.aload_n 0, 1) := by decide +kernel
theorem dX15_layOut_135 : decode cX15_layOut 135 = .ok (.getfield 58, 3) := by decide +kernel
theorem dX15_layOut_138 : decode cX15_layOut 138 = .ok (.iload_n 2, 1) := by decide +kernel
theorem dX15_layOut_139 : decode cX15_layOut 139 = .ok (.aload_n 0, 1) := by decide +kernel
theorem dX15_layOut_140 : decode cX15_layOut 140 = .ok (.getfield 136, 3) := by decide +kernel
theorem dX15_layOut_143 : decode cX15_layOut 143 = .ok (.aload_n 0, 1) := by decide +kernel
theorem dX15_layOut_144 : decode cX15_layOut 144 = .ok (.getfield 52, 3) := by decide +kernel
theorem dX15_layOut_147 : decode cX15_layOut 147 = .ok (.iload_n 2, 1) := by decide +kernel
theorem dX15_layOut_148 : decode cX15_layOut 148 = .ok (.iaload, 1) := by decide +kernel
theorem dX15_layOut_149 : decode cX15_layOut 149 = .ok (.imul, 1) := by decide +kernel
theorem dX15_layOut_150 : decode cX15_layOut 150 = .ok (.iastore, 1) := by decide +kernel
theorem dX15_layOut_151 : decode cX15_layOut 151 = .ok (.aload_n 0, 1) := by decide +kernel
theorem dX15_layOut_152 : decode cX15_layOut 152 = .ok (.getfield 61, 3) := by decide +kernel
theorem dX15_layOut_155 : decode cX15_layOut 155 = .ok (.iload_n 2, 1) := by decide +kernel
theorem dX15_layOut_156 : decode cX15_layOut 156 = .ok (.aload_n 0, 1) := by decide +kernel
theorem dX15_layOut_157 : decode cX15_layOut 157 = .ok (.getfield 142, 3) := by decide +kernel
theorem dX15_layOut_160 : decode cX15_layOut 160 = .ok (.aload_n 0, 1) := by decide +kernel
theorem dX15_layOut_161 : decode cX15_layOut 161 = .ok (.getfield 55, 3) := by decide +kernel
theorem dX15_layOut_164 : decode cX15_layOut 164 = .ok (.iload_n 2, 1) := by decide +kernel
theorem dX15_layOut_165 : decode cX15_layOut 165 = .ok (.iaload, 1) := by decide +kernel
theorem dX15_layOut_166 : decode cX15_layOut 166 = .ok (.imul, 1) := by decide +kernel
theorem dX15_layOut_167 : decode cX15_layOut 167 = .ok (.iastore, 1) := by decide +kernel
theorem dX15_layOut_168 : decode cX15_layOut 168 = .ok (.aload_n 0, 1) := by decide +kernel
theorem dX15_layOut_169 : decode cX15_layOut 169 = .ok (.getfield 64, 3) := by decide +kernel
theorem dX15_layOut_172 : decode cX15_layOut 172 = .ok (.iload_n 2, 1) := by decide +kernel
theorem dX15_layOut_173 : decode cX15_layOut 173 = .ok (.iload_n 1, 1) := by decide +kernel
theorem dX15_layOut_174 : decode cX15_layOut 174 = .ok (.iastore, 1) := by decide +kernel
theorem dX15_layOut_175 : decode cX15_layOut 175 = .ok (.iload_n 1, 1) := by decide +kernel
theorem dX15_layOut_176 : decode cX15_layOut 176 = .ok (.aload_n 0, 1) := by decide +kernel
theorem dX15_layOut_177 : decode cX15_layOut 177 = .ok (.getfield 58, 3) := by decide +kernel
theorem dX15_layOut_180 : decode cX15_layOut 180 = .ok (.iload_n 2, 1) := by decide +kernel
theorem dX15_layOut_181 : decode cX15_layOut 181 = .ok (.iaload, 1) := by decide +kernel
theorem dX15_layOut_182 : decode cX15_layOut 182 = .ok (.aload_n 0, 1) := by decide +kernel
theorem dX15_layOut_183 : decode cX15_layOut 183 = .ok (.getfield 61, 3) := by decide +kernel
theorem dX15_layOut_186 : decode cX15_layOut 186 = .ok (.iload_n 2, 1) := by decide +kernel
theorem dX15_layOut_187 : decode cX15_layOut 187 = .ok (.iaload, 1) := by decide +kernel
theorem dX15_layOut_188 : decode cX15_layOut 188 = .ok (.imul, 1) := by decide +kernel
theorem dX15_layOut_189 : decode cX15_layOut 189 = .ok (.iadd, 1) := by decide +kernel
theorem dX15_layOut_190 : decode cX15_layOut 190 = .ok (.istore_n 1, 1) := by decide +kernel
theorem dX15_layOut_191 : decode cX15_layOut 191 = .ok (.iinc 2 1, 3) := by decide +kernel
theorem dX15_layOut_194 : decode cX15_layOut 194 = .ok (.goto (-68), 3) := by decide +kernel
theorem dX15_layOut_197 : decode cX15_layOut 197 = .ok (.return_, 1) := by decide +kernel
theorem flRX15_52 : px_f RX15 52 15 21 := ⟨_, rfl, by decide, Or.inl (tb7 (List.mem_of_getElem? (i := 222) rfl))⟩
theorem flRX15_55 : px_f RX15 55 15 22 := ⟨_, rfl, by decide, Or.inl (tb7 (List.mem_of_getElem? (i := 223) rfl))⟩
theorem flRX15_58 : px_f RX15 58 15 23 := ⟨_, rfl, by decide, Or.inl (tb7 (List.mem_of_getElem? (i := 224) rfl))⟩
theorem flRX15_61 : px_f RX15 61 15 24 := ⟨_, rfl, by decide, Or.inl (tb7 (List.mem_of_getElem? (i := 225) rfl))⟩
theorem flRX15_64 : px_f RX15 64 15 25 := ⟨_, rfl, by decide, Or.inl (tb7 (List.mem_of_getElem? (i := 226) rfl))⟩
theorem flRX15_120 : px_f RX15 120 15 26 := ⟨_, rfl, by decide, Or.inl (tb7 (List.mem_of_getElem? (i := 227) rfl))⟩
theorem flRX15_123 : px_f RX15 123 15 27 := ⟨_, rfl, by decide, Or.inl (tb7 (List.mem_of_getElem? (i := 228) rfl))⟩
theorem flRX15_126 : px_f RX15 126 15 20 := ⟨_, rfl, by decide, Or.inl (tb7 (List.mem_of_getElem? (i := 221) rfl))⟩
theorem flRX15_129 : px_f RX15 129 15 18 := ⟨_, rfl, by decide, Or.inl (tb7 (List.mem_of_getElem? (i := 219) rfl))⟩
theorem flRX15_136 : px_f RX15 136 15 28 := ⟨_, rfl, by decide, Or.inl (tb7 (List.mem_of_getElem? (i := 229) rfl))⟩
theorem flRX15_139 : px_f RX15 139 15 19 := ⟨_, rfl, by decide, Or.inl (tb7 (List.mem_of_getElem? (i := 220) rfl))⟩
theorem flRX15_142 : px_f RX15 142 15 29 := ⟨_, rfl, by decide, Or.inl (tb7 (List.mem_of_getElem? (i := 230) rfl))⟩
theorem mbX15_up : px_mB mX15_up 2 := ⟨tb9 (List.mem_of_getElem? (i := 117) rfl), by decide +kernel, tb1 (List.mem_of_getElem? (i := 13) rfl), by decide +kernel, by decide +kernel⟩
theorem kcX15_layOut_132 : px_cS mX15_layOut 132 mX15_up 2 := ⟨⟨mbX15_up, by decide, by decide⟩, Or.inl (tb9 (List.mem_of_getElem? (i := 115) rfl)), tb9 (List.mem_of_getElem? (i := 116) rfl)⟩
set_option maxRecDepth 100000 in
set_option maxHeartbeats 4000000 in
theorem eX15_layOut_126 {X : px_X}  : ∀ (m : Nat) (a0 : Nat) (a1 : Int32) (a2 : Int32) (w : px_W) (q : px_W), fX15_layOut_126 X  m a0 a1 a2 w = some q → EV X mX15_layOut 126 [(0, .ref a0), (1, .int a1), (2, .int a2)] [] w none q := by
  intro m
  induction m with
  | zero => intro a0 a1 a2 w q h; cases h
  | succ m ih =>
    intro a0 a1 a2 w q h
    rw [fX15_layOut_126.eq_2] at h
    refine EV.iload_n 2 dX15_layOut_126 rfl rfl ?_
    refine EV.aload_n 0 dX15_layOut_127 rfl rfl ?_
    obtain ⟨v43, gv43, h⟩ := px_bs h
    refine ev_gI dX15_layOut_128 flRX15_126 gv43 ?_
    refine EV.icmp_ge 197 dX15_layOut_131 (by decide) (fun c44 => ?_) (fun c44 => ?_)
    · rw [if_pos c44] at h
      cases h
      exact EV.ret0 dX15_layOut_197 trivial
    · rw [if_neg c44] at h
      refine EV.aload_n 0 dX15_layOut_134 rfl rfl ?_
      obtain ⟨v45, gv45, h⟩ := px_bs h
      refine ev_gR dX15_layOut_135 flRX15_58 gv45 ?_
      refine EV.iload_n 2 dX15_layOut_138 rfl rfl ?_
      refine EV.aload_n 0 dX15_layOut_139 rfl rfl ?_
      obtain ⟨v46, gv46, h⟩ := px_bs h
      refine ev_gI dX15_layOut_140 flRX15_136 gv46 ?_
      refine EV.aload_n 0 dX15_layOut_143 rfl rfl ?_
      obtain ⟨v47, gv47, h⟩ := px_bs h
      refine ev_gR dX15_layOut_144 flRX15_52 gv47 ?_
      refine EV.iload_n 2 dX15_layOut_147 rfl rfl ?_
      obtain ⟨v48, gv48, h⟩ := px_bs h
      refine ev_aI dX15_layOut_148 gv48 ?_
      refine EV.imul dX15_layOut_149 ?_
      obtain ⟨w49, gw49, h⟩ := px_bs h
      refine ev_sI dX15_layOut_150 gw49 ?_
      refine EV.aload_n 0 dX15_layOut_151 rfl rfl ?_
      obtain ⟨v50, gv50, h⟩ := px_bs h
      refine ev_gR dX15_layOut_152 flRX15_61 gv50 ?_
      refine EV.iload_n 2 dX15_layOut_155 rfl rfl ?_
      refine EV.aload_n 0 dX15_layOut_156 rfl rfl ?_
      obtain ⟨v51, gv51, h⟩ := px_bs h
      refine ev_gI dX15_layOut_157 flRX15_142 gv51 ?_
      refine EV.aload_n 0 dX15_layOut_160 rfl rfl ?_
      obtain ⟨v52, gv52, h⟩ := px_bs h
      refine ev_gR dX15_layOut_161 flRX15_55 gv52 ?_
      refine EV.iload_n 2 dX15_layOut_164 rfl rfl ?_
      obtain ⟨v53, gv53, h⟩ := px_bs h
      refine ev_aI dX15_layOut_165 gv53 ?_
      refine EV.imul dX15_layOut_166 ?_
      obtain ⟨w54, gw54, h⟩ := px_bs h
      refine ev_sI dX15_layOut_167 gw54 ?_
      refine EV.aload_n 0 dX15_layOut_168 rfl rfl ?_
      obtain ⟨v55, gv55, h⟩ := px_bs h
      refine ev_gR dX15_layOut_169 flRX15_64 gv55 ?_
      refine EV.iload_n 2 dX15_layOut_172 rfl rfl ?_
      refine EV.iload_n 1 dX15_layOut_173 rfl rfl ?_
      obtain ⟨w56, gw56, h⟩ := px_bs h
      refine ev_sI dX15_layOut_174 gw56 ?_
      refine EV.iload_n 1 dX15_layOut_175 rfl rfl ?_
      refine EV.aload_n 0 dX15_layOut_176 rfl rfl ?_
      obtain ⟨v57, gv57, h⟩ := px_bs h
      refine ev_gR dX15_layOut_177 flRX15_58 gv57 ?_
      refine EV.iload_n 2 dX15_layOut_180 rfl rfl ?_
      obtain ⟨v58, gv58, h⟩ := px_bs h
      refine ev_aI dX15_layOut_181 gv58 ?_
      refine EV.aload_n 0 dX15_layOut_182 rfl rfl ?_
      obtain ⟨v59, gv59, h⟩ := px_bs h
      refine ev_gR dX15_layOut_183 flRX15_61 gv59 ?_
      refine EV.iload_n 2 dX15_layOut_186 rfl rfl ?_
      obtain ⟨v60, gv60, h⟩ := px_bs h
      refine ev_aI dX15_layOut_187 gv60 ?_
      refine EV.imul dX15_layOut_188 ?_
      refine EV.iadd dX15_layOut_189 ?_
      refine EV.istore_n [(1, .int (a1 + (v58 * v60))), (0, .ref a0), (2, .int a2)] dX15_layOut_190 rfl (by decide) rfl ?_
      refine EV.iinc 2 (a2 + 1) [(2, .int (a2 + 1)), (1, .int (a1 + (v58 * v60))), (0, .ref a0)] dX15_layOut_191 rfl rfl (by decide) rfl ?_
      refine EV.goto 126 dX15_layOut_194 (by decide) ?_
      refine EV.sub [2, 1, 0] rfl ?_
      exact ih _ _ _ _ _ h
set_option maxRecDepth 100000 in
set_option maxHeartbeats 4000000 in
theorem eX15_layOut_86 {X : px_X}  : ∀ (a0 : Nat) (w : px_W) (q : px_W), fX15_layOut_86 X  a0 w = some q → EV X mX15_layOut 86 [(0, .ref a0)] [] w none q := by
  intro a0 w q h
  unfold fX15_layOut_86 at h
  refine EV.aload_n 0 dX15_layOut_86 rfl rfl ?_
  refine EV.aload_n 0 dX15_layOut_87 rfl rfl ?_
  obtain ⟨v61, gv61, h⟩ := px_bs h
  refine ev_gI dX15_layOut_88 flRX15_129 gv61 ?_
  refine EV.bipush (8) dX15_layOut_91 (by decide) ?_
  refine EV.aload_n 0 dX15_layOut_93 rfl rfl ?_
  obtain ⟨v62, gv62, h⟩ := px_bs h
  refine ev_gI dX15_layOut_94 flRX15_120 gv62 ?_
  refine EV.imul dX15_layOut_97 ?_
  obtain ⟨q63, gq63, h⟩ := px_bs h
  refine EV.callS (As := [.int v61, .int (8 * v62)]) (rest := [.ref a0]) dX15_layOut_98 kcX15_layOut_132 rfl (Nat.le_of_ble_eq_true rfl) (Nat.le_of_ble_eq_true rfl) (eX15_up gq63) ?_
  obtain ⟨w64, gw64, h⟩ := px_bs h
  refine ev_pV dX15_layOut_101 flRX15_136 rfl rfl rfl rfl gw64 ?_
  refine EV.aload_n 0 dX15_layOut_104 rfl rfl ?_
  refine EV.aload_n 0 dX15_layOut_105 rfl rfl ?_
  obtain ⟨v65, gv65, h⟩ := px_bs h
  refine ev_gI dX15_layOut_106 flRX15_139 gv65 ?_
  refine EV.bipush (8) dX15_layOut_109 (by decide) ?_
  refine EV.aload_n 0 dX15_layOut_111 rfl rfl ?_
  obtain ⟨v66, gv66, h⟩ := px_bs h
  refine ev_gI dX15_layOut_112 flRX15_123 gv66 ?_
  refine EV.imul dX15_layOut_115 ?_
  obtain ⟨q67, gq67, h⟩ := px_bs h
  refine EV.callS (As := [.int v65, .int (8 * v66)]) (rest := [.ref a0]) dX15_layOut_116 kcX15_layOut_132 rfl (Nat.le_of_ble_eq_true rfl) (Nat.le_of_ble_eq_true rfl) (eX15_up gq67) ?_
  obtain ⟨w68, gw68, h⟩ := px_bs h
  refine ev_pV dX15_layOut_119 flRX15_142 rfl rfl rfl rfl gw68 ?_
  refine EV.iconst (0) dX15_layOut_122 (by decide) ?_
  refine EV.istore_n [(1, .int 0), (0, .ref a0)] dX15_layOut_123 rfl (by decide) rfl ?_
  refine EV.iconst (0) dX15_layOut_124 (by decide) ?_
  refine EV.istore_n [(2, .int 0), (1, .int 0), (0, .ref a0)] dX15_layOut_125 rfl (by decide) rfl ?_
  refine EV.sub [2, 1, 0] rfl ?_
  exact eX15_layOut_126  FU _ _ _ _ _ h
set_option maxRecDepth 100000 in
set_option maxHeartbeats 4000000 in
theorem eX15_layOut_77 {X : px_X} {k12 : Nat → Int32 → px_W → Option (px_W)} (hk12 : ∀ (a0 : Nat) (a1 : Int32) (w : px_W) (q : px_W), k12 a0 a1 w = some q → EV X mX15_layOut 12 [(0, .ref a0), (1, .int a1)] [] w none q) : ∀ (a0 : Nat) (a1 : Int32) (s0 : Int32) (s1 : Nat) (w : px_W) (q : px_W), fX15_layOut_77 X k12 a0 a1 s0 s1 w = some q → EV X mX15_layOut 77 [(0, .ref a0), (1, .int a1)] [.int s0, .ref s1] w none q := by
  intro a0 a1 s0 s1 w q h
  unfold fX15_layOut_77 at h
  obtain ⟨w69, gw69, h⟩ := px_bs h
  refine ev_pV dX15_layOut_77 flRX15_123 rfl rfl rfl rfl gw69 ?_
  refine EV.iinc 1 (a1 + 1) [(1, .int (a1 + 1)), (0, .ref a0)] dX15_layOut_80 rfl rfl (by decide) rfl ?_
  refine EV.goto 12 dX15_layOut_83 (by decide) ?_
  refine EV.sub [1, 0] rfl ?_
  exact hk12 _ _ _ _ h
set_option maxRecDepth 100000 in
set_option maxHeartbeats 4000000 in
theorem eX15_layOut_47 {X : px_X} {k12 : Nat → Int32 → px_W → Option (px_W)} (hk12 : ∀ (a0 : Nat) (a1 : Int32) (w : px_W) (q : px_W), k12 a0 a1 w = some q → EV X mX15_layOut 12 [(0, .ref a0), (1, .int a1)] [] w none q) : ∀ (a0 : Nat) (a1 : Int32) (s0 : Int32) (s1 : Nat) (w : px_W) (q : px_W), fX15_layOut_47 X k12 a0 a1 s0 s1 w = some q → EV X mX15_layOut 47 [(0, .ref a0), (1, .int a1)] [.int s0, .ref s1] w none q := by
  intro a0 a1 s0 s1 w q h
  unfold fX15_layOut_47 at h
  obtain ⟨w70, gw70, h⟩ := px_bs h
  refine ev_pV dX15_layOut_47 flRX15_120 rfl rfl rfl rfl gw70 ?_
  refine EV.aload_n 0 dX15_layOut_50 rfl rfl ?_
  refine EV.aload_n 0 dX15_layOut_51 rfl rfl ?_
  obtain ⟨v71, gv71, h⟩ := px_bs h
  refine ev_gR dX15_layOut_52 flRX15_55 gv71 ?_
  refine EV.iload_n 1 dX15_layOut_55 rfl rfl ?_
  obtain ⟨v72, gv72, h⟩ := px_bs h
  refine ev_aI dX15_layOut_56 gv72 ?_
  refine EV.aload_n 0 dX15_layOut_57 rfl rfl ?_
  obtain ⟨v73, gv73, h⟩ := px_bs h
  refine ev_gI dX15_layOut_58 flRX15_123 gv73 ?_
  refine EV.icmp_le 73 dX15_layOut_61 (by decide) (fun c74 => ?_) (fun c74 => ?_)
  · rw [if_pos c74] at h
    refine EV.aload_n 0 dX15_layOut_73 rfl rfl ?_
    obtain ⟨v75, gv75, h⟩ := px_bs h
    refine ev_gI dX15_layOut_74 flRX15_123 gv75 ?_
    refine EV.sub [0, 1] rfl ?_
    exact eX15_layOut_77 hk12 _ _ _ _ _ _ h
  · rw [if_neg c74] at h
    refine EV.aload_n 0 dX15_layOut_64 rfl rfl ?_
    obtain ⟨v76, gv76, h⟩ := px_bs h
    refine ev_gR dX15_layOut_65 flRX15_55 gv76 ?_
    refine EV.iload_n 1 dX15_layOut_68 rfl rfl ?_
    obtain ⟨v77, gv77, h⟩ := px_bs h
    refine ev_aI dX15_layOut_69 gv77 ?_
    refine EV.goto 77 dX15_layOut_70 (by decide) ?_
    refine EV.sub [0, 1] rfl ?_
    exact eX15_layOut_77 hk12 _ _ _ _ _ _ h
set_option maxRecDepth 100000 in
set_option maxHeartbeats 4000000 in
theorem eX15_layOut_12 {X : px_X}  : ∀ (m : Nat) (a0 : Nat) (a1 : Int32) (w : px_W) (q : px_W), fX15_layOut_12 X  m a0 a1 w = some q → EV X mX15_layOut 12 [(0, .ref a0), (1, .int a1)] [] w none q := by
  intro m
  induction m with
  | zero => intro a0 a1 w q h; cases h
  | succ m ih =>
    intro a0 a1 w q h
    rw [fX15_layOut_12.eq_2] at h
    refine EV.iload_n 1 dX15_layOut_12 rfl rfl ?_
    refine EV.aload_n 0 dX15_layOut_13 rfl rfl ?_
    obtain ⟨v78, gv78, h⟩ := px_bs h
    refine ev_gI dX15_layOut_14 flRX15_126 gv78 ?_
    refine EV.icmp_ge 86 dX15_layOut_17 (by decide) (fun c79 => ?_) (fun c79 => ?_)
    · rw [if_pos c79] at h
      refine EV.sub [0] rfl ?_
      exact eX15_layOut_86  _ _ _ h
    · rw [if_neg c79] at h
      refine EV.aload_n 0 dX15_layOut_20 rfl rfl ?_
      refine EV.aload_n 0 dX15_layOut_21 rfl rfl ?_
      obtain ⟨v80, gv80, h⟩ := px_bs h
      refine ev_gR dX15_layOut_22 flRX15_52 gv80 ?_
      refine EV.iload_n 1 dX15_layOut_25 rfl rfl ?_
      obtain ⟨v81, gv81, h⟩ := px_bs h
      refine ev_aI dX15_layOut_26 gv81 ?_
      refine EV.aload_n 0 dX15_layOut_27 rfl rfl ?_
      obtain ⟨v82, gv82, h⟩ := px_bs h
      refine ev_gI dX15_layOut_28 flRX15_120 gv82 ?_
      refine EV.icmp_le 43 dX15_layOut_31 (by decide) (fun c83 => ?_) (fun c83 => ?_)
      · rw [if_pos c83] at h
        refine EV.aload_n 0 dX15_layOut_43 rfl rfl ?_
        obtain ⟨v84, gv84, h⟩ := px_bs h
        refine ev_gI dX15_layOut_44 flRX15_120 gv84 ?_
        refine EV.sub [0, 1] rfl ?_
        exact eX15_layOut_47 ih _ _ _ _ _ _ h
      · rw [if_neg c83] at h
        refine EV.aload_n 0 dX15_layOut_34 rfl rfl ?_
        obtain ⟨v85, gv85, h⟩ := px_bs h
        refine ev_gR dX15_layOut_35 flRX15_52 gv85 ?_
        refine EV.iload_n 1 dX15_layOut_38 rfl rfl ?_
        obtain ⟨v86, gv86, h⟩ := px_bs h
        refine ev_aI dX15_layOut_39 gv86 ?_
        refine EV.goto 47 dX15_layOut_40 (by decide) ?_
        refine EV.sub [0, 1] rfl ?_
        exact eX15_layOut_47 ih _ _ _ _ _ _ h
set_option maxRecDepth 100000 in
set_option maxHeartbeats 4000000 in
theorem eX15_layOut {X : px_X} {w : px_W} {a0 : Nat} {q : px_W} (h : fX15_layOut X w a0 = some q) : EV X mX15_layOut 0 (lv_args 0 [.ref a0]) [] w none q := by
  unfold fX15_layOut at h
  show EV X mX15_layOut 0 [(0, .ref a0)] [] w none q
  refine EV.aload_n 0 dX15_layOut_0 rfl rfl ?_
  refine EV.iconst (1) dX15_layOut_1 (by decide) ?_
  obtain ⟨w87, gw87, h⟩ := px_bs h
  refine ev_pV dX15_layOut_2 flRX15_120 rfl rfl rfl rfl gw87 ?_
  refine EV.aload_n 0 dX15_layOut_5 rfl rfl ?_
  refine EV.iconst (1) dX15_layOut_6 (by decide) ?_
  obtain ⟨w88, gw88, h⟩ := px_bs h
  refine ev_pV dX15_layOut_7 flRX15_123 rfl rfl rfl rfl gw88 ?_
  refine EV.iconst (0) dX15_layOut_10 (by decide) ?_
  refine EV.istore_n [(1, .int 0), (0, .ref a0)] dX15_layOut_11 rfl (by decide) rfl ?_
  refine EV.sub [1, 0] rfl ?_
  exact eX15_layOut_12  FU _ _ _ _ h
/-! WavePicturesModel.blocks()I -/
theorem dX15_blocks_0 : decode cX15_blocks 0 = .ok (.iconst 0, 1) := by decide +kernel
theorem dX15_blocks_1 : decode cX15_blocks 1 = .ok (.istore_n 1, 1) := by decide +kernel
theorem dX15_blocks_2 : decode cX15_blocks 2 = .ok (.iconst 0, 1) := by decide +kernel
theorem dX15_blocks_3 : decode cX15_blocks 3 = .ok (.istore_n 2, 1) := by decide +kernel
theorem dX15_blocks_4 : decode cX15_blocks 4 = .ok (.iload_n 2, 1) := by decide +kernel
theorem dX15_blocks_5 : decode cX15_blocks 5 = .ok (.aload_n 0, 1) := by decide +kernel
theorem dX15_blocks_6 : decode cX15_blocks 6 = .ok (.getfield 126, 3) := by decide +kernel
theorem dX15_blocks_9 : decode cX15_blocks 9 = .ok (.if_icmp .ge 25, 3) := by decide +kernel
theorem dX15_blocks_12 : decode cX15_blocks 12 = .ok (.iload_n 1, 1) := by decide +kernel
theorem dX15_blocks_13 : decode cX15_blocks 13 = .ok (.aload_n 0, 1) := by decide +kernel
theorem dX15_blocks_14 : decode cX15_blocks 14 = .ok (.getfield 58, 3) := by decide +kernel
theorem dX15_blocks_17 : decode cX15_blocks 17 = .ok (.iload_n 2, 1) := by decide +kernel
theorem dX15_blocks_18 : decode cX15_blocks 18 = .ok (.iaload, 1) := by decide +kernel
theorem dX15_blocks_19 : decode cX15_blocks 19 = .ok (.aload_n 0, 1) := by decide +kernel
theorem dX15_blocks_20 : decode cX15_blocks 20 = .ok (.getfield 61, 3) := by decide +kernel
theorem dX15_blocks_23 : decode cX15_blocks 23 = .ok (.iload_n 2, 1) := by decide +kernel
theorem dX15_blocks_24 : decode cX15_blocks 24 = .ok (.iaload, 1) := by decide +kernel
theorem dX15_blocks_25 : decode cX15_blocks 25 = .ok (.imul, 1) := by decide +kernel
theorem dX15_blocks_26 : decode cX15_blocks 26 = .ok (.iadd, 1) := by decide +kernel
theorem dX15_blocks_27 : decode cX15_blocks 27 = .ok (.istore_n 1, 1) := by decide +kernel
theorem dX15_blocks_28 : decode cX15_blocks 28 = .ok (.iinc 2 1, 3) := by decide +kernel
theorem dX15_blocks_31 : decode cX15_blocks 31 = .ok (.goto (-27), 3) := by decide +kernel
theorem dX15_blocks_34 : decode cX15_blocks 34 = .ok (.iload_n 1, 1) := by decide +kernel
theorem dX15_blocks_35 : decode cX15_blocks 35 = .ok (.ireturn, 1) := by decide +kernel
set_option maxRecDepth 100000 in
set_option maxHeartbeats 4000000 in
theorem eX15_blocks_4 {X : px_X}  : ∀ (m : Nat) (a0 : Nat) (a1 : Int32) (a2 : Int32) (w : px_W) (q : Int32 × px_W), fX15_blocks_4 X  m a0 a1 a2 w = some q → EV X mX15_blocks 4 [(0, .ref a0), (1, .int a1), (2, .int a2)] [] w (some (.int q.1)) q.2 := by
  intro m
  induction m with
  | zero => intro a0 a1 a2 w q h; cases h
  | succ m ih =>
    intro a0 a1 a2 w q h
    rw [fX15_blocks_4.eq_2] at h
    refine EV.iload_n 2 dX15_blocks_4 rfl rfl ?_
    refine EV.aload_n 0 dX15_blocks_5 rfl rfl ?_
    obtain ⟨v6, gv6, h⟩ := px_bs h
    refine ev_gI dX15_blocks_6 flRX15_126 gv6 ?_
    refine EV.icmp_ge 34 dX15_blocks_9 (by decide) (fun c7 => ?_) (fun c7 => ?_)
    · rw [if_pos c7] at h
      refine EV.iload_n 1 dX15_blocks_34 rfl rfl ?_
      cases h
      exact EV.reti dX15_blocks_35 rfl
    · rw [if_neg c7] at h
      refine EV.iload_n 1 dX15_blocks_12 rfl rfl ?_
      refine EV.aload_n 0 dX15_blocks_13 rfl rfl ?_
      obtain ⟨v8, gv8, h⟩ := px_bs h
      refine ev_gR dX15_blocks_14 flRX15_58 gv8 ?_
      refine EV.iload_n 2 dX15_blocks_17 rfl rfl ?_
      obtain ⟨v9, gv9, h⟩ := px_bs h
      refine ev_aI dX15_blocks_18 gv9 ?_
      refine EV.aload_n 0 dX15_blocks_19 rfl rfl ?_
      obtain ⟨v10, gv10, h⟩ := px_bs h
      refine ev_gR dX15_blocks_20 flRX15_61 gv10 ?_
      refine EV.iload_n 2 dX15_blocks_23 rfl rfl ?_
      obtain ⟨v11, gv11, h⟩ := px_bs h
      refine ev_aI dX15_blocks_24 gv11 ?_
      refine EV.imul dX15_blocks_25 ?_
      refine EV.iadd dX15_blocks_26 ?_
      refine EV.istore_n [(1, .int (a1 + (v9 * v11))), (0, .ref a0), (2, .int a2)] dX15_blocks_27 rfl (by decide) rfl ?_
      refine EV.iinc 2 (a2 + 1) [(2, .int (a2 + 1)), (1, .int (a1 + (v9 * v11))), (0, .ref a0)] dX15_blocks_28 rfl rfl (by decide) rfl ?_
      refine EV.goto 4 dX15_blocks_31 (by decide) ?_
      refine EV.sub [2, 1, 0] rfl ?_
      exact ih _ _ _ _ _ h
set_option maxRecDepth 100000 in
set_option maxHeartbeats 4000000 in
theorem eX15_blocks {X : px_X} {w : px_W} {a0 : Nat} {q : Int32 × px_W} (h : fX15_blocks X w a0 = some q) : EV X mX15_blocks 0 (lv_args 0 [.ref a0]) [] w (some (.int q.1)) q.2 := by
  unfold fX15_blocks at h
  show EV X mX15_blocks 0 [(0, .ref a0)] [] w (some (.int q.1)) q.2
  refine EV.iconst (0) dX15_blocks_0 (by decide) ?_
  refine EV.istore_n [(1, .int 0), (0, .ref a0)] dX15_blocks_1 rfl (by decide) rfl ?_
  refine EV.iconst (0) dX15_blocks_2 (by decide) ?_
  refine EV.istore_n [(2, .int 0), (1, .int 0), (0, .ref a0)] dX15_blocks_3 rfl (by decide) rfl ?_
  refine EV.sub [2, 1, 0] rfl ?_
  exact eX15_blocks_4  FU _ _ _ _ _ h
/-! WavePicturesModel.shape()I -/
theorem dX15_shape_0 : decode cX15_shape 0 = .ok (.iconst 0, 1) := by decide +kernel
theorem dX15_shape_1 : decode cX15_shape 1 = .ok (.istore_n 1, 1) := by decide +kernel
theorem dX15_shape_2 : decode cX15_shape 2 = .ok (.iconst 0, 1) := by decide +kernel
theorem dX15_shape_3 : decode cX15_shape 3 = .ok (.istore_n 2, 1) := by decide +kernel
theorem dX15_shape_4 : decode cX15_shape 4 = .ok (.iload_n 2, 1) := by decide +kernel
theorem dX15_shape_5 : decode cX15_shape 5 = .ok (.aload_n 0, 1) := by decide +kernel
theorem dX15_shape_6 : decode cX15_shape 6 = .ok (.getfield 126, 3) := by decide +kernel
theorem dX15_shape_9 : decode cX15_shape 9 = .ok (.if_icmp .ge 39, 3) := by decide +kernel
theorem dX15_shape_12 : decode cX15_shape 12 = .ok (.iload_n 1, 1) := by decide +kernel
theorem dX15_shape_13 : decode cX15_shape 13 = .ok (.aload_n 0, 1) := by decide +kernel
theorem dX15_shape_14 : decode cX15_shape 14 = .ok (.getfield 52, 3) := by decide +kernel
theorem dX15_shape_17 : decode cX15_shape 17 = .ok (.iload_n 2, 1) := by decide +kernel
theorem dX15_shape_18 : decode cX15_shape 18 = .ok (.iaload, 1) := by decide +kernel
theorem dX15_shape_19 : decode cX15_shape 19 = .ok (.iconst 1, 1) := by decide +kernel
theorem dX15_shape_20 : decode cX15_shape 20 = .ok (.isub, 1) := by decide +kernel
theorem dX15_shape_21 : decode cX15_shape 21 = .ok (.iconst 2, 1) := by decide +kernel
theorem dX15_shape_22 : decode cX15_shape 22 = .ok (.iload_n 2, 1) := by decide +kernel
theorem dX15_shape_23 : decode cX15_shape 23 = .ok (.imul, 1) := by decide +kernel
theorem dX15_shape_24 : decode cX15_shape 24 = .ok (.ishl, 1) := by decide +kernel
theorem dX15_shape_25 : decode cX15_shape 25 = .ok (.aload_n 0, 1) := by decide +kernel
theorem dX15_shape_26 : decode cX15_shape 26 = .ok (.getfield 55, 3) := by decide +kernel
theorem dX15_shape_29 : decode cX15_shape 29 = .ok (.iload_n 2, 1) := by decide +kernel
theorem dX15_shape_30 : decode cX15_shape 30 = .ok (.iaload, 1) := by decide +kernel
theorem dX15_shape_31 : decode cX15_shape 31 = .ok (.iconst 1, 1) := by decide +kernel
theorem dX15_shape_32 : decode cX15_shape 32 = .ok (.isub, 1) := by decide +kernel
theorem dX15_shape_33 : decode cX15_shape 33 = .ok (.iconst 2, 1) := by decide +kernel
theorem dX15_shape_34 : decode cX15_shape 34 = .ok (.iload_n 2, 1) := by decide +kernel
theorem dX15_shape_35 : decode cX15_shape 35 = .ok (.imul, 1) := by decide +kernel
theorem dX15_shape_36 : decode cX15_shape 36 = .ok (.iconst 1, 1) := by decide +kernel
theorem dX15_shape_37 : decode cX15_shape 37 = .ok (.iadd, 1) := by decide +kernel
theorem dX15_shape_38 : decode cX15_shape 38 = .ok (.ishl, 1) := by decide +kernel
theorem dX15_shape_39 : decode cX15_shape 39 = .ok (.ior, 1) := by decide +kernel
theorem dX15_shape_40 : decode cX15_shape 40 = .ok (.ior, 1) := by decide +kernel
theorem dX15_shape_41 : decode cX15_shape 41 = .ok (.istore_n 1, 1) := by decide +kernel
theorem dX15_shape_42 : decode cX15_shape 42 = .ok (.iinc 2 1, 3) := by decide +kernel
theorem dX15_shape_45 : decode cX15_shape 45 = .ok (.goto (-41), 3) := by decide +kernel
theorem dX15_shape_48 : decode cX15_shape 48 = .ok (.iload_n 1, 1) := by decide +kernel
theorem dX15_shape_49 : decode cX15_shape 49 = .ok (.ireturn, 1) := by decide +kernel
set_option maxRecDepth 100000 in
set_option maxHeartbeats 4000000 in
theorem eX15_shape_4 {X : px_X}  : ∀ (m : Nat) (a0 : Nat) (a1 : Int32) (a2 : Int32) (w : px_W) (q : Int32 × px_W), fX15_shape_4 X  m a0 a1 a2 w = some q → EV X mX15_shape 4 [(0, .ref a0), (1, .int a1), (2, .int a2)] [] w (some (.int q.1)) q.2 := by
  intro m
  induction m with
  | zero => intro a0 a1 a2 w q h; cases h
  | succ m ih =>
    intro a0 a1 a2 w q h
    rw [fX15_shape_4.eq_2] at h
    refine EV.iload_n 2 dX15_shape_4 rfl rfl ?_
    refine EV.aload_n 0 dX15_shape_5 rfl rfl ?_
    obtain ⟨v6, gv6, h⟩ := px_bs h
    refine ev_gI dX15_shape_6 flRX15_126 gv6 ?_
    refine EV.icmp_ge 48 dX15_shape_9 (by decide) (fun c7 => ?_) (fun c7 => ?_)
    · rw [if_pos c7] at h
      refine EV.iload_n 1 dX15_shape_48 rfl rfl ?_
      cases h
      exact EV.reti dX15_shape_49 rfl
    · rw [if_neg c7] at h
      refine EV.iload_n 1 dX15_shape_12 rfl rfl ?_
      refine EV.aload_n 0 dX15_shape_13 rfl rfl ?_
      obtain ⟨v8, gv8, h⟩ := px_bs h
      refine ev_gR dX15_shape_14 flRX15_52 gv8 ?_
      refine EV.iload_n 2 dX15_shape_17 rfl rfl ?_
      obtain ⟨v9, gv9, h⟩ := px_bs h
      refine ev_aI dX15_shape_18 gv9 ?_
      refine EV.iconst (1) dX15_shape_19 (by decide) ?_
      refine EV.isub dX15_shape_20 ?_
      refine EV.iconst (2) dX15_shape_21 (by decide) ?_
      refine EV.iload_n 2 dX15_shape_22 rfl rfl ?_
      refine EV.imul dX15_shape_23 ?_
      refine EV.ishl dX15_shape_24 ?_
      refine EV.aload_n 0 dX15_shape_25 rfl rfl ?_
      obtain ⟨v10, gv10, h⟩ := px_bs h
      refine ev_gR dX15_shape_26 flRX15_55 gv10 ?_
      refine EV.iload_n 2 dX15_shape_29 rfl rfl ?_
      obtain ⟨v11, gv11, h⟩ := px_bs h
      refine ev_aI dX15_shape_30 gv11 ?_
      refine EV.iconst (1) dX15_shape_31 (by decide) ?_
      refine EV.isub dX15_shape_32 ?_
      refine EV.iconst (2) dX15_shape_33 (by decide) ?_
      refine EV.iload_n 2 dX15_shape_34 rfl rfl ?_
      refine EV.imul dX15_shape_35 ?_
      refine EV.iconst (1) dX15_shape_36 (by decide) ?_
      refine EV.iadd dX15_shape_37 ?_
      refine EV.ishl dX15_shape_38 ?_
      refine EV.ior dX15_shape_39 ?_
      refine EV.ior dX15_shape_40 ?_
      refine EV.istore_n [(1, .int (a1 ||| (((v9 - 1) <<< ((2 * a2) &&& 31)) ||| ((v11 - 1) <<< (((2 * a2) + 1) &&& 31))))), (0, .ref a0), (2, .int a2)] dX15_shape_41 rfl (by decide) rfl ?_
      refine EV.iinc 2 (a2 + 1) [(2, .int (a2 + 1)), (1, .int (a1 ||| (((v9 - 1) <<< ((2 * a2) &&& 31)) ||| ((v11 - 1) <<< (((2 * a2) + 1) &&& 31))))), (0, .ref a0)] dX15_shape_42 rfl rfl (by decide) rfl ?_
      refine EV.goto 4 dX15_shape_45 (by decide) ?_
      refine EV.sub [2, 1, 0] rfl ?_
      exact ih _ _ _ _ _ h
set_option maxRecDepth 100000 in
set_option maxHeartbeats 4000000 in
theorem eX15_shape {X : px_X} {w : px_W} {a0 : Nat} {q : Int32 × px_W} (h : fX15_shape X w a0 = some q) : EV X mX15_shape 0 (lv_args 0 [.ref a0]) [] w (some (.int q.1)) q.2 := by
  unfold fX15_shape at h
  show EV X mX15_shape 0 [(0, .ref a0)] [] w (some (.int q.1)) q.2
  refine EV.iconst (0) dX15_shape_0 (by decide) ?_
  refine EV.istore_n [(1, .int 0), (0, .ref a0)] dX15_shape_1 rfl (by decide) rfl ?_
  refine EV.iconst (0) dX15_shape_2 (by decide) ?_
  refine EV.istore_n [(2, .int 0), (1, .int 0), (0, .ref a0)] dX15_shape_3 rfl (by decide) rfl ?_
  refine EV.sub [2, 1, 0] rfl ?_
  exact eX15_shape_4  FU _ _ _ _ _ h
