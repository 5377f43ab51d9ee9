/-! WavePictures.saveAs(II)I -/
theorem dX11_saveAs_0 : decode cX11_saveAs 0 = .ok (.aload_n 0, 1) := by decide +kernel
theorem dX11_saveAs_1 : decode cX11_saveAs 1 = .ok (.getfield 169, 3) := by decide +kernel
theorem dX11_saveAs_4 : decode cX11_saveAs 4 = .ok (.ifCond .eq 22, 3) := by decide +kernel
theorem dX11_saveAs_7 : decode cX11_saveAs 7 = .ok (.iload_n 1, 1) := by decide +kernel
theorem dX11_saveAs_8 : decode cX11_saveAs 8 = .ok (.ifCond .lt 18, 3) := by decide +kernel
theorem dX11_saveAs_11 : decode cX11_saveAs 11 = .ok (.iload_n 1, 1) := by decide +kernel
theorem dX11_saveAs_12 : decode cX11_saveAs 12 = .ok (.iconst 2, 1) := by decide +kernel
theorem dX11_saveAs_13 : decode cX11_saveAs 13 = .ok (.if_icmp .gt 13, 3) := by decide +kernel
theorem dX11_saveAs_16 : decode cX11_saveAs 16 = .ok (.iload_n 2, 1) := by decide +kernel
theorem dX11_saveAs_17 : decode cX11_saveAs 17 = .ok (.ifCond .lt 9, 3) := by decide +kernel
theorem dX11_saveAs_20 : decode cX11_saveAs 20 = .ok (.iload_n 2, 1) := by decide +kernel
theorem dX11_saveAs_21 : decode cX11_saveAs 21 = .ok (.ldc 173, 2) := by decide +kernel
theorem dX11_saveAs_23 : decode cX11_saveAs 23 = .ok (.if_icmp .le 5, 3) := by decide +kernel
theorem dX11_saveAs_26 : decode cX11_saveAs 26 = .ok (.iconst (-1), 1) := by decide +kernel
theorem dX11_saveAs_27 : decode cX11_saveAs 27 = .ok (.ireturn, 1) := by decide +kernel
theorem dX11_saveAs_28 : decode cX11_saveAs 28 = .ok (.iload_n 1, 1) := by decide +kernel
theorem dX11_saveAs_29 : decode cX11_saveAs 29 = .ok (.ifCond .ne 9, 3) := by decide +kernel
theorem dX11_saveAs_32 : decode cX11_saveAs 32 = .ok (.getstatic 174, 3) := by decide +kernel
theorem dX11_saveAs_35 : decode cX11_saveAs 35 = .ok (.goto 17, 3) := by decide +kernel
theorem dX11_saveAs_38 : decode cX11_saveAs 38 = .ok (.iload_n 1, 1) := by decide +kernel
theorem dX11_saveAs_39 : decode cX11_saveAs 39 = .ok (.iconst 1, 1) := by decide +kernel
theorem dX11_saveAs_40 : decode cX11_saveAs 40 = .ok (.if_icmp .ne 9, 3) := by decide +kernel
theorem dX11_saveAs_43 : decode cX11_saveAs 43 = .ok (.getstatic 177, 3) := by decide +kernel
theorem dX11_saveAs_46 : decode cX11_saveAs 46 = .ok (.goto 6, 3) := by decide +kernel
theorem dX11_saveAs_49 : decode cX11_saveAs 49 = .ok (.getstatic 180, 3) := by decide +kernel
theorem dX11_saveAs_52 : decode cX11_saveAs 52 = .ok (.astore_n 3, 1) := by decide +kernel
theorem dX11_saveAs_53 : decode cX11_saveAs 53 = .ok (.aload_n 0, 1) := by decide +kernel
theorem dX11_saveAs_54 : decode cX11_saveAs 54 = .ok (.getfield 72, 3) := by decide +kernel
theorem dX11_saveAs_57 : decode cX11_saveAs 57 = .ok (.aload_n 0, 1) := by decide +kernel
theorem dX11_saveAs_58 : decode cX11_saveAs 58 = .ok (.getfield 19, 3) := by decide +kernel
theorem dX11_saveAs_61 : decode cX11_saveAs 61 = .ok (.aload_n 0, 1) := by decide +kernel
theorem dX11_saveAs_62 : decode cX11_saveAs 62 = .ok (.getfield 25, 3) := by decide +kernel
theorem dX11_saveAs_65 : decode cX11_saveAs 65 = .ok (.iload_n 2, 1) := by decide +kernel
theorem dX11_saveAs_66 : decode cX11_saveAs 66 = .ok (.invokevirtual 183, 3) := by decide +kernel
theorem dX11_saveAs_69 : decode cX11_saveAs 69 = .ok (.aload_n 0, 1) := by decide +kernel
theorem dX11_saveAs_70 : decode cX11_saveAs 70 = .ok (.getfield 72, 3) := by decide +kernel
theorem dX11_saveAs_73 : decode cX11_saveAs 73 = .ok (.iload_n 1, 1) := by decide +kernel
theorem dX11_saveAs_74 : decode cX11_saveAs 74 = .ok (.iconst 2, 1) := by decide +kernel
theorem dX11_saveAs_75 : decode cX11_saveAs 75 = .ok (.if_icmp .ne 9, 3) := by decide +kernel
theorem dX11_saveAs_78 : decode cX11_saveAs 78 = .ok (.sipush 194, 3) := by decide +kernel
theorem dX11_saveAs_81 : decode cX11_saveAs 81 = .ok (.goto 6, 3) := by decide +kernel
theorem dX11_saveAs_84 : decode cX11_saveAs 84 = .ok (.sipush 192, 3) := by decide +kernel
theorem dX11_saveAs_87 : decode cX11_saveAs 87 = .ok (.invokevirtual 186, 3) := by decide +kernel
theorem dX11_saveAs_90 : decode cX11_saveAs 90 = .ok (.iconst 0, 1) := by decide +kernel
theorem dX11_saveAs_91 : decode cX11_saveAs 91 = .ok (.istore 4, 2) := by decide +kernel
theorem dX11_saveAs_93 : decode cX11_saveAs 93 = .ok (.iload 4, 2) := by decide +kernel
theorem dX11_saveAs_95 : decode cX11_saveAs 95 = .ok (.iconst 5, 1) := by decide +kernel
theorem dX11_saveAs_96 : decode cX11_saveAs 96 = .ok (.iadd, 1) := by decide +kernel
theorem dX11_saveAs_97 : decode cX11_saveAs 97 = .ok (.aload_n 3, 1) := by decide +kernel
theorem dX11_saveAs_98 : decode cX11_saveAs 98 = .ok (.arraylength, 1) := by decide +kernel
theorem dX11_saveAs_99 : decode cX11_saveAs 99 = .ok (.if_icmp .gt 106, 3) := by decide +kernel
theorem dX11_saveAs_102 : decode cX11_saveAs 102 = .ok (.aload_n 0, 1) := by decide +kernel
theorem dX11_saveAs_103 : decode cX11_saveAs 103 = .ok (.getfield 72, 3) := by decide +kernel
theorem dX11_saveAs_106 : decode cX11_saveAs 106 = .ok (.aload_n 3, 1) := by decide +kernel
theorem dX11_saveAs_107 : decode cX11_saveAs 107 = .ok (.iload 4, 2) := by decide +kernel
theorem dX11_saveAs_109 : decode cX11_saveAs 109 = .ok (.iconst 1, 1) := by decide +kernel
theorem dX11_saveAs_110 : decode cX11_saveAs 110 = .ok (.iadd, 1) := by decide +kernel
theorem dX11_saveAs_111 : decode cX11_saveAs 111 = .ok (.iaload, 1) := by decide +kernel
theorem dX11_saveAs_112 : decode cX11_saveAs 112 = .ok (.aload_n 3, 1) := by decide +kernel
theorem dX11_saveAs_113 : decode cX11_saveAs 113 = .ok (.iload 4, 2) := by decide +kernel
theorem dX11_saveAs_115 : decode cX11_saveAs 115 = .ok (.iconst 2, 1) := by decide +kernel
theorem dX11_saveAs_116 : decode cX11_saveAs 116 = .ok (.iadd, 1) := by decide +kernel
theorem dX11_saveAs_117 : decode cX11_saveAs 117 = .ok (.iaload, 1) := by decide +kernel
theorem dX11_saveAs_118 : decode cX11_saveAs 118 = .ok (.aload_n 3, 1) := by decide +kernel
theorem dX11_saveAs_119 : decode cX11_saveAs 119 = .ok (.iload 4, 2) := by decide +kernel
theorem dX11_saveAs_121 : decode cX11_saveAs 121 = .ok (.iconst 3, 1) := by decide +kernel
theorem dX11_saveAs_122 : decode cX11_saveAs 122 = .ok (.iadd, 1) := by decide +kernel
theorem dX11_saveAs_123 : decode cX11_saveAs 123 = .ok (.iaload, 1) := by decide +kernel
theorem dX11_saveAs_124 : decode cX11_saveAs 124 = .ok (.aload_n 3, 1) := by decide +kernel
theorem dX11_saveAs_125 : decode cX11_saveAs 125 = .ok (.iload 4, 2) := by decide +kernel
theorem dX11_saveAs_127 : decode cX11_saveAs 127 = .ok (.iconst 4, 1) := by decide +kernel
theorem dX11_saveAs_128 : decode cX11_saveAs 128 = .ok (.iadd, 1) := by decide +kernel
theorem dX11_saveAs_129 : decode cX11_saveAs 129 = .ok (.iaload, 1) := by decide +kernel
theorem dX11_saveAs_130 : decode cX11_saveAs 130 = .ok (.invokevirtual 189, 3) := by decide +kernel
theorem dX11_saveAs_133 : decode cX11_saveAs 133 = .ok (.aload_n 3, 1) := by decide +kernel
theorem dX11_saveAs_134 : decode cX11_saveAs 134 = .ok (.iload 4, 2) := by decide +kernel
theorem dX11_saveAs_136 : decode cX11_saveAs 136 = .ok (.iaload, 1) := by decide +kernel
theorem dX11_saveAs_137 : decode cX11_saveAs 137 = .ok (.ifCond .ne 31, 3) := by decide +kernel
theorem dX11_saveAs_140 : decode cX11_saveAs 140 = .ok (.aload_n 0, 1) := by decide +kernel
theorem dX11_saveAs_141 : decode cX11_saveAs 141 = .ok (.getfield 72, 3) := by decide +kernel
theorem dX11_saveAs_144 : decode cX11_saveAs 144 = .ok (.invokevirtual 193, 3) := by decide +kernel
theorem dX11_saveAs_147 : decode cX11_saveAs 147 = .ok (.ifCond .eq 21, 3) := by decide +kernel
theorem dX11_saveAs_150 : decode cX11_saveAs 150 = .ok (.aload_n 0, 1) := by decide +kernel
theorem dX11_saveAs_151 : decode cX11_saveAs 151 = .ok (.getfield 72, 3) := by decide +kernel
theorem dX11_saveAs_154 : decode cX11_saveAs 154 = .ok (.iconst 0, 1) := by decide +kernel
theorem dX11_saveAs_155 : decode cX11_saveAs 155 = .ok (.aload_n 0, 1) := by decide +kernel
theorem dX11_saveAs_156 : decode cX11_saveAs 156 = .ok (.getfield 25, 3) := by decide +kernel
theorem dX11_saveAs_159 : decode cX11_saveAs 159 = .ok (.getfield 196, 3) := by decide +kernel
theorem dX11_saveAs_162 : decode cX11_saveAs 162 = .ok (.invokevirtual 199, 3) := by decide +kernel
theorem dX11_saveAs_165 : decode cX11_saveAs 165 = .ok (.goto 34, 3) := by decide +kernel
theorem dX11_saveAs_168 : decode cX11_saveAs 168 = .ok (.iconst 0, 1) := by decide +kernel
theorem dX11_saveAs_169 : decode cX11_saveAs 169 = .ok (.istore 5, 2) := by decide +kernel
theorem dX11_saveAs_171 : decode cX11_saveAs 171 = .ok (.iload 5, 2) := by decide +kernel
theorem dX11_saveAs_173 : decode cX11_saveAs 173 = .ok (.aload_n 0, 1) := by decide +kernel
theorem dX11_saveAs_174 : decode cX11_saveAs 174 = .ok (.getfield 25, 3) := by decide +kernel
theorem dX11_saveAs_177 : decode cX11_saveAs 177 = .ok (.getfield 196, 3) := by decide +kernel
theorem dX11_saveAs_180 : decode cX11_saveAs 180 = .ok (.if_icmp .ge 19, 3) := by decide +kernel
theorem dX11_saveAs_183 : decode cX11_saveAs 183 = .ok (.aload_n 0, 1) := by decide +kernel
theorem dX11_saveAs_184 : decode cX11_saveAs 184 = .ok (.getfield 72, 3) := by decide +kernel
theorem dX11_saveAs_187 : decode cX11_saveAs 187 = .ok (.iload 5, 2) := by decide +kernel
theorem dX11_saveAs_189 : decode cX11_saveAs 189 = .ok (.iconst 1, 1) := by decide +kernel
theorem dX11_saveAs_190 : decode cX11_saveAs 190 = .ok (.invokevirtual 199, 3) := by decide +kernel
theorem dX11_saveAs_193 : decode cX11_saveAs 193 = .ok (.iinc 5 1, 3) := by decide +kernel
theorem dX11_saveAs_196 : decode cX11_saveAs 196 = .ok (.goto (-25), 3) := by decide +kernel
theorem dX11_saveAs_199 : decode cX11_saveAs 199 = .ok (.iinc 4 5, 3) := by decide +kernel
theorem dX11_saveAs_202 : decode cX11_saveAs 202 = .ok (.goto (-109), 3) := by decide +kernel
theorem dX11_saveAs_205 : decode cX11_saveAs 205 = .ok (.aload_n 0, 1) := by decide +kernel
theorem dX11_saveAs_206 : decode cX11_saveAs 206 = .ok (.getfield 72, 3) := by decide +kernel
theorem dX11_saveAs_209 : decode cX11_saveAs 209 = .ok (.sipush 217, 3) := by decide +kernel
theorem dX11_saveAs_212 : decode cX11_saveAs 212 = .ok (.invokevirtual 203, 3) := by decide +kernel
theorem dX11_saveAs_215 : decode cX11_saveAs 215 = .ok (.aload_n 0, 1) := by decide +kernel
theorem dX11_saveAs_216 : decode cX11_saveAs 216 = .ok (.getfield 19, 3) := by decide +kernel
theorem dX11_saveAs_219 : decode cX11_saveAs 219 = .ok (.getfield 206, 3) := by decide +kernel
theorem dX11_saveAs_222 : decode cX11_saveAs 222 = .ok (.ifCond .eq 5, 3) := by decide +kernel
theorem dX11_saveAs_225 : decode cX11_saveAs 225 = .ok (.iconst (-1), 1) := by decide +kernel
theorem dX11_saveAs_226 : decode cX11_saveAs 226 = .ok (.ireturn, 1) := by decide +kernel
theorem dX11_saveAs_227 : decode cX11_saveAs 227 = .ok (.aload_n 0, 1) := by decide +kernel
theorem dX11_saveAs_228 : decode cX11_saveAs 228 = .ok (.getfield 16, 3) := by decide +kernel
theorem dX11_saveAs_231 : decode cX11_saveAs 231 = .ok (.astore 4, 2) := by decide +kernel
theorem dX11_saveAs_233 : decode cX11_saveAs 233 = .ok (.aload_n 0, 1) := by decide +kernel
theorem dX11_saveAs_234 : decode cX11_saveAs 234 = .ok (.aload_n 0, 1) := by decide +kernel
theorem dX11_saveAs_235 : decode cX11_saveAs 235 = .ok (.getfield 19, 3) := by decide +kernel
theorem dX11_saveAs_238 : decode cX11_saveAs 238 = .ok (.putfield 16, 3) := by decide +kernel
theorem dX11_saveAs_241 : decode cX11_saveAs 241 = .ok (.aload_n 0, 1) := by decide +kernel
theorem dX11_saveAs_242 : decode cX11_saveAs 242 = .ok (.aload 4, 2) := by decide +kernel
theorem dX11_saveAs_244 : decode cX11_saveAs 244 = .ok (.putfield 19, 3) := by decide +kernel
theorem dX11_saveAs_247 : decode cX11_saveAs 247 = .ok (.aload_n 0, 1) := by decide +kernel
theorem dX11_saveAs_248 : decode cX11_saveAs 248 = .ok (.getfield 16, 3) := by decide +kernel
theorem dX11_saveAs_251 : decode cX11_saveAs 251 = .ok (.getfield 80, 3) := by decide +kernel
theorem dX11_saveAs_254 : decode cX11_saveAs 254 = .ok (.ireturn, 1) := by decide +kernel
theorem flRX11_72 : px_f RX11 72 11 12 := ⟨_, rfl, by decide, Or.inl (tb3 (List.mem_of_getElem? (i := 50) rfl))⟩
theorem flRX11_196 : px_f RX11 196 2 2 := ⟨_, rfl, by decide, Or.inl (tb1 (List.mem_of_getElem? (i := 67) rfl))⟩
theorem flRX11_206 : px_f RX11 206 1 2 := ⟨_, rfl, by decide, Or.inl (tb1 (List.mem_of_getElem? (i := 41) rfl))⟩
theorem mbX4_begin : px_mB mX4_begin 3 := ⟨tb4 (List.mem_of_getElem? (i := 185) rfl), by decide +kernel, tb1 (List.mem_of_getElem? (i := 10) rfl), by decide +kernel, by decide +kernel⟩
theorem vbX4_begin : px_vB mX4_begin := ⟨tb4 (List.mem_of_getElem? (i := 183) rfl), tb4 (List.mem_of_getElem? (i := 184) rfl)⟩
theorem kcX11_saveAs_183 : px_cV mX11_saveAs 183 mX4_begin 3 := ⟨⟨mbX4_begin, by decide, by decide⟩, Or.inl (tb4 (List.mem_of_getElem? (i := 182) rfl)), vbX4_begin⟩
theorem mbX4_tellPicture : px_mB mX4_tellPicture 1 := ⟨tb4 (List.mem_of_getElem? (i := 199) rfl), by decide +kernel, tb1 (List.mem_of_getElem? (i := 10) rfl), by decide +kernel, by decide +kernel⟩
theorem vbX4_tellPicture : px_vB mX4_tellPicture := ⟨tb4 (List.mem_of_getElem? (i := 197) rfl), tb4 (List.mem_of_getElem? (i := 198) rfl)⟩
theorem kcX11_saveAs_186 : px_cV mX11_saveAs 186 mX4_tellPicture 1 := ⟨⟨mbX4_tellPicture, by decide, by decide⟩, Or.inl (tb4 (List.mem_of_getElem? (i := 196) rfl)), vbX4_tellPicture⟩
theorem mbX4_setBand : px_mB mX4_setBand 4 := ⟨tb4 (List.mem_of_getElem? (i := 212) rfl), by decide +kernel, tb1 (List.mem_of_getElem? (i := 10) rfl), by decide +kernel, by decide +kernel⟩
theorem vbX4_setBand : px_vB mX4_setBand := ⟨tb4 (List.mem_of_getElem? (i := 210) rfl), tb4 (List.mem_of_getElem? (i := 211) rfl)⟩
theorem kcX11_saveAs_189 : px_cV mX11_saveAs 189 mX4_setBand 4 := ⟨⟨mbX4_setBand, by decide, by decide⟩, Or.inl (tb4 (List.mem_of_getElem? (i := 209) rfl)), vbX4_setBand⟩
theorem mbX4_canBeTogether : px_mB mX4_canBeTogether 0 := ⟨tb4 (List.mem_of_getElem? (i := 216) rfl), by decide +kernel, tb1 (List.mem_of_getElem? (i := 10) rfl), by decide +kernel, by decide +kernel⟩
theorem vbX4_canBeTogether : px_vB mX4_canBeTogether := ⟨tb4 (List.mem_of_getElem? (i := 214) rfl), tb4 (List.mem_of_getElem? (i := 215) rfl)⟩
theorem kcX11_saveAs_193 : px_cV mX11_saveAs 193 mX4_canBeTogether 0 := ⟨⟨mbX4_canBeTogether, by decide, by decide⟩, Or.inl (tb4 (List.mem_of_getElem? (i := 213) rfl)), vbX4_canBeTogether⟩
theorem mbX4_tellScan : px_mB mX4_tellScan 2 := ⟨tb4 (List.mem_of_getElem? (i := 220) rfl), by decide +kernel, tb1 (List.mem_of_getElem? (i := 10) rfl), by decide +kernel, by decide +kernel⟩
theorem vbX4_tellScan : px_vB mX4_tellScan := ⟨tb4 (List.mem_of_getElem? (i := 218) rfl), tb4 (List.mem_of_getElem? (i := 219) rfl)⟩
theorem kcX11_saveAs_199 : px_cV mX11_saveAs 199 mX4_tellScan 2 := ⟨⟨mbX4_tellScan, by decide, by decide⟩, Or.inl (tb4 (List.mem_of_getElem? (i := 217) rfl)), vbX4_tellScan⟩
theorem kcX11_saveAs_203 : px_cV mX11_saveAs 203 mX4_tellMarker 1 := ⟨⟨mbX4_tellMarker, by decide, by decide⟩, Or.inl (tb5 (List.mem_of_getElem? (i := 102) rfl)), vbX4_tellMarker⟩
set_option maxRecDepth 100000 in
set_option maxHeartbeats 4000000 in
theorem eX11_saveAs_199 {X : px_X} {k93 : Nat → Nat → Int32 → px_W → Option (Int32 × px_W)} (hk93 : ∀ (a0 : Nat) (a3 : Nat) (a4 : Int32) (w : px_W) (q : Int32 × px_W), k93 a0 a3 a4 w = some q → EV X mX11_saveAs 93 [(0, .ref a0), (3, .ref a3), (4, .int a4)] [] w (some (.int q.1)) q.2) : ∀ (a0 : Nat) (a3 : Nat) (a4 : Int32) (w : px_W) (q : Int32 × px_W), fX11_saveAs_199 X k93 a0 a3 a4 w = some q → EV X mX11_saveAs 199 [(0, .ref a0), (3, .ref a3), (4, .int a4)] [] w (some (.int q.1)) q.2 := by
  intro a0 a3 a4 w q h
  unfold fX11_saveAs_199 at h
  refine EV.iinc 2 (a4 + 5) [(4, .int (a4 + 5)), (0, .ref a0), (3, .ref a3)] dX11_saveAs_199 rfl rfl (by decide) rfl ?_
  refine EV.goto 93 dX11_saveAs_202 (by decide) ?_
  refine EV.sub [1, 2, 0] rfl ?_
  exact hk93 _ _ _ _ _ h
set_option maxRecDepth 100000 in
set_option maxHeartbeats 4000000 in
theorem eX11_saveAs_171 {X : px_X} {k93 : Nat → Nat → Int32 → px_W → Option (Int32 × px_W)} (hk93 : ∀ (a0 : Nat) (a3 : Nat) (a4 : Int32) (w : px_W) (q : Int32 × px_W), k93 a0 a3 a4 w = some q → EV X mX11_saveAs 93 [(0, .ref a0), (3, .ref a3), (4, .int a4)] [] w (some (.int q.1)) q.2) : ∀ (m : Nat) (a0 : Nat) (a3 : Nat) (a4 : Int32) (a5 : Int32) (w : px_W) (q : Int32 × px_W), fX11_saveAs_171 X k93 m a0 a3 a4 a5 w = some q → EV X mX11_saveAs 171 [(0, .ref a0), (3, .ref a3), (4, .int a4), (5, .int a5)] [] w (some (.int q.1)) q.2 := by
  intro m
  induction m with
  | zero => intro a0 a3 a4 a5 w q h; cases h
  | succ m ih =>
    intro a0 a3 a4 a5 w q h
    rw [fX11_saveAs_171.eq_2] at h
    refine EV.iload 3 dX11_saveAs_171 rfl ?_
    refine EV.aload_n 0 dX11_saveAs_173 rfl rfl ?_
    obtain ⟨v43, gv43, h⟩ := px_bs h
    refine ev_gR dX11_saveAs_174 flRX11_25 gv43 ?_
    obtain ⟨v44, gv44, h⟩ := px_bs h
    refine ev_gI dX11_saveAs_177 flRX11_196 gv44 ?_
    refine EV.icmp_ge 199 dX11_saveAs_180 (by decide) (fun c45 => ?_) (fun c45 => ?_)
    · rw [if_pos c45] at h
      refine EV.sub [0, 1, 2] rfl ?_
      exact eX11_saveAs_199 hk93 _ _ _ _ _ h
    · rw [if_neg c45] at h
      refine EV.aload_n 0 dX11_saveAs_183 rfl rfl ?_
      obtain ⟨v46, gv46, h⟩ := px_bs h
      refine ev_gR dX11_saveAs_184 flRX11_72 gv46 ?_
      refine EV.iload 3 dX11_saveAs_187 rfl ?_
      refine EV.iconst (1) dX11_saveAs_189 (by decide) ?_
      obtain ⟨o47, go47, h⟩ := px_bs h
      obtain ⟨q48, gq48, h⟩ := px_bs h
      refine EV.callV (As := [.int a5, .int 1]) (rest := []) dX11_saveAs_190 kcX11_saveAs_199 (gO_ok go47) rfl rfl rfl (Nat.le_of_ble_eq_true rfl) (Nat.le_of_ble_eq_true rfl) (eX4_tellScan gq48) ?_
      refine EV.iinc 3 (a5 + 1) [(5, .int (a5 + 1)), (0, .ref a0), (3, .ref a3), (4, .int a4)] dX11_saveAs_193 rfl rfl (by decide) rfl ?_
      refine EV.goto 171 dX11_saveAs_196 (by decide) ?_
      refine EV.sub [1, 2, 3, 0] rfl ?_
      exact ih _ _ _ _ _ _ h
set_option maxRecDepth 100000 in
set_option maxHeartbeats 4000000 in
theorem eX11_saveAs_168 {X : px_X} {k93 : Nat → Nat → Int32 → px_W → Option (Int32 × px_W)} (hk93 : ∀ (a0 : Nat) (a3 : Nat) (a4 : Int32) (w : px_W) (q : Int32 × px_W), k93 a0 a3 a4 w = some q → EV X mX11_saveAs 93 [(0, .ref a0), (3, .ref a3), (4, .int a4)] [] w (some (.int q.1)) q.2) : ∀ (a0 : Nat) (a3 : Nat) (a4 : Int32) (w : px_W) (q : Int32 × px_W), fX11_saveAs_168 X k93 a0 a3 a4 w = some q → EV X mX11_saveAs 168 [(0, .ref a0), (3, .ref a3), (4, .int a4)] [] w (some (.int q.1)) q.2 := by
  intro a0 a3 a4 w q h
  unfold fX11_saveAs_168 at h
  refine EV.iconst (0) dX11_saveAs_168 (by decide) ?_
  refine EV.istore [(5, .int 0), (0, .ref a0), (3, .ref a3), (4, .int a4)] dX11_saveAs_169 (by decide) rfl ?_
  refine EV.sub [1, 2, 3, 0] rfl ?_
  exact eX11_saveAs_171 hk93 FU _ _ _ _ _ _ h
set_option maxRecDepth 100000 in
set_option maxHeartbeats 4000000 in
theorem eX11_saveAs_205 {X : px_X}  : ∀ (a0 : Nat) (w : px_W) (q : Int32 × px_W), fX11_saveAs_205 X  a0 w = some q → EV X mX11_saveAs 205 [(0, .ref a0)] [] w (some (.int q.1)) q.2 := by
  intro a0 w q h
  unfold fX11_saveAs_205 at h
  refine EV.aload_n 0 dX11_saveAs_205 rfl rfl ?_
  obtain ⟨v49, gv49, h⟩ := px_bs h
  refine ev_gR dX11_saveAs_206 flRX11_72 gv49 ?_
  refine EV.sipush (217) dX11_saveAs_209 (by decide) ?_
  obtain ⟨o50, go50, h⟩ := px_bs h
  obtain ⟨q51, gq51, h⟩ := px_bs h
  refine EV.callV (As := [.int 217]) (rest := []) dX11_saveAs_212 kcX11_saveAs_203 (gO_ok go50) rfl rfl rfl (Nat.le_of_ble_eq_true rfl) (Nat.le_of_ble_eq_true rfl) (eX4_tellMarker gq51) ?_
  refine EV.aload_n 0 dX11_saveAs_215 rfl rfl ?_
  obtain ⟨v52, gv52, h⟩ := px_bs h
  refine ev_gR dX11_saveAs_216 flRX11_19 gv52 ?_
  obtain ⟨v53, gv53, h⟩ := px_bs h
  refine ev_gI dX11_saveAs_219 flRX11_206 gv53 ?_
  refine EV.if_eq 227 dX11_saveAs_222 (by decide) (fun c54 => ?_) (fun c54 => ?_)
  · rw [if_pos c54] at h
    refine EV.aload_n 0 dX11_saveAs_227 rfl rfl ?_
    obtain ⟨v55, gv55, h⟩ := px_bs h
    refine ev_gR dX11_saveAs_228 flRX11_16 gv55 ?_
    refine EV.astore [(4, .ref v55), (0, .ref a0)] dX11_saveAs_231 (by decide) rfl ?_
    refine EV.aload_n 1 dX11_saveAs_233 rfl rfl ?_
    refine EV.aload_n 1 dX11_saveAs_234 rfl rfl ?_
    obtain ⟨v56, gv56, h⟩ := px_bs h
    refine ev_gR dX11_saveAs_235 flRX11_19 gv56 ?_
    obtain ⟨w57, gw57, h⟩ := px_bs h
    refine ev_pV dX11_saveAs_238 flRX11_16 rfl rfl rfl rfl gw57 ?_
    refine EV.aload_n 1 dX11_saveAs_241 rfl rfl ?_
    refine EV.aload 0 dX11_saveAs_242 rfl ?_
    obtain ⟨w58, gw58, h⟩ := px_bs h
    refine ev_pV dX11_saveAs_244 flRX11_19 rfl rfl rfl rfl gw58 ?_
    refine EV.aload_n 1 dX11_saveAs_247 rfl rfl ?_
    obtain ⟨v59, gv59, h⟩ := px_bs h
    refine ev_gR dX11_saveAs_248 flRX11_16 gv59 ?_
    obtain ⟨v60, gv60, h⟩ := px_bs h
    refine ev_gI dX11_saveAs_251 flRX11_80 gv60 ?_
    cases h
    exact EV.reti dX11_saveAs_254 rfl
  · rw [if_neg c54] at h
    refine EV.iconst ((-1)) dX11_saveAs_225 (by decide) ?_
    cases h
    exact EV.reti dX11_saveAs_226 rfl
set_option maxRecDepth 100000 in
set_option maxHeartbeats 4000000 in
theorem eX11_saveAs_93 {X : px_X}  : ∀ (m : Nat) (a0 : Nat) (a3 : Nat) (a4 : Int32) (w : px_W) (q : Int32 × px_W), fX11_saveAs_93 X  m a0 a3 a4 w = some q → EV X mX11_saveAs 93 [(0, .ref a0), (3, .ref a3), (4, .int a4)] [] w (some (.int q.1)) q.2 := by
  intro m
  induction m with
  | zero => intro a0 a3 a4 w q h; cases h
  | succ m ih =>
    intro a0 a3 a4 w q h
    rw [fX11_saveAs_93.eq_2] at h
    refine EV.iload 2 dX11_saveAs_93 rfl ?_
    refine EV.iconst (5) dX11_saveAs_95 (by decide) ?_
    refine EV.iadd dX11_saveAs_96 ?_
    refine EV.aload_n 1 dX11_saveAs_97 rfl rfl ?_
    obtain ⟨v61, gv61, h⟩ := px_bs h
    refine ev_aLX dX11_saveAs_98 gv61 ?_
    refine EV.icmp_gt 205 dX11_saveAs_99 (by decide) (fun c62 => ?_) (fun c62 => ?_)
    · rw [if_pos c62] at h
      refine EV.sub [0] rfl ?_
      exact eX11_saveAs_205  _ _ _ h
    · rw [if_neg c62] at h
      refine EV.aload_n 0 dX11_saveAs_102 rfl rfl ?_
      obtain ⟨v63, gv63, h⟩ := px_bs h
      refine ev_gR dX11_saveAs_103 flRX11_72 gv63 ?_
      refine EV.aload_n 1 dX11_saveAs_106 rfl rfl ?_
      refine EV.iload 2 dX11_saveAs_107 rfl ?_
      refine EV.iconst (1) dX11_saveAs_109 (by decide) ?_
      refine EV.iadd dX11_saveAs_110 ?_
      obtain ⟨v64, gv64, h⟩ := px_bs h
      refine ev_aX dX11_saveAs_111 gv64 ?_
      refine EV.aload_n 1 dX11_saveAs_112 rfl rfl ?_
      refine EV.iload 2 dX11_saveAs_113 rfl ?_
      refine EV.iconst (2) dX11_saveAs_115 (by decide) ?_
      refine EV.iadd dX11_saveAs_116 ?_
      obtain ⟨v65, gv65, h⟩ := px_bs h
      refine ev_aX dX11_saveAs_117 gv65 ?_
      refine EV.aload_n 1 dX11_saveAs_118 rfl rfl ?_
      refine EV.iload 2 dX11_saveAs_119 rfl ?_
      refine EV.iconst (3) dX11_saveAs_121 (by decide) ?_
      refine EV.iadd dX11_saveAs_122 ?_
      obtain ⟨v66, gv66, h⟩ := px_bs h
      refine ev_aX dX11_saveAs_123 gv66 ?_
      refine EV.aload_n 1 dX11_saveAs_124 rfl rfl ?_
      refine EV.iload 2 dX11_saveAs_125 rfl ?_
      refine EV.iconst (4) dX11_saveAs_127 (by decide) ?_
      refine EV.iadd dX11_saveAs_128 ?_
      obtain ⟨v67, gv67, h⟩ := px_bs h
      refine ev_aX dX11_saveAs_129 gv67 ?_
      obtain ⟨o68, go68, h⟩ := px_bs h
      obtain ⟨q69, gq69, h⟩ := px_bs h
      refine EV.callV (As := [.int v64, .int v65, .int v66, .int v67]) (rest := []) dX11_saveAs_130 kcX11_saveAs_189 (gO_ok go68) rfl rfl rfl (Nat.le_of_ble_eq_true rfl) (Nat.le_of_ble_eq_true rfl) (eX4_setBand gq69) ?_
      refine EV.aload_n 1 dX11_saveAs_133 rfl rfl ?_
      refine EV.iload 2 dX11_saveAs_134 rfl ?_
      obtain ⟨v70, gv70, h⟩ := px_bs h
      refine ev_aX dX11_saveAs_136 gv70 ?_
      refine EV.if_ne 168 dX11_saveAs_137 (by decide) (fun c71 => ?_) (fun c71 => ?_)
      · rw [if_neg c71] at h
        refine EV.sub [0, 1, 2] rfl ?_
        exact eX11_saveAs_168 ih _ _ _ _ _ h
      · rw [if_pos c71] at h
        refine EV.aload_n 0 dX11_saveAs_140 rfl rfl ?_
        obtain ⟨v72, gv72, h⟩ := px_bs h
        refine ev_gR dX11_saveAs_141 flRX11_72 gv72 ?_
        obtain ⟨o73, go73, h⟩ := px_bs h
        obtain ⟨q74, gq74, h⟩ := px_bs h
        refine EV.callV (As := []) (rest := []) dX11_saveAs_144 kcX11_saveAs_193 (gO_ok go73) rfl rfl rfl (Nat.le_of_ble_eq_true rfl) (Nat.le_of_ble_eq_true rfl) (eX4_canBeTogether gq74) ?_
        refine EV.if_eq 168 dX11_saveAs_147 (by decide) (fun c75 => ?_) (fun c75 => ?_)
        · rw [if_pos c75] at h
          refine EV.sub [0, 1, 2] rfl ?_
          exact eX11_saveAs_168 ih _ _ _ _ _ h
        · rw [if_neg c75] at h
          refine EV.aload_n 0 dX11_saveAs_150 rfl rfl ?_
          obtain ⟨v76, gv76, h⟩ := px_bs h
          refine ev_gR dX11_saveAs_151 flRX11_72 gv76 ?_
          refine EV.iconst (0) dX11_saveAs_154 (by decide) ?_
          refine EV.aload_n 0 dX11_saveAs_155 rfl rfl ?_
          obtain ⟨v77, gv77, h⟩ := px_bs h
          refine ev_gR dX11_saveAs_156 flRX11_25 gv77 ?_
          obtain ⟨v78, gv78, h⟩ := px_bs h
          refine ev_gI dX11_saveAs_159 flRX11_196 gv78 ?_
          obtain ⟨o79, go79, h⟩ := px_bs h
          obtain ⟨q80, gq80, h⟩ := px_bs h
          refine EV.callV (As := [.int 0, .int v78]) (rest := []) dX11_saveAs_162 kcX11_saveAs_199 (gO_ok go79) rfl rfl rfl (Nat.le_of_ble_eq_true rfl) (Nat.le_of_ble_eq_true rfl) (eX4_tellScan gq80) ?_
          refine EV.goto 199 dX11_saveAs_165 (by decide) ?_
          refine EV.sub [0, 1, 2] rfl ?_
          exact eX11_saveAs_199 ih _ _ _ _ _ h
set_option maxRecDepth 100000 in
set_option maxHeartbeats 4000000 in
theorem eX11_saveAs_87 {X : px_X}  : ∀ (a0 : Nat) (a3 : Nat) (s0 : Int32) (s1 : Nat) (w : px_W) (q : Int32 × px_W), fX11_saveAs_87 X  a0 a3 s0 s1 w = some q → EV X mX11_saveAs 87 [(0, .ref a0), (3, .ref a3)] [.int s0, .ref s1] w (some (.int q.1)) q.2 := by
  intro a0 a3 s0 s1 w q h
  unfold fX11_saveAs_87 at h
  obtain ⟨o81, go81, h⟩ := px_bs h
  obtain ⟨q82, gq82, h⟩ := px_bs h
  refine EV.callV (As := [.int s0]) (rest := []) dX11_saveAs_87 kcX11_saveAs_186 (gO_ok go81) rfl rfl rfl (Nat.le_of_ble_eq_true rfl) (Nat.le_of_ble_eq_true rfl) (eX4_tellPicture gq82) ?_
  refine EV.iconst (0) dX11_saveAs_90 (by decide) ?_
  refine EV.istore [(4, .int 0), (0, .ref a0), (3, .ref a3)] dX11_saveAs_91 (by decide) rfl ?_
  refine EV.sub [1, 2, 0] rfl ?_
  exact eX11_saveAs_93  FU _ _ _ _ _ h
set_option maxRecDepth 100000 in
set_option maxHeartbeats 4000000 in
theorem eX11_saveAs_52 {X : px_X}  : ∀ (a0 : Nat) (a1 : Int32) (a2 : Int32) (s0 : Nat) (w : px_W) (q : Int32 × px_W), fX11_saveAs_52 X  a0 a1 a2 s0 w = some q → EV X mX11_saveAs 52 [(0, .ref a0), (1, .int a1), (2, .int a2)] [.ref s0] w (some (.int q.1)) q.2 := by
  intro a0 a1 a2 s0 w q h
  unfold fX11_saveAs_52 at h
  refine EV.astore_n [(3, .ref s0), (0, .ref a0), (1, .int a1), (2, .int a2)] dX11_saveAs_52 rfl (by decide) rfl ?_
  refine EV.aload_n 1 dX11_saveAs_53 rfl rfl ?_
  obtain ⟨v83, gv83, h⟩ := px_bs h
  refine ev_gR dX11_saveAs_54 flRX11_72 gv83 ?_
  refine EV.aload_n 1 dX11_saveAs_57 rfl rfl ?_
  obtain ⟨v84, gv84, h⟩ := px_bs h
  refine ev_gR dX11_saveAs_58 flRX11_19 gv84 ?_
  refine EV.aload_n 1 dX11_saveAs_61 rfl rfl ?_
  obtain ⟨v85, gv85, h⟩ := px_bs h
  refine ev_gR dX11_saveAs_62 flRX11_25 gv85 ?_
  refine EV.iload_n 3 dX11_saveAs_65 rfl rfl ?_
  obtain ⟨o86, go86, h⟩ := px_bs h
  obtain ⟨q87, gq87, h⟩ := px_bs h
  refine EV.callV (As := [.ref v84, .ref v85, .int a2]) (rest := []) dX11_saveAs_66 kcX11_saveAs_183 (gO_ok go86) rfl rfl rfl (Nat.le_of_ble_eq_true rfl) (Nat.le_of_ble_eq_true rfl) (eX4_begin gq87) ?_
  refine EV.aload_n 1 dX11_saveAs_69 rfl rfl ?_
  obtain ⟨v88, gv88, h⟩ := px_bs h
  refine ev_gR dX11_saveAs_70 flRX11_72 gv88 ?_
  refine EV.iload_n 2 dX11_saveAs_73 rfl rfl ?_
  refine EV.iconst (2) dX11_saveAs_74 (by decide) ?_
  refine EV.icmp_ne 84 dX11_saveAs_75 (by decide) (fun c89 => ?_) (fun c89 => ?_)
  · rw [if_neg c89] at h
    refine EV.sipush (192) dX11_saveAs_84 (by decide) ?_
    refine EV.sub [1, 0] rfl ?_
    exact eX11_saveAs_87  _ _ _ _ _ _ h
  · rw [if_pos c89] at h
    refine EV.sipush (194) dX11_saveAs_78 (by decide) ?_
    refine EV.goto 87 dX11_saveAs_81 (by decide) ?_
    refine EV.sub [1, 0] rfl ?_
    exact eX11_saveAs_87  _ _ _ _ _ _ h
set_option maxRecDepth 100000 in
set_option maxHeartbeats 4000000 in
theorem eX11_saveAs {X : px_X} {w : px_W} {a0 : Nat} {a1 : Int32} {a2 : Int32} {q : Int32 × px_W} (h : fX11_saveAs X w a0 a1 a2 = some q) : EV X mX11_saveAs 0 (lv_args 0 [.ref a0, .int a1, .int a2]) [] w (some (.int q.1)) q.2 := by
  unfold fX11_saveAs at h
  show EV X mX11_saveAs 0 [(0, .ref a0), (1, .int a1), (2, .int a2)] [] w (some (.int q.1)) q.2
  refine EV.aload_n 0 dX11_saveAs_0 rfl rfl ?_
  obtain ⟨v90, gv90, h⟩ := px_bs h
  refine ev_gI dX11_saveAs_1 flRX11_169 gv90 ?_
  refine EV.if_eq 26 dX11_saveAs_4 (by decide) (fun c91 => ?_) (fun c91 => ?_)
  · rw [if_pos c91] at h
    refine EV.iconst ((-1)) dX11_saveAs_26 (by decide) ?_
    cases h
    exact EV.reti dX11_saveAs_27 rfl
  · rw [if_neg c91] at h
    refine EV.iload_n 1 dX11_saveAs_7 rfl rfl ?_
    refine EV.if_lt 26 dX11_saveAs_8 (by decide) (fun c92 => ?_) (fun c92 => ?_)
    · rw [if_pos c92] at h
      refine EV.iconst ((-1)) dX11_saveAs_26 (by decide) ?_
      cases h
      exact EV.reti dX11_saveAs_27 rfl
    · rw [if_neg c92] at h
      refine EV.iload_n 1 dX11_saveAs_11 rfl rfl ?_
      refine EV.iconst (2) dX11_saveAs_12 (by decide) ?_
      refine EV.icmp_gt 26 dX11_saveAs_13 (by decide) (fun c93 => ?_) (fun c93 => ?_)
      · rw [if_pos c93] at h
        refine EV.iconst ((-1)) dX11_saveAs_26 (by decide) ?_
        cases h
        exact EV.reti dX11_saveAs_27 rfl
      · rw [if_neg c93] at h
        refine EV.iload_n 2 dX11_saveAs_16 rfl rfl ?_
        refine EV.if_lt 26 dX11_saveAs_17 (by decide) (fun c94 => ?_) (fun c94 => ?_)
        · rw [if_pos c94] at h
          refine EV.iconst ((-1)) dX11_saveAs_26 (by decide) ?_
          cases h
          exact EV.reti dX11_saveAs_27 rfl
        · rw [if_neg c94] at h
          refine EV.iload_n 2 dX11_saveAs_20 rfl rfl ?_
          refine EV.ldc (v := 65535) dX11_saveAs_21 (tb4 (List.mem_of_getElem? (i := 175) rfl)) ?_
          refine EV.icmp_le 28 dX11_saveAs_23 (by decide) (fun c95 => ?_) (fun c95 => ?_)
          · rw [if_pos c95] at h
            refine EV.iload_n 1 dX11_saveAs_28 rfl rfl ?_
            refine EV.if_ne 38 dX11_saveAs_29 (by decide) (fun c96 => ?_) (fun c96 => ?_)
            · rw [if_neg c96] at h
              refine EV.iload_n 1 dX11_saveAs_38 rfl rfl ?_
              refine EV.iconst (1) dX11_saveAs_39 (by decide) ?_
              refine EV.icmp_ne 49 dX11_saveAs_40 (by decide) (fun c97 => ?_) (fun c97 => ?_)
              · rw [if_neg c97] at h
                refine EV.gets (k := 3) dX11_saveAs_49 rfl (tb4 (List.mem_of_getElem? (i := 180) rfl)) ?_
                refine EV.sub [0, 1, 2] rfl ?_
                exact eX11_saveAs_52  _ _ _ _ _ _ h
              · rw [if_pos c97] at h
                refine EV.gets (k := 2) dX11_saveAs_43 rfl (tb4 (List.mem_of_getElem? (i := 178) rfl)) ?_
                refine EV.goto 52 dX11_saveAs_46 (by decide) ?_
                refine EV.sub [0, 1, 2] rfl ?_
                exact eX11_saveAs_52  _ _ _ _ _ _ h
            · rw [if_pos c96] at h
              refine EV.gets (k := 1) dX11_saveAs_32 rfl (tb4 (List.mem_of_getElem? (i := 176) rfl)) ?_
              refine EV.goto 52 dX11_saveAs_35 (by decide) ?_
              refine EV.sub [0, 1, 2] rfl ?_
              exact eX11_saveAs_52  _ _ _ _ _ _ h
          · rw [if_neg c95] at h
            refine EV.iconst ((-1)) dX11_saveAs_26 (by decide) ?_
            cases h
            exact EV.reti dX11_saveAs_27 rfl
/-! WavePictures.paintComponent(I)V -/
theorem dX11_paintComponent_0 : decode cX11_paintComponent 0 = .ok (.aload_n 0, 1) := by decide +kernel
theorem dX11_paintComponent_1 : decode cX11_paintComponent 1 = .ok (.getfield 39, 3) := by decide +kernel
theorem dX11_paintComponent_4 : decode cX11_paintComponent 4 = .ok (.aload_n 0, 1) := by decide +kernel
theorem dX11_paintComponent_5 : decode cX11_paintComponent 5 = .ok (.getfield 34, 3) := by decide +kernel
theorem dX11_paintComponent_8 : decode cX11_paintComponent 8 = .ok (.iload_n 1, 1) := by decide +kernel
theorem dX11_paintComponent_9 : decode cX11_paintComponent 9 = .ok (.aaload, 1) := by decide +kernel
theorem dX11_paintComponent_10 : decode cX11_paintComponent 10 = .ok (.aload_n 0, 1) := by decide +kernel
theorem dX11_paintComponent_11 : decode cX11_paintComponent 11 = .ok (.getfield 29, 3) := by decide +kernel
theorem dX11_paintComponent_14 : decode cX11_paintComponent 14 = .ok (.getfield 213, 3) := by decide +kernel
theorem dX11_paintComponent_17 : decode cX11_paintComponent 17 = .ok (.iload_n 1, 1) := by decide +kernel
theorem dX11_paintComponent_18 : decode cX11_paintComponent 18 = .ok (.iaload, 1) := by decide +kernel
theorem dX11_paintComponent_19 : decode cX11_paintComponent 19 = .ok (.aload_n 0, 1) := by decide +kernel
theorem dX11_paintComponent_20 : decode cX11_paintComponent 20 = .ok (.getfield 29, 3) := by decide +kernel
theorem dX11_paintComponent_23 : decode cX11_paintComponent 23 = .ok (.getfield 231, 3) := by decide +kernel
theorem dX11_paintComponent_26 : decode cX11_paintComponent 26 = .ok (.if_icmp .ge 7, 3) := by decide +kernel
theorem dX11_paintComponent_29 : decode cX11_paintComponent 29 = .ok (.iconst 1, 1) := by decide +kernel
theorem dX11_paintComponent_30 : decode cX11_paintComponent 30 = .ok (.goto 4, 3) := by decide +kernel
theorem dX11_paintComponent_33 : decode cX11_paintComponent 33 = .ok (.iconst 0, 1) := by decide +kernel
theorem dX11_paintComponent_34 : decode cX11_paintComponent 34 = .ok (.aload_n 0, 1) := by decide +kernel
theorem dX11_paintComponent_35 : decode cX11_paintComponent 35 = .ok (.getfield 29, 3) := by decide +kernel
theorem dX11_paintComponent_38 : decode cX11_paintComponent 38 = .ok (.getfield 216, 3) := by decide +kernel
theorem dX11_paintComponent_41 : decode cX11_paintComponent 41 = .ok (.iload_n 1, 1) := by decide +kernel
theorem dX11_paintComponent_42 : decode cX11_paintComponent 42 = .ok (.iaload, 1) := by decide +kernel
theorem dX11_paintComponent_43 : decode cX11_paintComponent 43 = .ok (.aload_n 0, 1) := by decide +kernel
theorem dX11_paintComponent_44 : decode cX11_paintComponent 44 = .ok (.getfield 29, 3) := by decide +kernel
theorem dX11_paintComponent_47 : decode cX11_paintComponent 47 = .ok (.getfield 234, 3) := by decide +kernel
theorem dX11_paintComponent_50 : decode cX11_paintComponent 50 = .ok (.if_icmp .ge 7, 3) := by decide +kernel
theorem dX11_paintComponent_53 : decode cX11_paintComponent 53 = .ok (.iconst 1, 1) := by decide +kernel
theorem dX11_paintComponent_54 : decode cX11_paintComponent 54 = .ok (.goto 4, 3) := by decide +kernel
theorem dX11_paintComponent_57 : decode cX11_paintComponent 57 = .ok (.iconst 0, 1) := by decide +kernel
theorem dX11_paintComponent_58 : decode cX11_paintComponent 58 = .ok (.invokevirtual 237, 3) := by decide +kernel
theorem dX11_paintComponent_61 : decode cX11_paintComponent 61 = .ok (.iconst 0, 1) := by decide +kernel
theorem dX11_paintComponent_62 : decode cX11_paintComponent 62 = .ok (.istore_n 2, 1) := by decide +kernel
theorem dX11_paintComponent_63 : decode cX11_paintComponent 63 = .ok (.iload_n 2, 1) := by decide +kernel
theorem dX11_paintComponent_64 : decode cX11_paintComponent 64 = .ok (.aload_n 0, 1) := by decide +kernel
theorem dX11_paintComponent_65 : decode cX11_paintComponent 65 = .ok (.getfield 29, 3) := by decide +kernel
theorem dX11_paintComponent_68 : decode cX11_paintComponent 68 = .ok (.getfield 241, 3) := by decide +kernel
theorem dX11_paintComponent_71 : decode cX11_paintComponent 71 = .ok (.iload_n 1, 1) := by decide +kernel
theorem dX11_paintComponent_72 : decode cX11_paintComponent 72 = .ok (.iaload, 1) := by decide +kernel
theorem dX11_paintComponent_73 : decode cX11_paintComponent 73 = .ok (.if_icmp .ge 48, 3) := by decide +kernel
theorem dX11_paintComponent_76 : decode cX11_paintComponent 76 = .ok (.iconst 0, 1) := by decide +kernel
theorem dX11_paintComponent_77 : decode cX11_paintComponent 77 = .ok (.istore_n 3, 1) := by decide +kernel
theorem dX11_paintComponent_78 : decode cX11_paintComponent 78 = .ok (.iload_n 3, 1) := by decide +kernel
theorem dX11_paintComponent_79 : decode cX11_paintComponent 79 = .ok (.aload_n 0, 1) := by decide +kernel
theorem dX11_paintComponent_80 : decode cX11_paintComponent 80 = .ok (.getfield 29, 3) := by decide +kernel
theorem dX11_paintComponent_83 : decode cX11_paintComponent 83 = .ok (.getfield 244, 3) := by decide +kernel
theorem dX11_paintComponent_86 : decode cX11_paintComponent 86 = .ok (.iload_n 1, 1) := by decide +kernel
theorem dX11_paintComponent_87 : decode cX11_paintComponent 87 = .ok (.iaload, 1) := by decide +kernel
theorem dX11_paintComponent_88 : decode cX11_paintComponent 88 = .ok (.if_icmp .ge 27, 3) := by decide +kernel
theorem dX11_paintComponent_91 : decode cX11_paintComponent 91 = .ok (.aload_n 0, 1) := by decide +kernel
theorem dX11_paintComponent_92 : decode cX11_paintComponent 92 = .ok (.getfield 49, 3) := by decide +kernel
theorem dX11_paintComponent_95 : decode cX11_paintComponent 95 = .ok (.aload_n 0, 1) := by decide +kernel
theorem dX11_paintComponent_96 : decode cX11_paintComponent 96 = .ok (.getfield 39, 3) := by decide +kernel
theorem dX11_paintComponent_99 : decode cX11_paintComponent 99 = .ok (.aload_n 0, 1) := by decide +kernel
theorem dX11_paintComponent_100 : decode cX11_paintComponent 100 = .ok (.getfield 29, 3) := by decide +kernel
theorem dX11_paintComponent_103 : decode cX11_paintComponent 103 = .ok (.iload_n 1, 1) := by decide +kernel
theorem dX11_paintComponent_104 : decode cX11_paintComponent 104 = .ok (.iload_n 3, 1) := by decide +kernel
theorem dX11_paintComponent_105 : decode cX11_paintComponent 105 = .ok (.iload_n 2, 1) := by decide +kernel
theorem dX11_paintComponent_106 : decode cX11_paintComponent 106 = .ok (.invokevirtual 247, 3) := by decide +kernel
theorem dX11_paintComponent_109 : decode cX11_paintComponent 109 = .ok (.iinc 3 1, 3) := by decide +kernel
theorem dX11_paintComponent_112 : decode cX11_paintComponent 112 = .ok (.goto (-34), 3) := by decide +kernel
theorem dX11_paintComponent_115 : decode cX11_paintComponent 115 = .ok (.iinc 2 1, 3) := by decide +kernel
theorem dX11_paintComponent_118 : decode cX11_paintComponent 118 = .ok (.goto (-55), 3) := by decide +kernel
theorem dX11_paintComponent_121 : decode cX11_paintComponent 121 = .ok (.return_, 1) := by decide +kernel
theorem flRX11_39 : px_f RX11 39 11 7 := ⟨_, rfl, by decide, Or.inl (tb3 (List.mem_of_getElem? (i := 45) rfl))⟩
theorem flRX11_49 : px_f RX11 49 11 9 := ⟨_, rfl, by decide, Or.inl (tb3 (List.mem_of_getElem? (i := 47) rfl))⟩
theorem flRX11_213 : px_f RX11 213 2 6 := ⟨_, rfl, by decide, Or.inl (tb1 (List.mem_of_getElem? (i := 77) rfl))⟩
theorem flRX11_216 : px_f RX11 216 2 7 := ⟨_, rfl, by decide, Or.inl (tb1 (List.mem_of_getElem? (i := 82) rfl))⟩
theorem flRX11_231 : px_f RX11 231 2 3 := ⟨_, rfl, by decide, Or.inl (tb1 (List.mem_of_getElem? (i := 69) rfl))⟩
theorem flRX11_234 : px_f RX11 234 2 4 := ⟨_, rfl, by decide, Or.inl (tb1 (List.mem_of_getElem? (i := 71) rfl))⟩
theorem flRX11_241 : px_f RX11 241 2 9 := ⟨_, rfl, by decide, Or.inl (tb1 (List.mem_of_getElem? (i := 88) rfl))⟩
theorem flRX11_244 : px_f RX11 244 2 8 := ⟨_, rfl, by decide, Or.inl (tb1 (List.mem_of_getElem? (i := 86) rfl))⟩
theorem mbX3_becomeShrunk : px_mB mX3_becomeShrunk 3 := ⟨tb5 (List.mem_of_getElem? (i := 127) rfl), by decide +kernel, tb1 (List.mem_of_getElem? (i := 4) rfl), by decide +kernel, by decide +kernel⟩
theorem vbX3_becomeShrunk : px_vB mX3_becomeShrunk := ⟨tb5 (List.mem_of_getElem? (i := 125) rfl), tb5 (List.mem_of_getElem? (i := 126) rfl)⟩
theorem kcX11_paintComponent_237 : px_cV mX11_paintComponent 237 mX3_becomeShrunk 3 := ⟨⟨mbX3_becomeShrunk, by decide, by decide⟩, Or.inl (tb5 (List.mem_of_getElem? (i := 124) rfl)), vbX3_becomeShrunk⟩
theorem mbX9_forward : px_mB mX9_forward 5 := ⟨tb5 (List.mem_of_getElem? (i := 141) rfl), by decide +kernel, tb1 (List.mem_of_getElem? (i := 5) rfl), by decide +kernel, by decide +kernel⟩
theorem vbX9_forward : px_vB mX9_forward := ⟨tb5 (List.mem_of_getElem? (i := 139) rfl), tb5 (List.mem_of_getElem? (i := 140) rfl)⟩
theorem kcX11_paintComponent_247 : px_cV mX11_paintComponent 247 mX9_forward 5 := ⟨⟨mbX9_forward, by decide, by decide⟩, Or.inl (tb5 (List.mem_of_getElem? (i := 138) rfl)), vbX9_forward⟩
set_option maxRecDepth 100000 in
set_option maxHeartbeats 4000000 in
theorem eX11_paintComponent_115 {X : px_X} {k63 : Nat → Int32 → Int32 → px_W → Option (px_W)} (hk63 : ∀ (a0 : Nat) (a1 : Int32) (a2 : Int32) (w : px_W) (q : px_W), k63 a0 a1 a2 w = some q → EV X mX11_paintComponent 63 [(0, .ref a0), (1, .int a1), (2, .int a2)] [] w none q) : ∀ (a0 : Nat) (a1 : Int32) (a2 : Int32) (w : px_W) (q : px_W), fX11_paintComponent_115 X k63 a0 a1 a2 w = some q → EV X mX11_paintComponent 115 [(0, .ref a0), (1, .int a1), (2, .int a2)] [] w none q := by
  intro a0 a1 a2 w q h
  unfold fX11_paintComponent_115 at h
  refine EV.iinc 2 (a2 + 1) [(2, .int (a2 + 1)), (0, .ref a0), (1, .int a1)] dX11_paintComponent_115 rfl rfl (by decide) rfl ?_
  refine EV.goto 63 dX11_paintComponent_118 (by decide) ?_
  refine EV.sub [1, 2, 0] rfl ?_
  exact hk63 _ _ _ _ _ h
set_option maxRecDepth 100000 in
set_option maxHeartbeats 4000000 in
theorem eX11_paintComponent_78 {X : px_X} {k63 : Nat → Int32 → Int32 → px_W → Option (px_W)} (hk63 : ∀ (a0 : Nat) (a1 : Int32) (a2 : Int32) (w : px_W) (q : px_W), k63 a0 a1 a2 w = some q → EV X mX11_paintComponent 63 [(0, .ref a0), (1, .int a1), (2, .int a2)] [] w none q) : ∀ (m : Nat) (a0 : Nat) (a1 : Int32) (a2 : Int32) (a3 : Int32) (w : px_W) (q : px_W), fX11_paintComponent_78 X k63 m a0 a1 a2 a3 w = some q → EV X mX11_paintComponent 78 [(0, .ref a0), (1, .int a1), (2, .int a2), (3, .int a3)] [] w none q := by
  intro m
  induction m with
  | zero => intro a0 a1 a2 a3 w q h; cases h
  | succ m ih =>
    intro a0 a1 a2 a3 w q h
    rw [fX11_paintComponent_78.eq_2] at h
    refine EV.iload_n 3 dX11_paintComponent_78 rfl rfl ?_
    refine EV.aload_n 0 dX11_paintComponent_79 rfl rfl ?_
    obtain ⟨v27, gv27, h⟩ := px_bs h
    refine ev_gR dX11_paintComponent_80 flRX11_29 gv27 ?_
    obtain ⟨v28, gv28, h⟩ := px_bs h
    refine ev_gR dX11_paintComponent_83 flRX11_244 gv28 ?_
    refine EV.iload_n 1 dX11_paintComponent_86 rfl rfl ?_
    obtain ⟨v29, gv29, h⟩ := px_bs h
    refine ev_aI dX11_paintComponent_87 gv29 ?_
    refine EV.icmp_ge 115 dX11_paintComponent_88 (by decide) (fun c30 => ?_) (fun c30 => ?_)
    · rw [if_pos c30] at h
      refine EV.sub [0, 1, 2] rfl ?_
      exact eX11_paintComponent_115 hk63 _ _ _ _ _ h
    · rw [if_neg c30] at h
      refine EV.aload_n 0 dX11_paintComponent_91 rfl rfl ?_
      obtain ⟨v31, gv31, h⟩ := px_bs h
      refine ev_gR dX11_paintComponent_92 flRX11_49 gv31 ?_
      refine EV.aload_n 0 dX11_paintComponent_95 rfl rfl ?_
      obtain ⟨v32, gv32, h⟩ := px_bs h
      refine ev_gR dX11_paintComponent_96 flRX11_39 gv32 ?_
      refine EV.aload_n 0 dX11_paintComponent_99 rfl rfl ?_
      obtain ⟨v33, gv33, h⟩ := px_bs h
      refine ev_gR dX11_paintComponent_100 flRX11_29 gv33 ?_
      refine EV.iload_n 1 dX11_paintComponent_103 rfl rfl ?_
      refine EV.iload_n 3 dX11_paintComponent_104 rfl rfl ?_
      refine EV.iload_n 2 dX11_paintComponent_105 rfl rfl ?_
      obtain ⟨o34, go34, h⟩ := px_bs h
      obtain ⟨q35, gq35, h⟩ := px_bs h
      refine EV.callV (As := [.ref v32, .ref v33, .int a1, .int a3, .int a2]) (rest := []) dX11_paintComponent_106 kcX11_paintComponent_247 (gO_ok go34) rfl rfl rfl (Nat.le_of_ble_eq_true rfl) (Nat.le_of_ble_eq_true rfl) (eX9_forward gq35) ?_
      refine EV.iinc 3 (a3 + 1) [(3, .int (a3 + 1)), (0, .ref a0), (1, .int a1), (2, .int a2)] dX11_paintComponent_109 rfl rfl (by decide) rfl ?_
      refine EV.goto 78 dX11_paintComponent_112 (by decide) ?_
      refine EV.sub [1, 2, 3, 0] rfl ?_
      exact ih _ _ _ _ _ _ h
set_option maxRecDepth 100000 in
set_option maxHeartbeats 4000000 in
theorem eX11_paintComponent_63 {X : px_X}  : ∀ (m : Nat) (a0 : Nat) (a1 : Int32) (a2 : Int32) (w : px_W) (q : px_W), fX11_paintComponent_63 X  m a0 a1 a2 w = some q → EV X mX11_paintComponent 63 [(0, .ref a0), (1, .int a1), (2, .int a2)] [] w none q := by
  intro m
  induction m with
  | zero => intro a0 a1 a2 w q h; cases h
  | succ m ih =>
    intro a0 a1 a2 w q h
    rw [fX11_paintComponent_63.eq_2] at h
    refine EV.iload_n 2 dX11_paintComponent_63 rfl rfl ?_
    refine EV.aload_n 0 dX11_paintComponent_64 rfl rfl ?_
    obtain ⟨v36, gv36, h⟩ := px_bs h
    refine ev_gR dX11_paintComponent_65 flRX11_29 gv36 ?_
    obtain ⟨v37, gv37, h⟩ := px_bs h
    refine ev_gR dX11_paintComponent_68 flRX11_241 gv37 ?_
    refine EV.iload_n 1 dX11_paintComponent_71 rfl rfl ?_
    obtain ⟨v38, gv38, h⟩ := px_bs h
    refine ev_aI dX11_paintComponent_72 gv38 ?_
    refine EV.icmp_ge 121 dX11_paintComponent_73 (by decide) (fun c39 => ?_) (fun c39 => ?_)
    · rw [if_pos c39] at h
      cases h
      exact EV.ret0 dX11_paintComponent_121 trivial
    · rw [if_neg c39] at h
      refine EV.iconst (0) dX11_paintComponent_76 (by decide) ?_
      refine EV.istore_n [(3, .int 0), (0, .ref a0), (1, .int a1), (2, .int a2)] dX11_paintComponent_77 rfl (by decide) rfl ?_
      refine EV.sub [1, 2, 3, 0] rfl ?_
      exact eX11_paintComponent_78 ih FU _ _ _ _ _ _ h
set_option maxRecDepth 100000 in
set_option maxHeartbeats 4000000 in
theorem eX11_paintComponent_58 {X : px_X}  : ∀ (a0 : Nat) (a1 : Int32) (s0 : Int32) (s1 : Int32) (s2 : Nat) (s3 : Nat) (w : px_W) (q : px_W), fX11_paintComponent_58 X  a0 a1 s0 s1 s2 s3 w = some q → EV X mX11_paintComponent 58 [(0, .ref a0), (1, .int a1)] [.int s0, .int s1, .ref s2, .ref s3] w none q := by
  intro a0 a1 s0 s1 s2 s3 w q h
  unfold fX11_paintComponent_58 at h
  obtain ⟨o40, go40, h⟩ := px_bs h
  obtain ⟨q41, gq41, h⟩ := px_bs h
  refine EV.callV (As := [.ref s2, .int s1, .int s0]) (rest := []) dX11_paintComponent_58 kcX11_paintComponent_237 (gO_ok go40) rfl rfl rfl (Nat.le_of_ble_eq_true rfl) (Nat.le_of_ble_eq_true rfl) (eX3_becomeShrunk gq41) ?_
  refine EV.iconst (0) dX11_paintComponent_61 (by decide) ?_
  refine EV.istore_n [(2, .int 0), (0, .ref a0), (1, .int a1)] dX11_paintComponent_62 rfl (by decide) rfl ?_
  refine EV.sub [1, 2, 0] rfl ?_
  exact eX11_paintComponent_63  FU _ _ _ _ _ h
set_option maxRecDepth 100000 in
set_option maxHeartbeats 4000000 in
theorem eX11_paintComponent_34 {X : px_X}  : ∀ (a0 : Nat) (a1 : Int32) (s0 : Int32) (s1 : Nat) (s2 : Nat) (w : px_W) (q : px_W), fX11_paintComponent_34 X  a0 a1 s0 s1 s2 w = some q → EV X mX11_paintComponent 34 [(0, .ref a0), (1, .int a1)] [.int s0, .ref s1, .ref s2] w none q := by
  intro a0 a1 s0 s1 s2 w q h
  unfold fX11_paintComponent_34 at h
  refine EV.aload_n 0 dX11_paintComponent_34 rfl rfl ?_
  obtain ⟨v42, gv42, h⟩ := px_bs h
  refine ev_gR dX11_paintComponent_35 flRX11_29 gv42 ?_
  obtain ⟨v43, gv43, h⟩ := px_bs h
  refine ev_gR dX11_paintComponent_38 flRX11_216 gv43 ?_
  refine EV.iload_n 1 dX11_paintComponent_41 rfl rfl ?_
  obtain ⟨v44, gv44, h⟩ := px_bs h
  refine ev_aI dX11_paintComponent_42 gv44 ?_
  refine EV.aload_n 0 dX11_paintComponent_43 rfl rfl ?_
  obtain ⟨v45, gv45, h⟩ := px_bs h
  refine ev_gR dX11_paintComponent_44 flRX11_29 gv45 ?_
  obtain ⟨v46, gv46, h⟩ := px_bs h
  refine ev_gI dX11_paintComponent_47 flRX11_234 gv46 ?_
  refine EV.icmp_ge 57 dX11_paintComponent_50 (by decide) (fun c47 => ?_) (fun c47 => ?_)
  · rw [if_pos c47] at h
    refine EV.iconst (0) dX11_paintComponent_57 (by decide) ?_
    refine EV.sub [0, 1] rfl ?_
    exact eX11_paintComponent_58  _ _ _ _ _ _ _ _ h
  · rw [if_neg c47] at h
    refine EV.iconst (1) dX11_paintComponent_53 (by decide) ?_
    refine EV.goto 58 dX11_paintComponent_54 (by decide) ?_
    refine EV.sub [0, 1] rfl ?_
    exact eX11_paintComponent_58  _ _ _ _ _ _ _ _ h
set_option maxRecDepth 100000 in
set_option maxHeartbeats 4000000 in
theorem eX11_paintComponent {X : px_X} {w : px_W} {a0 : Nat} {a1 : Int32} {q : px_W} (h : fX11_paintComponent X w a0 a1 = some q) : EV X mX11_paintComponent 0 (lv_args 0 [.ref a0, .int a1]) [] w none q := by
  unfold fX11_paintComponent at h
  show EV X mX11_paintComponent 0 [(0, .ref a0), (1, .int a1)] [] w none q
  refine EV.aload_n 0 dX11_paintComponent_0 rfl rfl ?_
  obtain ⟨v48, gv48, h⟩ := px_bs h
  refine ev_gR dX11_paintComponent_1 flRX11_39 gv48 ?_
  refine EV.aload_n 0 dX11_paintComponent_4 rfl rfl ?_
  obtain ⟨v49, gv49, h⟩ := px_bs h
  refine ev_gR dX11_paintComponent_5 flRX11_34 gv49 ?_
  refine EV.iload_n 1 dX11_paintComponent_8 rfl rfl ?_
  obtain ⟨v50, gv50, h⟩ := px_bs h
  refine ev_aQ dX11_paintComponent_9 (t := 6) rfl gv50 ?_
  refine EV.aload_n 0 dX11_paintComponent_10 rfl rfl ?_
  obtain ⟨v51, gv51, h⟩ := px_bs h
  refine ev_gR dX11_paintComponent_11 flRX11_29 gv51 ?_
  obtain ⟨v52, gv52, h⟩ := px_bs h
  refine ev_gR dX11_paintComponent_14 flRX11_213 gv52 ?_
  refine EV.iload_n 1 dX11_paintComponent_17 rfl rfl ?_
  obtain ⟨v53, gv53, h⟩ := px_bs h
  refine ev_aI dX11_paintComponent_18 gv53 ?_
  refine EV.aload_n 0 dX11_paintComponent_19 rfl rfl ?_
  obtain ⟨v54, gv54, h⟩ := px_bs h
  refine ev_gR dX11_paintComponent_20 flRX11_29 gv54 ?_
  obtain ⟨v55, gv55, h⟩ := px_bs h
  refine ev_gI dX11_paintComponent_23 flRX11_231 gv55 ?_
  refine EV.icmp_ge 33 dX11_paintComponent_26 (by decide) (fun c56 => ?_) (fun c56 => ?_)
  · rw [if_pos c56] at h
    refine EV.iconst (0) dX11_paintComponent_33 (by decide) ?_
    refine EV.sub [0, 1] rfl ?_
    exact eX11_paintComponent_34  _ _ _ _ _ _ _ h
  · rw [if_neg c56] at h
    refine EV.iconst (1) dX11_paintComponent_29 (by decide) ?_
    refine EV.goto 34 dX11_paintComponent_30 (by decide) ?_
    refine EV.sub [0, 1] rfl ?_
    exact eX11_paintComponent_34  _ _ _ _ _ _ _ h
/-! WavePictures.paintFrom(IIIII)Z -/
theorem dX11_paintFrom_0 : decode cX11_paintFrom 0 = .ok (.iload_n 1, 1) := by decide +kernel
theorem dX11_paintFrom_1 : decode cX11_paintFrom 1 = .ok (.iconst 1, 1) := by decide +kernel
theorem dX11_paintFrom_2 : decode cX11_paintFrom 2 = .ok (.if_icmp .lt 59, 3) := by decide +kernel
theorem dX11_paintFrom_5 : decode cX11_paintFrom 5 = .ok (.iload_n 1, 1) := by decide +kernel
theorem dX11_paintFrom_6 : decode cX11_paintFrom 6 = .ok (.bipush 32, 2) := by decide +kernel
theorem dX11_paintFrom_8 : decode cX11_paintFrom 8 = .ok (.if_icmp .gt 53, 3) := by decide +kernel
theorem dX11_paintFrom_11 : decode cX11_paintFrom 11 = .ok (.iload_n 2, 1) := by decide +kernel
theorem dX11_paintFrom_12 : decode cX11_paintFrom 12 = .ok (.iconst 1, 1) := by decide +kernel
theorem dX11_paintFrom_13 : decode cX11_paintFrom 13 = .ok (.if_icmp .lt 48, 3) := by decide +kernel
theorem dX11_paintFrom_16 : decode cX11_paintFrom 16 = .ok (.iload_n 2, 1) := by decide +kernel
theorem dX11_paintFrom_17 : decode cX11_paintFrom 17 = .ok (.bipush 32, 2) := by decide +kernel
theorem dX11_paintFrom_19 : decode cX11_paintFrom 19 = .ok (.if_icmp .gt 42, 3) := by decide +kernel
theorem dX11_paintFrom_22 : decode cX11_paintFrom 22 = .ok (.iload_n 3, 1) := by decide +kernel
theorem dX11_paintFrom_23 : decode cX11_paintFrom 23 = .ok (.iconst 1, 1) := by decide +kernel
theorem dX11_paintFrom_24 : decode cX11_paintFrom 24 = .ok (.if_icmp .lt 37, 3) := by decide +kernel
theorem dX11_paintFrom_27 : decode cX11_paintFrom 27 = .ok (.iload_n 3, 1) := by decide +kernel
theorem dX11_paintFrom_28 : decode cX11_paintFrom 28 = .ok (.iconst 4, 1) := by decide +kernel
theorem dX11_paintFrom_29 : decode cX11_paintFrom 29 = .ok (.if_icmp .gt 32, 3) := by decide +kernel
theorem dX11_paintFrom_32 : decode cX11_paintFrom 32 = .ok (.iload 5, 2) := by decide +kernel
theorem dX11_paintFrom_34 : decode cX11_paintFrom 34 = .ok (.iconst 1, 1) := by decide +kernel
theorem dX11_paintFrom_35 : decode cX11_paintFrom 35 = .ok (.if_icmp .lt 26, 3) := by decide +kernel
theorem dX11_paintFrom_38 : decode cX11_paintFrom 38 = .ok (.iload 5, 2) := by decide +kernel
theorem dX11_paintFrom_40 : decode cX11_paintFrom 40 = .ok (.sipush 5000, 3) := by decide +kernel
theorem dX11_paintFrom_43 : decode cX11_paintFrom 43 = .ok (.if_icmp .gt 18, 3) := by decide +kernel
theorem dX11_paintFrom_46 : decode cX11_paintFrom 46 = .ok (.iload 4, 2) := by decide +kernel
theorem dX11_paintFrom_48 : decode cX11_paintFrom 48 = .ok (.ifCond .lt 13, 3) := by decide +kernel
theorem dX11_paintFrom_51 : decode cX11_paintFrom 51 = .ok (.iload 4, 2) := by decide +kernel
theorem dX11_paintFrom_53 : decode cX11_paintFrom 53 = .ok (.iconst 1, 1) := by decide +kernel
theorem dX11_paintFrom_54 : decode cX11_paintFrom 54 = .ok (.iconst 2, 1) := by decide +kernel
theorem dX11_paintFrom_55 : decode cX11_paintFrom 55 = .ok (.iload_n 3, 1) := by decide +kernel
theorem dX11_paintFrom_56 : decode cX11_paintFrom 56 = .ok (.imul, 1) := by decide +kernel
theorem dX11_paintFrom_57 : decode cX11_paintFrom 57 = .ok (.ishl, 1) := by decide +kernel
theorem dX11_paintFrom_58 : decode cX11_paintFrom 58 = .ok (.if_icmp .lt 5, 3) := by decide +kernel
theorem dX11_paintFrom_61 : decode cX11_paintFrom 61 = .ok (.iconst 0, 1) := by decide +kernel
theorem dX11_paintFrom_62 : decode cX11_paintFrom 62 = .ok (.ireturn, 1) := by decide +kernel
theorem dX11_paintFrom_63 : decode cX11_paintFrom 63 = .ok (.iconst 0, 1) := by decide +kernel
theorem dX11_paintFrom_64 : decode cX11_paintFrom 64 = .ok (.istore 6, 2) := by decide +kernel
theorem dX11_paintFrom_66 : decode cX11_paintFrom 66 = .ok (.iload 6, 2) := by decide +kernel
theorem dX11_paintFrom_68 : decode cX11_paintFrom 68 = .ok (.iload_n 3, 1) := by decide +kernel
theorem dX11_paintFrom_69 : decode cX11_paintFrom 69 = .ok (.if_icmp .ge 70, 3) := by decide +kernel
theorem dX11_paintFrom_72 : decode cX11_paintFrom 72 = .ok (.aload_n 0, 1) := by decide +kernel
theorem dX11_paintFrom_73 : decode cX11_paintFrom 73 = .ok (.getfield 34, 3) := by decide +kernel
theorem dX11_paintFrom_76 : decode cX11_paintFrom 76 = .ok (.iload 6, 2) := by decide +kernel
theorem dX11_paintFrom_78 : decode cX11_paintFrom 78 = .ok (.aaload, 1) := by decide +kernel
theorem dX11_paintFrom_79 : decode cX11_paintFrom 79 = .ok (.iload_n 1, 1) := by decide +kernel
theorem dX11_paintFrom_80 : decode cX11_paintFrom 80 = .ok (.iload_n 2, 1) := by decide +kernel
theorem dX11_paintFrom_81 : decode cX11_paintFrom 81 = .ok (.invokevirtual 209, 3) := by decide +kernel
theorem dX11_paintFrom_84 : decode cX11_paintFrom 84 = .ok (.ifCond .ne 5, 3) := by decide +kernel
theorem dX11_paintFrom_87 : decode cX11_paintFrom 87 = .ok (.iconst 0, 1) := by decide +kernel
theorem dX11_paintFrom_88 : decode cX11_paintFrom 88 = .ok (.ireturn, 1) := by decide +kernel
theorem dX11_paintFrom_89 : decode cX11_paintFrom 89 = .ok (.aload_n 0, 1) := by decide +kernel
theorem dX11_paintFrom_90 : decode cX11_paintFrom 90 = .ok (.getfield 29, 3) := by decide +kernel
theorem dX11_paintFrom_93 : decode cX11_paintFrom 93 = .ok (.getfield 213, 3) := by decide +kernel
theorem dX11_paintFrom_96 : decode cX11_paintFrom 96 = .ok (.iload 6, 2) := by decide +kernel
theorem dX11_paintFrom_98 : decode cX11_paintFrom 98 = .ok (.iload 4, 2) := by decide +kernel
theorem dX11_paintFrom_100 : decode cX11_paintFrom 100 = .ok (.iconst 2, 1) := by decide +kernel
theorem dX11_paintFrom_101 : decode cX11_paintFrom 101 = .ok (.iload 6, 2) := by decide +kernel
theorem dX11_paintFrom_103 : decode cX11_paintFrom 103 = .ok (.imul, 1) := by decide +kernel
theorem dX11_paintFrom_104 : decode cX11_paintFrom 104 = .ok (.ishr, 1) := by decide +kernel
theorem dX11_paintFrom_105 : decode cX11_paintFrom 105 = .ok (.iconst 1, 1) := by decide +kernel
theorem dX11_paintFrom_106 : decode cX11_paintFrom 106 = .ok (.iand, 1) := by decide +kernel
theorem dX11_paintFrom_107 : decode cX11_paintFrom 107 = .ok (.iconst 1, 1) := by decide +kernel
theorem dX11_paintFrom_108 : decode cX11_paintFrom 108 = .ok (.iadd, 1) := by decide +kernel
theorem dX11_paintFrom_109 : decode cX11_paintFrom 109 = .ok (.iastore, 1) := by decide +kernel
theorem dX11_paintFrom_110 : decode cX11_paintFrom 110 = .ok (.aload_n 0, 1) := by decide +kernel
theorem dX11_paintFrom_111 : decode cX11_paintFrom 111 = .ok (.getfield 29, 3) := by decide +kernel
theorem dX11_paintFrom_114 : decode cX11_paintFrom 114 = .ok (.getfield 216, 3) := by decide +kernel
theorem dX11_paintFrom_117 : decode cX11_paintFrom 117 = .ok (.iload 6, 2) := by decide +kernel
theorem dX11_paintFrom_119 : decode cX11_paintFrom 119 = .ok (.iload 4, 2) := by decide +kernel
theorem dX11_paintFrom_121 : decode cX11_paintFrom 121 = .ok (.iconst 2, 1) := by decide +kernel
theorem dX11_paintFrom_122 : decode cX11_paintFrom 122 = .ok (.iload 6, 2) := by decide +kernel
theorem dX11_paintFrom_124 : decode cX11_paintFrom 124 = .ok (.imul, 1) := by decide +kernel
theorem dX11_paintFrom_125 : decode cX11_paintFrom 125 = .ok (.iconst 1, 1) := by decide +kernel
theorem dX11_paintFrom_126 : decode cX11_paintFrom 126 = .ok (.iadd, 1) := by decide +kernel
theorem dX11_paintFrom_127 : decode cX11_paintFrom 127 = .ok (.ishr, 1) := by decide +kernel
theorem dX11_paintFrom_128 : decode cX11_paintFrom 128 = .ok (.iconst 1, 1) := by decide +kernel
theorem dX11_paintFrom_129 : decode cX11_paintFrom 129 = .ok (.iand, 1) := by decide +kernel
theorem dX11_paintFrom_130 : decode cX11_paintFrom 130 = .ok (.iconst 1, 1) := by decide +kernel
theorem dX11_paintFrom_131 : decode cX11_paintFrom 131 = .ok (.iadd, 1) := by decide +kernel
theorem dX11_paintFrom_132 : decode cX11_paintFrom 132 = .ok (.iastore, 1) := by decide +kernel
theorem dX11_paintFrom_133 : decode cX11_paintFrom 133 = .ok (.iinc 6 1, 3) := by decide +kernel
theorem dX11_paintFrom_136 : decode cX11_paintFrom 136 = .ok (.goto (-70), 3) := by decide +kernel
theorem dX11_paintFrom_139 : decode cX11_paintFrom 139 = .ok (.aload_n 0, 1) := by decide +kernel
theorem dX11_paintFrom_140 : decode cX11_paintFrom 140 = .ok (.getfield 29, 3) := by decide +kernel
theorem dX11_paintFrom_143 : decode cX11_paintFrom 143 = .ok (.iload_n 1, 1) := by decide +kernel
theorem dX11_paintFrom_144 : decode cX11_paintFrom 144 = .ok (.putfield 219, 3) := by decide +kernel
theorem dX11_paintFrom_147 : decode cX11_paintFrom 147 = .ok (.aload_n 0, 1) := by decide +kernel
theorem dX11_paintFrom_148 : decode cX11_paintFrom 148 = .ok (.getfield 29, 3) := by decide +kernel
theorem dX11_paintFrom_151 : decode cX11_paintFrom 151 = .ok (.iload_n 2, 1) := by decide +kernel
theorem dX11_paintFrom_152 : decode cX11_paintFrom 152 = .ok (.putfield 222, 3) := by decide +kernel
theorem dX11_paintFrom_155 : decode cX11_paintFrom 155 = .ok (.aload_n 0, 1) := by decide +kernel
theorem dX11_paintFrom_156 : decode cX11_paintFrom 156 = .ok (.getfield 29, 3) := by decide +kernel
theorem dX11_paintFrom_159 : decode cX11_paintFrom 159 = .ok (.iload_n 3, 1) := by decide +kernel
theorem dX11_paintFrom_160 : decode cX11_paintFrom 160 = .ok (.putfield 196, 3) := by decide +kernel
theorem dX11_paintFrom_163 : decode cX11_paintFrom 163 = .ok (.aload_n 0, 1) := by decide +kernel
theorem dX11_paintFrom_164 : decode cX11_paintFrom 164 = .ok (.getfield 29, 3) := by decide +kernel
theorem dX11_paintFrom_167 : decode cX11_paintFrom 167 = .ok (.invokevirtual 116, 3) := by decide +kernel
theorem dX11_paintFrom_170 : decode cX11_paintFrom 170 = .ok (.aload_n 0, 1) := by decide +kernel
theorem dX11_paintFrom_171 : decode cX11_paintFrom 171 = .ok (.getfield 29, 3) := by decide +kernel
theorem dX11_paintFrom_174 : decode cX11_paintFrom 174 = .ok (.getfield 119, 3) := by decide +kernel
theorem dX11_paintFrom_177 : decode cX11_paintFrom 177 = .ok (.sipush 192, 3) := by decide +kernel
theorem dX11_paintFrom_180 : decode cX11_paintFrom 180 = .ok (.if_icmp .le 5, 3) := by decide +kernel
theorem dX11_paintFrom_183 : decode cX11_paintFrom 183 = .ok (.iconst 0, 1) := by decide +kernel
theorem dX11_paintFrom_184 : decode cX11_paintFrom 184 = .ok (.ireturn, 1) := by decide +kernel
theorem dX11_paintFrom_185 : decode cX11_paintFrom 185 = .ok (.iconst 0, 1) := by decide +kernel
theorem dX11_paintFrom_186 : decode cX11_paintFrom 186 = .ok (.istore 6, 2) := by decide +kernel
theorem dX11_paintFrom_188 : decode cX11_paintFrom 188 = .ok (.iload 6, 2) := by decide +kernel
theorem dX11_paintFrom_190 : decode cX11_paintFrom 190 = .ok (.iload_n 3, 1) := by decide +kernel
theorem dX11_paintFrom_191 : decode cX11_paintFrom 191 = .ok (.if_icmp .ge 26, 3) := by decide +kernel
theorem dX11_paintFrom_194 : decode cX11_paintFrom 194 = .ok (.aload_n 0, 1) := by decide +kernel
theorem dX11_paintFrom_195 : decode cX11_paintFrom 195 = .ok (.getfield 29, 3) := by decide +kernel
theorem dX11_paintFrom_198 : decode cX11_paintFrom 198 = .ok (.iload 6, 2) := by decide +kernel
theorem dX11_paintFrom_200 : decode cX11_paintFrom 200 = .ok (.iload 5, 2) := by decide +kernel
theorem dX11_paintFrom_202 : decode cX11_paintFrom 202 = .ok (.invokevirtual 225, 3) := by decide +kernel
theorem dX11_paintFrom_205 : decode cX11_paintFrom 205 = .ok (.aload_n 0, 1) := by decide +kernel
theorem dX11_paintFrom_206 : decode cX11_paintFrom 206 = .ok (.iload 6, 2) := by decide +kernel
theorem dX11_paintFrom_208 : decode cX11_paintFrom 208 = .ok (.invokevirtual 228, 3) := by decide +kernel
theorem dX11_paintFrom_211 : decode cX11_paintFrom 211 = .ok (.iinc 6 1, 3) := by decide +kernel
theorem dX11_paintFrom_214 : decode cX11_paintFrom 214 = .ok (.goto (-26), 3) := by decide +kernel
theorem dX11_paintFrom_217 : decode cX11_paintFrom 217 = .ok (.aload_n 0, 1) := by decide +kernel
theorem dX11_paintFrom_218 : decode cX11_paintFrom 218 = .ok (.invokevirtual 166, 3) := by decide +kernel
theorem dX11_paintFrom_221 : decode cX11_paintFrom 221 = .ok (.iconst 1, 1) := by decide +kernel
theorem dX11_paintFrom_222 : decode cX11_paintFrom 222 = .ok (.ireturn, 1) := by decide +kernel
theorem flRX11_219 : px_f RX11 219 2 0 := ⟨_, rfl, by decide, Or.inl (tb1 (List.mem_of_getElem? (i := 58) rfl))⟩
theorem flRX11_222 : px_f RX11 222 2 1 := ⟨_, rfl, by decide, Or.inl (tb1 (List.mem_of_getElem? (i := 62) rfl))⟩
theorem kcX11_paintFrom_116 : px_cV mX11_paintFrom 116 mX2_settle 0 := ⟨⟨mbX2_settle, by decide, by decide⟩, Or.inl (tb4 (List.mem_of_getElem? (i := 34) rfl)), vbX2_settle⟩
theorem kcX11_paintFrom_166 : px_cV mX11_paintFrom 166 mX11_takeDraft 0 := ⟨⟨mbX11_takeDraft, by decide, by decide⟩, Or.inl (tb4 (List.mem_of_getElem? (i := 167) rfl)), vbX11_takeDraft⟩
theorem mbX3_isOfSize : px_mB mX3_isOfSize 2 := ⟨tb5 (List.mem_of_getElem? (i := 110) rfl), by decide +kernel, tb1 (List.mem_of_getElem? (i := 4) rfl), by decide +kernel, by decide +kernel⟩
theorem vbX3_isOfSize : px_vB mX3_isOfSize := ⟨tb5 (List.mem_of_getElem? (i := 108) rfl), tb5 (List.mem_of_getElem? (i := 109) rfl)⟩
theorem kcX11_paintFrom_209 : px_cV mX11_paintFrom 209 mX3_isOfSize 2 := ⟨⟨mbX3_isOfSize, by decide, by decide⟩, Or.inl (tb5 (List.mem_of_getElem? (i := 107) rfl)), vbX3_isOfSize⟩
theorem mbX2_setSteps : px_mB mX2_setSteps 2 := ⟨tb5 (List.mem_of_getElem? (i := 114) rfl), by decide +kernel, tb1 (List.mem_of_getElem? (i := 3) rfl), by decide +kernel, by decide +kernel⟩
theorem vbX2_setSteps : px_vB mX2_setSteps := ⟨tb5 (List.mem_of_getElem? (i := 112) rfl), tb5 (List.mem_of_getElem? (i := 113) rfl)⟩
theorem kcX11_paintFrom_225 : px_cV mX11_paintFrom 225 mX2_setSteps 2 := ⟨⟨mbX2_setSteps, by decide, by decide⟩, Or.inl (tb5 (List.mem_of_getElem? (i := 111) rfl)), vbX2_setSteps⟩
theorem mbX11_paintComponent : px_mB mX11_paintComponent 1 := ⟨tb5 (List.mem_of_getElem? (i := 123) rfl), by decide +kernel, tb1 (List.mem_of_getElem? (i := 1) rfl), by decide +kernel, by decide +kernel⟩
theorem vbX11_paintComponent : px_vB mX11_paintComponent := ⟨tb5 (List.mem_of_getElem? (i := 122) rfl), List.mem_append_left _ (List.mem_of_getElem? (i := 72) (by decide +kernel))⟩
theorem kcX11_paintFrom_228 : px_cV mX11_paintFrom 228 mX11_paintComponent 1 := ⟨⟨mbX11_paintComponent, by decide, by decide⟩, Or.inl (tb5 (List.mem_of_getElem? (i := 120) rfl)), vbX11_paintComponent⟩
set_option maxRecDepth 100000 in
set_option maxHeartbeats 4000000 in
theorem eX11_paintFrom_217 {X : px_X}  : ∀ (a0 : Nat) (w : px_W) (q : Int32 × px_W), fX11_paintFrom_217 X  a0 w = some q → EV X mX11_paintFrom 217 [(0, .ref a0)] [] w (some (.int q.1)) q.2 := by
  intro a0 w q h
  unfold fX11_paintFrom_217 at h
  refine EV.aload_n 0 dX11_paintFrom_217 rfl rfl ?_
  obtain ⟨o29, go29, h⟩ := px_bs h
  obtain ⟨q30, gq30, h⟩ := px_bs h
  refine EV.callV (As := []) (rest := []) dX11_paintFrom_218 kcX11_paintFrom_166 (gO_ok go29) rfl rfl rfl (Nat.le_of_ble_eq_true rfl) (Nat.le_of_ble_eq_true rfl) (eX11_takeDraft gq30) ?_
  refine EV.iconst (1) dX11_paintFrom_221 (by decide) ?_
  cases h
  exact EV.reti dX11_paintFrom_222 rfl
set_option maxRecDepth 100000 in
set_option maxHeartbeats 4000000 in
theorem eX11_paintFrom_188 {X : px_X}  : ∀ (m : Nat) (a0 : Nat) (a3 : Int32) (a5 : Int32) (a6 : Int32) (w : px_W) (q : Int32 × px_W), fX11_paintFrom_188 X  m a0 a3 a5 a6 w = some q → EV X mX11_paintFrom 188 [(0, .ref a0), (3, .int a3), (5, .int a5), (6, .int a6)] [] w (some (.int q.1)) q.2 := by
  intro m
  induction m with
  | zero => intro a0 a3 a5 a6 w q h; cases h
  | succ m ih =>
    intro a0 a3 a5 a6 w q h
    rw [fX11_paintFrom_188.eq_2] at h
    refine EV.iload 3 dX11_paintFrom_188 rfl ?_
    refine EV.iload_n 1 dX11_paintFrom_190 rfl rfl ?_
    refine EV.icmp_ge 217 dX11_paintFrom_191 (by decide) (fun c31 => ?_) (fun c31 => ?_)
    · rw [if_pos c31] at h
      refine EV.sub [0] rfl ?_
      exact eX11_paintFrom_217  _ _ _ h
    · rw [if_neg c31] at h
      refine EV.aload_n 0 dX11_paintFrom_194 rfl rfl ?_
      obtain ⟨v32, gv32, h⟩ := px_bs h
      refine ev_gR dX11_paintFrom_195 flRX11_29 gv32 ?_
      refine EV.iload 3 dX11_paintFrom_198 rfl ?_
      refine EV.iload 2 dX11_paintFrom_200 rfl ?_
      obtain ⟨o33, go33, h⟩ := px_bs h
      obtain ⟨q34, gq34, h⟩ := px_bs h
      refine EV.callV (As := [.int a6, .int a5]) (rest := []) dX11_paintFrom_202 kcX11_paintFrom_225 (gO_ok go33) rfl rfl rfl (Nat.le_of_ble_eq_true rfl) (Nat.le_of_ble_eq_true rfl) (eX2_setSteps gq34) ?_
      refine EV.aload_n 0 dX11_paintFrom_205 rfl rfl ?_
      refine EV.iload 3 dX11_paintFrom_206 rfl ?_
      obtain ⟨o35, go35, h⟩ := px_bs h
      obtain ⟨q36, gq36, h⟩ := px_bs h
      refine EV.callV (As := [.int a6]) (rest := []) dX11_paintFrom_208 kcX11_paintFrom_228 (gO_ok go35) rfl rfl rfl (Nat.le_of_ble_eq_true rfl) (Nat.le_of_ble_eq_true rfl) (eX11_paintComponent gq36) ?_
      refine EV.iinc 3 (a6 + 1) [(6, .int (a6 + 1)), (0, .ref a0), (3, .int a3), (5, .int a5)] dX11_paintFrom_211 rfl rfl (by decide) rfl ?_
      refine EV.goto 188 dX11_paintFrom_214 (by decide) ?_
      refine EV.sub [1, 2, 3, 0] rfl ?_
      exact ih _ _ _ _ _ _ h
set_option maxRecDepth 100000 in
set_option maxHeartbeats 4000000 in
theorem eX11_paintFrom_139 {X : px_X}  : ∀ (a0 : Nat) (a1 : Int32) (a2 : Int32) (a3 : Int32) (a5 : Int32) (w : px_W) (q : Int32 × px_W), fX11_paintFrom_139 X  a0 a1 a2 a3 a5 w = some q → EV X mX11_paintFrom 139 [(0, .ref a0), (1, .int a1), (2, .int a2), (3, .int a3), (5, .int a5)] [] w (some (.int q.1)) q.2 := by
  intro a0 a1 a2 a3 a5 w q h
  unfold fX11_paintFrom_139 at h
  refine EV.aload_n 0 dX11_paintFrom_139 rfl rfl ?_
  obtain ⟨v37, gv37, h⟩ := px_bs h
  refine ev_gR dX11_paintFrom_140 flRX11_29 gv37 ?_
  refine EV.iload_n 1 dX11_paintFrom_143 rfl rfl ?_
  obtain ⟨w38, gw38, h⟩ := px_bs h
  refine ev_pV dX11_paintFrom_144 flRX11_219 rfl rfl rfl rfl gw38 ?_
  refine EV.aload_n 0 dX11_paintFrom_147 rfl rfl ?_
  obtain ⟨v39, gv39, h⟩ := px_bs h
  refine ev_gR dX11_paintFrom_148 flRX11_29 gv39 ?_
  refine EV.iload_n 2 dX11_paintFrom_151 rfl rfl ?_
  obtain ⟨w40, gw40, h⟩ := px_bs h
  refine ev_pV dX11_paintFrom_152 flRX11_222 rfl rfl rfl rfl gw40 ?_
  refine EV.aload_n 0 dX11_paintFrom_155 rfl rfl ?_
  obtain ⟨v41, gv41, h⟩ := px_bs h
  refine ev_gR dX11_paintFrom_156 flRX11_29 gv41 ?_
  refine EV.iload_n 3 dX11_paintFrom_159 rfl rfl ?_
  obtain ⟨w42, gw42, h⟩ := px_bs h
  refine ev_pV dX11_paintFrom_160 flRX11_196 rfl rfl rfl rfl gw42 ?_
  refine EV.aload_n 0 dX11_paintFrom_163 rfl rfl ?_
  obtain ⟨v43, gv43, h⟩ := px_bs h
  refine ev_gR dX11_paintFrom_164 flRX11_29 gv43 ?_
  obtain ⟨o44, go44, h⟩ := px_bs h
  obtain ⟨q45, gq45, h⟩ := px_bs h
  refine EV.callV (As := []) (rest := []) dX11_paintFrom_167 kcX11_paintFrom_116 (gO_ok go44) rfl rfl rfl (Nat.le_of_ble_eq_true rfl) (Nat.le_of_ble_eq_true rfl) (eX2_settle gq45) ?_
  refine EV.aload_n 0 dX11_paintFrom_170 rfl rfl ?_
  obtain ⟨v46, gv46, h⟩ := px_bs h
  refine ev_gR dX11_paintFrom_171 flRX11_29 gv46 ?_
  obtain ⟨v47, gv47, h⟩ := px_bs h
  refine ev_gI dX11_paintFrom_174 flRX11_119 gv47 ?_
  refine EV.sipush (192) dX11_paintFrom_177 (by decide) ?_
  refine EV.icmp_le 185 dX11_paintFrom_180 (by decide) (fun c48 => ?_) (fun c48 => ?_)
  · rw [if_pos c48] at h
    refine EV.iconst (0) dX11_paintFrom_185 (by decide) ?_
    refine EV.istore [(6, .int 0), (0, .ref a0), (1, .int a1), (2, .int a2), (3, .int a3), (5, .int a5)] dX11_paintFrom_186 (by decide) rfl ?_
    refine EV.sub [1, 4, 5, 0] rfl ?_
    exact eX11_paintFrom_188  FU _ _ _ _ _ _ h
  · rw [if_neg c48] at h
    refine EV.iconst (0) dX11_paintFrom_183 (by decide) ?_
    cases h
    exact EV.reti dX11_paintFrom_184 rfl
set_option maxRecDepth 100000 in
set_option maxHeartbeats 4000000 in
theorem eX11_paintFrom_66 {X : px_X}  : ∀ (m : Nat) (a0 : Nat) (a1 : Int32) (a2 : Int32) (a3 : Int32) (a4 : Int32) (a5 : Int32) (a6 : Int32) (w : px_W) (q : Int32 × px_W), fX11_paintFrom_66 X  m a0 a1 a2 a3 a4 a5 a6 w = some q → EV X mX11_paintFrom 66 [(0, .ref a0), (1, .int a1), (2, .int a2), (3, .int a3), (4, .int a4), (5, .int a5), (6, .int a6)] [] w (some (.int q.1)) q.2 := by
  intro m
  induction m with
  | zero => intro a0 a1 a2 a3 a4 a5 a6 w q h; cases h
  | succ m ih =>
    intro a0 a1 a2 a3 a4 a5 a6 w q h
    rw [fX11_paintFrom_66.eq_2] at h
    refine EV.iload 6 dX11_paintFrom_66 rfl ?_
    refine EV.iload_n 3 dX11_paintFrom_68 rfl rfl ?_
    refine EV.icmp_ge 139 dX11_paintFrom_69 (by decide) (fun c49 => ?_) (fun c49 => ?_)
    · rw [if_pos c49] at h
      refine EV.sub [0, 1, 2, 3, 5] rfl ?_
      exact eX11_paintFrom_139  _ _ _ _ _ _ _ h
    · rw [if_neg c49] at h
      refine EV.aload_n 0 dX11_paintFrom_72 rfl rfl ?_
      obtain ⟨v50, gv50, h⟩ := px_bs h
      refine ev_gR dX11_paintFrom_73 flRX11_34 gv50 ?_
      refine EV.iload 6 dX11_paintFrom_76 rfl ?_
      obtain ⟨v51, gv51, h⟩ := px_bs h
      refine ev_aQ dX11_paintFrom_78 (t := 6) rfl gv51 ?_
      refine EV.iload_n 1 dX11_paintFrom_79 rfl rfl ?_
      refine EV.iload_n 2 dX11_paintFrom_80 rfl rfl ?_
      obtain ⟨o52, go52, h⟩ := px_bs h
      obtain ⟨q53, gq53, h⟩ := px_bs h
      refine EV.callV (As := [.int a1, .int a2]) (rest := []) dX11_paintFrom_81 kcX11_paintFrom_209 (gO_ok go52) rfl rfl rfl (Nat.le_of_ble_eq_true rfl) (Nat.le_of_ble_eq_true rfl) (eX3_isOfSize gq53) ?_
      refine EV.if_ne 89 dX11_paintFrom_84 (by decide) (fun c54 => ?_) (fun c54 => ?_)
      · rw [if_neg c54] at h
        refine EV.aload_n 0 dX11_paintFrom_89 rfl rfl ?_
        obtain ⟨v55, gv55, h⟩ := px_bs h
        refine ev_gR dX11_paintFrom_90 flRX11_29 gv55 ?_
        obtain ⟨v56, gv56, h⟩ := px_bs h
        refine ev_gR dX11_paintFrom_93 flRX11_213 gv56 ?_
        refine EV.iload 6 dX11_paintFrom_96 rfl ?_
        refine EV.iload 4 dX11_paintFrom_98 rfl ?_
        refine EV.iconst (2) dX11_paintFrom_100 (by decide) ?_
        refine EV.iload 6 dX11_paintFrom_101 rfl ?_
        refine EV.imul dX11_paintFrom_103 ?_
        refine EV.ishr dX11_paintFrom_104 ?_
        refine EV.iconst (1) dX11_paintFrom_105 (by decide) ?_
        refine EV.iand dX11_paintFrom_106 ?_
        refine EV.iconst (1) dX11_paintFrom_107 (by decide) ?_
        refine EV.iadd dX11_paintFrom_108 ?_
        obtain ⟨w57, gw57, h⟩ := px_bs h
        refine ev_sI dX11_paintFrom_109 gw57 ?_
        refine EV.aload_n 0 dX11_paintFrom_110 rfl rfl ?_
        obtain ⟨v58, gv58, h⟩ := px_bs h
        refine ev_gR dX11_paintFrom_111 flRX11_29 gv58 ?_
        obtain ⟨v59, gv59, h⟩ := px_bs h
        refine ev_gR dX11_paintFrom_114 flRX11_216 gv59 ?_
        refine EV.iload 6 dX11_paintFrom_117 rfl ?_
        refine EV.iload 4 dX11_paintFrom_119 rfl ?_
        refine EV.iconst (2) dX11_paintFrom_121 (by decide) ?_
        refine EV.iload 6 dX11_paintFrom_122 rfl ?_
        refine EV.imul dX11_paintFrom_124 ?_
        refine EV.iconst (1) dX11_paintFrom_125 (by decide) ?_
        refine EV.iadd dX11_paintFrom_126 ?_
        refine EV.ishr dX11_paintFrom_127 ?_
        refine EV.iconst (1) dX11_paintFrom_128 (by decide) ?_
        refine EV.iand dX11_paintFrom_129 ?_
        refine EV.iconst (1) dX11_paintFrom_130 (by decide) ?_
        refine EV.iadd dX11_paintFrom_131 ?_
        obtain ⟨w60, gw60, h⟩ := px_bs h
        refine ev_sI dX11_paintFrom_132 gw60 ?_
        refine EV.iinc 6 (a6 + 1) [(6, .int (a6 + 1)), (0, .ref a0), (1, .int a1), (2, .int a2), (3, .int a3), (4, .int a4), (5, .int a5)] dX11_paintFrom_133 rfl rfl (by decide) rfl ?_
        refine EV.goto 66 dX11_paintFrom_136 (by decide) ?_
        refine EV.sub [1, 2, 3, 4, 5, 6, 0] rfl ?_
        exact ih _ _ _ _ _ _ _ _ _ h
      · rw [if_pos c54] at h
        refine EV.iconst (0) dX11_paintFrom_87 (by decide) ?_
        cases h
        exact EV.reti dX11_paintFrom_88 rfl
set_option maxRecDepth 100000 in
set_option maxHeartbeats 4000000 in
theorem eX11_paintFrom {X : px_X} {w : px_W} {a0 : Nat} {a1 : Int32} {a2 : Int32} {a3 : Int32} {a4 : Int32} {a5 : Int32} {q : Int32 × px_W} (h : fX11_paintFrom X w a0 a1 a2 a3 a4 a5 = some q) : EV X mX11_paintFrom 0 (lv_args 0 [.ref a0, .int a1, .int a2, .int a3, .int a4, .int a5]) [] w (some (.int q.1)) q.2 := by
  unfold fX11_paintFrom at h
  show EV X mX11_paintFrom 0 [(0, .ref a0), (1, .int a1), (2, .int a2), (3, .int a3), (4, .int a4), (5, .int a5)] [] w (some (.int q.1)) q.2
  refine EV.iload_n 1 dX11_paintFrom_0 rfl rfl ?_
  refine EV.iconst (1) dX11_paintFrom_1 (by decide) ?_
  refine EV.icmp_lt 61 dX11_paintFrom_2 (by decide) (fun c61 => ?_) (fun c61 => ?_)
  · rw [if_pos c61] at h
    refine EV.iconst (0) dX11_paintFrom_61 (by decide) ?_
    cases h
    exact EV.reti dX11_paintFrom_62 rfl
  · rw [if_neg c61] at h
    refine EV.iload_n 1 dX11_paintFrom_5 rfl rfl ?_
    refine EV.bipush (32) dX11_paintFrom_6 (by decide) ?_
    refine EV.icmp_gt 61 dX11_paintFrom_8 (by decide) (fun c62 => ?_) (fun c62 => ?_)
    · rw [if_pos c62] at h
      refine EV.iconst (0) dX11_paintFrom_61 (by decide) ?_
      cases h
      exact EV.reti dX11_paintFrom_62 rfl
    · rw [if_neg c62] at h
      refine EV.iload_n 2 dX11_paintFrom_11 rfl rfl ?_
      refine EV.iconst (1) dX11_paintFrom_12 (by decide) ?_
      refine EV.icmp_lt 61 dX11_paintFrom_13 (by decide) (fun c63 => ?_) (fun c63 => ?_)
      · rw [if_pos c63] at h
        refine EV.iconst (0) dX11_paintFrom_61 (by decide) ?_
        cases h
        exact EV.reti dX11_paintFrom_62 rfl
      · rw [if_neg c63] at h
        refine EV.iload_n 2 dX11_paintFrom_16 rfl rfl ?_
        refine EV.bipush (32) dX11_paintFrom_17 (by decide) ?_
        refine EV.icmp_gt 61 dX11_paintFrom_19 (by decide) (fun c64 => ?_) (fun c64 => ?_)
        · rw [if_pos c64] at h
          refine EV.iconst (0) dX11_paintFrom_61 (by decide) ?_
          cases h
          exact EV.reti dX11_paintFrom_62 rfl
        · rw [if_neg c64] at h
          refine EV.iload_n 3 dX11_paintFrom_22 rfl rfl ?_
          refine EV.iconst (1) dX11_paintFrom_23 (by decide) ?_
          refine EV.icmp_lt 61 dX11_paintFrom_24 (by decide) (fun c65 => ?_) (fun c65 => ?_)
          · rw [if_pos c65] at h
            refine EV.iconst (0) dX11_paintFrom_61 (by decide) ?_
            cases h
            exact EV.reti dX11_paintFrom_62 rfl
          · rw [if_neg c65] at h
            refine EV.iload_n 3 dX11_paintFrom_27 rfl rfl ?_
            refine EV.iconst (4) dX11_paintFrom_28 (by decide) ?_
            refine EV.icmp_gt 61 dX11_paintFrom_29 (by decide) (fun c66 => ?_) (fun c66 => ?_)
            · rw [if_pos c66] at h
              refine EV.iconst (0) dX11_paintFrom_61 (by decide) ?_
              cases h
              exact EV.reti dX11_paintFrom_62 rfl
            · rw [if_neg c66] at h
              refine EV.iload 5 dX11_paintFrom_32 rfl ?_
              refine EV.iconst (1) dX11_paintFrom_34 (by decide) ?_
              refine EV.icmp_lt 61 dX11_paintFrom_35 (by decide) (fun c67 => ?_) (fun c67 => ?_)
              · rw [if_pos c67] at h
                refine EV.iconst (0) dX11_paintFrom_61 (by decide) ?_
                cases h
                exact EV.reti dX11_paintFrom_62 rfl
              · rw [if_neg c67] at h
                refine EV.iload 5 dX11_paintFrom_38 rfl ?_
                refine EV.sipush (5000) dX11_paintFrom_40 (by decide) ?_
                refine EV.icmp_gt 61 dX11_paintFrom_43 (by decide) (fun c68 => ?_) (fun c68 => ?_)
                · rw [if_pos c68] at h
                  refine EV.iconst (0) dX11_paintFrom_61 (by decide) ?_
                  cases h
                  exact EV.reti dX11_paintFrom_62 rfl
                · rw [if_neg c68] at h
                  refine EV.iload 4 dX11_paintFrom_46 rfl ?_
                  refine EV.if_lt 61 dX11_paintFrom_48 (by decide) (fun c69 => ?_) (fun c69 => ?_)
                  · rw [if_pos c69] at h
                    refine EV.iconst (0) dX11_paintFrom_61 (by decide) ?_
                    cases h
                    exact EV.reti dX11_paintFrom_62 rfl
                  · rw [if_neg c69] at h
                    refine EV.iload 4 dX11_paintFrom_51 rfl ?_
                    refine EV.iconst (1) dX11_paintFrom_53 (by decide) ?_
                    refine EV.iconst (2) dX11_paintFrom_54 (by decide) ?_
                    refine EV.iload_n 3 dX11_paintFrom_55 rfl rfl ?_
                    refine EV.imul dX11_paintFrom_56 ?_
                    refine EV.ishl dX11_paintFrom_57 ?_
                    refine EV.icmp_lt 63 dX11_paintFrom_58 (by decide) (fun c70 => ?_) (fun c70 => ?_)
                    · rw [if_pos c70] at h
                      refine EV.iconst (0) dX11_paintFrom_63 (by decide) ?_
                      refine EV.istore [(6, .int 0), (0, .ref a0), (1, .int a1), (2, .int a2), (3, .int a3), (4, .int a4), (5, .int a5)] dX11_paintFrom_64 (by decide) rfl ?_
                      refine EV.sub [1, 2, 3, 4, 5, 6, 0] rfl ?_
                      exact eX11_paintFrom_66  FU _ _ _ _ _ _ _ _ _ h
                    · rw [if_neg c70] at h
                      refine EV.iconst (0) dX11_paintFrom_61 (by decide) ?_
                      cases h
                      exact EV.reti dX11_paintFrom_62 rfl
/-! WavePictures.showComponent(IIZ)V -/
theorem dX11_showComponent_0 : decode cX11_showComponent 0 = .ok (.iconst 0, 1) := by decide +kernel
theorem dX11_showComponent_1 : decode cX11_showComponent 1 = .ok (.istore 4, 2) := by decide +kernel
theorem dX11_showComponent_3 : decode cX11_showComponent 3 = .ok (.iload 4, 2) := by decide +kernel
theorem dX11_showComponent_5 : decode cX11_showComponent 5 = .ok (.aload_n 0, 1) := by decide +kernel
theorem dX11_showComponent_6 : decode cX11_showComponent 6 = .ok (.getfield 25, 3) := by decide +kernel
theorem dX11_showComponent_9 : decode cX11_showComponent 9 = .ok (.getfield 241, 3) := by decide +kernel
theorem dX11_showComponent_12 : decode cX11_showComponent 12 = .ok (.iload_n 1, 1) := by decide +kernel
theorem dX11_showComponent_13 : decode cX11_showComponent 13 = .ok (.iaload, 1) := by decide +kernel
theorem dX11_showComponent_14 : decode cX11_showComponent 14 = .ok (.if_icmp .ge 53, 3) := by decide +kernel
theorem dX11_showComponent_17 : decode cX11_showComponent 17 = .ok (.iconst 0, 1) := by decide +kernel
theorem dX11_showComponent_18 : decode cX11_showComponent 18 = .ok (.istore 5, 2) := by decide +kernel
theorem dX11_showComponent_20 : decode cX11_showComponent 20 = .ok (.iload 5, 2) := by decide +kernel
theorem dX11_showComponent_22 : decode cX11_showComponent 22 = .ok (.aload_n 0, 1) := by decide +kernel
theorem dX11_showComponent_23 : decode cX11_showComponent 23 = .ok (.getfield 25, 3) := by decide +kernel
theorem dX11_showComponent_26 : decode cX11_showComponent 26 = .ok (.getfield 244, 3) := by decide +kernel
theorem dX11_showComponent_29 : decode cX11_showComponent 29 = .ok (.iload_n 1, 1) := by decide +kernel
theorem dX11_showComponent_30 : decode cX11_showComponent 30 = .ok (.iaload, 1) := by decide +kernel
theorem dX11_showComponent_31 : decode cX11_showComponent 31 = .ok (.if_icmp .ge 30, 3) := by decide +kernel
theorem dX11_showComponent_34 : decode cX11_showComponent 34 = .ok (.aload_n 0, 1) := by decide +kernel
theorem dX11_showComponent_35 : decode cX11_showComponent 35 = .ok (.getfield 49, 3) := by decide +kernel
theorem dX11_showComponent_38 : decode cX11_showComponent 38 = .ok (.aload_n 0, 1) := by decide +kernel
theorem dX11_showComponent_39 : decode cX11_showComponent 39 = .ok (.getfield 25, 3) := by decide +kernel
theorem dX11_showComponent_42 : decode cX11_showComponent 42 = .ok (.iload_n 1, 1) := by decide +kernel
theorem dX11_showComponent_43 : decode cX11_showComponent 43 = .ok (.iload 5, 2) := by decide +kernel
theorem dX11_showComponent_45 : decode cX11_showComponent 45 = .ok (.iload 4, 2) := by decide +kernel
theorem dX11_showComponent_47 : decode cX11_showComponent 47 = .ok (.iload_n 2, 1) := by decide +kernel
theorem dX11_showComponent_48 : decode cX11_showComponent 48 = .ok (.aload_n 0, 1) := by decide +kernel
theorem dX11_showComponent_49 : decode cX11_showComponent 49 = .ok (.getfield 39, 3) := by decide +kernel
theorem dX11_showComponent_52 : decode cX11_showComponent 52 = .ok (.invokevirtual 262, 3) := by decide +kernel
theorem dX11_showComponent_55 : decode cX11_showComponent 55 = .ok (.iinc 5 1, 3) := by decide +kernel
theorem dX11_showComponent_58 : decode cX11_showComponent 58 = .ok (.goto (-38), 3) := by decide +kernel
theorem dX11_showComponent_61 : decode cX11_showComponent 61 = .ok (.iinc 4 1, 3) := by decide +kernel
theorem dX11_showComponent_64 : decode cX11_showComponent 64 = .ok (.goto (-61), 3) := by decide +kernel
theorem dX11_showComponent_67 : decode cX11_showComponent 67 = .ok (.aload_n 0, 1) := by decide +kernel
theorem dX11_showComponent_68 : decode cX11_showComponent 68 = .ok (.getfield 39, 3) := by decide +kernel
theorem dX11_showComponent_71 : decode cX11_showComponent 71 = .ok (.bipush 32, 2) := by decide +kernel
theorem dX11_showComponent_73 : decode cX11_showComponent 73 = .ok (.aload_n 0, 1) := by decide +kernel
theorem dX11_showComponent_74 : decode cX11_showComponent 74 = .ok (.getfield 25, 3) := by decide +kernel
theorem dX11_showComponent_77 : decode cX11_showComponent 77 = .ok (.iload_n 1, 1) := by decide +kernel
theorem dX11_showComponent_78 : decode cX11_showComponent 78 = .ok (.invokevirtual 266, 3) := by decide +kernel
theorem dX11_showComponent_81 : decode cX11_showComponent 81 = .ok (.iload_n 2, 1) := by decide +kernel
theorem dX11_showComponent_82 : decode cX11_showComponent 82 = .ok (.imul, 1) := by decide +kernel
theorem dX11_showComponent_83 : decode cX11_showComponent 83 = .ok (.bipush 8, 2) := by decide +kernel
theorem dX11_showComponent_85 : decode cX11_showComponent 85 = .ok (.invokestatic 251, 3) := by decide +kernel
theorem dX11_showComponent_88 : decode cX11_showComponent 88 = .ok (.invokestatic 269, 3) := by decide +kernel
theorem dX11_showComponent_91 : decode cX11_showComponent 91 = .ok (.putfield 274, 3) := by decide +kernel
theorem dX11_showComponent_94 : decode cX11_showComponent 94 = .ok (.aload_n 0, 1) := by decide +kernel
theorem dX11_showComponent_95 : decode cX11_showComponent 95 = .ok (.getfield 39, 3) := by decide +kernel
theorem dX11_showComponent_98 : decode cX11_showComponent 98 = .ok (.bipush 32, 2) := by decide +kernel
theorem dX11_showComponent_100 : decode cX11_showComponent 100 = .ok (.aload_n 0, 1) := by decide +kernel
theorem dX11_showComponent_101 : decode cX11_showComponent 101 = .ok (.getfield 25, 3) := by decide +kernel
theorem dX11_showComponent_104 : decode cX11_showComponent 104 = .ok (.iload_n 1, 1) := by decide +kernel
theorem dX11_showComponent_105 : decode cX11_showComponent 105 = .ok (.invokevirtual 277, 3) := by decide +kernel
theorem dX11_showComponent_108 : decode cX11_showComponent 108 = .ok (.iload_n 2, 1) := by decide +kernel
theorem dX11_showComponent_109 : decode cX11_showComponent 109 = .ok (.imul, 1) := by decide +kernel
theorem dX11_showComponent_110 : decode cX11_showComponent 110 = .ok (.bipush 8, 2) := by decide +kernel
theorem dX11_showComponent_112 : decode cX11_showComponent 112 = .ok (.invokestatic 251, 3) := by decide +kernel
theorem dX11_showComponent_115 : decode cX11_showComponent 115 = .ok (.invokestatic 269, 3) := by decide +kernel
theorem dX11_showComponent_118 : decode cX11_showComponent 118 = .ok (.putfield 280, 3) := by decide +kernel
theorem dX11_showComponent_121 : decode cX11_showComponent 121 = .ok (.aload_n 0, 1) := by decide +kernel
theorem dX11_showComponent_122 : decode cX11_showComponent 122 = .ok (.getfield 25, 3) := by decide +kernel
theorem dX11_showComponent_125 : decode cX11_showComponent 125 = .ok (.getfield 213, 3) := by decide +kernel
theorem dX11_showComponent_128 : decode cX11_showComponent 128 = .ok (.iload_n 1, 1) := by decide +kernel
theorem dX11_showComponent_129 : decode cX11_showComponent 129 = .ok (.iaload, 1) := by decide +kernel
theorem dX11_showComponent_130 : decode cX11_showComponent 130 = .ok (.aload_n 0, 1) := by decide +kernel
theorem dX11_showComponent_131 : decode cX11_showComponent 131 = .ok (.getfield 25, 3) := by decide +kernel
theorem dX11_showComponent_134 : decode cX11_showComponent 134 = .ok (.getfield 231, 3) := by decide +kernel
theorem dX11_showComponent_137 : decode cX11_showComponent 137 = .ok (.if_icmp .ge 40, 3) := by decide +kernel
theorem dX11_showComponent_140 : decode cX11_showComponent 140 = .ok (.aload_n 0, 1) := by decide +kernel
theorem dX11_showComponent_141 : decode cX11_showComponent 141 = .ok (.getfield 43, 3) := by decide +kernel
theorem dX11_showComponent_144 : decode cX11_showComponent 144 = .ok (.aload_n 0, 1) := by decide +kernel
theorem dX11_showComponent_145 : decode cX11_showComponent 145 = .ok (.getfield 39, 3) := by decide +kernel
theorem dX11_showComponent_148 : decode cX11_showComponent 148 = .ok (.iload_n 3, 1) := by decide +kernel
theorem dX11_showComponent_149 : decode cX11_showComponent 149 = .ok (.invokevirtual 282, 3) := by decide +kernel
theorem dX11_showComponent_152 : decode cX11_showComponent 152 = .ok (.aload_n 0, 1) := by decide +kernel
theorem dX11_showComponent_153 : decode cX11_showComponent 153 = .ok (.getfield 39, 3) := by decide +kernel
theorem dX11_showComponent_156 : decode cX11_showComponent 156 = .ok (.aload_n 0, 1) := by decide +kernel
theorem dX11_showComponent_157 : decode cX11_showComponent 157 = .ok (.getfield 43, 3) := by decide +kernel
theorem dX11_showComponent_160 : decode cX11_showComponent 160 = .ok (.aload_n 0, 1) := by decide +kernel
theorem dX11_showComponent_161 : decode cX11_showComponent 161 = .ok (.getfield 43, 3) := by decide +kernel
theorem dX11_showComponent_164 : decode cX11_showComponent 164 = .ok (.getfield 274, 3) := by decide +kernel
theorem dX11_showComponent_167 : decode cX11_showComponent 167 = .ok (.aload_n 0, 1) := by decide +kernel
theorem dX11_showComponent_168 : decode cX11_showComponent 168 = .ok (.getfield 43, 3) := by decide +kernel
theorem dX11_showComponent_171 : decode cX11_showComponent 171 = .ok (.getfield 280, 3) := by decide +kernel
theorem dX11_showComponent_174 : decode cX11_showComponent 174 = .ok (.invokevirtual 258, 3) := by decide +kernel
theorem dX11_showComponent_177 : decode cX11_showComponent 177 = .ok (.aload_n 0, 1) := by decide +kernel
theorem dX11_showComponent_178 : decode cX11_showComponent 178 = .ok (.getfield 25, 3) := by decide +kernel
theorem dX11_showComponent_181 : decode cX11_showComponent 181 = .ok (.getfield 216, 3) := by decide +kernel
theorem dX11_showComponent_184 : decode cX11_showComponent 184 = .ok (.iload_n 1, 1) := by decide +kernel
theorem dX11_showComponent_185 : decode cX11_showComponent 185 = .ok (.iaload, 1) := by decide +kernel
theorem dX11_showComponent_186 : decode cX11_showComponent 186 = .ok (.aload_n 0, 1) := by decide +kernel
theorem dX11_showComponent_187 : decode cX11_showComponent 187 = .ok (.getfield 25, 3) := by decide +kernel
theorem dX11_showComponent_190 : decode cX11_showComponent 190 = .ok (.getfield 234, 3) := by decide +kernel
theorem dX11_showComponent_193 : decode cX11_showComponent 193 = .ok (.if_icmp .ge 40, 3) := by decide +kernel
theorem dX11_showComponent_196 : decode cX11_showComponent 196 = .ok (.aload_n 0, 1) := by decide +kernel
theorem dX11_showComponent_197 : decode cX11_showComponent 197 = .ok (.getfield 43, 3) := by decide +kernel
theorem dX11_showComponent_200 : decode cX11_showComponent 200 = .ok (.aload_n 0, 1) := by decide +kernel
theorem dX11_showComponent_201 : decode cX11_showComponent 201 = .ok (.getfield 39, 3) := by decide +kernel
theorem dX11_showComponent_204 : decode cX11_showComponent 204 = .ok (.iload_n 3, 1) := by decide +kernel
theorem dX11_showComponent_205 : decode cX11_showComponent 205 = .ok (.invokevirtual 286, 3) := by decide +kernel
theorem dX11_showComponent_208 : decode cX11_showComponent 208 = .ok (.aload_n 0, 1) := by decide +kernel
theorem dX11_showComponent_209 : decode cX11_showComponent 209 = .ok (.getfield 39, 3) := by decide +kernel
theorem dX11_showComponent_212 : decode cX11_showComponent 212 = .ok (.aload_n 0, 1) := by decide +kernel
theorem dX11_showComponent_213 : decode cX11_showComponent 213 = .ok (.getfield 43, 3) := by decide +kernel
theorem dX11_showComponent_216 : decode cX11_showComponent 216 = .ok (.aload_n 0, 1) := by decide +kernel
theorem dX11_showComponent_217 : decode cX11_showComponent 217 = .ok (.getfield 43, 3) := by decide +kernel
theorem dX11_showComponent_220 : decode cX11_showComponent 220 = .ok (.getfield 274, 3) := by decide +kernel
theorem dX11_showComponent_223 : decode cX11_showComponent 223 = .ok (.aload_n 0, 1) := by decide +kernel
theorem dX11_showComponent_224 : decode cX11_showComponent 224 = .ok (.getfield 43, 3) := by decide +kernel
theorem dX11_showComponent_227 : decode cX11_showComponent 227 = .ok (.getfield 280, 3) := by decide +kernel
theorem dX11_showComponent_230 : decode cX11_showComponent 230 = .ok (.invokevirtual 258, 3) := by decide +kernel
theorem dX11_showComponent_233 : decode cX11_showComponent 233 = .ok (.return_, 1) := by decide +kernel
theorem flRX11_43 : px_f RX11 43 11 8 := ⟨_, rfl, by decide, Or.inl (tb3 (List.mem_of_getElem? (i := 46) rfl))⟩
theorem flRX11_274 : px_f RX11 274 3 0 := ⟨_, rfl, by decide, Or.inl (tb1 (List.mem_of_getElem? (i := 137) rfl))⟩
theorem flRX11_280 : px_f RX11 280 3 1 := ⟨_, rfl, by decide, Or.inl (tb1 (List.mem_of_getElem? (i := 139) rfl))⟩
theorem kcX11_showComponent_251 : px_cS mX11_showComponent 251 mX11_up 2 := ⟨⟨mbX11_up, by decide, by decide⟩, Or.inl (tb5 (List.mem_of_getElem? (i := 161) rfl)), tb4 (List.mem_of_getElem? (i := 46) rfl)⟩
theorem mbX3_becomeFirst : px_mB mX3_becomeFirst 3 := ⟨tb5 (List.mem_of_getElem? (i := 188) rfl), by decide +kernel, tb1 (List.mem_of_getElem? (i := 4) rfl), by decide +kernel, by decide +kernel⟩
theorem vbX3_becomeFirst : px_vB mX3_becomeFirst := ⟨tb5 (List.mem_of_getElem? (i := 186) rfl), tb5 (List.mem_of_getElem? (i := 187) rfl)⟩
theorem kcX11_showComponent_258 : px_cV mX11_showComponent 258 mX3_becomeFirst 3 := ⟨⟨mbX3_becomeFirst, by decide, by decide⟩, Or.inl (tb5 (List.mem_of_getElem? (i := 185) rfl)), vbX3_becomeFirst⟩
theorem mbX9_back : px_mB mX9_back 6 := ⟨tb5 (List.mem_of_getElem? (i := 169) rfl), by decide +kernel, tb1 (List.mem_of_getElem? (i := 5) rfl), by decide +kernel, by decide +kernel⟩
theorem vbX9_back : px_vB mX9_back := ⟨tb5 (List.mem_of_getElem? (i := 167) rfl), tb5 (List.mem_of_getElem? (i := 168) rfl)⟩
theorem kcX11_showComponent_262 : px_cV mX11_showComponent 262 mX9_back 6 := ⟨⟨mbX9_back, by decide, by decide⟩, Or.inl (tb5 (List.mem_of_getElem? (i := 166) rfl)), vbX9_back⟩
theorem kcX11_showComponent_266 : px_cV mX11_showComponent 266 mX2_samplesAcross 1 := ⟨⟨mbX2_samplesAcross, by decide, by decide⟩, Or.inl (tb5 (List.mem_of_getElem? (i := 178) rfl)), vbX2_samplesAcross⟩
theorem kcX11_showComponent_277 : px_cV mX11_showComponent 277 mX2_samplesDown 1 := ⟨⟨mbX2_samplesDown, by decide, by decide⟩, Or.inl (tb5 (List.mem_of_getElem? (i := 180) rfl)), vbX2_samplesDown⟩
theorem mbX3_becomeGrownAcross : px_mB mX3_becomeGrownAcross 2 := ⟨tb5 (List.mem_of_getElem? (i := 184) rfl), by decide +kernel, tb1 (List.mem_of_getElem? (i := 4) rfl), by decide +kernel, by decide +kernel⟩
theorem vbX3_becomeGrownAcross : px_vB mX3_becomeGrownAcross := ⟨tb5 (List.mem_of_getElem? (i := 182) rfl), tb5 (List.mem_of_getElem? (i := 183) rfl)⟩
theorem kcX11_showComponent_282 : px_cV mX11_showComponent 282 mX3_becomeGrownAcross 2 := ⟨⟨mbX3_becomeGrownAcross, by decide, by decide⟩, Or.inl (tb5 (List.mem_of_getElem? (i := 181) rfl)), vbX3_becomeGrownAcross⟩
theorem mbX3_becomeGrownDown : px_mB mX3_becomeGrownDown 2 := ⟨tb5 (List.mem_of_getElem? (i := 193) rfl), by decide +kernel, tb1 (List.mem_of_getElem? (i := 4) rfl), by decide +kernel, by decide +kernel⟩
theorem vbX3_becomeGrownDown : px_vB mX3_becomeGrownDown := ⟨tb5 (List.mem_of_getElem? (i := 191) rfl), tb5 (List.mem_of_getElem? (i := 192) rfl)⟩
theorem kcX11_showComponent_286 : px_cV mX11_showComponent 286 mX3_becomeGrownDown 2 := ⟨⟨mbX3_becomeGrownDown, by decide, by decide⟩, Or.inl (tb5 (List.mem_of_getElem? (i := 190) rfl)), vbX3_becomeGrownDown⟩
set_option maxRecDepth 100000 in
set_option maxHeartbeats 4000000 in
theorem eX11_showComponent_177 {X : px_X}  : ∀ (a0 : Nat) (a1 : Int32) (a3 : Int32) (w : px_W) (q : px_W), fX11_showComponent_177 X  a0 a1 a3 w = some q → EV X mX11_showComponent 177 [(0, .ref a0), (1, .int a1), (3, .int a3)] [] w none q := by
  intro a0 a1 a3 w q h
  unfold fX11_showComponent_177 at h
  refine EV.aload_n 0 dX11_showComponent_177 rfl rfl ?_
  obtain ⟨v58, gv58, h⟩ := px_bs h
  refine ev_gR dX11_showComponent_178 flRX11_25 gv58 ?_
  obtain ⟨v59, gv59, h⟩ := px_bs h
  refine ev_gR dX11_showComponent_181 flRX11_216 gv59 ?_
  refine EV.iload_n 1 dX11_showComponent_184 rfl rfl ?_
  obtain ⟨v60, gv60, h⟩ := px_bs h
  refine ev_aI dX11_showComponent_185 gv60 ?_
  refine EV.aload_n 0 dX11_showComponent_186 rfl rfl ?_
  obtain ⟨v61, gv61, h⟩ := px_bs h
  refine ev_gR dX11_showComponent_187 flRX11_25 gv61 ?_
  obtain ⟨v62, gv62, h⟩ := px_bs h
  refine ev_gI dX11_showComponent_190 flRX11_234 gv62 ?_
  refine EV.icmp_ge 233 dX11_showComponent_193 (by decide) (fun c63 => ?_) (fun c63 => ?_)
  · rw [if_pos c63] at h
    cases h
    exact EV.ret0 dX11_showComponent_233 trivial
  · rw [if_neg c63] at h
    refine EV.aload_n 0 dX11_showComponent_196 rfl rfl ?_
    obtain ⟨v64, gv64, h⟩ := px_bs h
    refine ev_gR dX11_showComponent_197 flRX11_43 gv64 ?_
    refine EV.aload_n 0 dX11_showComponent_200 rfl rfl ?_
    obtain ⟨v65, gv65, h⟩ := px_bs h
    refine ev_gR dX11_showComponent_201 flRX11_39 gv65 ?_
    refine EV.iload_n 2 dX11_showComponent_204 rfl rfl ?_
    obtain ⟨o66, go66, h⟩ := px_bs h
    obtain ⟨q67, gq67, h⟩ := px_bs h
    refine EV.callV (As := [.ref v65, .int a3]) (rest := []) dX11_showComponent_205 kcX11_showComponent_286 (gO_ok go66) rfl rfl rfl (Nat.le_of_ble_eq_true rfl) (Nat.le_of_ble_eq_true rfl) (eX3_becomeGrownDown gq67) ?_
    refine EV.aload_n 0 dX11_showComponent_208 rfl rfl ?_
    obtain ⟨v68, gv68, h⟩ := px_bs h
    refine ev_gR dX11_showComponent_209 flRX11_39 gv68 ?_
    refine EV.aload_n 0 dX11_showComponent_212 rfl rfl ?_
    obtain ⟨v69, gv69, h⟩ := px_bs h
    refine ev_gR dX11_showComponent_213 flRX11_43 gv69 ?_
    refine EV.aload_n 0 dX11_showComponent_216 rfl rfl ?_
    obtain ⟨v70, gv70, h⟩ := px_bs h
    refine ev_gR dX11_showComponent_217 flRX11_43 gv70 ?_
    obtain ⟨v71, gv71, h⟩ := px_bs h
    refine ev_gI dX11_showComponent_220 flRX11_274 gv71 ?_
    refine EV.aload_n 0 dX11_showComponent_223 rfl rfl ?_
    obtain ⟨v72, gv72, h⟩ := px_bs h
    refine ev_gR dX11_showComponent_224 flRX11_43 gv72 ?_
    obtain ⟨v73, gv73, h⟩ := px_bs h
    refine ev_gI dX11_showComponent_227 flRX11_280 gv73 ?_
    obtain ⟨o74, go74, h⟩ := px_bs h
    obtain ⟨q75, gq75, h⟩ := px_bs h
    refine EV.callV (As := [.ref v69, .int v71, .int v73]) (rest := []) dX11_showComponent_230 kcX11_showComponent_258 (gO_ok go74) rfl rfl rfl (Nat.le_of_ble_eq_true rfl) (Nat.le_of_ble_eq_true rfl) (eX3_becomeFirst gq75) ?_
    cases h
    exact EV.ret0 dX11_showComponent_233 trivial
set_option maxRecDepth 100000 in
set_option maxHeartbeats 4000000 in
theorem eX11_showComponent_67 {X : px_X}  : ∀ (a0 : Nat) (a1 : Int32) (a2 : Int32) (a3 : Int32) (w : px_W) (q : px_W), fX11_showComponent_67 X  a0 a1 a2 a3 w = some q → EV X mX11_showComponent 67 [(0, .ref a0), (1, .int a1), (2, .int a2), (3, .int a3)] [] w none q := by
  intro a0 a1 a2 a3 w q h
  unfold fX11_showComponent_67 at h
  refine EV.aload_n 0 dX11_showComponent_67 rfl rfl ?_
  obtain ⟨v76, gv76, h⟩ := px_bs h
  refine ev_gR dX11_showComponent_68 flRX11_39 gv76 ?_
  refine EV.bipush (32) dX11_showComponent_71 (by decide) ?_
  refine EV.aload_n 0 dX11_showComponent_73 rfl rfl ?_
  obtain ⟨v77, gv77, h⟩ := px_bs h
  refine ev_gR dX11_showComponent_74 flRX11_25 gv77 ?_
  refine EV.iload_n 1 dX11_showComponent_77 rfl rfl ?_
  obtain ⟨o78, go78, h⟩ := px_bs h
  obtain ⟨q79, gq79, h⟩ := px_bs h
  refine EV.callV (As := [.int a1]) (rest := [.int 32, .ref v76]) dX11_showComponent_78 kcX11_showComponent_266 (gO_ok go78) rfl rfl rfl (Nat.le_of_ble_eq_true rfl) (Nat.le_of_ble_eq_true rfl) (eX2_samplesAcross gq79) ?_
  refine EV.iload_n 2 dX11_showComponent_81 rfl rfl ?_
  refine EV.imul dX11_showComponent_82 ?_
  refine EV.bipush (8) dX11_showComponent_83 (by decide) ?_
  obtain ⟨q80, gq80, h⟩ := px_bs h
  refine EV.callS (As := [.int (q79.1 * a2), .int 8]) (rest := [.int 32, .ref v76]) dX11_showComponent_85 kcX11_showComponent_251 rfl (Nat.le_of_ble_eq_true rfl) (Nat.le_of_ble_eq_true rfl) (eX11_up gq80) ?_
  refine EV.mmin dX11_showComponent_88 (tb5 (List.mem_of_getElem? (i := 179) rfl)) (by decide) (by decide) (Nat.le_of_ble_eq_true rfl) ?_
  obtain ⟨w81, gw81, h⟩ := px_bs h
  refine ev_pV dX11_showComponent_91 flRX11_274 rfl rfl rfl rfl gw81 ?_
  refine EV.aload_n 0 dX11_showComponent_94 rfl rfl ?_
  obtain ⟨v82, gv82, h⟩ := px_bs h
  refine ev_gR dX11_showComponent_95 flRX11_39 gv82 ?_
  refine EV.bipush (32) dX11_showComponent_98 (by decide) ?_
  refine EV.aload_n 0 dX11_showComponent_100 rfl rfl ?_
  obtain ⟨v83, gv83, h⟩ := px_bs h
  refine ev_gR dX11_showComponent_101 flRX11_25 gv83 ?_
  refine EV.iload_n 1 dX11_showComponent_104 rfl rfl ?_
  obtain ⟨o84, go84, h⟩ := px_bs h
  obtain ⟨q85, gq85, h⟩ := px_bs h
  refine EV.callV (As := [.int a1]) (rest := [.int 32, .ref v82]) dX11_showComponent_105 kcX11_showComponent_277 (gO_ok go84) rfl rfl rfl (Nat.le_of_ble_eq_true rfl) (Nat.le_of_ble_eq_true rfl) (eX2_samplesDown gq85) ?_
  refine EV.iload_n 2 dX11_showComponent_108 rfl rfl ?_
  refine EV.imul dX11_showComponent_109 ?_
  refine EV.bipush (8) dX11_showComponent_110 (by decide) ?_
  obtain ⟨q86, gq86, h⟩ := px_bs h
  refine EV.callS (As := [.int (q85.1 * a2), .int 8]) (rest := [.int 32, .ref v82]) dX11_showComponent_112 kcX11_showComponent_251 rfl (Nat.le_of_ble_eq_true rfl) (Nat.le_of_ble_eq_true rfl) (eX11_up gq86) ?_
  refine EV.mmin dX11_showComponent_115 (tb5 (List.mem_of_getElem? (i := 179) rfl)) (by decide) (by decide) (Nat.le_of_ble_eq_true rfl) ?_
  obtain ⟨w87, gw87, h⟩ := px_bs h
  refine ev_pV dX11_showComponent_118 flRX11_280 rfl rfl rfl rfl gw87 ?_
  refine EV.aload_n 0 dX11_showComponent_121 rfl rfl ?_
  obtain ⟨v88, gv88, h⟩ := px_bs h
  refine ev_gR dX11_showComponent_122 flRX11_25 gv88 ?_
  obtain ⟨v89, gv89, h⟩ := px_bs h
  refine ev_gR dX11_showComponent_125 flRX11_213 gv89 ?_
  refine EV.iload_n 1 dX11_showComponent_128 rfl rfl ?_
  obtain ⟨v90, gv90, h⟩ := px_bs h
  refine ev_aI dX11_showComponent_129 gv90 ?_
  refine EV.aload_n 0 dX11_showComponent_130 rfl rfl ?_
  obtain ⟨v91, gv91, h⟩ := px_bs h
  refine ev_gR dX11_showComponent_131 flRX11_25 gv91 ?_
  obtain ⟨v92, gv92, h⟩ := px_bs h
  refine ev_gI dX11_showComponent_134 flRX11_231 gv92 ?_
  refine EV.icmp_ge 177 dX11_showComponent_137 (by decide) (fun c93 => ?_) (fun c93 => ?_)
  · rw [if_pos c93] at h
    refine EV.sub [0, 1, 3] rfl ?_
    exact eX11_showComponent_177  _ _ _ _ _ h
  · rw [if_neg c93] at h
    refine EV.aload_n 0 dX11_showComponent_140 rfl rfl ?_
    obtain ⟨v94, gv94, h⟩ := px_bs h
    refine ev_gR dX11_showComponent_141 flRX11_43 gv94 ?_
    refine EV.aload_n 0 dX11_showComponent_144 rfl rfl ?_
    obtain ⟨v95, gv95, h⟩ := px_bs h
    refine ev_gR dX11_showComponent_145 flRX11_39 gv95 ?_
    refine EV.iload_n 3 dX11_showComponent_148 rfl rfl ?_
    obtain ⟨o96, go96, h⟩ := px_bs h
    obtain ⟨q97, gq97, h⟩ := px_bs h
    refine EV.callV (As := [.ref v95, .int a3]) (rest := []) dX11_showComponent_149 kcX11_showComponent_282 (gO_ok go96) rfl rfl rfl (Nat.le_of_ble_eq_true rfl) (Nat.le_of_ble_eq_true rfl) (eX3_becomeGrownAcross gq97) ?_
    refine EV.aload_n 0 dX11_showComponent_152 rfl rfl ?_
    obtain ⟨v98, gv98, h⟩ := px_bs h
    refine ev_gR dX11_showComponent_153 flRX11_39 gv98 ?_
    refine EV.aload_n 0 dX11_showComponent_156 rfl rfl ?_
    obtain ⟨v99, gv99, h⟩ := px_bs h
    refine ev_gR dX11_showComponent_157 flRX11_43 gv99 ?_
    refine EV.aload_n 0 dX11_showComponent_160 rfl rfl ?_
    obtain ⟨v100, gv100, h⟩ := px_bs h
    refine ev_gR dX11_showComponent_161 flRX11_43 gv100 ?_
    obtain ⟨v101, gv101, h⟩ := px_bs h
    refine ev_gI dX11_showComponent_164 flRX11_274 gv101 ?_
    refine EV.aload_n 0 dX11_showComponent_167 rfl rfl ?_
    obtain ⟨v102, gv102, h⟩ := px_bs h
    refine ev_gR dX11_showComponent_168 flRX11_43 gv102 ?_
    obtain ⟨v103, gv103, h⟩ := px_bs h
    refine ev_gI dX11_showComponent_171 flRX11_280 gv103 ?_
    obtain ⟨o104, go104, h⟩ := px_bs h
    obtain ⟨q105, gq105, h⟩ := px_bs h
    refine EV.callV (As := [.ref v99, .int v101, .int v103]) (rest := []) dX11_showComponent_174 kcX11_showComponent_258 (gO_ok go104) rfl rfl rfl (Nat.le_of_ble_eq_true rfl) (Nat.le_of_ble_eq_true rfl) (eX3_becomeFirst gq105) ?_
    refine EV.sub [0, 1, 3] rfl ?_
    exact eX11_showComponent_177  _ _ _ _ _ h
set_option maxRecDepth 100000 in
set_option maxHeartbeats 4000000 in
theorem eX11_showComponent_61 {X : px_X} {k3 : Nat → Int32 → Int32 → Int32 → Int32 → px_W → Option (px_W)} (hk3 : ∀ (a0 : Nat) (a1 : Int32) (a2 : Int32) (a3 : Int32) (a4 : Int32) (w : px_W) (q : px_W), k3 a0 a1 a2 a3 a4 w = some q → EV X mX11_showComponent 3 [(0, .ref a0), (1, .int a1), (2, .int a2), (3, .int a3), (4, .int a4)] [] w none q) : ∀ (a0 : Nat) (a1 : Int32) (a2 : Int32) (a3 : Int32) (a4 : Int32) (w : px_W) (q : px_W), fX11_showComponent_61 X k3 a0 a1 a2 a3 a4 w = some q → EV X mX11_showComponent 61 [(0, .ref a0), (1, .int a1), (2, .int a2), (3, .int a3), (4, .int a4)] [] w none q := by
  intro a0 a1 a2 a3 a4 w q h
  unfold fX11_showComponent_61 at h
  refine EV.iinc 4 (a4 + 1) [(4, .int (a4 + 1)), (0, .ref a0), (1, .int a1), (2, .int a2), (3, .int a3)] dX11_showComponent_61 rfl rfl (by decide) rfl ?_
  refine EV.goto 3 dX11_showComponent_64 (by decide) ?_
  refine EV.sub [1, 2, 3, 4, 0] rfl ?_
  exact hk3 _ _ _ _ _ _ _ h
set_option maxRecDepth 100000 in
set_option maxHeartbeats 4000000 in
theorem eX11_showComponent_20 {X : px_X} {k3 : Nat → Int32 → Int32 → Int32 → Int32 → px_W → Option (px_W)} (hk3 : ∀ (a0 : Nat) (a1 : Int32) (a2 : Int32) (a3 : Int32) (a4 : Int32) (w : px_W) (q : px_W), k3 a0 a1 a2 a3 a4 w = some q → EV X mX11_showComponent 3 [(0, .ref a0), (1, .int a1), (2, .int a2), (3, .int a3), (4, .int a4)] [] w none q) : ∀ (m : Nat) (a0 : Nat) (a1 : Int32) (a2 : Int32) (a3 : Int32) (a4 : Int32) (a5 : Int32) (w : px_W) (q : px_W), fX11_showComponent_20 X k3 m a0 a1 a2 a3 a4 a5 w = some q → EV X mX11_showComponent 20 [(0, .ref a0), (1, .int a1), (2, .int a2), (3, .int a3), (4, .int a4), (5, .int a5)] [] w none q := by
  intro m
  induction m with
  | zero => intro a0 a1 a2 a3 a4 a5 w q h; cases h
  | succ m ih =>
    intro a0 a1 a2 a3 a4 a5 w q h
    rw [fX11_showComponent_20.eq_2] at h
    refine EV.iload 5 dX11_showComponent_20 rfl ?_
    refine EV.aload_n 0 dX11_showComponent_22 rfl rfl ?_
    obtain ⟨v106, gv106, h⟩ := px_bs h
    refine ev_gR dX11_showComponent_23 flRX11_25 gv106 ?_
    obtain ⟨v107, gv107, h⟩ := px_bs h
    refine ev_gR dX11_showComponent_26 flRX11_244 gv107 ?_
    refine EV.iload_n 1 dX11_showComponent_29 rfl rfl ?_
    obtain ⟨v108, gv108, h⟩ := px_bs h
    refine ev_aI dX11_showComponent_30 gv108 ?_
    refine EV.icmp_ge 61 dX11_showComponent_31 (by decide) (fun c109 => ?_) (fun c109 => ?_)
    · rw [if_pos c109] at h
      refine EV.sub [0, 1, 2, 3, 4] rfl ?_
      exact eX11_showComponent_61 hk3 _ _ _ _ _ _ _ h
    · rw [if_neg c109] at h
      refine EV.aload_n 0 dX11_showComponent_34 rfl rfl ?_
      obtain ⟨v110, gv110, h⟩ := px_bs h
      refine ev_gR dX11_showComponent_35 flRX11_49 gv110 ?_
      refine EV.aload_n 0 dX11_showComponent_38 rfl rfl ?_
      obtain ⟨v111, gv111, h⟩ := px_bs h
      refine ev_gR dX11_showComponent_39 flRX11_25 gv111 ?_
      refine EV.iload_n 1 dX11_showComponent_42 rfl rfl ?_
      refine EV.iload 5 dX11_showComponent_43 rfl ?_
      refine EV.iload 4 dX11_showComponent_45 rfl ?_
      refine EV.iload_n 2 dX11_showComponent_47 rfl rfl ?_
      refine EV.aload_n 0 dX11_showComponent_48 rfl rfl ?_
      obtain ⟨v112, gv112, h⟩ := px_bs h
      refine ev_gR dX11_showComponent_49 flRX11_39 gv112 ?_
      obtain ⟨o113, go113, h⟩ := px_bs h
      obtain ⟨q114, gq114, h⟩ := px_bs h
      refine EV.callV (As := [.ref v111, .int a1, .int a5, .int a4, .int a2, .ref v112]) (rest := []) dX11_showComponent_52 kcX11_showComponent_262 (gO_ok go113) rfl rfl rfl (Nat.le_of_ble_eq_true rfl) (Nat.le_of_ble_eq_true rfl) (eX9_back gq114) ?_
      refine EV.iinc 5 (a5 + 1) [(5, .int (a5 + 1)), (0, .ref a0), (1, .int a1), (2, .int a2), (3, .int a3), (4, .int a4)] dX11_showComponent_55 rfl rfl (by decide) rfl ?_
      refine EV.goto 20 dX11_showComponent_58 (by decide) ?_
      refine EV.sub [1, 2, 3, 4, 5, 0] rfl ?_
      exact ih _ _ _ _ _ _ _ _ h
set_option maxRecDepth 100000 in
set_option maxHeartbeats 4000000 in
theorem eX11_showComponent_3 {X : px_X}  : ∀ (m : Nat) (a0 : Nat) (a1 : Int32) (a2 : Int32) (a3 : Int32) (a4 : Int32) (w : px_W) (q : px_W), fX11_showComponent_3 X  m a0 a1 a2 a3 a4 w = some q → EV X mX11_showComponent 3 [(0, .ref a0), (1, .int a1), (2, .int a2), (3, .int a3), (4, .int a4)] [] w none q := by
  intro m
  induction m with
  | zero => intro a0 a1 a2 a3 a4 w q h; cases h
  | succ m ih =>
    intro a0 a1 a2 a3 a4 w q h
    rw [fX11_showComponent_3.eq_2] at h
    refine EV.iload 4 dX11_showComponent_3 rfl ?_
    refine EV.aload_n 0 dX11_showComponent_5 rfl rfl ?_
    obtain ⟨v115, gv115, h⟩ := px_bs h
    refine ev_gR dX11_showComponent_6 flRX11_25 gv115 ?_
    obtain ⟨v116, gv116, h⟩ := px_bs h
    refine ev_gR dX11_showComponent_9 flRX11_241 gv116 ?_
    refine EV.iload_n 1 dX11_showComponent_12 rfl rfl ?_
    obtain ⟨v117, gv117, h⟩ := px_bs h
    refine ev_aI dX11_showComponent_13 gv117 ?_
    refine EV.icmp_ge 67 dX11_showComponent_14 (by decide) (fun c118 => ?_) (fun c118 => ?_)
    · rw [if_pos c118] at h
      refine EV.sub [0, 1, 2, 3] rfl ?_
      exact eX11_showComponent_67  _ _ _ _ _ _ h
    · rw [if_neg c118] at h
      refine EV.iconst (0) dX11_showComponent_17 (by decide) ?_
      refine EV.istore [(5, .int 0), (0, .ref a0), (1, .int a1), (2, .int a2), (3, .int a3), (4, .int a4)] dX11_showComponent_18 (by decide) rfl ?_
      refine EV.sub [1, 2, 3, 4, 5, 0] rfl ?_
      exact eX11_showComponent_20 ih FU _ _ _ _ _ _ _ _ h
set_option maxRecDepth 100000 in
set_option maxHeartbeats 4000000 in
theorem eX11_showComponent {X : px_X} {w : px_W} {a0 : Nat} {a1 : Int32} {a2 : Int32} {a3 : Int32} {q : px_W} (h : fX11_showComponent X w a0 a1 a2 a3 = some q) : EV X mX11_showComponent 0 (lv_args 0 [.ref a0, .int a1, .int a2, .int a3]) [] w none q := by
  unfold fX11_showComponent at h
  show EV X mX11_showComponent 0 [(0, .ref a0), (1, .int a1), (2, .int a2), (3, .int a3)] [] w none q
  refine EV.iconst (0) dX11_showComponent_0 (by decide) ?_
  refine EV.istore [(4, .int 0), (0, .ref a0), (1, .int a1), (2, .int a2), (3, .int a3)] dX11_showComponent_1 (by decide) rfl ?_
  refine EV.sub [1, 2, 3, 4, 0] rfl ?_
  exact eX11_showComponent_3  FU _ _ _ _ _ _ _ h
/-! WavePictures.showAt(IZ)Z -/
theorem dX11_showAt_0 : decode cX11_showAt 0 = .ok (.aload_n 0, 1) := by decide +kernel
theorem dX11_showAt_1 : decode cX11_showAt 1 = .ok (.getfield 169, 3) := by decide +kernel
theorem dX11_showAt_4 : decode cX11_showAt 4 = .ok (.ifCond .eq 24, 3) := by decide +kernel
theorem dX11_showAt_7 : decode cX11_showAt 7 = .ok (.iload_n 1, 1) := by decide +kernel
theorem dX11_showAt_8 : decode cX11_showAt 8 = .ok (.iconst 1, 1) := by decide +kernel
theorem dX11_showAt_9 : decode cX11_showAt 9 = .ok (.if_icmp .eq 21, 3) := by decide +kernel
theorem dX11_showAt_12 : decode cX11_showAt 12 = .ok (.iload_n 1, 1) := by decide +kernel
theorem dX11_showAt_13 : decode cX11_showAt 13 = .ok (.iconst 2, 1) := by decide +kernel
theorem dX11_showAt_14 : decode cX11_showAt 14 = .ok (.if_icmp .eq 16, 3) := by decide +kernel
theorem dX11_showAt_17 : decode cX11_showAt 17 = .ok (.iload_n 1, 1) := by decide +kernel
theorem dX11_showAt_18 : decode cX11_showAt 18 = .ok (.iconst 4, 1) := by decide +kernel
theorem dX11_showAt_19 : decode cX11_showAt 19 = .ok (.if_icmp .eq 11, 3) := by decide +kernel
theorem dX11_showAt_22 : decode cX11_showAt 22 = .ok (.iload_n 1, 1) := by decide +kernel
theorem dX11_showAt_23 : decode cX11_showAt 23 = .ok (.bipush 8, 2) := by decide +kernel
theorem dX11_showAt_25 : decode cX11_showAt 25 = .ok (.if_icmp .eq 5, 3) := by decide +kernel
theorem dX11_showAt_28 : decode cX11_showAt 28 = .ok (.iconst 0, 1) := by decide +kernel
theorem dX11_showAt_29 : decode cX11_showAt 29 = .ok (.ireturn, 1) := by decide +kernel
theorem dX11_showAt_30 : decode cX11_showAt 30 = .ok (.aload_n 0, 1) := by decide +kernel
theorem dX11_showAt_31 : decode cX11_showAt 31 = .ok (.getfield 25, 3) := by decide +kernel
theorem dX11_showAt_34 : decode cX11_showAt 34 = .ok (.getfield 219, 3) := by decide +kernel
theorem dX11_showAt_37 : decode cX11_showAt 37 = .ok (.iload_n 1, 1) := by decide +kernel
theorem dX11_showAt_38 : decode cX11_showAt 38 = .ok (.imul, 1) := by decide +kernel
theorem dX11_showAt_39 : decode cX11_showAt 39 = .ok (.bipush 8, 2) := by decide +kernel
theorem dX11_showAt_41 : decode cX11_showAt 41 = .ok (.invokestatic 251, 3) := by decide +kernel
theorem dX11_showAt_44 : decode cX11_showAt 44 = .ok (.istore_n 3, 1) := by decide +kernel
theorem dX11_showAt_45 : decode cX11_showAt 45 = .ok (.aload_n 0, 1) := by decide +kernel
theorem dX11_showAt_46 : decode cX11_showAt 46 = .ok (.getfield 25, 3) := by decide +kernel
theorem dX11_showAt_49 : decode cX11_showAt 49 = .ok (.getfield 222, 3) := by decide +kernel
theorem dX11_showAt_52 : decode cX11_showAt 52 = .ok (.iload_n 1, 1) := by decide +kernel
theorem dX11_showAt_53 : decode cX11_showAt 53 = .ok (.imul, 1) := by decide +kernel
theorem dX11_showAt_54 : decode cX11_showAt 54 = .ok (.bipush 8, 2) := by decide +kernel
theorem dX11_showAt_56 : decode cX11_showAt 56 = .ok (.invokestatic 251, 3) := by decide +kernel
theorem dX11_showAt_59 : decode cX11_showAt 59 = .ok (.istore 4, 2) := by decide +kernel
theorem dX11_showAt_61 : decode cX11_showAt 61 = .ok (.iload_n 3, 1) := by decide +kernel
theorem dX11_showAt_62 : decode cX11_showAt 62 = .ok (.bipush 32, 2) := by decide +kernel
theorem dX11_showAt_64 : decode cX11_showAt 64 = .ok (.if_icmp .gt 10, 3) := by decide +kernel
theorem dX11_showAt_67 : decode cX11_showAt 67 = .ok (.iload 4, 2) := by decide +kernel
theorem dX11_showAt_69 : decode cX11_showAt 69 = .ok (.bipush 32, 2) := by decide +kernel
theorem dX11_showAt_71 : decode cX11_showAt 71 = .ok (.if_icmp .le 5, 3) := by decide +kernel
theorem dX11_showAt_74 : decode cX11_showAt 74 = .ok (.iconst 0, 1) := by decide +kernel
theorem dX11_showAt_75 : decode cX11_showAt 75 = .ok (.ireturn, 1) := by decide +kernel
theorem dX11_showAt_76 : decode cX11_showAt 76 = .ok (.iconst 0, 1) := by decide +kernel
theorem dX11_showAt_77 : decode cX11_showAt 77 = .ok (.istore 5, 2) := by decide +kernel
theorem dX11_showAt_79 : decode cX11_showAt 79 = .ok (.iload 5, 2) := by decide +kernel
theorem dX11_showAt_81 : decode cX11_showAt 81 = .ok (.aload_n 0, 1) := by decide +kernel
theorem dX11_showAt_82 : decode cX11_showAt 82 = .ok (.getfield 25, 3) := by decide +kernel
theorem dX11_showAt_85 : decode cX11_showAt 85 = .ok (.getfield 196, 3) := by decide +kernel
theorem dX11_showAt_88 : decode cX11_showAt 88 = .ok (.if_icmp .ge 34, 3) := by decide +kernel
theorem dX11_showAt_91 : decode cX11_showAt 91 = .ok (.aload_n 0, 1) := by decide +kernel
theorem dX11_showAt_92 : decode cX11_showAt 92 = .ok (.iload 5, 2) := by decide +kernel
theorem dX11_showAt_94 : decode cX11_showAt 94 = .ok (.iload_n 1, 1) := by decide +kernel
theorem dX11_showAt_95 : decode cX11_showAt 95 = .ok (.iload_n 2, 1) := by decide +kernel
theorem dX11_showAt_96 : decode cX11_showAt 96 = .ok (.invokevirtual 254, 3) := by decide +kernel
theorem dX11_showAt_99 : decode cX11_showAt 99 = .ok (.aload_n 0, 1) := by decide +kernel
theorem dX11_showAt_100 : decode cX11_showAt 100 = .ok (.getfield 34, 3) := by decide +kernel
theorem dX11_showAt_103 : decode cX11_showAt 103 = .ok (.iload 5, 2) := by decide +kernel
theorem dX11_showAt_105 : decode cX11_showAt 105 = .ok (.aaload, 1) := by decide +kernel
theorem dX11_showAt_106 : decode cX11_showAt 106 = .ok (.aload_n 0, 1) := by decide +kernel
theorem dX11_showAt_107 : decode cX11_showAt 107 = .ok (.getfield 39, 3) := by decide +kernel
theorem dX11_showAt_110 : decode cX11_showAt 110 = .ok (.iload_n 3, 1) := by decide +kernel
theorem dX11_showAt_111 : decode cX11_showAt 111 = .ok (.iload 4, 2) := by decide +kernel
theorem dX11_showAt_113 : decode cX11_showAt 113 = .ok (.invokevirtual 258, 3) := by decide +kernel
theorem dX11_showAt_116 : decode cX11_showAt 116 = .ok (.iinc 5 1, 3) := by decide +kernel
theorem dX11_showAt_119 : decode cX11_showAt 119 = .ok (.goto (-40), 3) := by decide +kernel
theorem dX11_showAt_122 : decode cX11_showAt 122 = .ok (.iconst 1, 1) := by decide +kernel
theorem dX11_showAt_123 : decode cX11_showAt 123 = .ok (.ireturn, 1) := by decide +kernel
theorem kcX11_showAt_251 : px_cS mX11_showAt 251 mX11_up 2 := ⟨⟨mbX11_up, by decide, by decide⟩, Or.inl (tb5 (List.mem_of_getElem? (i := 161) rfl)), tb4 (List.mem_of_getElem? (i := 46) rfl)⟩
theorem mbX11_showComponent : px_mB mX11_showComponent 3 := ⟨tb5 (List.mem_of_getElem? (i := 165) rfl), by decide +kernel, tb1 (List.mem_of_getElem? (i := 1) rfl), by decide +kernel, by decide +kernel⟩
theorem vbX11_showComponent : px_vB mX11_showComponent := ⟨tb5 (List.mem_of_getElem? (i := 164) rfl), List.mem_append_left _ (List.mem_of_getElem? (i := 73) (by decide +kernel))⟩
theorem kcX11_showAt_254 : px_cV mX11_showAt 254 mX11_showComponent 3 := ⟨⟨mbX11_showComponent, by decide, by decide⟩, Or.inl (tb5 (List.mem_of_getElem? (i := 162) rfl)), vbX11_showComponent⟩
theorem kcX11_showAt_258 : px_cV mX11_showAt 258 mX3_becomeFirst 3 := ⟨⟨mbX3_becomeFirst, by decide, by decide⟩, Or.inl (tb5 (List.mem_of_getElem? (i := 185) rfl)), vbX3_becomeFirst⟩
set_option maxRecDepth 100000 in
set_option maxHeartbeats 4000000 in
theorem eX11_showAt_79 {X : px_X}  : ∀ (m : Nat) (a0 : Nat) (a1 : Int32) (a2 : Int32) (a3 : Int32) (a4 : Int32) (a5 : Int32) (w : px_W) (q : Int32 × px_W), fX11_showAt_79 X  m a0 a1 a2 a3 a4 a5 w = some q → EV X mX11_showAt 79 [(0, .ref a0), (1, .int a1), (2, .int a2), (3, .int a3), (4, .int a4), (5, .int a5)] [] w (some (.int q.1)) q.2 := by
  intro m
  induction m with
  | zero => intro a0 a1 a2 a3 a4 a5 w q h; cases h
  | succ m ih =>
    intro a0 a1 a2 a3 a4 a5 w q h
    rw [fX11_showAt_79.eq_2] at h
    refine EV.iload 5 dX11_showAt_79 rfl ?_
    refine EV.aload_n 0 dX11_showAt_81 rfl rfl ?_
    obtain ⟨v17, gv17, h⟩ := px_bs h
    refine ev_gR dX11_showAt_82 flRX11_25 gv17 ?_
    obtain ⟨v18, gv18, h⟩ := px_bs h
    refine ev_gI dX11_showAt_85 flRX11_196 gv18 ?_
    refine EV.icmp_ge 122 dX11_showAt_88 (by decide) (fun c19 => ?_) (fun c19 => ?_)
    · rw [if_pos c19] at h
      refine EV.iconst (1) dX11_showAt_122 (by decide) ?_
      cases h
      exact EV.reti dX11_showAt_123 rfl
    · rw [if_neg c19] at h
      refine EV.aload_n 0 dX11_showAt_91 rfl rfl ?_
      refine EV.iload 5 dX11_showAt_92 rfl ?_
      refine EV.iload_n 1 dX11_showAt_94 rfl rfl ?_
      refine EV.iload_n 2 dX11_showAt_95 rfl rfl ?_
      obtain ⟨o20, go20, h⟩ := px_bs h
      obtain ⟨q21, gq21, h⟩ := px_bs h
      refine EV.callV (As := [.int a5, .int a1, .int a2]) (rest := []) dX11_showAt_96 kcX11_showAt_254 (gO_ok go20) rfl rfl rfl (Nat.le_of_ble_eq_true rfl) (Nat.le_of_ble_eq_true rfl) (eX11_showComponent gq21) ?_
      refine EV.aload_n 0 dX11_showAt_99 rfl rfl ?_
      obtain ⟨v22, gv22, h⟩ := px_bs h
      refine ev_gR dX11_showAt_100 flRX11_34 gv22 ?_
      refine EV.iload 5 dX11_showAt_103 rfl ?_
      obtain ⟨v23, gv23, h⟩ := px_bs h
      refine ev_aQ dX11_showAt_105 (t := 6) rfl gv23 ?_
      refine EV.aload_n 0 dX11_showAt_106 rfl rfl ?_
      obtain ⟨v24, gv24, h⟩ := px_bs h
      refine ev_gR dX11_showAt_107 flRX11_39 gv24 ?_
      refine EV.iload_n 3 dX11_showAt_110 rfl rfl ?_
      refine EV.iload 4 dX11_showAt_111 rfl ?_
      obtain ⟨o25, go25, h⟩ := px_bs h
      obtain ⟨q26, gq26, h⟩ := px_bs h
      refine EV.callV (As := [.ref v24, .int a3, .int a4]) (rest := []) dX11_showAt_113 kcX11_showAt_258 (gO_ok go25) rfl rfl rfl (Nat.le_of_ble_eq_true rfl) (Nat.le_of_ble_eq_true rfl) (eX3_becomeFirst gq26) ?_
      refine EV.iinc 5 (a5 + 1) [(5, .int (a5 + 1)), (0, .ref a0), (1, .int a1), (2, .int a2), (3, .int a3), (4, .int a4)] dX11_showAt_116 rfl rfl (by decide) rfl ?_
      refine EV.goto 79 dX11_showAt_119 (by decide) ?_
      refine EV.sub [1, 2, 3, 4, 5, 0] rfl ?_
      exact ih _ _ _ _ _ _ _ _ h
set_option maxRecDepth 100000 in
set_option maxHeartbeats 4000000 in
theorem eX11_showAt_30 {X : px_X}  : ∀ (a0 : Nat) (a1 : Int32) (a2 : Int32) (w : px_W) (q : Int32 × px_W), fX11_showAt_30 X  a0 a1 a2 w = some q → EV X mX11_showAt 30 [(0, .ref a0), (1, .int a1), (2, .int a2)] [] w (some (.int q.1)) q.2 := by
  intro a0 a1 a2 w q h
  unfold fX11_showAt_30 at h
  refine EV.aload_n 0 dX11_showAt_30 rfl rfl ?_
  obtain ⟨v27, gv27, h⟩ := px_bs h
  refine ev_gR dX11_showAt_31 flRX11_25 gv27 ?_
  obtain ⟨v28, gv28, h⟩ := px_bs h
  refine ev_gI dX11_showAt_34 flRX11_219 gv28 ?_
  refine EV.iload_n 1 dX11_showAt_37 rfl rfl ?_
  refine EV.imul dX11_showAt_38 ?_
  refine EV.bipush (8) dX11_showAt_39 (by decide) ?_
  obtain ⟨q29, gq29, h⟩ := px_bs h
  refine EV.callS (As := [.int (v28 * a1), .int 8]) (rest := []) dX11_showAt_41 kcX11_showAt_251 rfl (Nat.le_of_ble_eq_true rfl) (Nat.le_of_ble_eq_true rfl) (eX11_up gq29) ?_
  refine EV.istore_n [(3, .int q29.1), (0, .ref a0), (1, .int a1), (2, .int a2)] dX11_showAt_44 rfl (by decide) rfl ?_
  refine EV.aload_n 1 dX11_showAt_45 rfl rfl ?_
  obtain ⟨v30, gv30, h⟩ := px_bs h
  refine ev_gR dX11_showAt_46 flRX11_25 gv30 ?_
  obtain ⟨v31, gv31, h⟩ := px_bs h
  refine ev_gI dX11_showAt_49 flRX11_222 gv31 ?_
  refine EV.iload_n 2 dX11_showAt_52 rfl rfl ?_
  refine EV.imul dX11_showAt_53 ?_
  refine EV.bipush (8) dX11_showAt_54 (by decide) ?_
  obtain ⟨q32, gq32, h⟩ := px_bs h
  refine EV.callS (As := [.int (v31 * a1), .int 8]) (rest := []) dX11_showAt_56 kcX11_showAt_251 rfl (Nat.le_of_ble_eq_true rfl) (Nat.le_of_ble_eq_true rfl) (eX11_up gq32) ?_
  refine EV.istore [(4, .int q32.1), (3, .int q29.1), (0, .ref a0), (1, .int a1), (2, .int a2)] dX11_showAt_59 (by decide) rfl ?_
  refine EV.iload_n 1 dX11_showAt_61 rfl rfl ?_
  refine EV.bipush (32) dX11_showAt_62 (by decide) ?_
  refine EV.icmp_gt 74 dX11_showAt_64 (by decide) (fun c33 => ?_) (fun c33 => ?_)
  · rw [if_pos c33] at h
    refine EV.iconst (0) dX11_showAt_74 (by decide) ?_
    cases h
    exact EV.reti dX11_showAt_75 rfl
  · rw [if_neg c33] at h
    refine EV.iload 0 dX11_showAt_67 rfl ?_
    refine EV.bipush (32) dX11_showAt_69 (by decide) ?_
    refine EV.icmp_le 76 dX11_showAt_71 (by decide) (fun c34 => ?_) (fun c34 => ?_)
    · rw [if_pos c34] at h
      refine EV.iconst (0) dX11_showAt_76 (by decide) ?_
      refine EV.istore [(5, .int 0), (4, .int q32.1), (3, .int q29.1), (0, .ref a0), (1, .int a1), (2, .int a2)] dX11_showAt_77 (by decide) rfl ?_
      refine EV.sub [3, 4, 5, 2, 1, 0] rfl ?_
      exact eX11_showAt_79  FU _ _ _ _ _ _ _ _ h
    · rw [if_neg c34] at h
      refine EV.iconst (0) dX11_showAt_74 (by decide) ?_
      cases h
      exact EV.reti dX11_showAt_75 rfl
set_option maxRecDepth 100000 in
set_option maxHeartbeats 4000000 in
theorem eX11_showAt {X : px_X} {w : px_W} {a0 : Nat} {a1 : Int32} {a2 : Int32} {q : Int32 × px_W} (h : fX11_showAt X w a0 a1 a2 = some q) : EV X mX11_showAt 0 (lv_args 0 [.ref a0, .int a1, .int a2]) [] w (some (.int q.1)) q.2 := by
  unfold fX11_showAt at h
  show EV X mX11_showAt 0 [(0, .ref a0), (1, .int a1), (2, .int a2)] [] w (some (.int q.1)) q.2
  refine EV.aload_n 0 dX11_showAt_0 rfl rfl ?_
  obtain ⟨v35, gv35, h⟩ := px_bs h
  refine ev_gI dX11_showAt_1 flRX11_169 gv35 ?_
  refine EV.if_eq 28 dX11_showAt_4 (by decide) (fun c36 => ?_) (fun c36 => ?_)
  · rw [if_pos c36] at h
    refine EV.iconst (0) dX11_showAt_28 (by decide) ?_
    cases h
    exact EV.reti dX11_showAt_29 rfl
  · rw [if_neg c36] at h
    refine EV.iload_n 1 dX11_showAt_7 rfl rfl ?_
    refine EV.iconst (1) dX11_showAt_8 (by decide) ?_
    refine EV.icmp_eq 30 dX11_showAt_9 (by decide) (fun c37 => ?_) (fun c37 => ?_)
    · rw [if_pos c37] at h
      refine EV.sub [0, 1, 2] rfl ?_
      exact eX11_showAt_30  _ _ _ _ _ h
    · rw [if_neg c37] at h
      refine EV.iload_n 1 dX11_showAt_12 rfl rfl ?_
      refine EV.iconst (2) dX11_showAt_13 (by decide) ?_
      refine EV.icmp_eq 30 dX11_showAt_14 (by decide) (fun c38 => ?_) (fun c38 => ?_)
      · rw [if_pos c38] at h
        refine EV.sub [0, 1, 2] rfl ?_
        exact eX11_showAt_30  _ _ _ _ _ h
      · rw [if_neg c38] at h
        refine EV.iload_n 1 dX11_showAt_17 rfl rfl ?_
        refine EV.iconst (4) dX11_showAt_18 (by decide) ?_
        refine EV.icmp_eq 30 dX11_showAt_19 (by decide) (fun c39 => ?_) (fun c39 => ?_)
        · rw [if_pos c39] at h
          refine EV.sub [0, 1, 2] rfl ?_
          exact eX11_showAt_30  _ _ _ _ _ h
        · rw [if_neg c39] at h
          refine EV.iload_n 1 dX11_showAt_22 rfl rfl ?_
          refine EV.bipush (8) dX11_showAt_23 (by decide) ?_
          refine EV.icmp_eq 30 dX11_showAt_25 (by decide) (fun c40 => ?_) (fun c40 => ?_)
          · rw [if_pos c40] at h
            refine EV.sub [0, 1, 2] rfl ?_
            exact eX11_showAt_30  _ _ _ _ _ h
          · rw [if_neg c40] at h
            refine EV.iconst (0) dX11_showAt_28 (by decide) ?_
            cases h
            exact EV.reti dX11_showAt_29 rfl
/-! WavePictures.turnBy(I)Z -/
theorem dX11_turnBy_0 : decode cX11_turnBy 0 = .ok (.aload_n 0, 1) := by decide +kernel
theorem dX11_turnBy_1 : decode cX11_turnBy 1 = .ok (.getfield 169, 3) := by decide +kernel
theorem dX11_turnBy_4 : decode cX11_turnBy 4 = .ok (.ifCond .eq 12, 3) := by decide +kernel
theorem dX11_turnBy_7 : decode cX11_turnBy 7 = .ok (.iload_n 1, 1) := by decide +kernel
theorem dX11_turnBy_8 : decode cX11_turnBy 8 = .ok (.ifCond .lt 8, 3) := by decide +kernel
theorem dX11_turnBy_11 : decode cX11_turnBy 11 = .ok (.iload_n 1, 1) := by decide +kernel
theorem dX11_turnBy_12 : decode cX11_turnBy 12 = .ok (.iconst 5, 1) := by decide +kernel
theorem dX11_turnBy_13 : decode cX11_turnBy 13 = .ok (.if_icmp .le 5, 3) := by decide +kernel
theorem dX11_turnBy_16 : decode cX11_turnBy 16 = .ok (.iconst 0, 1) := by decide +kernel
theorem dX11_turnBy_17 : decode cX11_turnBy 17 = .ok (.ireturn, 1) := by decide +kernel
theorem dX11_turnBy_18 : decode cX11_turnBy 18 = .ok (.iload_n 1, 1) := by decide +kernel
theorem dX11_turnBy_19 : decode cX11_turnBy 19 = .ok (.ifCond .eq 13, 3) := by decide +kernel
theorem dX11_turnBy_22 : decode cX11_turnBy 22 = .ok (.iload_n 1, 1) := by decide +kernel
theorem dX11_turnBy_23 : decode cX11_turnBy 23 = .ok (.iconst 3, 1) := by decide +kernel
theorem dX11_turnBy_24 : decode cX11_turnBy 24 = .ok (.if_icmp .eq 8, 3) := by decide +kernel
theorem dX11_turnBy_27 : decode cX11_turnBy 27 = .ok (.iload_n 1, 1) := by decide +kernel
theorem dX11_turnBy_28 : decode cX11_turnBy 28 = .ok (.iconst 5, 1) := by decide +kernel
theorem dX11_turnBy_29 : decode cX11_turnBy 29 = .ok (.if_icmp .ne 7, 3) := by decide +kernel
theorem dX11_turnBy_32 : decode cX11_turnBy 32 = .ok (.iconst 1, 1) := by decide +kernel
theorem dX11_turnBy_33 : decode cX11_turnBy 33 = .ok (.goto 4, 3) := by decide +kernel
theorem dX11_turnBy_36 : decode cX11_turnBy 36 = .ok (.iconst 0, 1) := by decide +kernel
theorem dX11_turnBy_37 : decode cX11_turnBy 37 = .ok (.istore_n 2, 1) := by decide +kernel
theorem dX11_turnBy_38 : decode cX11_turnBy 38 = .ok (.iload_n 1, 1) := by decide +kernel
theorem dX11_turnBy_39 : decode cX11_turnBy 39 = .ok (.iconst 1, 1) := by decide +kernel
theorem dX11_turnBy_40 : decode cX11_turnBy 40 = .ok (.if_icmp .eq 13, 3) := by decide +kernel
theorem dX11_turnBy_43 : decode cX11_turnBy 43 = .ok (.iload_n 1, 1) := by decide +kernel
theorem dX11_turnBy_44 : decode cX11_turnBy 44 = .ok (.iconst 3, 1) := by decide +kernel
theorem dX11_turnBy_45 : decode cX11_turnBy 45 = .ok (.if_icmp .eq 8, 3) := by decide +kernel
theorem dX11_turnBy_48 : decode cX11_turnBy 48 = .ok (.iload_n 1, 1) := by decide +kernel
theorem dX11_turnBy_49 : decode cX11_turnBy 49 = .ok (.iconst 4, 1) := by decide +kernel
theorem dX11_turnBy_50 : decode cX11_turnBy 50 = .ok (.if_icmp .ne 7, 3) := by decide +kernel
theorem dX11_turnBy_53 : decode cX11_turnBy 53 = .ok (.iconst 1, 1) := by decide +kernel
theorem dX11_turnBy_54 : decode cX11_turnBy 54 = .ok (.goto 4, 3) := by decide +kernel
theorem dX11_turnBy_57 : decode cX11_turnBy 57 = .ok (.iconst 0, 1) := by decide +kernel
theorem dX11_turnBy_58 : decode cX11_turnBy 58 = .ok (.istore_n 3, 1) := by decide +kernel
theorem dX11_turnBy_59 : decode cX11_turnBy 59 = .ok (.iload_n 1, 1) := by decide +kernel
theorem dX11_turnBy_60 : decode cX11_turnBy 60 = .ok (.iconst 2, 1) := by decide +kernel
theorem dX11_turnBy_61 : decode cX11_turnBy 61 = .ok (.if_icmp .eq 13, 3) := by decide +kernel
theorem dX11_turnBy_64 : decode cX11_turnBy 64 = .ok (.iload_n 1, 1) := by decide +kernel
theorem dX11_turnBy_65 : decode cX11_turnBy 65 = .ok (.iconst 4, 1) := by decide +kernel
theorem dX11_turnBy_66 : decode cX11_turnBy 66 = .ok (.if_icmp .eq 8, 3) := by decide +kernel
theorem dX11_turnBy_69 : decode cX11_turnBy 69 = .ok (.iload_n 1, 1) := by decide +kernel
theorem dX11_turnBy_70 : decode cX11_turnBy 70 = .ok (.iconst 5, 1) := by decide +kernel
theorem dX11_turnBy_71 : decode cX11_turnBy 71 = .ok (.if_icmp .ne 7, 3) := by decide +kernel
theorem dX11_turnBy_74 : decode cX11_turnBy 74 = .ok (.iconst 1, 1) := by decide +kernel
theorem dX11_turnBy_75 : decode cX11_turnBy 75 = .ok (.goto 4, 3) := by decide +kernel
theorem dX11_turnBy_78 : decode cX11_turnBy 78 = .ok (.iconst 0, 1) := by decide +kernel
theorem dX11_turnBy_79 : decode cX11_turnBy 79 = .ok (.istore 4, 2) := by decide +kernel
theorem dX11_turnBy_81 : decode cX11_turnBy 81 = .ok (.aload_n 0, 1) := by decide +kernel
theorem dX11_turnBy_82 : decode cX11_turnBy 82 = .ok (.getfield 25, 3) := by decide +kernel
theorem dX11_turnBy_85 : decode cX11_turnBy 85 = .ok (.getfield 219, 3) := by decide +kernel
theorem dX11_turnBy_88 : decode cX11_turnBy 88 = .ok (.bipush 8, 2) := by decide +kernel
theorem dX11_turnBy_90 : decode cX11_turnBy 90 = .ok (.aload_n 0, 1) := by decide +kernel
theorem dX11_turnBy_91 : decode cX11_turnBy 91 = .ok (.getfield 25, 3) := by decide +kernel
theorem dX11_turnBy_94 : decode cX11_turnBy 94 = .ok (.getfield 231, 3) := by decide +kernel
theorem dX11_turnBy_97 : decode cX11_turnBy 97 = .ok (.imul, 1) := by decide +kernel
theorem dX11_turnBy_98 : decode cX11_turnBy 98 = .ok (.idiv, 1) := by decide +kernel
theorem dX11_turnBy_99 : decode cX11_turnBy 99 = .ok (.istore 5, 2) := by decide +kernel
theorem dX11_turnBy_101 : decode cX11_turnBy 101 = .ok (.aload_n 0, 1) := by decide +kernel
theorem dX11_turnBy_102 : decode cX11_turnBy 102 = .ok (.getfield 25, 3) := by decide +kernel
theorem dX11_turnBy_105 : decode cX11_turnBy 105 = .ok (.getfield 222, 3) := by decide +kernel
theorem dX11_turnBy_108 : decode cX11_turnBy 108 = .ok (.bipush 8, 2) := by decide +kernel
theorem dX11_turnBy_110 : decode cX11_turnBy 110 = .ok (.aload_n 0, 1) := by decide +kernel
theorem dX11_turnBy_111 : decode cX11_turnBy 111 = .ok (.getfield 25, 3) := by decide +kernel
theorem dX11_turnBy_114 : decode cX11_turnBy 114 = .ok (.getfield 234, 3) := by decide +kernel
theorem dX11_turnBy_117 : decode cX11_turnBy 117 = .ok (.imul, 1) := by decide +kernel
theorem dX11_turnBy_118 : decode cX11_turnBy 118 = .ok (.idiv, 1) := by decide +kernel
theorem dX11_turnBy_119 : decode cX11_turnBy 119 = .ok (.istore 6, 2) := by decide +kernel
theorem dX11_turnBy_121 : decode cX11_turnBy 121 = .ok (.iload_n 3, 1) := by decide +kernel
theorem dX11_turnBy_122 : decode cX11_turnBy 122 = .ok (.ifCond .eq 17, 3) := by decide +kernel
theorem dX11_turnBy_125 : decode cX11_turnBy 125 = .ok (.iload_n 2, 1) := by decide +kernel
theorem dX11_turnBy_126 : decode cX11_turnBy 126 = .ok (.ifCond .eq 8, 3) := by decide +kernel
theorem dX11_turnBy_129 : decode cX11_turnBy 129 = .ok (.iload 6, 2) := by decide +kernel
theorem dX11_turnBy_131 : decode cX11_turnBy 131 = .ok (.goto 5, 3) := by decide +kernel
theorem dX11_turnBy_134 : decode cX11_turnBy 134 = .ok (.iload 5, 2) := by decide +kernel
theorem dX11_turnBy_136 : decode cX11_turnBy 136 = .ok (.ifCond .eq 22, 3) := by decide +kernel
theorem dX11_turnBy_139 : decode cX11_turnBy 139 = .ok (.iload 4, 2) := by decide +kernel
theorem dX11_turnBy_141 : decode cX11_turnBy 141 = .ok (.ifCond .eq 19, 3) := by decide +kernel
theorem dX11_turnBy_144 : decode cX11_turnBy 144 = .ok (.iload_n 2, 1) := by decide +kernel
theorem dX11_turnBy_145 : decode cX11_turnBy 145 = .ok (.ifCond .eq 8, 3) := by decide +kernel
theorem dX11_turnBy_148 : decode cX11_turnBy 148 = .ok (.iload 5, 2) := by decide +kernel
theorem dX11_turnBy_150 : decode cX11_turnBy 150 = .ok (.goto 5, 3) := by decide +kernel
theorem dX11_turnBy_153 : decode cX11_turnBy 153 = .ok (.iload 6, 2) := by decide +kernel
theorem dX11_turnBy_155 : decode cX11_turnBy 155 = .ok (.ifCond .ne 5, 3) := by decide +kernel
theorem dX11_turnBy_158 : decode cX11_turnBy 158 = .ok (.iconst 0, 1) := by decide +kernel
theorem dX11_turnBy_159 : decode cX11_turnBy 159 = .ok (.ireturn, 1) := by decide +kernel
theorem dX11_turnBy_160 : decode cX11_turnBy 160 = .ok (.iload_n 2, 1) := by decide +kernel
theorem dX11_turnBy_161 : decode cX11_turnBy 161 = .ok (.ifCond .eq 18, 3) := by decide +kernel
theorem dX11_turnBy_164 : decode cX11_turnBy 164 = .ok (.aload_n 0, 1) := by decide +kernel
theorem dX11_turnBy_165 : decode cX11_turnBy 165 = .ok (.getfield 29, 3) := by decide +kernel
theorem dX11_turnBy_168 : decode cX11_turnBy 168 = .ok (.aload_n 0, 1) := by decide +kernel
theorem dX11_turnBy_169 : decode cX11_turnBy 169 = .ok (.getfield 25, 3) := by decide +kernel
theorem dX11_turnBy_172 : decode cX11_turnBy 172 = .ok (.invokevirtual 289, 3) := by decide +kernel
theorem dX11_turnBy_175 : decode cX11_turnBy 175 = .ok (.aload_n 0, 1) := by decide +kernel
theorem dX11_turnBy_176 : decode cX11_turnBy 176 = .ok (.invokevirtual 166, 3) := by decide +kernel
theorem dX11_turnBy_179 : decode cX11_turnBy 179 = .ok (.iload_n 3, 1) := by decide +kernel
theorem dX11_turnBy_180 : decode cX11_turnBy 180 = .ok (.ifCond .ne 8, 3) := by decide +kernel
theorem dX11_turnBy_183 : decode cX11_turnBy 183 = .ok (.iload 4, 2) := by decide +kernel
theorem dX11_turnBy_185 : decode cX11_turnBy 185 = .ok (.ifCond .eq 21, 3) := by decide +kernel
theorem dX11_turnBy_188 : decode cX11_turnBy 188 = .ok (.aload_n 0, 1) := by decide +kernel
theorem dX11_turnBy_189 : decode cX11_turnBy 189 = .ok (.getfield 29, 3) := by decide +kernel
theorem dX11_turnBy_192 : decode cX11_turnBy 192 = .ok (.aload_n 0, 1) := by decide +kernel
theorem dX11_turnBy_193 : decode cX11_turnBy 193 = .ok (.getfield 25, 3) := by decide +kernel
theorem dX11_turnBy_196 : decode cX11_turnBy 196 = .ok (.iload_n 3, 1) := by decide +kernel
theorem dX11_turnBy_197 : decode cX11_turnBy 197 = .ok (.iload 4, 2) := by decide +kernel
theorem dX11_turnBy_199 : decode cX11_turnBy 199 = .ok (.invokevirtual 292, 3) := by decide +kernel
theorem dX11_turnBy_202 : decode cX11_turnBy 202 = .ok (.aload_n 0, 1) := by decide +kernel
theorem dX11_turnBy_203 : decode cX11_turnBy 203 = .ok (.invokevirtual 166, 3) := by decide +kernel
theorem dX11_turnBy_206 : decode cX11_turnBy 206 = .ok (.iconst 1, 1) := by decide +kernel
theorem dX11_turnBy_207 : decode cX11_turnBy 207 = .ok (.ireturn, 1) := by decide +kernel
theorem kcX11_turnBy_166 : px_cV mX11_turnBy 166 mX11_takeDraft 0 := ⟨⟨mbX11_takeDraft, by decide, by decide⟩, Or.inl (tb4 (List.mem_of_getElem? (i := 167) rfl)), vbX11_takeDraft⟩
theorem mbX2_becomeTransposed : px_mB mX2_becomeTransposed 1 := ⟨tb5 (List.mem_of_getElem? (i := 201) rfl), by decide +kernel, tb1 (List.mem_of_getElem? (i := 3) rfl), by decide +kernel, by decide +kernel⟩
theorem vbX2_becomeTransposed : px_vB mX2_becomeTransposed := ⟨tb5 (List.mem_of_getElem? (i := 199) rfl), tb5 (List.mem_of_getElem? (i := 200) rfl)⟩
theorem kcX11_turnBy_289 : px_cV mX11_turnBy 289 mX2_becomeTransposed 1 := ⟨⟨mbX2_becomeTransposed, by decide, by decide⟩, Or.inl (tb5 (List.mem_of_getElem? (i := 198) rfl)), vbX2_becomeTransposed⟩
theorem mbX2_becomeReflected : px_mB mX2_becomeReflected 3 := ⟨tb5 (List.mem_of_getElem? (i := 208) rfl), by decide +kernel, tb1 (List.mem_of_getElem? (i := 3) rfl), by decide +kernel, by decide +kernel⟩
theorem vbX2_becomeReflected : px_vB mX2_becomeReflected := ⟨tb5 (List.mem_of_getElem? (i := 206) rfl), tb5 (List.mem_of_getElem? (i := 207) rfl)⟩
theorem kcX11_turnBy_292 : px_cV mX11_turnBy 292 mX2_becomeReflected 3 := ⟨⟨mbX2_becomeReflected, by decide, by decide⟩, Or.inl (tb5 (List.mem_of_getElem? (i := 205) rfl)), vbX2_becomeReflected⟩
set_option maxRecDepth 100000 in
set_option maxHeartbeats 4000000 in
theorem eX11_turnBy_188 {X : px_X}  : ∀ (a0 : Nat) (a3 : Int32) (a4 : Int32) (w : px_W) (q : Int32 × px_W), fX11_turnBy_188 X  a0 a3 a4 w = some q → EV X mX11_turnBy 188 [(0, .ref a0), (3, .int a3), (4, .int a4)] [] w (some (.int q.1)) q.2 := by
  intro a0 a3 a4 w q h
  unfold fX11_turnBy_188 at h
  refine EV.aload_n 0 dX11_turnBy_188 rfl rfl ?_
  obtain ⟨v24, gv24, h⟩ := px_bs h
  refine ev_gR dX11_turnBy_189 flRX11_29 gv24 ?_
  refine EV.aload_n 0 dX11_turnBy_192 rfl rfl ?_
  obtain ⟨v25, gv25, h⟩ := px_bs h
  refine ev_gR dX11_turnBy_193 flRX11_25 gv25 ?_
  refine EV.iload_n 1 dX11_turnBy_196 rfl rfl ?_
  refine EV.iload 2 dX11_turnBy_197 rfl ?_
  obtain ⟨o26, go26, h⟩ := px_bs h
  obtain ⟨q27, gq27, h⟩ := px_bs h
  refine EV.callV (As := [.ref v25, .int a3, .int a4]) (rest := []) dX11_turnBy_199 kcX11_turnBy_292 (gO_ok go26) rfl rfl rfl (Nat.le_of_ble_eq_true rfl) (Nat.le_of_ble_eq_true rfl) (eX2_becomeReflected gq27) ?_
  refine EV.aload_n 0 dX11_turnBy_202 rfl rfl ?_
  obtain ⟨o28, go28, h⟩ := px_bs h
  obtain ⟨q29, gq29, h⟩ := px_bs h
  refine EV.callV (As := []) (rest := []) dX11_turnBy_203 kcX11_turnBy_166 (gO_ok go28) rfl rfl rfl (Nat.le_of_ble_eq_true rfl) (Nat.le_of_ble_eq_true rfl) (eX11_takeDraft gq29) ?_
  refine EV.iconst (1) dX11_turnBy_206 (by decide) ?_
  cases h
  exact EV.reti dX11_turnBy_207 rfl
set_option maxRecDepth 100000 in
set_option maxHeartbeats 4000000 in
theorem eX11_turnBy_179 {X : px_X}  : ∀ (a0 : Nat) (a3 : Int32) (a4 : Int32) (w : px_W) (q : Int32 × px_W), fX11_turnBy_179 X  a0 a3 a4 w = some q → EV X mX11_turnBy 179 [(0, .ref a0), (3, .int a3), (4, .int a4)] [] w (some (.int q.1)) q.2 := by
  intro a0 a3 a4 w q h
  unfold fX11_turnBy_179 at h
  refine EV.iload_n 1 dX11_turnBy_179 rfl rfl ?_
  refine EV.if_ne 188 dX11_turnBy_180 (by decide) (fun c30 => ?_) (fun c30 => ?_)
  · rw [if_neg c30] at h
    refine EV.sub [0, 1, 2] rfl ?_
    exact eX11_turnBy_188  _ _ _ _ _ h
  · rw [if_pos c30] at h
    refine EV.iload 2 dX11_turnBy_183 rfl ?_
    refine EV.if_eq 206 dX11_turnBy_185 (by decide) (fun c31 => ?_) (fun c31 => ?_)
    · rw [if_pos c31] at h
      refine EV.iconst (1) dX11_turnBy_206 (by decide) ?_
      cases h
      exact EV.reti dX11_turnBy_207 rfl
    · rw [if_neg c31] at h
      refine EV.sub [0, 1, 2] rfl ?_
      exact eX11_turnBy_188  _ _ _ _ _ h
set_option maxRecDepth 100000 in
set_option maxHeartbeats 4000000 in
theorem eX11_turnBy_160 {X : px_X}  : ∀ (a0 : Nat) (a2 : Int32) (a3 : Int32) (a4 : Int32) (w : px_W) (q : Int32 × px_W), fX11_turnBy_160 X  a0 a2 a3 a4 w = some q → EV X mX11_turnBy 160 [(0, .ref a0), (2, .int a2), (3, .int a3), (4, .int a4)] [] w (some (.int q.1)) q.2 := by
  intro a0 a2 a3 a4 w q h
  unfold fX11_turnBy_160 at h
  refine EV.iload_n 1 dX11_turnBy_160 rfl rfl ?_
  refine EV.if_eq 179 dX11_turnBy_161 (by decide) (fun c32 => ?_) (fun c32 => ?_)
  · rw [if_pos c32] at h
    refine EV.sub [0, 2, 3] rfl ?_
    exact eX11_turnBy_179  _ _ _ _ _ h
  · rw [if_neg c32] at h
    refine EV.aload_n 0 dX11_turnBy_164 rfl rfl ?_
    obtain ⟨v33, gv33, h⟩ := px_bs h
    refine ev_gR dX11_turnBy_165 flRX11_29 gv33 ?_
    refine EV.aload_n 0 dX11_turnBy_168 rfl rfl ?_
    obtain ⟨v34, gv34, h⟩ := px_bs h
    refine ev_gR dX11_turnBy_169 flRX11_25 gv34 ?_
    obtain ⟨o35, go35, h⟩ := px_bs h
    obtain ⟨q36, gq36, h⟩ := px_bs h
    refine EV.callV (As := [.ref v34]) (rest := []) dX11_turnBy_172 kcX11_turnBy_289 (gO_ok go35) rfl rfl rfl (Nat.le_of_ble_eq_true rfl) (Nat.le_of_ble_eq_true rfl) (eX2_becomeTransposed gq36) ?_
    refine EV.aload_n 0 dX11_turnBy_175 rfl rfl ?_
    obtain ⟨o37, go37, h⟩ := px_bs h
    obtain ⟨q38, gq38, h⟩ := px_bs h
    refine EV.callV (As := []) (rest := []) dX11_turnBy_176 kcX11_turnBy_166 (gO_ok go37) rfl rfl rfl (Nat.le_of_ble_eq_true rfl) (Nat.le_of_ble_eq_true rfl) (eX11_takeDraft gq38) ?_
    refine EV.sub [0, 2, 3] rfl ?_
    exact eX11_turnBy_179  _ _ _ _ _ h
set_option maxRecDepth 100000 in
set_option maxHeartbeats 4000000 in
theorem eX11_turnBy_155 {X : px_X}  : ∀ (a0 : Nat) (a2 : Int32) (a3 : Int32) (a4 : Int32) (s0 : Int32) (w : px_W) (q : Int32 × px_W), fX11_turnBy_155 X  a0 a2 a3 a4 s0 w = some q → EV X mX11_turnBy 155 [(0, .ref a0), (2, .int a2), (3, .int a3), (4, .int a4)] [.int s0] w (some (.int q.1)) q.2 := by
  intro a0 a2 a3 a4 s0 w q h
  unfold fX11_turnBy_155 at h
  refine EV.if_ne 160 dX11_turnBy_155 (by decide) (fun c39 => ?_) (fun c39 => ?_)
  · rw [if_neg c39] at h
    refine EV.sub [0, 1, 2, 3] rfl ?_
    exact eX11_turnBy_160  _ _ _ _ _ _ h
  · rw [if_pos c39] at h
    refine EV.iconst (0) dX11_turnBy_158 (by decide) ?_
    cases h
    exact EV.reti dX11_turnBy_159 rfl
set_option maxRecDepth 100000 in
set_option maxHeartbeats 4000000 in
theorem eX11_turnBy_139 {X : px_X}  : ∀ (a0 : Nat) (a2 : Int32) (a3 : Int32) (a4 : Int32) (a5 : Int32) (a6 : Int32) (w : px_W) (q : Int32 × px_W), fX11_turnBy_139 X  a0 a2 a3 a4 a5 a6 w = some q → EV X mX11_turnBy 139 [(0, .ref a0), (2, .int a2), (3, .int a3), (4, .int a4), (5, .int a5), (6, .int a6)] [] w (some (.int q.1)) q.2 := by
  intro a0 a2 a3 a4 a5 a6 w q h
  unfold fX11_turnBy_139 at h
  refine EV.iload 3 dX11_turnBy_139 rfl ?_
  refine EV.if_eq 160 dX11_turnBy_141 (by decide) (fun c40 => ?_) (fun c40 => ?_)
  · rw [if_pos c40] at h
    refine EV.sub [0, 1, 2, 3] rfl ?_
    exact eX11_turnBy_160  _ _ _ _ _ _ h
  · rw [if_neg c40] at h
    refine EV.iload_n 1 dX11_turnBy_144 rfl rfl ?_
    refine EV.if_eq 153 dX11_turnBy_145 (by decide) (fun c41 => ?_) (fun c41 => ?_)
    · rw [if_pos c41] at h
      refine EV.iload 5 dX11_turnBy_153 rfl ?_
      refine EV.sub [0, 1, 2, 3] rfl ?_
      exact eX11_turnBy_155  _ _ _ _ _ _ _ h
    · rw [if_neg c41] at h
      refine EV.iload 4 dX11_turnBy_148 rfl ?_
      refine EV.goto 155 dX11_turnBy_150 (by decide) ?_
      refine EV.sub [0, 1, 2, 3] rfl ?_
      exact eX11_turnBy_155  _ _ _ _ _ _ _ h
set_option maxRecDepth 100000 in
set_option maxHeartbeats 4000000 in
theorem eX11_turnBy_136 {X : px_X}  : ∀ (a0 : Nat) (a2 : Int32) (a3 : Int32) (a4 : Int32) (a5 : Int32) (a6 : Int32) (s0 : Int32) (w : px_W) (q : Int32 × px_W), fX11_turnBy_136 X  a0 a2 a3 a4 a5 a6 s0 w = some q → EV X mX11_turnBy 136 [(0, .ref a0), (2, .int a2), (3, .int a3), (4, .int a4), (5, .int a5), (6, .int a6)] [.int s0] w (some (.int q.1)) q.2 := by
  intro a0 a2 a3 a4 a5 a6 s0 w q h
  unfold fX11_turnBy_136 at h
  refine EV.if_eq 158 dX11_turnBy_136 (by decide) (fun c42 => ?_) (fun c42 => ?_)
  · rw [if_pos c42] at h
    refine EV.iconst (0) dX11_turnBy_158 (by decide) ?_
    cases h
    exact EV.reti dX11_turnBy_159 rfl
  · rw [if_neg c42] at h
    refine EV.sub [0, 1, 2, 3, 4, 5] rfl ?_
    exact eX11_turnBy_139  _ _ _ _ _ _ _ _ h
set_option maxRecDepth 100000 in
set_option maxHeartbeats 4000000 in
theorem eX11_turnBy_79 {X : px_X}  : ∀ (a0 : Nat) (a2 : Int32) (a3 : Int32) (s0 : Int32) (w : px_W) (q : Int32 × px_W), fX11_turnBy_79 X  a0 a2 a3 s0 w = some q → EV X mX11_turnBy 79 [(0, .ref a0), (2, .int a2), (3, .int a3)] [.int s0] w (some (.int q.1)) q.2 := by
  intro a0 a2 a3 s0 w q h
  unfold fX11_turnBy_79 at h
  refine EV.istore [(4, .int s0), (0, .ref a0), (2, .int a2), (3, .int a3)] dX11_turnBy_79 (by decide) rfl ?_
  refine EV.aload_n 1 dX11_turnBy_81 rfl rfl ?_
  obtain ⟨v43, gv43, h⟩ := px_bs h
  refine ev_gR dX11_turnBy_82 flRX11_25 gv43 ?_
  obtain ⟨v44, gv44, h⟩ := px_bs h
  refine ev_gI dX11_turnBy_85 flRX11_219 gv44 ?_
  refine EV.bipush (8) dX11_turnBy_88 (by decide) ?_
  refine EV.aload_n 1 dX11_turnBy_90 rfl rfl ?_
  obtain ⟨v45, gv45, h⟩ := px_bs h
  refine ev_gR dX11_turnBy_91 flRX11_25 gv45 ?_
  obtain ⟨v46, gv46, h⟩ := px_bs h
  refine ev_gI dX11_turnBy_94 flRX11_231 gv46 ?_
  refine EV.imul dX11_turnBy_97 ?_
  obtain ⟨v47, gv47, h⟩ := px_bs h
  refine ev_dI dX11_turnBy_98 gv47 ?_
  refine EV.istore [(5, .int v47), (4, .int s0), (0, .ref a0), (2, .int a2), (3, .int a3)] dX11_turnBy_99 (by decide) rfl ?_
  refine EV.aload_n 2 dX11_turnBy_101 rfl rfl ?_
  obtain ⟨v48, gv48, h⟩ := px_bs h
  refine ev_gR dX11_turnBy_102 flRX11_25 gv48 ?_
  obtain ⟨v49, gv49, h⟩ := px_bs h
  refine ev_gI dX11_turnBy_105 flRX11_222 gv49 ?_
  refine EV.bipush (8) dX11_turnBy_108 (by decide) ?_
  refine EV.aload_n 2 dX11_turnBy_110 rfl rfl ?_
  obtain ⟨v50, gv50, h⟩ := px_bs h
  refine ev_gR dX11_turnBy_111 flRX11_25 gv50 ?_
  obtain ⟨v51, gv51, h⟩ := px_bs h
  refine ev_gI dX11_turnBy_114 flRX11_234 gv51 ?_
  refine EV.imul dX11_turnBy_117 ?_
  obtain ⟨v52, gv52, h⟩ := px_bs h
  refine ev_dI dX11_turnBy_118 gv52 ?_
  refine EV.istore [(6, .int v52), (5, .int v47), (4, .int s0), (0, .ref a0), (2, .int a2), (3, .int a3)] dX11_turnBy_119 (by decide) rfl ?_
  refine EV.iload_n 5 dX11_turnBy_121 rfl rfl ?_
  refine EV.if_eq 139 dX11_turnBy_122 (by decide) (fun c53 => ?_) (fun c53 => ?_)
  · rw [if_pos c53] at h
    refine EV.sub [3, 4, 5, 2, 1, 0] rfl ?_
    exact eX11_turnBy_139  _ _ _ _ _ _ _ _ h
  · rw [if_neg c53] at h
    refine EV.iload_n 4 dX11_turnBy_125 rfl rfl ?_
    refine EV.if_eq 134 dX11_turnBy_126 (by decide) (fun c54 => ?_) (fun c54 => ?_)
    · rw [if_pos c54] at h
      refine EV.iload 1 dX11_turnBy_134 rfl ?_
      refine EV.sub [3, 4, 5, 2, 1, 0] rfl ?_
      exact eX11_turnBy_136  _ _ _ _ _ _ _ _ _ h
    · rw [if_neg c54] at h
      refine EV.iload 0 dX11_turnBy_129 rfl ?_
      refine EV.goto 136 dX11_turnBy_131 (by decide) ?_
      refine EV.sub [3, 4, 5, 2, 1, 0] rfl ?_
      exact eX11_turnBy_136  _ _ _ _ _ _ _ _ _ h
set_option maxRecDepth 100000 in
set_option maxHeartbeats 4000000 in
theorem eX11_turnBy_74 {X : px_X}  : ∀ (a0 : Nat) (a2 : Int32) (a3 : Int32) (w : px_W) (q : Int32 × px_W), fX11_turnBy_74 X  a0 a2 a3 w = some q → EV X mX11_turnBy 74 [(0, .ref a0), (2, .int a2), (3, .int a3)] [] w (some (.int q.1)) q.2 := by
  intro a0 a2 a3 w q h
  unfold fX11_turnBy_74 at h
  refine EV.iconst (1) dX11_turnBy_74 (by decide) ?_
  refine EV.goto 79 dX11_turnBy_75 (by decide) ?_
  refine EV.sub [0, 1, 2] rfl ?_
  exact eX11_turnBy_79  _ _ _ _ _ _ h
set_option maxRecDepth 100000 in
set_option maxHeartbeats 4000000 in
theorem eX11_turnBy_58 {X : px_X}  : ∀ (a0 : Nat) (a1 : Int32) (a2 : Int32) (s0 : Int32) (w : px_W) (q : Int32 × px_W), fX11_turnBy_58 X  a0 a1 a2 s0 w = some q → EV X mX11_turnBy 58 [(0, .ref a0), (1, .int a1), (2, .int a2)] [.int s0] w (some (.int q.1)) q.2 := by
  intro a0 a1 a2 s0 w q h
  unfold fX11_turnBy_58 at h
  refine EV.istore_n [(3, .int s0), (0, .ref a0), (1, .int a1), (2, .int a2)] dX11_turnBy_58 rfl (by decide) rfl ?_
  refine EV.iload_n 2 dX11_turnBy_59 rfl rfl ?_
  refine EV.iconst (2) dX11_turnBy_60 (by decide) ?_
  refine EV.icmp_eq 74 dX11_turnBy_61 (by decide) (fun c55 => ?_) (fun c55 => ?_)
  · rw [if_pos c55] at h
    refine EV.sub [1, 3, 0] rfl ?_
    exact eX11_turnBy_74  _ _ _ _ _ h
  · rw [if_neg c55] at h
    refine EV.iload_n 2 dX11_turnBy_64 rfl rfl ?_
    refine EV.iconst (4) dX11_turnBy_65 (by decide) ?_
    refine EV.icmp_eq 74 dX11_turnBy_66 (by decide) (fun c56 => ?_) (fun c56 => ?_)
    · rw [if_pos c56] at h
      refine EV.sub [1, 3, 0] rfl ?_
      exact eX11_turnBy_74  _ _ _ _ _ h
    · rw [if_neg c56] at h
      refine EV.iload_n 2 dX11_turnBy_69 rfl rfl ?_
      refine EV.iconst (5) dX11_turnBy_70 (by decide) ?_
      refine EV.icmp_ne 78 dX11_turnBy_71 (by decide) (fun c57 => ?_) (fun c57 => ?_)
      · rw [if_neg c57] at h
        refine EV.iconst (0) dX11_turnBy_78 (by decide) ?_
        refine EV.sub [1, 3, 0] rfl ?_
        exact eX11_turnBy_79  _ _ _ _ _ _ h
      · rw [if_pos c57] at h
        refine EV.sub [1, 3, 0] rfl ?_
        exact eX11_turnBy_74  _ _ _ _ _ h
set_option maxRecDepth 100000 in
set_option maxHeartbeats 4000000 in
theorem eX11_turnBy_53 {X : px_X}  : ∀ (a0 : Nat) (a1 : Int32) (a2 : Int32) (w : px_W) (q : Int32 × px_W), fX11_turnBy_53 X  a0 a1 a2 w = some q → EV X mX11_turnBy 53 [(0, .ref a0), (1, .int a1), (2, .int a2)] [] w (some (.int q.1)) q.2 := by
  intro a0 a1 a2 w q h
  unfold fX11_turnBy_53 at h
  refine EV.iconst (1) dX11_turnBy_53 (by decide) ?_
  refine EV.goto 58 dX11_turnBy_54 (by decide) ?_
  refine EV.sub [0, 1, 2] rfl ?_
  exact eX11_turnBy_58  _ _ _ _ _ _ h
set_option maxRecDepth 100000 in
set_option maxHeartbeats 4000000 in
theorem eX11_turnBy_37 {X : px_X}  : ∀ (a0 : Nat) (a1 : Int32) (s0 : Int32) (w : px_W) (q : Int32 × px_W), fX11_turnBy_37 X  a0 a1 s0 w = some q → EV X mX11_turnBy 37 [(0, .ref a0), (1, .int a1)] [.int s0] w (some (.int q.1)) q.2 := by
  intro a0 a1 s0 w q h
  unfold fX11_turnBy_37 at h
  refine EV.istore_n [(2, .int s0), (0, .ref a0), (1, .int a1)] dX11_turnBy_37 rfl (by decide) rfl ?_
  refine EV.iload_n 2 dX11_turnBy_38 rfl rfl ?_
  refine EV.iconst (1) dX11_turnBy_39 (by decide) ?_
  refine EV.icmp_eq 53 dX11_turnBy_40 (by decide) (fun c58 => ?_) (fun c58 => ?_)
  · rw [if_pos c58] at h
    refine EV.sub [1, 2, 0] rfl ?_
    exact eX11_turnBy_53  _ _ _ _ _ h
  · rw [if_neg c58] at h
    refine EV.iload_n 2 dX11_turnBy_43 rfl rfl ?_
    refine EV.iconst (3) dX11_turnBy_44 (by decide) ?_
    refine EV.icmp_eq 53 dX11_turnBy_45 (by decide) (fun c59 => ?_) (fun c59 => ?_)
    · rw [if_pos c59] at h
      refine EV.sub [1, 2, 0] rfl ?_
      exact eX11_turnBy_53  _ _ _ _ _ h
    · rw [if_neg c59] at h
      refine EV.iload_n 2 dX11_turnBy_48 rfl rfl ?_
      refine EV.iconst (4) dX11_turnBy_49 (by decide) ?_
      refine EV.icmp_ne 57 dX11_turnBy_50 (by decide) (fun c60 => ?_) (fun c60 => ?_)
      · rw [if_neg c60] at h
        refine EV.iconst (0) dX11_turnBy_57 (by decide) ?_
        refine EV.sub [1, 2, 0] rfl ?_
        exact eX11_turnBy_58  _ _ _ _ _ _ h
      · rw [if_pos c60] at h
        refine EV.sub [1, 2, 0] rfl ?_
        exact eX11_turnBy_53  _ _ _ _ _ h
set_option maxRecDepth 100000 in
set_option maxHeartbeats 4000000 in
theorem eX11_turnBy_32 {X : px_X}  : ∀ (a0 : Nat) (a1 : Int32) (w : px_W) (q : Int32 × px_W), fX11_turnBy_32 X  a0 a1 w = some q → EV X mX11_turnBy 32 [(0, .ref a0), (1, .int a1)] [] w (some (.int q.1)) q.2 := by
  intro a0 a1 w q h
  unfold fX11_turnBy_32 at h
  refine EV.iconst (1) dX11_turnBy_32 (by decide) ?_
  refine EV.goto 37 dX11_turnBy_33 (by decide) ?_
  refine EV.sub [0, 1] rfl ?_
  exact eX11_turnBy_37  _ _ _ _ _ h
set_option maxRecDepth 100000 in
set_option maxHeartbeats 4000000 in
theorem eX11_turnBy {X : px_X} {w : px_W} {a0 : Nat} {a1 : Int32} {q : Int32 × px_W} (h : fX11_turnBy X w a0 a1 = some q) : EV X mX11_turnBy 0 (lv_args 0 [.ref a0, .int a1]) [] w (some (.int q.1)) q.2 := by
  unfold fX11_turnBy at h
  show EV X mX11_turnBy 0 [(0, .ref a0), (1, .int a1)] [] w (some (.int q.1)) q.2
  refine EV.aload_n 0 dX11_turnBy_0 rfl rfl ?_
  obtain ⟨v61, gv61, h⟩ := px_bs h
  refine ev_gI dX11_turnBy_1 flRX11_169 gv61 ?_
  refine EV.if_eq 16 dX11_turnBy_4 (by decide) (fun c62 => ?_) (fun c62 => ?_)
  · rw [if_pos c62] at h
    refine EV.iconst (0) dX11_turnBy_16 (by decide) ?_
    cases h
    exact EV.reti dX11_turnBy_17 rfl
  · rw [if_neg c62] at h
    refine EV.iload_n 1 dX11_turnBy_7 rfl rfl ?_
    refine EV.if_lt 16 dX11_turnBy_8 (by decide) (fun c63 => ?_) (fun c63 => ?_)
    · rw [if_pos c63] at h
      refine EV.iconst (0) dX11_turnBy_16 (by decide) ?_
      cases h
      exact EV.reti dX11_turnBy_17 rfl
    · rw [if_neg c63] at h
      refine EV.iload_n 1 dX11_turnBy_11 rfl rfl ?_
      refine EV.iconst (5) dX11_turnBy_12 (by decide) ?_
      refine EV.icmp_le 18 dX11_turnBy_13 (by decide) (fun c64 => ?_) (fun c64 => ?_)
      · rw [if_pos c64] at h
        refine EV.iload_n 1 dX11_turnBy_18 rfl rfl ?_
        refine EV.if_eq 32 dX11_turnBy_19 (by decide) (fun c65 => ?_) (fun c65 => ?_)
        · rw [if_pos c65] at h
          refine EV.sub [0, 1] rfl ?_
          exact eX11_turnBy_32  _ _ _ _ h
        · rw [if_neg c65] at h
          refine EV.iload_n 1 dX11_turnBy_22 rfl rfl ?_
          refine EV.iconst (3) dX11_turnBy_23 (by decide) ?_
          refine EV.icmp_eq 32 dX11_turnBy_24 (by decide) (fun c66 => ?_) (fun c66 => ?_)
          · rw [if_pos c66] at h
            refine EV.sub [0, 1] rfl ?_
            exact eX11_turnBy_32  _ _ _ _ h
          · rw [if_neg c66] at h
            refine EV.iload_n 1 dX11_turnBy_27 rfl rfl ?_
            refine EV.iconst (5) dX11_turnBy_28 (by decide) ?_
            refine EV.icmp_ne 36 dX11_turnBy_29 (by decide) (fun c67 => ?_) (fun c67 => ?_)
            · rw [if_neg c67] at h
              refine EV.iconst (0) dX11_turnBy_36 (by decide) ?_
              refine EV.sub [0, 1] rfl ?_
              exact eX11_turnBy_37  _ _ _ _ _ h
            · rw [if_pos c67] at h
              refine EV.sub [0, 1] rfl ?_
              exact eX11_turnBy_32  _ _ _ _ h
      · rw [if_neg c64] at h
        refine EV.iconst (0) dX11_turnBy_16 (by decide) ?_
        cases h
        exact EV.reti dX11_turnBy_17 rfl
/-! WavePictures.cropTo(IIII)Z -/
theorem dX11_cropTo_0 : decode cX11_cropTo 0 = .ok (.aload_n 0, 1) := by decide +kernel
theorem dX11_cropTo_1 : decode cX11_cropTo 1 = .ok (.getfield 169, 3) := by decide +kernel
theorem dX11_cropTo_4 : decode cX11_cropTo 4 = .ok (.ifCond .eq 22, 3) := by decide +kernel
theorem dX11_cropTo_7 : decode cX11_cropTo 7 = .ok (.iload_n 3, 1) := by decide +kernel
theorem dX11_cropTo_8 : decode cX11_cropTo 8 = .ok (.iconst 1, 1) := by decide +kernel
theorem dX11_cropTo_9 : decode cX11_cropTo 9 = .ok (.if_icmp .lt 17, 3) := by decide +kernel
theorem dX11_cropTo_12 : decode cX11_cropTo 12 = .ok (.iload 4, 2) := by decide +kernel
theorem dX11_cropTo_14 : decode cX11_cropTo 14 = .ok (.iconst 1, 1) := by decide +kernel
theorem dX11_cropTo_15 : decode cX11_cropTo 15 = .ok (.if_icmp .lt 11, 3) := by decide +kernel
theorem dX11_cropTo_18 : decode cX11_cropTo 18 = .ok (.iload_n 1, 1) := by decide +kernel
theorem dX11_cropTo_19 : decode cX11_cropTo 19 = .ok (.ifCond .lt 7, 3) := by decide +kernel
theorem dX11_cropTo_22 : decode cX11_cropTo 22 = .ok (.iload_n 2, 1) := by decide +kernel
theorem dX11_cropTo_23 : decode cX11_cropTo 23 = .ok (.ifCond .ge 5, 3) := by decide +kernel
theorem dX11_cropTo_26 : decode cX11_cropTo 26 = .ok (.iconst 0, 1) := by decide +kernel
theorem dX11_cropTo_27 : decode cX11_cropTo 27 = .ok (.ireturn, 1) := by decide +kernel
theorem dX11_cropTo_28 : decode cX11_cropTo 28 = .ok (.aload_n 0, 1) := by decide +kernel
theorem dX11_cropTo_29 : decode cX11_cropTo 29 = .ok (.getfield 25, 3) := by decide +kernel
theorem dX11_cropTo_32 : decode cX11_cropTo 32 = .ok (.invokevirtual 296, 3) := by decide +kernel
theorem dX11_cropTo_35 : decode cX11_cropTo 35 = .ok (.istore 5, 2) := by decide +kernel
theorem dX11_cropTo_37 : decode cX11_cropTo 37 = .ok (.aload_n 0, 1) := by decide +kernel
theorem dX11_cropTo_38 : decode cX11_cropTo 38 = .ok (.getfield 25, 3) := by decide +kernel
theorem dX11_cropTo_41 : decode cX11_cropTo 41 = .ok (.invokevirtual 300, 3) := by decide +kernel
theorem dX11_cropTo_44 : decode cX11_cropTo 44 = .ok (.istore 6, 2) := by decide +kernel
theorem dX11_cropTo_46 : decode cX11_cropTo 46 = .ok (.iload_n 1, 1) := by decide +kernel
theorem dX11_cropTo_47 : decode cX11_cropTo 47 = .ok (.iload 5, 2) := by decide +kernel
theorem dX11_cropTo_49 : decode cX11_cropTo 49 = .ok (.if_icmp .ge 26, 3) := by decide +kernel
theorem dX11_cropTo_52 : decode cX11_cropTo 52 = .ok (.iload_n 3, 1) := by decide +kernel
theorem dX11_cropTo_53 : decode cX11_cropTo 53 = .ok (.iload 5, 2) := by decide +kernel
theorem dX11_cropTo_55 : decode cX11_cropTo 55 = .ok (.iload_n 1, 1) := by decide +kernel
theorem dX11_cropTo_56 : decode cX11_cropTo 56 = .ok (.isub, 1) := by decide +kernel
theorem dX11_cropTo_57 : decode cX11_cropTo 57 = .ok (.if_icmp .gt 18, 3) := by decide +kernel
theorem dX11_cropTo_60 : decode cX11_cropTo 60 = .ok (.iload_n 2, 1) := by decide +kernel
theorem dX11_cropTo_61 : decode cX11_cropTo 61 = .ok (.iload 6, 2) := by decide +kernel
theorem dX11_cropTo_63 : decode cX11_cropTo 63 = .ok (.if_icmp .ge 12, 3) := by decide +kernel
theorem dX11_cropTo_66 : decode cX11_cropTo 66 = .ok (.iload 4, 2) := by decide +kernel
theorem dX11_cropTo_68 : decode cX11_cropTo 68 = .ok (.iload 6, 2) := by decide +kernel
theorem dX11_cropTo_70 : decode cX11_cropTo 70 = .ok (.iload_n 2, 1) := by decide +kernel
theorem dX11_cropTo_71 : decode cX11_cropTo 71 = .ok (.isub, 1) := by decide +kernel
theorem dX11_cropTo_72 : decode cX11_cropTo 72 = .ok (.if_icmp .le 5, 3) := by decide +kernel
theorem dX11_cropTo_75 : decode cX11_cropTo 75 = .ok (.iconst 0, 1) := by decide +kernel
theorem dX11_cropTo_76 : decode cX11_cropTo 76 = .ok (.ireturn, 1) := by decide +kernel
theorem dX11_cropTo_77 : decode cX11_cropTo 77 = .ok (.aload_n 0, 1) := by decide +kernel
theorem dX11_cropTo_78 : decode cX11_cropTo 78 = .ok (.getfield 29, 3) := by decide +kernel
theorem dX11_cropTo_81 : decode cX11_cropTo 81 = .ok (.aload_n 0, 1) := by decide +kernel
theorem dX11_cropTo_82 : decode cX11_cropTo 82 = .ok (.getfield 25, 3) := by decide +kernel
theorem dX11_cropTo_85 : decode cX11_cropTo 85 = .ok (.iload_n 1, 1) := by decide +kernel
theorem dX11_cropTo_86 : decode cX11_cropTo 86 = .ok (.iload_n 2, 1) := by decide +kernel
theorem dX11_cropTo_87 : decode cX11_cropTo 87 = .ok (.iload_n 3, 1) := by decide +kernel
theorem dX11_cropTo_88 : decode cX11_cropTo 88 = .ok (.iload 4, 2) := by decide +kernel
theorem dX11_cropTo_90 : decode cX11_cropTo 90 = .ok (.invokevirtual 303, 3) := by decide +kernel
theorem dX11_cropTo_93 : decode cX11_cropTo 93 = .ok (.aload_n 0, 1) := by decide +kernel
theorem dX11_cropTo_94 : decode cX11_cropTo 94 = .ok (.invokevirtual 166, 3) := by decide +kernel
theorem dX11_cropTo_97 : decode cX11_cropTo 97 = .ok (.iconst 1, 1) := by decide +kernel
theorem dX11_cropTo_98 : decode cX11_cropTo 98 = .ok (.ireturn, 1) := by decide +kernel
theorem kcX11_cropTo_166 : px_cV mX11_cropTo 166 mX11_takeDraft 0 := ⟨⟨mbX11_takeDraft, by decide, by decide⟩, Or.inl (tb4 (List.mem_of_getElem? (i := 167) rfl)), vbX11_takeDraft⟩
theorem kcX11_cropTo_296 : px_cV mX11_cropTo 296 mX2_unitsAcross 0 := ⟨⟨mbX2_unitsAcross, by decide, by decide⟩, Or.inl (tb5 (List.mem_of_getElem? (i := 223) rfl)), vbX2_unitsAcross⟩
theorem kcX11_cropTo_300 : px_cV mX11_cropTo 300 mX2_unitsDown 0 := ⟨⟨mbX2_unitsDown, by decide, by decide⟩, Or.inl (tb5 (List.mem_of_getElem? (i := 224) rfl)), vbX2_unitsDown⟩
theorem mbX2_becomeCropped : px_mB mX2_becomeCropped 5 := ⟨tb5 (List.mem_of_getElem? (i := 228) rfl), by decide +kernel, tb1 (List.mem_of_getElem? (i := 3) rfl), by decide +kernel, by decide +kernel⟩
theorem vbX2_becomeCropped : px_vB mX2_becomeCropped := ⟨tb5 (List.mem_of_getElem? (i := 226) rfl), tb5 (List.mem_of_getElem? (i := 227) rfl)⟩
theorem kcX11_cropTo_303 : px_cV mX11_cropTo 303 mX2_becomeCropped 5 := ⟨⟨mbX2_becomeCropped, by decide, by decide⟩, Or.inl (tb5 (List.mem_of_getElem? (i := 225) rfl)), vbX2_becomeCropped⟩
set_option maxRecDepth 100000 in
set_option maxHeartbeats 4000000 in
theorem eX11_cropTo {X : px_X} {w : px_W} {a0 : Nat} {a1 : Int32} {a2 : Int32} {a3 : Int32} {a4 : Int32} {q : Int32 × px_W} (h : fX11_cropTo X w a0 a1 a2 a3 a4 = some q) : EV X mX11_cropTo 0 (lv_args 0 [.ref a0, .int a1, .int a2, .int a3, .int a4]) [] w (some (.int q.1)) q.2 := by
  unfold fX11_cropTo at h
  show EV X mX11_cropTo 0 [(0, .ref a0), (1, .int a1), (2, .int a2), (3, .int a3), (4, .int a4)] [] w (some (.int q.1)) q.2
  refine EV.aload_n 0 dX11_cropTo_0 rfl rfl ?_
  obtain ⟨v14, gv14, h⟩ := px_bs h
  refine ev_gI dX11_cropTo_1 flRX11_169 gv14 ?_
  refine EV.if_eq 26 dX11_cropTo_4 (by decide) (fun c15 => ?_) (fun c15 => ?_)
  · rw [if_pos c15] at h
    refine EV.iconst (0) dX11_cropTo_26 (by decide) ?_
    cases h
    exact EV.reti dX11_cropTo_27 rfl
  · rw [if_neg c15] at h
    refine EV.iload_n 3 dX11_cropTo_7 rfl rfl ?_
    refine EV.iconst (1) dX11_cropTo_8 (by decide) ?_
    refine EV.icmp_lt 26 dX11_cropTo_9 (by decide) (fun c16 => ?_) (fun c16 => ?_)
    · rw [if_pos c16] at h
      refine EV.iconst (0) dX11_cropTo_26 (by decide) ?_
      cases h
      exact EV.reti dX11_cropTo_27 rfl
    · rw [if_neg c16] at h
      refine EV.iload 4 dX11_cropTo_12 rfl ?_
      refine EV.iconst (1) dX11_cropTo_14 (by decide) ?_
      refine EV.icmp_lt 26 dX11_cropTo_15 (by decide) (fun c17 => ?_) (fun c17 => ?_)
      · rw [if_pos c17] at h
        refine EV.iconst (0) dX11_cropTo_26 (by decide) ?_
        cases h
        exact EV.reti dX11_cropTo_27 rfl
      · rw [if_neg c17] at h
        refine EV.iload_n 1 dX11_cropTo_18 rfl rfl ?_
        refine EV.if_lt 26 dX11_cropTo_19 (by decide) (fun c18 => ?_) (fun c18 => ?_)
        · rw [if_pos c18] at h
          refine EV.iconst (0) dX11_cropTo_26 (by decide) ?_
          cases h
          exact EV.reti dX11_cropTo_27 rfl
        · rw [if_neg c18] at h
          refine EV.iload_n 2 dX11_cropTo_22 rfl rfl ?_
          refine EV.if_ge 28 dX11_cropTo_23 (by decide) (fun c19 => ?_) (fun c19 => ?_)
          · rw [if_pos c19] at h
            refine EV.aload_n 0 dX11_cropTo_28 rfl rfl ?_
            obtain ⟨v20, gv20, h⟩ := px_bs h
            refine ev_gR dX11_cropTo_29 flRX11_25 gv20 ?_
            obtain ⟨o21, go21, h⟩ := px_bs h
            obtain ⟨q22, gq22, h⟩ := px_bs h
            refine EV.callV (As := []) (rest := []) dX11_cropTo_32 kcX11_cropTo_296 (gO_ok go21) rfl rfl rfl (Nat.le_of_ble_eq_true rfl) (Nat.le_of_ble_eq_true rfl) (eX2_unitsAcross gq22) ?_
            refine EV.istore [(5, .int q22.1), (0, .ref a0), (1, .int a1), (2, .int a2), (3, .int a3), (4, .int a4)] dX11_cropTo_35 (by decide) rfl ?_
            refine EV.aload_n 1 dX11_cropTo_37 rfl rfl ?_
            obtain ⟨v23, gv23, h⟩ := px_bs h
            refine ev_gR dX11_cropTo_38 flRX11_25 gv23 ?_
            obtain ⟨o24, go24, h⟩ := px_bs h
            obtain ⟨q25, gq25, h⟩ := px_bs h
            refine EV.callV (As := []) (rest := []) dX11_cropTo_41 kcX11_cropTo_300 (gO_ok go24) rfl rfl rfl (Nat.le_of_ble_eq_true rfl) (Nat.le_of_ble_eq_true rfl) (eX2_unitsDown gq25) ?_
            refine EV.istore [(6, .int q25.1), (5, .int q22.1), (0, .ref a0), (1, .int a1), (2, .int a2), (3, .int a3), (4, .int a4)] dX11_cropTo_44 (by decide) rfl ?_
            refine EV.iload_n 3 dX11_cropTo_46 rfl rfl ?_
            refine EV.iload 1 dX11_cropTo_47 rfl ?_
            refine EV.icmp_ge 75 dX11_cropTo_49 (by decide) (fun c26 => ?_) (fun c26 => ?_)
            · rw [if_pos c26] at h
              refine EV.iconst (0) dX11_cropTo_75 (by decide) ?_
              cases h
              exact EV.reti dX11_cropTo_76 rfl
            · rw [if_neg c26] at h
              refine EV.iload_n 5 dX11_cropTo_52 rfl rfl ?_
              refine EV.iload 1 dX11_cropTo_53 rfl ?_
              refine EV.iload_n 3 dX11_cropTo_55 rfl rfl ?_
              refine EV.isub dX11_cropTo_56 ?_
              refine EV.icmp_gt 75 dX11_cropTo_57 (by decide) (fun c27 => ?_) (fun c27 => ?_)
              · rw [if_pos c27] at h
                refine EV.iconst (0) dX11_cropTo_75 (by decide) ?_
                cases h
                exact EV.reti dX11_cropTo_76 rfl
              · rw [if_neg c27] at h
                refine EV.iload_n 4 dX11_cropTo_60 rfl rfl ?_
                refine EV.iload 0 dX11_cropTo_61 rfl ?_
                refine EV.icmp_ge 75 dX11_cropTo_63 (by decide) (fun c28 => ?_) (fun c28 => ?_)
                · rw [if_pos c28] at h
                  refine EV.iconst (0) dX11_cropTo_75 (by decide) ?_
                  cases h
                  exact EV.reti dX11_cropTo_76 rfl
                · rw [if_neg c28] at h
                  refine EV.iload 6 dX11_cropTo_66 rfl ?_
                  refine EV.iload 0 dX11_cropTo_68 rfl ?_
                  refine EV.iload_n 4 dX11_cropTo_70 rfl rfl ?_
                  refine EV.isub dX11_cropTo_71 ?_
                  refine EV.icmp_le 77 dX11_cropTo_72 (by decide) (fun c29 => ?_) (fun c29 => ?_)
                  · rw [if_pos c29] at h
                    refine EV.aload_n 2 dX11_cropTo_77 rfl rfl ?_
                    obtain ⟨v30, gv30, h⟩ := px_bs h
                    refine ev_gR dX11_cropTo_78 flRX11_29 gv30 ?_
                    refine EV.aload_n 2 dX11_cropTo_81 rfl rfl ?_
                    obtain ⟨v31, gv31, h⟩ := px_bs h
                    refine ev_gR dX11_cropTo_82 flRX11_25 gv31 ?_
                    refine EV.iload_n 3 dX11_cropTo_85 rfl rfl ?_
                    refine EV.iload_n 4 dX11_cropTo_86 rfl rfl ?_
                    refine EV.iload_n 5 dX11_cropTo_87 rfl rfl ?_
                    refine EV.iload 6 dX11_cropTo_88 rfl ?_
                    obtain ⟨o32, go32, h⟩ := px_bs h
                    obtain ⟨q33, gq33, h⟩ := px_bs h
                    refine EV.callV (As := [.ref v31, .int a1, .int a2, .int a3, .int a4]) (rest := []) dX11_cropTo_90 kcX11_cropTo_303 (gO_ok go32) rfl rfl rfl (Nat.le_of_ble_eq_true rfl) (Nat.le_of_ble_eq_true rfl) (eX2_becomeCropped gq33) ?_
                    refine EV.aload_n 2 dX11_cropTo_93 rfl rfl ?_
                    obtain ⟨o34, go34, h⟩ := px_bs h
                    obtain ⟨q35, gq35, h⟩ := px_bs h
                    refine EV.callV (As := []) (rest := []) dX11_cropTo_94 kcX11_cropTo_166 (gO_ok go34) rfl rfl rfl (Nat.le_of_ble_eq_true rfl) (Nat.le_of_ble_eq_true rfl) (eX11_takeDraft gq35) ?_
                    refine EV.iconst (1) dX11_cropTo_97 (by decide) ?_
                    cases h
                    exact EV.reti dX11_cropTo_98 rfl
                  · rw [if_neg c29] at h
                    refine EV.iconst (0) dX11_cropTo_75 (by decide) ?_
                    cases h
                    exact EV.reti dX11_cropTo_76 rfl
          · rw [if_neg c19] at h
            refine EV.iconst (0) dX11_cropTo_26 (by decide) ?_
            cases h
            exact EV.reti dX11_cropTo_27 rfl
/-! WavePictures.blockOf(III)I -/
theorem dX11_blockOf_0 : decode cX11_blockOf 0 = .ok (.aload_n 0, 1) := by decide +kernel
theorem dX11_blockOf_1 : decode cX11_blockOf 1 = .ok (.getfield 169, 3) := by decide +kernel
theorem dX11_blockOf_4 : decode cX11_blockOf 4 = .ok (.ifCond .eq 31, 3) := by decide +kernel
theorem dX11_blockOf_7 : decode cX11_blockOf 7 = .ok (.iload_n 1, 1) := by decide +kernel
theorem dX11_blockOf_8 : decode cX11_blockOf 8 = .ok (.ifCond .lt 27, 3) := by decide +kernel
theorem dX11_blockOf_11 : decode cX11_blockOf 11 = .ok (.iload_n 1, 1) := by decide +kernel
theorem dX11_blockOf_12 : decode cX11_blockOf 12 = .ok (.aload_n 0, 1) := by decide +kernel
theorem dX11_blockOf_13 : decode cX11_blockOf 13 = .ok (.getfield 25, 3) := by decide +kernel
theorem dX11_blockOf_16 : decode cX11_blockOf 16 = .ok (.getfield 196, 3) := by decide +kernel
theorem dX11_blockOf_19 : decode cX11_blockOf 19 = .ok (.if_icmp .ge 16, 3) := by decide +kernel
theorem dX11_blockOf_22 : decode cX11_blockOf 22 = .ok (.aload_n 0, 1) := by decide +kernel
theorem dX11_blockOf_23 : decode cX11_blockOf 23 = .ok (.getfield 25, 3) := by decide +kernel
theorem dX11_blockOf_26 : decode cX11_blockOf 26 = .ok (.iload_n 1, 1) := by decide +kernel
theorem dX11_blockOf_27 : decode cX11_blockOf 27 = .ok (.iload_n 2, 1) := by decide +kernel
theorem dX11_blockOf_28 : decode cX11_blockOf 28 = .ok (.iload_n 3, 1) := by decide +kernel
theorem dX11_blockOf_29 : decode cX11_blockOf 29 = .ok (.invokevirtual 311, 3) := by decide +kernel
theorem dX11_blockOf_32 : decode cX11_blockOf 32 = .ok (.goto 4, 3) := by decide +kernel
theorem dX11_blockOf_35 : decode cX11_blockOf 35 = .ok (.iconst (-1), 1) := by decide +kernel
theorem dX11_blockOf_36 : decode cX11_blockOf 36 = .ok (.ireturn, 1) := by decide +kernel
theorem kcX11_blockOf_311 : px_cV mX11_blockOf 311 mX2_block 3 := ⟨⟨mbX2_block, by decide, by decide⟩, Or.inl (tb5 (List.mem_of_getElem? (i := 237) rfl)), vbX2_block⟩
set_option maxRecDepth 100000 in
set_option maxHeartbeats 4000000 in
theorem eX11_blockOf {X : px_X} {w : px_W} {a0 : Nat} {a1 : Int32} {a2 : Int32} {a3 : Int32} {q : Int32 × px_W} (h : fX11_blockOf X w a0 a1 a2 a3 = some q) : EV X mX11_blockOf 0 (lv_args 0 [.ref a0, .int a1, .int a2, .int a3]) [] w (some (.int q.1)) q.2 := by
  unfold fX11_blockOf at h
  show EV X mX11_blockOf 0 [(0, .ref a0), (1, .int a1), (2, .int a2), (3, .int a3)] [] w (some (.int q.1)) q.2
  refine EV.aload_n 0 dX11_blockOf_0 rfl rfl ?_
  obtain ⟨v7, gv7, h⟩ := px_bs h
  refine ev_gI dX11_blockOf_1 flRX11_169 gv7 ?_
  refine EV.if_eq 35 dX11_blockOf_4 (by decide) (fun c8 => ?_) (fun c8 => ?_)
  · rw [if_pos c8] at h
    refine EV.iconst ((-1)) dX11_blockOf_35 (by decide) ?_
    cases h
    exact EV.reti dX11_blockOf_36 rfl
  · rw [if_neg c8] at h
    refine EV.iload_n 1 dX11_blockOf_7 rfl rfl ?_
    refine EV.if_lt 35 dX11_blockOf_8 (by decide) (fun c9 => ?_) (fun c9 => ?_)
    · rw [if_pos c9] at h
      refine EV.iconst ((-1)) dX11_blockOf_35 (by decide) ?_
      cases h
      exact EV.reti dX11_blockOf_36 rfl
    · rw [if_neg c9] at h
      refine EV.iload_n 1 dX11_blockOf_11 rfl rfl ?_
      refine EV.aload_n 0 dX11_blockOf_12 rfl rfl ?_
      obtain ⟨v10, gv10, h⟩ := px_bs h
      refine ev_gR dX11_blockOf_13 flRX11_25 gv10 ?_
      obtain ⟨v11, gv11, h⟩ := px_bs h
      refine ev_gI dX11_blockOf_16 flRX11_196 gv11 ?_
      refine EV.icmp_ge 35 dX11_blockOf_19 (by decide) (fun c12 => ?_) (fun c12 => ?_)
      · rw [if_pos c12] at h
        refine EV.iconst ((-1)) dX11_blockOf_35 (by decide) ?_
        cases h
        exact EV.reti dX11_blockOf_36 rfl
      · rw [if_neg c12] at h
        refine EV.aload_n 0 dX11_blockOf_22 rfl rfl ?_
        obtain ⟨v13, gv13, h⟩ := px_bs h
        refine ev_gR dX11_blockOf_23 flRX11_25 gv13 ?_
        refine EV.iload_n 1 dX11_blockOf_26 rfl rfl ?_
        refine EV.iload_n 2 dX11_blockOf_27 rfl rfl ?_
        refine EV.iload_n 3 dX11_blockOf_28 rfl rfl ?_
        obtain ⟨o14, go14, h⟩ := px_bs h
        obtain ⟨q15, gq15, h⟩ := px_bs h
        refine EV.callV (As := [.int a1, .int a2, .int a3]) (rest := []) dX11_blockOf_29 kcX11_blockOf_311 (gO_ok go14) rfl rfl rfl (Nat.le_of_ble_eq_true rfl) (Nat.le_of_ble_eq_true rfl) (eX2_block gq15) ?_
        refine EV.goto 36 dX11_blockOf_32 (by decide) ?_
        cases h
        exact EV.reti dX11_blockOf_36 rfl
