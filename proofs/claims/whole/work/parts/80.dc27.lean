/-! WavePicturesModel.mixCanvas(I)Z -/
theorem dX15_mixCanvas_0 : decode cX15_mixCanvas 0 = .ok (.iload_n 1, 1) := by decide +kernel
theorem dX15_mixCanvas_1 : decode cX15_mixCanvas 1 = .ok (.ifCond .lt 13, 3) := by decide +kernel
theorem dX15_mixCanvas_4 : decode cX15_mixCanvas 4 = .ok (.iload_n 1, 1) := by decide +kernel
theorem dX15_mixCanvas_5 : decode cX15_mixCanvas 5 = .ok (.bipush 7, 2) := by decide +kernel
theorem dX15_mixCanvas_7 : decode cX15_mixCanvas 7 = .ok (.if_icmp .ge 7, 3) := by decide +kernel
theorem dX15_mixCanvas_10 : decode cX15_mixCanvas 10 = .ok (.iconst 1, 1) := by decide +kernel
theorem dX15_mixCanvas_11 : decode cX15_mixCanvas 11 = .ok (.goto 4, 3) := by decide +kernel
theorem dX15_mixCanvas_14 : decode cX15_mixCanvas 14 = .ok (.iconst 0, 1) := by decide +kernel
theorem dX15_mixCanvas_15 : decode cX15_mixCanvas 15 = .ok (.istore_n 2, 1) := by decide +kernel
theorem dX15_mixCanvas_16 : decode cX15_mixCanvas 16 = .ok (.iconst 1, 1) := by decide +kernel
theorem dX15_mixCanvas_17 : decode cX15_mixCanvas 17 = .ok (.istore_n 3, 1) := by decide +kernel
theorem dX15_mixCanvas_18 : decode cX15_mixCanvas 18 = .ok (.iload_n 3, 1) := by decide +kernel
theorem dX15_mixCanvas_19 : decode cX15_mixCanvas 19 = .ok (.iload_n 1, 1) := by decide +kernel
theorem dX15_mixCanvas_20 : decode cX15_mixCanvas 20 = .ok (.iconst 3, 1) := by decide +kernel
theorem dX15_mixCanvas_21 : decode cX15_mixCanvas 21 = .ok (.if_icmp .ne 7, 3) := by decide +kernel
theorem dX15_mixCanvas_24 : decode cX15_mixCanvas 24 = .ok (.iconst 4, 1) := by decide +kernel
theorem dX15_mixCanvas_25 : decode cX15_mixCanvas 25 = .ok (.goto 4, 3) := by decide +kernel
theorem dX15_mixCanvas_28 : decode cX15_mixCanvas 28 = .ok (.iconst 3, 1) := by decide +kernel
theorem dX15_mixCanvas_29 : decode cX15_mixCanvas 29 = .ok (.if_icmp .ge 49, 3) := by decide +kernel
theorem dX15_mixCanvas_32 : decode cX15_mixCanvas 32 = .ok (.iload_n 2, 1) := by decide +kernel
theorem dX15_mixCanvas_33 : decode cX15_mixCanvas 33 = .ok (.ifCond .eq 37, 3) := by decide +kernel
theorem dX15_mixCanvas_36 : decode cX15_mixCanvas 36 = .ok (.aload_n 0, 1) := by decide +kernel
theorem dX15_mixCanvas_37 : decode cX15_mixCanvas 37 = .ok (.getfield 98, 3) := by decide +kernel
theorem dX15_mixCanvas_40 : decode cX15_mixCanvas 40 = .ok (.iload_n 3, 1) := by decide +kernel
theorem dX15_mixCanvas_41 : decode cX15_mixCanvas 41 = .ok (.iaload, 1) := by decide +kernel
theorem dX15_mixCanvas_42 : decode cX15_mixCanvas 42 = .ok (.aload_n 0, 1) := by decide +kernel
theorem dX15_mixCanvas_43 : decode cX15_mixCanvas 43 = .ok (.getfield 98, 3) := by decide +kernel
theorem dX15_mixCanvas_46 : decode cX15_mixCanvas 46 = .ok (.iconst 0, 1) := by decide +kernel
theorem dX15_mixCanvas_47 : decode cX15_mixCanvas 47 = .ok (.iaload, 1) := by decide +kernel
theorem dX15_mixCanvas_48 : decode cX15_mixCanvas 48 = .ok (.if_icmp .ne 22, 3) := by decide +kernel
theorem dX15_mixCanvas_51 : decode cX15_mixCanvas 51 = .ok (.aload_n 0, 1) := by decide +kernel
theorem dX15_mixCanvas_52 : decode cX15_mixCanvas 52 = .ok (.getfield 101, 3) := by decide +kernel
theorem dX15_mixCanvas_55 : decode cX15_mixCanvas 55 = .ok (.iload_n 3, 1) := by decide +kernel
theorem dX15_mixCanvas_56 : decode cX15_mixCanvas 56 = .ok (.iaload, 1) := by decide +kernel
theorem dX15_mixCanvas_57 : decode cX15_mixCanvas 57 = .ok (.aload_n 0, 1) := by decide +kernel
theorem dX15_mixCanvas_58 : decode cX15_mixCanvas 58 = .ok (.getfield 101, 3) := by decide +kernel
theorem dX15_mixCanvas_61 : decode cX15_mixCanvas 61 = .ok (.iconst 0, 1) := by decide +kernel
theorem dX15_mixCanvas_62 : decode cX15_mixCanvas 62 = .ok (.iaload, 1) := by decide +kernel
theorem dX15_mixCanvas_63 : decode cX15_mixCanvas 63 = .ok (.if_icmp .ne 7, 3) := by decide +kernel
theorem dX15_mixCanvas_66 : decode cX15_mixCanvas 66 = .ok (.iconst 1, 1) := by decide +kernel
theorem dX15_mixCanvas_67 : decode cX15_mixCanvas 67 = .ok (.goto 4, 3) := by decide +kernel
theorem dX15_mixCanvas_70 : decode cX15_mixCanvas 70 = .ok (.iconst 0, 1) := by decide +kernel
theorem dX15_mixCanvas_71 : decode cX15_mixCanvas 71 = .ok (.istore_n 2, 1) := by decide +kernel
theorem dX15_mixCanvas_72 : decode cX15_mixCanvas 72 = .ok (.iinc 3 1, 3) := by decide +kernel
theorem dX15_mixCanvas_75 : decode cX15_mixCanvas 75 = .ok (.goto (-57), 3) := by decide +kernel
theorem dX15_mixCanvas_78 : decode cX15_mixCanvas 78 = .ok (.iload_n 2, 1) := by decide +kernel
theorem dX15_mixCanvas_79 : decode cX15_mixCanvas 79 = .ok (.ifCond .ne 5, 3) := by decide +kernel
theorem dX15_mixCanvas_82 : decode cX15_mixCanvas 82 = .ok (.iconst 0, 1) := by decide +kernel
theorem dX15_mixCanvas_83 : decode cX15_mixCanvas 83 = .ok (.ireturn, 1) := by decide +kernel
theorem dX15_mixCanvas_84 : decode cX15_mixCanvas 84 = .ok (.iconst 0, 1) := by decide +kernel
theorem dX15_mixCanvas_85 : decode cX15_mixCanvas 85 = .ok (.istore_n 3, 1) := by decide +kernel
theorem dX15_mixCanvas_86 : decode cX15_mixCanvas 86 = .ok (.iload_n 3, 1) := by decide +kernel
theorem dX15_mixCanvas_87 : decode cX15_mixCanvas 87 = .ok (.aload_n 0, 1) := by decide +kernel
theorem dX15_mixCanvas_88 : decode cX15_mixCanvas 88 = .ok (.getfield 98, 3) := by decide +kernel
theorem dX15_mixCanvas_91 : decode cX15_mixCanvas 91 = .ok (.iconst 0, 1) := by decide +kernel
theorem dX15_mixCanvas_92 : decode cX15_mixCanvas 92 = .ok (.iaload, 1) := by decide +kernel
theorem dX15_mixCanvas_93 : decode cX15_mixCanvas 93 = .ok (.aload_n 0, 1) := by decide +kernel
theorem dX15_mixCanvas_94 : decode cX15_mixCanvas 94 = .ok (.getfield 101, 3) := by decide +kernel
theorem dX15_mixCanvas_97 : decode cX15_mixCanvas 97 = .ok (.iconst 0, 1) := by decide +kernel
theorem dX15_mixCanvas_98 : decode cX15_mixCanvas 98 = .ok (.iaload, 1) := by decide +kernel
theorem dX15_mixCanvas_99 : decode cX15_mixCanvas 99 = .ok (.imul, 1) := by decide +kernel
theorem dX15_mixCanvas_100 : decode cX15_mixCanvas 100 = .ok (.if_icmp .ge 118, 3) := by decide +kernel
theorem dX15_mixCanvas_103 : decode cX15_mixCanvas 103 = .ok (.aload_n 0, 1) := by decide +kernel
theorem dX15_mixCanvas_104 : decode cX15_mixCanvas 104 = .ok (.getfield 95, 3) := by decide +kernel
theorem dX15_mixCanvas_107 : decode cX15_mixCanvas 107 = .ok (.iload_n 3, 1) := by decide +kernel
theorem dX15_mixCanvas_108 : decode cX15_mixCanvas 108 = .ok (.iaload, 1) := by decide +kernel
theorem dX15_mixCanvas_109 : decode cX15_mixCanvas 109 = .ok (.istore 4, 2) := by decide +kernel
theorem dX15_mixCanvas_111 : decode cX15_mixCanvas 111 = .ok (.aload_n 0, 1) := by decide +kernel
theorem dX15_mixCanvas_112 : decode cX15_mixCanvas 112 = .ok (.getfield 95, 3) := by decide +kernel
theorem dX15_mixCanvas_115 : decode cX15_mixCanvas 115 = .ok (.sipush 1024, 3) := by decide +kernel
theorem dX15_mixCanvas_118 : decode cX15_mixCanvas 118 = .ok (.iload_n 3, 1) := by decide +kernel
theorem dX15_mixCanvas_119 : decode cX15_mixCanvas 119 = .ok (.iadd, 1) := by decide +kernel
theorem dX15_mixCanvas_120 : decode cX15_mixCanvas 120 = .ok (.iaload, 1) := by decide +kernel
theorem dX15_mixCanvas_121 : decode cX15_mixCanvas 121 = .ok (.istore 5, 2) := by decide +kernel
theorem dX15_mixCanvas_123 : decode cX15_mixCanvas 123 = .ok (.aload_n 0, 1) := by decide +kernel
theorem dX15_mixCanvas_124 : decode cX15_mixCanvas 124 = .ok (.getfield 95, 3) := by decide +kernel
theorem dX15_mixCanvas_127 : decode cX15_mixCanvas 127 = .ok (.sipush 2048, 3) := by decide +kernel
theorem dX15_mixCanvas_130 : decode cX15_mixCanvas 130 = .ok (.iload_n 3, 1) := by decide +kernel
theorem dX15_mixCanvas_131 : decode cX15_mixCanvas 131 = .ok (.iadd, 1) := by decide +kernel
theorem dX15_mixCanvas_132 : decode cX15_mixCanvas 132 = .ok (.iaload, 1) := by decide +kernel
theorem dX15_mixCanvas_133 : decode cX15_mixCanvas 133 = .ok (.istore 6, 2) := by decide +kernel
theorem dX15_mixCanvas_135 : decode cX15_mixCanvas 135 = .ok (.aload_n 0, 1) := by decide +kernel
theorem dX15_mixCanvas_136 : decode cX15_mixCanvas 136 = .ok (.getfield 95, 3) := by decide +kernel
theorem dX15_mixCanvas_139 : decode cX15_mixCanvas 139 = .ok (.sipush 3072, 3) := by decide +kernel
theorem dX15_mixCanvas_142 : decode cX15_mixCanvas 142 = .ok (.iload_n 3, 1) := by decide +kernel
theorem dX15_mixCanvas_143 : decode cX15_mixCanvas 143 = .ok (.iadd, 1) := by decide +kernel
theorem dX15_mixCanvas_144 : decode cX15_mixCanvas 144 = .ok (.iaload, 1) := by decide +kernel
theorem dX15_mixCanvas_145 : decode cX15_mixCanvas 145 = .ok (.istore 7, 2) := by decide +kernel
theorem dX15_mixCanvas_147 : decode cX15_mixCanvas 147 = .ok (.aload_n 0, 1) := by decide +kernel
theorem dX15_mixCanvas_148 : decode cX15_mixCanvas 148 = .ok (.getfield 95, 3) := by decide +kernel
theorem dX15_mixCanvas_151 : decode cX15_mixCanvas 151 = .ok (.iload_n 3, 1) := by decide +kernel
theorem dX15_mixCanvas_152 : decode cX15_mixCanvas 152 = .ok (.iload_n 1, 1) := by decide +kernel
theorem dX15_mixCanvas_153 : decode cX15_mixCanvas 153 = .ok (.iconst 0, 1) := by decide +kernel
theorem dX15_mixCanvas_154 : decode cX15_mixCanvas 154 = .ok (.iload 4, 2) := by decide +kernel
theorem dX15_mixCanvas_156 : decode cX15_mixCanvas 156 = .ok (.iload 5, 2) := by decide +kernel
theorem dX15_mixCanvas_158 : decode cX15_mixCanvas 158 = .ok (.iload 6, 2) := by decide +kernel
theorem dX15_mixCanvas_160 : decode cX15_mixCanvas 160 = .ok (.iload 7, 2) := by decide +kernel
theorem dX15_mixCanvas_162 : decode cX15_mixCanvas 162 = .ok (.invokestatic 415, 3) := by decide +kernel
theorem dX15_mixCanvas_165 : decode cX15_mixCanvas 165 = .ok (.iastore, 1) := by decide +kernel
theorem dX15_mixCanvas_166 : decode cX15_mixCanvas 166 = .ok (.aload_n 0, 1) := by decide +kernel
theorem dX15_mixCanvas_167 : decode cX15_mixCanvas 167 = .ok (.getfield 95, 3) := by decide +kernel
theorem dX15_mixCanvas_170 : decode cX15_mixCanvas 170 = .ok (.sipush 1024, 3) := by decide +kernel
theorem dX15_mixCanvas_173 : decode cX15_mixCanvas 173 = .ok (.iload_n 3, 1) := by decide +kernel
theorem dX15_mixCanvas_174 : decode cX15_mixCanvas 174 = .ok (.iadd, 1) := by decide +kernel
theorem dX15_mixCanvas_175 : decode cX15_mixCanvas 175 = .ok (.iload_n 1, 1) := by decide +kernel
theorem dX15_mixCanvas_176 : decode cX15_mixCanvas 176 = .ok (.iconst 1, 1) := by decide +kernel
theorem dX15_mixCanvas_177 : decode cX15_mixCanvas 177 = .ok (.iload 4, 2) := by decide +kernel
theorem dX15_mixCanvas_179 : decode cX15_mixCanvas 179 = .ok (.iload 5, 2) := by decide +kernel
theorem dX15_mixCanvas_181 : decode cX15_mixCanvas 181 = .ok (.iload 6, 2) := by decide +kernel
theorem dX15_mixCanvas_183 : decode cX15_mixCanvas 183 = .ok (.iload 7, 2) := by decide +kernel
theorem dX15_mixCanvas_185 : decode cX15_mixCanvas 185 = .ok (.invokestatic 415, 3) := by decide +kernel
theorem dX15_mixCanvas_188 : decode cX15_mixCanvas 188 = .ok (.iastore, 1) := by decide +kernel
theorem dX15_mixCanvas_189 : decode cX15_mixCanvas 189 = .ok (.aload_n 0, 1) := by decide +kernel
theorem dX15_mixCanvas_190 : decode cX15_mixCanvas 190 = .ok (.getfield 95, 3) := by decide +kernel
theorem dX15_mixCanvas_193 : decode cX15_mixCanvas 193 = .ok (.sipush 2048, 3) := by decide +kernel
theorem dX15_mixCanvas_196 : decode cX15_mixCanvas 196 = .ok (.iload_n 3, 1) := by decide +kernel
theorem dX15_mixCanvas_197 : decode cX15_mixCanvas 197 = .ok (.iadd, 1) := by decide +kernel
theorem dX15_mixCanvas_198 : decode cX15_mixCanvas 198 = .ok (.iload_n 1, 1) := by decide +kernel
theorem dX15_mixCanvas_199 : decode cX15_mixCanvas 199 = .ok (.iconst 2, 1) := by decide +kernel
theorem dX15_mixCanvas_200 : decode cX15_mixCanvas 200 = .ok (.iload 4, 2) := by decide +kernel
theorem dX15_mixCanvas_202 : decode cX15_mixCanvas 202 = .ok (.iload 5, 2) := by decide +kernel
theorem dX15_mixCanvas_204 : decode cX15_mixCanvas 204 = .ok (.iload 6, 2) := by decide +kernel
theorem dX15_mixCanvas_206 : decode cX15_mixCanvas 206 = .ok (.iload 7, 2) := by decide +kernel
theorem dX15_mixCanvas_208 : decode cX15_mixCanvas 208 = .ok (.invokestatic 415, 3) := by decide +kernel
theorem dX15_mixCanvas_211 : decode cX15_mixCanvas 211 = .ok (.iastore, 1) := by decide +kernel
theorem dX15_mixCanvas_212 : decode cX15_mixCanvas 212 = .ok (.iinc 3 1, 3) := by decide +kernel
theorem dX15_mixCanvas_215 : decode cX15_mixCanvas 215 = .ok (.goto (-129), 3) := by decide +kernel
theorem dX15_mixCanvas_218 : decode cX15_mixCanvas 218 = .ok (.iconst 1, 1) := by decide +kernel
theorem dX15_mixCanvas_219 : decode cX15_mixCanvas 219 = .ok (.ireturn, 1) := by decide +kernel
theorem mbX15_tone : px_mB mX15_tone 6 := ⟨tb10 (List.mem_of_getElem? (i := 135) rfl), by decide +kernel, tb1 (List.mem_of_getElem? (i := 13) rfl), by decide +kernel, by decide +kernel⟩
theorem kcX15_mixCanvas_415 : px_cS mX15_mixCanvas 415 mX15_tone 6 := ⟨⟨mbX15_tone, by decide, by decide⟩, Or.inl (tb10 (List.mem_of_getElem? (i := 133) rfl)), tb10 (List.mem_of_getElem? (i := 134) rfl)⟩
set_option maxRecDepth 100000 in
set_option maxHeartbeats 4000000 in
theorem eX15_mixCanvas_71 {X : px_X} {k18 : Nat → Int32 → Int32 → Int32 → px_W → Option (Int32 × px_W)} (hk18 : ∀ (a0 : Nat) (a1 : Int32) (a2 : Int32) (a3 : Int32) (w : px_W) (q : Int32 × px_W), k18 a0 a1 a2 a3 w = some q → EV X mX15_mixCanvas 18 [(0, .ref a0), (1, .int a1), (2, .int a2), (3, .int a3)] [] w (some (.int q.1)) q.2) : ∀ (a0 : Nat) (a1 : Int32) (a3 : Int32) (s0 : Int32) (w : px_W) (q : Int32 × px_W), fX15_mixCanvas_71 X k18 a0 a1 a3 s0 w = some q → EV X mX15_mixCanvas 71 [(0, .ref a0), (1, .int a1), (3, .int a3)] [.int s0] w (some (.int q.1)) q.2 := by
  intro a0 a1 a3 s0 w q h
  unfold fX15_mixCanvas_71 at h
  refine EV.istore_n [(2, .int s0), (0, .ref a0), (1, .int a1), (3, .int a3)] dX15_mixCanvas_71 rfl (by decide) rfl ?_
  refine EV.iinc 3 (a3 + 1) [(3, .int (a3 + 1)), (2, .int s0), (0, .ref a0), (1, .int a1)] dX15_mixCanvas_72 rfl rfl (by decide) rfl ?_
  refine EV.goto 18 dX15_mixCanvas_75 (by decide) ?_
  refine EV.sub [2, 3, 1, 0] rfl ?_
  exact hk18 _ _ _ _ _ _ h
set_option maxRecDepth 100000 in
set_option maxHeartbeats 4000000 in
theorem eX15_mixCanvas_70 {X : px_X} {k18 : Nat → Int32 → Int32 → Int32 → px_W → Option (Int32 × px_W)} (hk18 : ∀ (a0 : Nat) (a1 : Int32) (a2 : Int32) (a3 : Int32) (w : px_W) (q : Int32 × px_W), k18 a0 a1 a2 a3 w = some q → EV X mX15_mixCanvas 18 [(0, .ref a0), (1, .int a1), (2, .int a2), (3, .int a3)] [] w (some (.int q.1)) q.2) : ∀ (a0 : Nat) (a1 : Int32) (a3 : Int32) (w : px_W) (q : Int32 × px_W), fX15_mixCanvas_70 X k18 a0 a1 a3 w = some q → EV X mX15_mixCanvas 70 [(0, .ref a0), (1, .int a1), (3, .int a3)] [] w (some (.int q.1)) q.2 := by
  intro a0 a1 a3 w q h
  unfold fX15_mixCanvas_70 at h
  refine EV.iconst (0) dX15_mixCanvas_70 (by decide) ?_
  refine EV.sub [0, 1, 2] rfl ?_
  exact eX15_mixCanvas_71 hk18 _ _ _ _ _ _ h
set_option maxRecDepth 100000 in
set_option maxHeartbeats 4000000 in
theorem eX15_mixCanvas_86 {X : px_X}  : ∀ (m : Nat) (a0 : Nat) (a1 : Int32) (a3 : Int32) (w : px_W) (q : Int32 × px_W), fX15_mixCanvas_86 X  m a0 a1 a3 w = some q → EV X mX15_mixCanvas 86 [(0, .ref a0), (1, .int a1), (3, .int a3)] [] w (some (.int q.1)) q.2 := by
  intro m
  induction m with
  | zero => intro a0 a1 a3 w q h; cases h
  | succ m ih =>
    intro a0 a1 a3 w q h
    rw [fX15_mixCanvas_86.eq_2] at h
    refine EV.iload_n 2 dX15_mixCanvas_86 rfl rfl ?_
    refine EV.aload_n 0 dX15_mixCanvas_87 rfl rfl ?_
    obtain ⟨v30, gv30, h⟩ := px_bs h
    refine ev_gR dX15_mixCanvas_88 flRX15_98 gv30 ?_
    refine EV.iconst (0) dX15_mixCanvas_91 (by decide) ?_
    obtain ⟨v31, gv31, h⟩ := px_bs h
    refine ev_aI dX15_mixCanvas_92 gv31 ?_
    refine EV.aload_n 0 dX15_mixCanvas_93 rfl rfl ?_
    obtain ⟨v32, gv32, h⟩ := px_bs h
    refine ev_gR dX15_mixCanvas_94 flRX15_101 gv32 ?_
    refine EV.iconst (0) dX15_mixCanvas_97 (by decide) ?_
    obtain ⟨v33, gv33, h⟩ := px_bs h
    refine ev_aI dX15_mixCanvas_98 gv33 ?_
    refine EV.imul dX15_mixCanvas_99 ?_
    refine EV.icmp_ge 218 dX15_mixCanvas_100 (by decide) (fun c34 => ?_) (fun c34 => ?_)
    · rw [if_pos c34] at h
      refine EV.iconst (1) dX15_mixCanvas_218 (by decide) ?_
      cases h
      exact EV.reti dX15_mixCanvas_219 rfl
    · rw [if_neg c34] at h
      refine EV.aload_n 0 dX15_mixCanvas_103 rfl rfl ?_
      obtain ⟨v35, gv35, h⟩ := px_bs h
      refine ev_gR dX15_mixCanvas_104 flRX15_95 gv35 ?_
      refine EV.iload_n 2 dX15_mixCanvas_107 rfl rfl ?_
      obtain ⟨v36, gv36, h⟩ := px_bs h
      refine ev_aI dX15_mixCanvas_108 gv36 ?_
      refine EV.istore [(4, .int v36), (0, .ref a0), (1, .int a1), (3, .int a3)] dX15_mixCanvas_109 (by decide) rfl ?_
      refine EV.aload_n 1 dX15_mixCanvas_111 rfl rfl ?_
      obtain ⟨v37, gv37, h⟩ := px_bs h
      refine ev_gR dX15_mixCanvas_112 flRX15_95 gv37 ?_
      refine EV.sipush (1024) dX15_mixCanvas_115 (by decide) ?_
      refine EV.iload_n 3 dX15_mixCanvas_118 rfl rfl ?_
      refine EV.iadd dX15_mixCanvas_119 ?_
      obtain ⟨v38, gv38, h⟩ := px_bs h
      refine ev_aI dX15_mixCanvas_120 gv38 ?_
      refine EV.istore [(5, .int v38), (4, .int v36), (0, .ref a0), (1, .int a1), (3, .int a3)] dX15_mixCanvas_121 (by decide) rfl ?_
      refine EV.aload_n 2 dX15_mixCanvas_123 rfl rfl ?_
      obtain ⟨v39, gv39, h⟩ := px_bs h
      refine ev_gR dX15_mixCanvas_124 flRX15_95 gv39 ?_
      refine EV.sipush (2048) dX15_mixCanvas_127 (by decide) ?_
      refine EV.iload_n 4 dX15_mixCanvas_130 rfl rfl ?_
      refine EV.iadd dX15_mixCanvas_131 ?_
      obtain ⟨v40, gv40, h⟩ := px_bs h
      refine ev_aI dX15_mixCanvas_132 gv40 ?_
      refine EV.istore [(6, .int v40), (5, .int v38), (4, .int v36), (0, .ref a0), (1, .int a1), (3, .int a3)] dX15_mixCanvas_133 (by decide) rfl ?_
      refine EV.aload_n 3 dX15_mixCanvas_135 rfl rfl ?_
      obtain ⟨v41, gv41, h⟩ := px_bs h
      refine ev_gR dX15_mixCanvas_136 flRX15_95 gv41 ?_
      refine EV.sipush (3072) dX15_mixCanvas_139 (by decide) ?_
      refine EV.iload_n 5 dX15_mixCanvas_142 rfl rfl ?_
      refine EV.iadd dX15_mixCanvas_143 ?_
      obtain ⟨v42, gv42, h⟩ := px_bs h
      refine ev_aI dX15_mixCanvas_144 gv42 ?_
      refine EV.istore [(7, .int v42), (6, .int v40), (5, .int v38), (4, .int v36), (0, .ref a0), (1, .int a1), (3, .int a3)] dX15_mixCanvas_145 (by decide) rfl ?_
      refine EV.aload_n 4 dX15_mixCanvas_147 rfl rfl ?_
      obtain ⟨v43, gv43, h⟩ := px_bs h
      refine ev_gR dX15_mixCanvas_148 flRX15_95 gv43 ?_
      refine EV.iload_n 6 dX15_mixCanvas_151 rfl rfl ?_
      refine EV.iload_n 5 dX15_mixCanvas_152 rfl rfl ?_
      refine EV.iconst (0) dX15_mixCanvas_153 (by decide) ?_
      refine EV.iload 3 dX15_mixCanvas_154 rfl ?_
      refine EV.iload 2 dX15_mixCanvas_156 rfl ?_
      refine EV.iload 1 dX15_mixCanvas_158 rfl ?_
      refine EV.iload 0 dX15_mixCanvas_160 rfl ?_
      obtain ⟨q44, gq44, h⟩ := px_bs h
      refine EV.callS (As := [.int a1, .int 0, .int v36, .int v38, .int v40, .int v42]) (rest := [.int a3, .ref v43]) dX15_mixCanvas_162 kcX15_mixCanvas_415 rfl (Nat.le_of_ble_eq_true rfl) (Nat.le_of_ble_eq_true rfl) (eX15_tone gq44) ?_
      obtain ⟨w45, gw45, h⟩ := px_bs h
      refine ev_sI dX15_mixCanvas_165 gw45 ?_
      refine EV.aload_n 4 dX15_mixCanvas_166 rfl rfl ?_
      obtain ⟨v46, gv46, h⟩ := px_bs h
      refine ev_gR dX15_mixCanvas_167 flRX15_95 gv46 ?_
      refine EV.sipush (1024) dX15_mixCanvas_170 (by decide) ?_
      refine EV.iload_n 6 dX15_mixCanvas_173 rfl rfl ?_
      refine EV.iadd dX15_mixCanvas_174 ?_
      refine EV.iload_n 5 dX15_mixCanvas_175 rfl rfl ?_
      refine EV.iconst (1) dX15_mixCanvas_176 (by decide) ?_
      refine EV.iload 3 dX15_mixCanvas_177 rfl ?_
      refine EV.iload 2 dX15_mixCanvas_179 rfl ?_
      refine EV.iload 1 dX15_mixCanvas_181 rfl ?_
      refine EV.iload 0 dX15_mixCanvas_183 rfl ?_
      obtain ⟨q47, gq47, h⟩ := px_bs h
      refine EV.callS (As := [.int a1, .int 1, .int v36, .int v38, .int v40, .int v42]) (rest := [.int (1024 + a3), .ref v46]) dX15_mixCanvas_185 kcX15_mixCanvas_415 rfl (Nat.le_of_ble_eq_true rfl) (Nat.le_of_ble_eq_true rfl) (eX15_tone gq47) ?_
      obtain ⟨w48, gw48, h⟩ := px_bs h
      refine ev_sI dX15_mixCanvas_188 gw48 ?_
      refine EV.aload_n 4 dX15_mixCanvas_189 rfl rfl ?_
      obtain ⟨v49, gv49, h⟩ := px_bs h
      refine ev_gR dX15_mixCanvas_190 flRX15_95 gv49 ?_
      refine EV.sipush (2048) dX15_mixCanvas_193 (by decide) ?_
      refine EV.iload_n 6 dX15_mixCanvas_196 rfl rfl ?_
      refine EV.iadd dX15_mixCanvas_197 ?_
      refine EV.iload_n 5 dX15_mixCanvas_198 rfl rfl ?_
      refine EV.iconst (2) dX15_mixCanvas_199 (by decide) ?_
      refine EV.iload 3 dX15_mixCanvas_200 rfl ?_
      refine EV.iload 2 dX15_mixCanvas_202 rfl ?_
      refine EV.iload 1 dX15_mixCanvas_204 rfl ?_
      refine EV.iload 0 dX15_mixCanvas_206 rfl ?_
      obtain ⟨q50, gq50, h⟩ := px_bs h
      refine EV.callS (As := [.int a1, .int 2, .int v36, .int v38, .int v40, .int v42]) (rest := [.int (2048 + a3), .ref v49]) dX15_mixCanvas_208 kcX15_mixCanvas_415 rfl (Nat.le_of_ble_eq_true rfl) (Nat.le_of_ble_eq_true rfl) (eX15_tone gq50) ?_
      obtain ⟨w51, gw51, h⟩ := px_bs h
      refine ev_sI dX15_mixCanvas_211 gw51 ?_
      refine EV.iinc 6 (a3 + 1) [(3, .int (a3 + 1)), (7, .int v42), (6, .int v40), (5, .int v38), (4, .int v36), (0, .ref a0), (1, .int a1)] dX15_mixCanvas_212 rfl rfl (by decide) rfl ?_
      refine EV.goto 86 dX15_mixCanvas_215 (by decide) ?_
      refine EV.sub [5, 6, 0] rfl ?_
      exact ih _ _ _ _ _ h
set_option maxRecDepth 100000 in
set_option maxHeartbeats 4000000 in
theorem eX15_mixCanvas_78 {X : px_X}  : ∀ (a0 : Nat) (a1 : Int32) (a2 : Int32) (w : px_W) (q : Int32 × px_W), fX15_mixCanvas_78 X  a0 a1 a2 w = some q → EV X mX15_mixCanvas 78 [(0, .ref a0), (1, .int a1), (2, .int a2)] [] w (some (.int q.1)) q.2 := by
  intro a0 a1 a2 w q h
  unfold fX15_mixCanvas_78 at h
  refine EV.iload_n 2 dX15_mixCanvas_78 rfl rfl ?_
  refine EV.if_ne 84 dX15_mixCanvas_79 (by decide) (fun c52 => ?_) (fun c52 => ?_)
  · rw [if_neg c52] at h
    refine EV.iconst (0) dX15_mixCanvas_84 (by decide) ?_
    refine EV.istore_n [(3, .int 0), (0, .ref a0), (1, .int a1), (2, .int a2)] dX15_mixCanvas_85 rfl (by decide) rfl ?_
    refine EV.sub [1, 2, 0] rfl ?_
    exact eX15_mixCanvas_86  FU _ _ _ _ _ h
  · rw [if_pos c52] at h
    refine EV.iconst (0) dX15_mixCanvas_82 (by decide) ?_
    cases h
    exact EV.reti dX15_mixCanvas_83 rfl
set_option maxRecDepth 100000 in
set_option maxHeartbeats 4000000 in
theorem eX15_mixCanvas_29 {X : px_X} {k18 : Nat → Int32 → Int32 → Int32 → px_W → Option (Int32 × px_W)} (hk18 : ∀ (a0 : Nat) (a1 : Int32) (a2 : Int32) (a3 : Int32) (w : px_W) (q : Int32 × px_W), k18 a0 a1 a2 a3 w = some q → EV X mX15_mixCanvas 18 [(0, .ref a0), (1, .int a1), (2, .int a2), (3, .int a3)] [] w (some (.int q.1)) q.2) : ∀ (a0 : Nat) (a1 : Int32) (a2 : Int32) (a3 : Int32) (s0 : Int32) (s1 : Int32) (w : px_W) (q : Int32 × px_W), fX15_mixCanvas_29 X k18 a0 a1 a2 a3 s0 s1 w = some q → EV X mX15_mixCanvas 29 [(0, .ref a0), (1, .int a1), (2, .int a2), (3, .int a3)] [.int s0, .int s1] w (some (.int q.1)) q.2 := by
  intro a0 a1 a2 a3 s0 s1 w q h
  unfold fX15_mixCanvas_29 at h
  refine EV.icmp_ge 78 dX15_mixCanvas_29 (by decide) (fun c53 => ?_) (fun c53 => ?_)
  · rw [if_pos c53] at h
    refine EV.sub [0, 1, 2] rfl ?_
    exact eX15_mixCanvas_78  _ _ _ _ _ h
  · rw [if_neg c53] at h
    refine EV.iload_n 2 dX15_mixCanvas_32 rfl rfl ?_
    refine EV.if_eq 70 dX15_mixCanvas_33 (by decide) (fun c54 => ?_) (fun c54 => ?_)
    · rw [if_pos c54] at h
      refine EV.sub [0, 1, 3] rfl ?_
      exact eX15_mixCanvas_70 hk18 _ _ _ _ _ h
    · rw [if_neg c54] at h
      refine EV.aload_n 0 dX15_mixCanvas_36 rfl rfl ?_
      obtain ⟨v55, gv55, h⟩ := px_bs h
      refine ev_gR dX15_mixCanvas_37 flRX15_98 gv55 ?_
      refine EV.iload_n 3 dX15_mixCanvas_40 rfl rfl ?_
      obtain ⟨v56, gv56, h⟩ := px_bs h
      refine ev_aI dX15_mixCanvas_41 gv56 ?_
      refine EV.aload_n 0 dX15_mixCanvas_42 rfl rfl ?_
      obtain ⟨v57, gv57, h⟩ := px_bs h
      refine ev_gR dX15_mixCanvas_43 flRX15_98 gv57 ?_
      refine EV.iconst (0) dX15_mixCanvas_46 (by decide) ?_
      obtain ⟨v58, gv58, h⟩ := px_bs h
      refine ev_aI dX15_mixCanvas_47 gv58 ?_
      refine EV.icmp_ne 70 dX15_mixCanvas_48 (by decide) (fun c59 => ?_) (fun c59 => ?_)
      · rw [if_neg c59] at h
        refine EV.sub [0, 1, 3] rfl ?_
        exact eX15_mixCanvas_70 hk18 _ _ _ _ _ h
      · rw [if_pos c59] at h
        refine EV.aload_n 0 dX15_mixCanvas_51 rfl rfl ?_
        obtain ⟨v60, gv60, h⟩ := px_bs h
        refine ev_gR dX15_mixCanvas_52 flRX15_101 gv60 ?_
        refine EV.iload_n 3 dX15_mixCanvas_55 rfl rfl ?_
        obtain ⟨v61, gv61, h⟩ := px_bs h
        refine ev_aI dX15_mixCanvas_56 gv61 ?_
        refine EV.aload_n 0 dX15_mixCanvas_57 rfl rfl ?_
        obtain ⟨v62, gv62, h⟩ := px_bs h
        refine ev_gR dX15_mixCanvas_58 flRX15_101 gv62 ?_
        refine EV.iconst (0) dX15_mixCanvas_61 (by decide) ?_
        obtain ⟨v63, gv63, h⟩ := px_bs h
        refine ev_aI dX15_mixCanvas_62 gv63 ?_
        refine EV.icmp_ne 70 dX15_mixCanvas_63 (by decide) (fun c64 => ?_) (fun c64 => ?_)
        · rw [if_neg c64] at h
          refine EV.sub [0, 1, 3] rfl ?_
          exact eX15_mixCanvas_70 hk18 _ _ _ _ _ h
        · rw [if_pos c64] at h
          refine EV.iconst (1) dX15_mixCanvas_66 (by decide) ?_
          refine EV.goto 71 dX15_mixCanvas_67 (by decide) ?_
          refine EV.sub [0, 1, 3] rfl ?_
          exact eX15_mixCanvas_71 hk18 _ _ _ _ _ _ h
set_option maxRecDepth 100000 in
set_option maxHeartbeats 4000000 in
theorem eX15_mixCanvas_18 {X : px_X}  : ∀ (m : Nat) (a0 : Nat) (a1 : Int32) (a2 : Int32) (a3 : Int32) (w : px_W) (q : Int32 × px_W), fX15_mixCanvas_18 X  m a0 a1 a2 a3 w = some q → EV X mX15_mixCanvas 18 [(0, .ref a0), (1, .int a1), (2, .int a2), (3, .int a3)] [] w (some (.int q.1)) q.2 := by
  intro m
  induction m with
  | zero => intro a0 a1 a2 a3 w q h; cases h
  | succ m ih =>
    intro a0 a1 a2 a3 w q h
    rw [fX15_mixCanvas_18.eq_2] at h
    refine EV.iload_n 3 dX15_mixCanvas_18 rfl rfl ?_
    refine EV.iload_n 1 dX15_mixCanvas_19 rfl rfl ?_
    refine EV.iconst (3) dX15_mixCanvas_20 (by decide) ?_
    refine EV.icmp_ne 28 dX15_mixCanvas_21 (by decide) (fun c65 => ?_) (fun c65 => ?_)
    · rw [if_neg c65] at h
      refine EV.iconst (3) dX15_mixCanvas_28 (by decide) ?_
      refine EV.sub [0, 1, 2, 3] rfl ?_
      exact eX15_mixCanvas_29 ih _ _ _ _ _ _ _ _ h
    · rw [if_pos c65] at h
      refine EV.iconst (4) dX15_mixCanvas_24 (by decide) ?_
      refine EV.goto 29 dX15_mixCanvas_25 (by decide) ?_
      refine EV.sub [0, 1, 2, 3] rfl ?_
      exact eX15_mixCanvas_29 ih _ _ _ _ _ _ _ _ h
set_option maxRecDepth 100000 in
set_option maxHeartbeats 4000000 in
theorem eX15_mixCanvas_15 {X : px_X}  : ∀ (a0 : Nat) (a1 : Int32) (s0 : Int32) (w : px_W) (q : Int32 × px_W), fX15_mixCanvas_15 X  a0 a1 s0 w = some q → EV X mX15_mixCanvas 15 [(0, .ref a0), (1, .int a1)] [.int s0] w (some (.int q.1)) q.2 := by
  intro a0 a1 s0 w q h
  unfold fX15_mixCanvas_15 at h
  refine EV.istore_n [(2, .int s0), (0, .ref a0), (1, .int a1)] dX15_mixCanvas_15 rfl (by decide) rfl ?_
  refine EV.iconst (1) dX15_mixCanvas_16 (by decide) ?_
  refine EV.istore_n [(3, .int 1), (2, .int s0), (0, .ref a0), (1, .int a1)] dX15_mixCanvas_17 rfl (by decide) rfl ?_
  refine EV.sub [2, 3, 1, 0] rfl ?_
  exact eX15_mixCanvas_18  FU _ _ _ _ _ _ h
set_option maxRecDepth 100000 in
set_option maxHeartbeats 4000000 in
theorem eX15_mixCanvas_14 {X : px_X}  : ∀ (a0 : Nat) (a1 : Int32) (w : px_W) (q : Int32 × px_W), fX15_mixCanvas_14 X  a0 a1 w = some q → EV X mX15_mixCanvas 14 [(0, .ref a0), (1, .int a1)] [] w (some (.int q.1)) q.2 := by
  intro a0 a1 w q h
  unfold fX15_mixCanvas_14 at h
  refine EV.iconst (0) dX15_mixCanvas_14 (by decide) ?_
  refine EV.sub [0, 1] rfl ?_
  exact eX15_mixCanvas_15  _ _ _ _ _ h
set_option maxRecDepth 100000 in
set_option maxHeartbeats 4000000 in
theorem eX15_mixCanvas {X : px_X} {w : px_W} {a0 : Nat} {a1 : Int32} {q : Int32 × px_W} (h : fX15_mixCanvas X w a0 a1 = some q) : EV X mX15_mixCanvas 0 (lv_args 0 [.ref a0, .int a1]) [] w (some (.int q.1)) q.2 := by
  unfold fX15_mixCanvas at h
  show EV X mX15_mixCanvas 0 [(0, .ref a0), (1, .int a1)] [] w (some (.int q.1)) q.2
  refine EV.iload_n 1 dX15_mixCanvas_0 rfl rfl ?_
  refine EV.if_lt 14 dX15_mixCanvas_1 (by decide) (fun c66 => ?_) (fun c66 => ?_)
  · rw [if_pos c66] at h
    refine EV.sub [0, 1] rfl ?_
    exact eX15_mixCanvas_14  _ _ _ _ h
  · rw [if_neg c66] at h
    refine EV.iload_n 1 dX15_mixCanvas_4 rfl rfl ?_
    refine EV.bipush (7) dX15_mixCanvas_5 (by decide) ?_
    refine EV.icmp_ge 14 dX15_mixCanvas_7 (by decide) (fun c67 => ?_) (fun c67 => ?_)
    · rw [if_pos c67] at h
      refine EV.sub [0, 1] rfl ?_
      exact eX15_mixCanvas_14  _ _ _ _ h
    · rw [if_neg c67] at h
      refine EV.iconst (1) dX15_mixCanvas_10 (by decide) ?_
      refine EV.goto 15 dX15_mixCanvas_11 (by decide) ?_
      refine EV.sub [0, 1] rfl ?_
      exact eX15_mixCanvas_15  _ _ _ _ _ h
/-! WavePicturesModel.outputAt(I)I -/
theorem dX15_outputAt_0 : decode cX15_outputAt 0 = .ok (.iload_n 1, 1) := by decide +kernel
theorem dX15_outputAt_1 : decode cX15_outputAt 1 = .ok (.ifCond .lt 11, 3) := by decide +kernel
theorem dX15_outputAt_4 : decode cX15_outputAt 4 = .ok (.iload_n 1, 1) := by decide +kernel
theorem dX15_outputAt_5 : decode cX15_outputAt 5 = .ok (.aload_n 0, 1) := by decide +kernel
theorem dX15_outputAt_6 : decode cX15_outputAt 6 = .ok (.getfield 117, 3) := by decide +kernel
theorem dX15_outputAt_9 : decode cX15_outputAt 9 = .ok (.if_icmp .lt 7, 3) := by decide +kernel
theorem dX15_outputAt_12 : decode cX15_outputAt 12 = .ok (.iconst (-1), 1) := by decide +kernel
theorem dX15_outputAt_13 : decode cX15_outputAt 13 = .ok (.goto 13, 3) := by decide +kernel
theorem dX15_outputAt_16 : decode cX15_outputAt 16 = .ok (.aload_n 0, 1) := by decide +kernel
theorem dX15_outputAt_17 : decode cX15_outputAt 17 = .ok (.getfield 13, 3) := by decide +kernel
theorem dX15_outputAt_20 : decode cX15_outputAt 20 = .ok (.iload_n 1, 1) := by decide +kernel
theorem dX15_outputAt_21 : decode cX15_outputAt 21 = .ok (.baload, 1) := by decide +kernel
theorem dX15_outputAt_22 : decode cX15_outputAt 22 = .ok (.sipush 255, 3) := by decide +kernel
theorem dX15_outputAt_25 : decode cX15_outputAt 25 = .ok (.iand, 1) := by decide +kernel
theorem dX15_outputAt_26 : decode cX15_outputAt 26 = .ok (.ireturn, 1) := by decide +kernel
set_option maxRecDepth 100000 in
set_option maxHeartbeats 4000000 in
theorem eX15_outputAt {X : px_X} {w : px_W} {a0 : Nat} {a1 : Int32} {q : Int32 × px_W} (h : fX15_outputAt X w a0 a1 = some q) : EV X mX15_outputAt 0 (lv_args 0 [.ref a0, .int a1]) [] w (some (.int q.1)) q.2 := by
  unfold fX15_outputAt at h
  show EV X mX15_outputAt 0 [(0, .ref a0), (1, .int a1)] [] w (some (.int q.1)) q.2
  refine EV.iload_n 1 dX15_outputAt_0 rfl rfl ?_
  refine EV.if_lt 12 dX15_outputAt_1 (by decide) (fun c4 => ?_) (fun c4 => ?_)
  · rw [if_pos c4] at h
    refine EV.iconst ((-1)) dX15_outputAt_12 (by decide) ?_
    refine EV.goto 26 dX15_outputAt_13 (by decide) ?_
    cases h
    exact EV.reti dX15_outputAt_26 rfl
  · rw [if_neg c4] at h
    refine EV.iload_n 1 dX15_outputAt_4 rfl rfl ?_
    refine EV.aload_n 0 dX15_outputAt_5 rfl rfl ?_
    obtain ⟨v5, gv5, h⟩ := px_bs h
    refine ev_gI dX15_outputAt_6 flRX15_117 gv5 ?_
    refine EV.icmp_lt 16 dX15_outputAt_9 (by decide) (fun c6 => ?_) (fun c6 => ?_)
    · rw [if_pos c6] at h
      refine EV.aload_n 0 dX15_outputAt_16 rfl rfl ?_
      obtain ⟨v7, gv7, h⟩ := px_bs h
      refine ev_gR dX15_outputAt_17 flRX15_13 gv7 ?_
      refine EV.iload_n 1 dX15_outputAt_20 rfl rfl ?_
      obtain ⟨v8, gv8, h⟩ := px_bs h
      refine ev_aB dX15_outputAt_21 gv8 ?_
      refine EV.sipush (255) dX15_outputAt_22 (by decide) ?_
      refine EV.iand dX15_outputAt_25 ?_
      cases h
      exact EV.reti dX15_outputAt_26 rfl
    · rw [if_neg c6] at h
      refine EV.iconst ((-1)) dX15_outputAt_12 (by decide) ?_
      refine EV.goto 26 dX15_outputAt_13 (by decide) ?_
      cases h
      exact EV.reti dX15_outputAt_26 rfl
/-! WavePicturesModel.sum(Z)I -/
theorem dX15_sum_0 : decode cX15_sum 0 = .ok (.iconst 0, 1) := by decide +kernel
theorem dX15_sum_1 : decode cX15_sum 1 = .ok (.istore_n 2, 1) := by decide +kernel
theorem dX15_sum_2 : decode cX15_sum 2 = .ok (.iconst 0, 1) := by decide +kernel
theorem dX15_sum_3 : decode cX15_sum 3 = .ok (.istore_n 3, 1) := by decide +kernel
theorem dX15_sum_4 : decode cX15_sum 4 = .ok (.iload_n 3, 1) := by decide +kernel
theorem dX15_sum_5 : decode cX15_sum 5 = .ok (.bipush 64, 2) := by decide +kernel
theorem dX15_sum_7 : decode cX15_sum 7 = .ok (.aload_n 0, 1) := by decide +kernel
theorem dX15_sum_8 : decode cX15_sum 8 = .ok (.invokevirtual 419, 3) := by decide +kernel
theorem dX15_sum_11 : decode cX15_sum 11 = .ok (.imul, 1) := by decide +kernel
theorem dX15_sum_12 : decode cX15_sum 12 = .ok (.if_icmp .ge 58, 3) := by decide +kernel
theorem dX15_sum_15 : decode cX15_sum 15 = .ok (.aload_n 0, 1) := by decide +kernel
theorem dX15_sum_16 : decode cX15_sum 16 = .ok (.getfield 70, 3) := by decide +kernel
theorem dX15_sum_19 : decode cX15_sum 19 = .ok (.iload_n 3, 1) := by decide +kernel
theorem dX15_sum_20 : decode cX15_sum 20 = .ok (.saload, 1) := by decide +kernel
theorem dX15_sum_21 : decode cX15_sum 21 = .ok (.ifCond .ge 13, 3) := by decide +kernel
theorem dX15_sum_24 : decode cX15_sum 24 = .ok (.aload_n 0, 1) := by decide +kernel
theorem dX15_sum_25 : decode cX15_sum 25 = .ok (.getfield 70, 3) := by decide +kernel
theorem dX15_sum_28 : decode cX15_sum 28 = .ok (.iload_n 3, 1) := by decide +kernel
theorem dX15_sum_29 : decode cX15_sum 29 = .ok (.saload, 1) := by decide +kernel
theorem dX15_sum_30 : decode cX15_sum 30 = .ok (.ineg, 1) := by decide +kernel
theorem dX15_sum_31 : decode cX15_sum 31 = .ok (.goto 9, 3) := by decide +kernel
theorem dX15_sum_34 : decode cX15_sum 34 = .ok (.aload_n 0, 1) := by decide +kernel
theorem dX15_sum_35 : decode cX15_sum 35 = .ok (.getfield 70, 3) := by decide +kernel
theorem dX15_sum_38 : decode cX15_sum 38 = .ok (.iload_n 3, 1) := by decide +kernel
theorem dX15_sum_39 : decode cX15_sum 39 = .ok (.saload, 1) := by decide +kernel
theorem dX15_sum_40 : decode cX15_sum 40 = .ok (.istore 4, 2) := by decide +kernel
theorem dX15_sum_42 : decode cX15_sum 42 = .ok (.iload_n 2, 1) := by decide +kernel
theorem dX15_sum_43 : decode cX15_sum 43 = .ok (.iload_n 1, 1) := by decide +kernel
theorem dX15_sum_44 : decode cX15_sum 44 = .ok (.ifCond .eq 8, 3) := by decide +kernel
theorem dX15_sum_47 : decode cX15_sum 47 = .ok (.iload 4, 2) := by decide +kernel
theorem dX15_sum_49 : decode cX15_sum 49 = .ok (.goto 13, 3) := by decide +kernel
theorem dX15_sum_52 : decode cX15_sum 52 = .ok (.iload 4, 2) := by decide +kernel
theorem dX15_sum_54 : decode cX15_sum 54 = .ok (.ifCond .le 7, 3) := by decide +kernel
theorem dX15_sum_57 : decode cX15_sum 57 = .ok (.iconst 1, 1) := by decide +kernel
theorem dX15_sum_58 : decode cX15_sum 58 = .ok (.goto 4, 3) := by decide +kernel
theorem dX15_sum_61 : decode cX15_sum 61 = .ok (.iconst 0, 1) := by decide +kernel
theorem dX15_sum_62 : decode cX15_sum 62 = .ok (.iadd, 1) := by decide +kernel
theorem dX15_sum_63 : decode cX15_sum 63 = .ok (.istore_n 2, 1) := by decide +kernel
theorem dX15_sum_64 : decode cX15_sum 64 = .ok (.iinc 3 1, 3) := by decide +kernel
theorem dX15_sum_67 : decode cX15_sum 67 = .ok (.goto (-63), 3) := by decide +kernel
theorem dX15_sum_70 : decode cX15_sum 70 = .ok (.iload_n 2, 1) := by decide +kernel
theorem dX15_sum_71 : decode cX15_sum 71 = .ok (.ireturn, 1) := by decide +kernel
theorem mbX15_blocks : px_mB mX15_blocks 0 := ⟨tb10 (List.mem_of_getElem? (i := 159) rfl), by decide +kernel, tb1 (List.mem_of_getElem? (i := 13) rfl), by decide +kernel, by decide +kernel⟩
theorem vbX15_blocks : px_vB mX15_blocks := ⟨tb10 (List.mem_of_getElem? (i := 158) rfl), List.mem_append_left _ (List.mem_of_getElem? (i := 175) (by decide +kernel))⟩
theorem kcX15_sum_419 : px_cV mX15_sum 419 mX15_blocks 0 := ⟨⟨mbX15_blocks, by decide, by decide⟩, Or.inl (tb10 (List.mem_of_getElem? (i := 156) rfl)), vbX15_blocks⟩
set_option maxRecDepth 100000 in
set_option maxHeartbeats 4000000 in
theorem eX15_sum_62 {X : px_X} {k4 : Nat → Int32 → Int32 → Int32 → px_W → Option (Int32 × px_W)} (hk4 : ∀ (a0 : Nat) (a1 : Int32) (a2 : Int32) (a3 : Int32) (w : px_W) (q : Int32 × px_W), k4 a0 a1 a2 a3 w = some q → EV X mX15_sum 4 [(0, .ref a0), (1, .int a1), (2, .int a2), (3, .int a3)] [] w (some (.int q.1)) q.2) : ∀ (a0 : Nat) (a1 : Int32) (a3 : Int32) (s0 : Int32) (s1 : Int32) (w : px_W) (q : Int32 × px_W), fX15_sum_62 X k4 a0 a1 a3 s0 s1 w = some q → EV X mX15_sum 62 [(0, .ref a0), (1, .int a1), (3, .int a3)] [.int s0, .int s1] w (some (.int q.1)) q.2 := by
  intro a0 a1 a3 s0 s1 w q h
  unfold fX15_sum_62 at h
  refine EV.iadd dX15_sum_62 ?_
  refine EV.istore_n [(2, .int (s1 + s0)), (0, .ref a0), (1, .int a1), (3, .int a3)] dX15_sum_63 rfl (by decide) rfl ?_
  refine EV.iinc 3 (a3 + 1) [(3, .int (a3 + 1)), (2, .int (s1 + s0)), (0, .ref a0), (1, .int a1)] dX15_sum_64 rfl rfl (by decide) rfl ?_
  refine EV.goto 4 dX15_sum_67 (by decide) ?_
  refine EV.sub [2, 3, 1, 0] rfl ?_
  exact hk4 _ _ _ _ _ _ h
set_option maxRecDepth 100000 in
set_option maxHeartbeats 4000000 in
theorem eX15_sum_40 {X : px_X} {k4 : Nat → Int32 → Int32 → Int32 → px_W → Option (Int32 × px_W)} (hk4 : ∀ (a0 : Nat) (a1 : Int32) (a2 : Int32) (a3 : Int32) (w : px_W) (q : Int32 × px_W), k4 a0 a1 a2 a3 w = some q → EV X mX15_sum 4 [(0, .ref a0), (1, .int a1), (2, .int a2), (3, .int a3)] [] w (some (.int q.1)) q.2) : ∀ (a0 : Nat) (a1 : Int32) (a2 : Int32) (a3 : Int32) (s0 : Int32) (w : px_W) (q : Int32 × px_W), fX15_sum_40 X k4 a0 a1 a2 a3 s0 w = some q → EV X mX15_sum 40 [(0, .ref a0), (1, .int a1), (2, .int a2), (3, .int a3)] [.int s0] w (some (.int q.1)) q.2 := by
  intro a0 a1 a2 a3 s0 w q h
  unfold fX15_sum_40 at h
  refine EV.istore [(4, .int s0), (0, .ref a0), (1, .int a1), (2, .int a2), (3, .int a3)] dX15_sum_40 (by decide) rfl ?_
  refine EV.iload_n 3 dX15_sum_42 rfl rfl ?_
  refine EV.iload_n 2 dX15_sum_43 rfl rfl ?_
  refine EV.if_eq 52 dX15_sum_44 (by decide) (fun c9 => ?_) (fun c9 => ?_)
  · rw [if_pos c9] at h
    refine EV.iload 0 dX15_sum_52 rfl ?_
    refine EV.if_le 61 dX15_sum_54 (by decide) (fun c10 => ?_) (fun c10 => ?_)
    · rw [if_pos c10] at h
      refine EV.iconst (0) dX15_sum_61 (by decide) ?_
      refine EV.sub [1, 2, 4] rfl ?_
      exact eX15_sum_62 hk4 _ _ _ _ _ _ _ h
    · rw [if_neg c10] at h
      refine EV.iconst (1) dX15_sum_57 (by decide) ?_
      refine EV.goto 62 dX15_sum_58 (by decide) ?_
      refine EV.sub [1, 2, 4] rfl ?_
      exact eX15_sum_62 hk4 _ _ _ _ _ _ _ h
  · rw [if_neg c9] at h
    refine EV.iload 0 dX15_sum_47 rfl ?_
    refine EV.goto 62 dX15_sum_49 (by decide) ?_
    refine EV.sub [1, 2, 4] rfl ?_
    exact eX15_sum_62 hk4 _ _ _ _ _ _ _ h
set_option maxRecDepth 100000 in
set_option maxHeartbeats 4000000 in
theorem eX15_sum_4 {X : px_X}  : ∀ (m : Nat) (a0 : Nat) (a1 : Int32) (a2 : Int32) (a3 : Int32) (w : px_W) (q : Int32 × px_W), fX15_sum_4 X  m a0 a1 a2 a3 w = some q → EV X mX15_sum 4 [(0, .ref a0), (1, .int a1), (2, .int a2), (3, .int a3)] [] w (some (.int q.1)) q.2 := by
  intro m
  induction m with
  | zero => intro a0 a1 a2 a3 w q h; cases h
  | succ m ih =>
    intro a0 a1 a2 a3 w q h
    rw [fX15_sum_4.eq_2] at h
    refine EV.iload_n 3 dX15_sum_4 rfl rfl ?_
    refine EV.bipush (64) dX15_sum_5 (by decide) ?_
    refine EV.aload_n 0 dX15_sum_7 rfl rfl ?_
    obtain ⟨o11, go11, h⟩ := px_bs h
    obtain ⟨q12, gq12, h⟩ := px_bs h
    refine EV.callV (As := []) (rest := [.int 64, .int a3]) dX15_sum_8 kcX15_sum_419 (gO_ok go11) rfl rfl rfl (Nat.le_of_ble_eq_true rfl) (Nat.le_of_ble_eq_true rfl) (eX15_blocks gq12) ?_
    refine EV.imul dX15_sum_11 ?_
    refine EV.icmp_ge 70 dX15_sum_12 (by decide) (fun c13 => ?_) (fun c13 => ?_)
    · rw [if_pos c13] at h
      refine EV.iload_n 2 dX15_sum_70 rfl rfl ?_
      cases h
      exact EV.reti dX15_sum_71 rfl
    · rw [if_neg c13] at h
      refine EV.aload_n 0 dX15_sum_15 rfl rfl ?_
      obtain ⟨v14, gv14, h⟩ := px_bs h
      refine ev_gR dX15_sum_16 flRX15_70 gv14 ?_
      refine EV.iload_n 3 dX15_sum_19 rfl rfl ?_
      obtain ⟨v15, gv15, h⟩ := px_bs h
      refine ev_aS dX15_sum_20 gv15 ?_
      refine EV.if_ge 34 dX15_sum_21 (by decide) (fun c16 => ?_) (fun c16 => ?_)
      · rw [if_pos c16] at h
        refine EV.aload_n 0 dX15_sum_34 rfl rfl ?_
        obtain ⟨v17, gv17, h⟩ := px_bs h
        refine ev_gR dX15_sum_35 flRX15_70 gv17 ?_
        refine EV.iload_n 3 dX15_sum_38 rfl rfl ?_
        obtain ⟨v18, gv18, h⟩ := px_bs h
        refine ev_aS dX15_sum_39 gv18 ?_
        refine EV.sub [0, 1, 2, 3] rfl ?_
        exact eX15_sum_40 ih _ _ _ _ _ _ _ h
      · rw [if_neg c16] at h
        refine EV.aload_n 0 dX15_sum_24 rfl rfl ?_
        obtain ⟨v19, gv19, h⟩ := px_bs h
        refine ev_gR dX15_sum_25 flRX15_70 gv19 ?_
        refine EV.iload_n 3 dX15_sum_28 rfl rfl ?_
        obtain ⟨v20, gv20, h⟩ := px_bs h
        refine ev_aS dX15_sum_29 gv20 ?_
        refine EV.ineg dX15_sum_30 ?_
        refine EV.goto 40 dX15_sum_31 (by decide) ?_
        refine EV.sub [0, 1, 2, 3] rfl ?_
        exact eX15_sum_40 ih _ _ _ _ _ _ _ h
set_option maxRecDepth 100000 in
set_option maxHeartbeats 4000000 in
theorem eX15_sum {X : px_X} {w : px_W} {a0 : Nat} {a1 : Int32} {q : Int32 × px_W} (h : fX15_sum X w a0 a1 = some q) : EV X mX15_sum 0 (lv_args 0 [.ref a0, .int a1]) [] w (some (.int q.1)) q.2 := by
  unfold fX15_sum at h
  show EV X mX15_sum 0 [(0, .ref a0), (1, .int a1)] [] w (some (.int q.1)) q.2
  refine EV.iconst (0) dX15_sum_0 (by decide) ?_
  refine EV.istore_n [(2, .int 0), (0, .ref a0), (1, .int a1)] dX15_sum_1 rfl (by decide) rfl ?_
  refine EV.iconst (0) dX15_sum_2 (by decide) ?_
  refine EV.istore_n [(3, .int 0), (2, .int 0), (0, .ref a0), (1, .int a1)] dX15_sum_3 rfl (by decide) rfl ?_
  refine EV.sub [2, 3, 1, 0] rfl ?_
  exact eX15_sum_4  FU _ _ _ _ _ _ h
/-! WavePicturesModel.aboutPicture(I)I -/
theorem dX15_aboutPicture_0 : decode cX15_aboutPicture 0 = .ok (.aload_n 0, 1) := by decide +kernel
theorem dX15_aboutPicture_1 : decode cX15_aboutPicture 1 = .ok (.getfield 235, 3) := by decide +kernel
theorem dX15_aboutPicture_4 : decode cX15_aboutPicture 4 = .ok (.ifCond .ne 5, 3) := by decide +kernel
theorem dX15_aboutPicture_7 : decode cX15_aboutPicture 7 = .ok (.iconst (-1), 1) := by decide +kernel
theorem dX15_aboutPicture_8 : decode cX15_aboutPicture 8 = .ok (.ireturn, 1) := by decide +kernel
theorem dX15_aboutPicture_9 : decode cX15_aboutPicture 9 = .ok (.iload_n 1, 1) := by decide +kernel
theorem dX15_aboutPicture_10 : decode cX15_aboutPicture 10 = .ok (.bipush 8, 2) := by decide +kernel
theorem dX15_aboutPicture_12 : decode cX15_aboutPicture 12 = .ok (.if_icmp .lt 76, 3) := by decide +kernel
theorem dX15_aboutPicture_15 : decode cX15_aboutPicture 15 = .ok (.iload_n 1, 1) := by decide +kernel
theorem dX15_aboutPicture_16 : decode cX15_aboutPicture 16 = .ok (.bipush 8, 2) := by decide +kernel
theorem dX15_aboutPicture_18 : decode cX15_aboutPicture 18 = .ok (.iconst 4, 1) := by decide +kernel
theorem dX15_aboutPicture_19 : decode cX15_aboutPicture 19 = .ok (.aload_n 0, 1) := by decide +kernel
theorem dX15_aboutPicture_20 : decode cX15_aboutPicture 20 = .ok (.getfield 126, 3) := by decide +kernel
theorem dX15_aboutPicture_23 : decode cX15_aboutPicture 23 = .ok (.imul, 1) := by decide +kernel
theorem dX15_aboutPicture_24 : decode cX15_aboutPicture 24 = .ok (.iadd, 1) := by decide +kernel
theorem dX15_aboutPicture_25 : decode cX15_aboutPicture 25 = .ok (.if_icmp .ge 63, 3) := by decide +kernel
theorem dX15_aboutPicture_28 : decode cX15_aboutPicture 28 = .ok (.iload_n 1, 1) := by decide +kernel
theorem dX15_aboutPicture_29 : decode cX15_aboutPicture 29 = .ok (.iconst 4, 1) := by decide +kernel
theorem dX15_aboutPicture_30 : decode cX15_aboutPicture 30 = .ok (.idiv, 1) := by decide +kernel
theorem dX15_aboutPicture_31 : decode cX15_aboutPicture 31 = .ok (.iconst 2, 1) := by decide +kernel
theorem dX15_aboutPicture_32 : decode cX15_aboutPicture 32 = .ok (.isub, 1) := by decide +kernel
theorem dX15_aboutPicture_33 : decode cX15_aboutPicture 33 = .ok (.istore_n 2, 1) := by decide +kernel
theorem dX15_aboutPicture_34 : decode cX15_aboutPicture 34 = .ok (.iload_n 1, 1) := by decide +kernel
theorem dX15_aboutPicture_35 : decode cX15_aboutPicture 35 = .ok (.iconst 4, 1) := by decide +kernel
theorem dX15_aboutPicture_36 : decode cX15_aboutPicture 36 = .ok (.irem, 1) := by decide +kernel
theorem dX15_aboutPicture_37 : decode cX15_aboutPicture 37 = .ok (.ifCond .ne 12, 3) := by decide +kernel
theorem dX15_aboutPicture_40 : decode cX15_aboutPicture 40 = .ok (.aload_n 0, 1) := by decide +kernel
theorem dX15_aboutPicture_41 : decode cX15_aboutPicture 41 = .ok (.getfield 52, 3) := by decide +kernel
theorem dX15_aboutPicture_44 : decode cX15_aboutPicture 44 = .ok (.iload_n 2, 1) := by decide +kernel
theorem dX15_aboutPicture_45 : decode cX15_aboutPicture 45 = .ok (.iaload, 1) := by decide +kernel
theorem dX15_aboutPicture_46 : decode cX15_aboutPicture 46 = .ok (.goto 41, 3) := by decide +kernel
theorem dX15_aboutPicture_49 : decode cX15_aboutPicture 49 = .ok (.iload_n 1, 1) := by decide +kernel
theorem dX15_aboutPicture_50 : decode cX15_aboutPicture 50 = .ok (.iconst 4, 1) := by decide +kernel
theorem dX15_aboutPicture_51 : decode cX15_aboutPicture 51 = .ok (.irem, 1) := by decide +kernel
theorem dX15_aboutPicture_52 : decode cX15_aboutPicture 52 = .ok (.iconst 1, 1) := by decide +kernel
theorem dX15_aboutPicture_53 : decode cX15_aboutPicture 53 = .ok (.if_icmp .ne 12, 3) := by decide +kernel
theorem dX15_aboutPicture_56 : decode cX15_aboutPicture 56 = .ok (.aload_n 0, 1) := by decide +kernel
theorem dX15_aboutPicture_57 : decode cX15_aboutPicture 57 = .ok (.getfield 55, 3) := by decide +kernel
theorem dX15_aboutPicture_60 : decode cX15_aboutPicture 60 = .ok (.iload_n 2, 1) := by decide +kernel
theorem dX15_aboutPicture_61 : decode cX15_aboutPicture 61 = .ok (.iaload, 1) := by decide +kernel
theorem dX15_aboutPicture_62 : decode cX15_aboutPicture 62 = .ok (.goto 25, 3) := by decide +kernel
theorem dX15_aboutPicture_65 : decode cX15_aboutPicture 65 = .ok (.iload_n 1, 1) := by decide +kernel
theorem dX15_aboutPicture_66 : decode cX15_aboutPicture 66 = .ok (.iconst 4, 1) := by decide +kernel
theorem dX15_aboutPicture_67 : decode cX15_aboutPicture 67 = .ok (.irem, 1) := by decide +kernel
theorem dX15_aboutPicture_68 : decode cX15_aboutPicture 68 = .ok (.iconst 2, 1) := by decide +kernel
theorem dX15_aboutPicture_69 : decode cX15_aboutPicture 69 = .ok (.if_icmp .ne 12, 3) := by decide +kernel
theorem dX15_aboutPicture_72 : decode cX15_aboutPicture 72 = .ok (.aload_n 0, 1) := by decide +kernel
theorem dX15_aboutPicture_73 : decode cX15_aboutPicture 73 = .ok (.getfield 58, 3) := by decide +kernel
theorem dX15_aboutPicture_76 : decode cX15_aboutPicture 76 = .ok (.iload_n 2, 1) := by decide +kernel
theorem dX15_aboutPicture_77 : decode cX15_aboutPicture 77 = .ok (.iaload, 1) := by decide +kernel
theorem dX15_aboutPicture_78 : decode cX15_aboutPicture 78 = .ok (.goto 9, 3) := by decide +kernel
theorem dX15_aboutPicture_81 : decode cX15_aboutPicture 81 = .ok (.aload_n 0, 1) := by decide +kernel
theorem dX15_aboutPicture_82 : decode cX15_aboutPicture 82 = .ok (.getfield 61, 3) := by decide +kernel
theorem dX15_aboutPicture_85 : decode cX15_aboutPicture 85 = .ok (.iload_n 2, 1) := by decide +kernel
theorem dX15_aboutPicture_86 : decode cX15_aboutPicture 86 = .ok (.iaload, 1) := by decide +kernel
theorem dX15_aboutPicture_87 : decode cX15_aboutPicture 87 = .ok (.ireturn, 1) := by decide +kernel
theorem dX15_aboutPicture_88 : decode cX15_aboutPicture 88 = .ok (.iload_n 1, 1) := by decide +kernel
theorem dX15_aboutPicture_89 : decode cX15_aboutPicture 89 = .ok (.tableswitch 71 0 5 #[39, 44, 49, 54, 59, 65], 39) := by decide +kernel
theorem dX15_aboutPicture_128 : decode cX15_aboutPicture 128 = .ok (.aload_n 0, 1) := by decide +kernel
theorem dX15_aboutPicture_129 : decode cX15_aboutPicture 129 = .ok (.getfield 129, 3) := by decide +kernel
theorem dX15_aboutPicture_132 : decode cX15_aboutPicture 132 = .ok (.ireturn, 1) := by decide +kernel
theorem dX15_aboutPicture_133 : decode cX15_aboutPicture 133 = .ok (.aload_n 0, 1) := by decide +kernel
theorem dX15_aboutPicture_134 : decode cX15_aboutPicture 134 = .ok (.getfield 139, 3) := by decide +kernel
theorem dX15_aboutPicture_137 : decode cX15_aboutPicture 137 = .ok (.ireturn, 1) := by decide +kernel
theorem dX15_aboutPicture_138 : decode cX15_aboutPicture 138 = .ok (.aload_n 0, 1) := by decide +kernel
theorem dX15_aboutPicture_139 : decode cX15_aboutPicture 139 = .ok (.getfield 126, 3) := by decide +kernel
theorem dX15_aboutPicture_142 : decode cX15_aboutPicture 142 = .ok (.ireturn, 1) := by decide +kernel
theorem dX15_aboutPicture_143 : decode cX15_aboutPicture 143 = .ok (.aload_n 0, 1) := by decide +kernel
theorem dX15_aboutPicture_144 : decode cX15_aboutPicture 144 = .ok (.invokevirtual 419, 3) := by decide +kernel
theorem dX15_aboutPicture_147 : decode cX15_aboutPicture 147 = .ok (.ireturn, 1) := by decide +kernel
theorem dX15_aboutPicture_148 : decode cX15_aboutPicture 148 = .ok (.aload_n 0, 1) := by decide +kernel
theorem dX15_aboutPicture_149 : decode cX15_aboutPicture 149 = .ok (.iconst 0, 1) := by decide +kernel
theorem dX15_aboutPicture_150 : decode cX15_aboutPicture 150 = .ok (.invokevirtual 422, 3) := by decide +kernel
theorem dX15_aboutPicture_153 : decode cX15_aboutPicture 153 = .ok (.ireturn, 1) := by decide +kernel
theorem dX15_aboutPicture_154 : decode cX15_aboutPicture 154 = .ok (.aload_n 0, 1) := by decide +kernel
theorem dX15_aboutPicture_155 : decode cX15_aboutPicture 155 = .ok (.iconst 1, 1) := by decide +kernel
theorem dX15_aboutPicture_156 : decode cX15_aboutPicture 156 = .ok (.invokevirtual 422, 3) := by decide +kernel
theorem dX15_aboutPicture_159 : decode cX15_aboutPicture 159 = .ok (.ireturn, 1) := by decide +kernel
theorem dX15_aboutPicture_160 : decode cX15_aboutPicture 160 = .ok (.iconst (-1), 1) := by decide +kernel
theorem dX15_aboutPicture_161 : decode cX15_aboutPicture 161 = .ok (.ireturn, 1) := by decide +kernel
theorem kcX15_aboutPicture_419 : px_cV mX15_aboutPicture 419 mX15_blocks 0 := ⟨⟨mbX15_blocks, by decide, by decide⟩, Or.inl (tb10 (List.mem_of_getElem? (i := 156) rfl)), vbX15_blocks⟩
theorem mbX15_sum : px_mB mX15_sum 1 := ⟨tb10 (List.mem_of_getElem? (i := 163) rfl), by decide +kernel, tb1 (List.mem_of_getElem? (i := 13) rfl), by decide +kernel, by decide +kernel⟩
theorem vbX15_sum : px_vB mX15_sum := ⟨tb10 (List.mem_of_getElem? (i := 162) rfl), List.mem_append_left _ (List.mem_of_getElem? (i := 176) (by decide +kernel))⟩
theorem kcX15_aboutPicture_422 : px_cV mX15_aboutPicture 422 mX15_sum 1 := ⟨⟨mbX15_sum, by decide, by decide⟩, Or.inl (tb10 (List.mem_of_getElem? (i := 160) rfl)), vbX15_sum⟩
set_option maxRecDepth 100000 in
set_option maxHeartbeats 4000000 in
theorem eX15_aboutPicture_88 {X : px_X}  : ∀ (a0 : Nat) (a1 : Int32) (w : px_W) (q : Int32 × px_W), fX15_aboutPicture_88 X  a0 a1 w = some q → EV X mX15_aboutPicture 88 [(0, .ref a0), (1, .int a1)] [] w (some (.int q.1)) q.2 := by
  intro a0 a1 w q h
  unfold fX15_aboutPicture_88 at h
  refine EV.iload_n 1 dX15_aboutPicture_88 rfl rfl ?_
  by_cases c24 : a1 = 0
  · rw [if_pos c24] at h
    refine EV.tableIn 128 dX15_aboutPicture_89 (by rw [c24]; decide) (by rw [c24]; decide) (by rw [c24]; rfl) (by decide) ?_
    refine EV.aload_n 0 dX15_aboutPicture_128 rfl rfl ?_
    obtain ⟨v25, gv25, h⟩ := px_bs h
    refine ev_gI dX15_aboutPicture_129 flRX15_129 gv25 ?_
    cases h
    exact EV.reti dX15_aboutPicture_132 rfl
  rw [if_neg c24] at h
  by_cases c26 : a1 = 1
  · rw [if_pos c26] at h
    refine EV.tableIn 133 dX15_aboutPicture_89 (by rw [c26]; decide) (by rw [c26]; decide) (by rw [c26]; rfl) (by decide) ?_
    refine EV.aload_n 0 dX15_aboutPicture_133 rfl rfl ?_
    obtain ⟨v27, gv27, h⟩ := px_bs h
    refine ev_gI dX15_aboutPicture_134 flRX15_139 gv27 ?_
    cases h
    exact EV.reti dX15_aboutPicture_137 rfl
  rw [if_neg c26] at h
  by_cases c28 : a1 = 2
  · rw [if_pos c28] at h
    refine EV.tableIn 138 dX15_aboutPicture_89 (by rw [c28]; decide) (by rw [c28]; decide) (by rw [c28]; rfl) (by decide) ?_
    refine EV.aload_n 0 dX15_aboutPicture_138 rfl rfl ?_
    obtain ⟨v29, gv29, h⟩ := px_bs h
    refine ev_gI dX15_aboutPicture_139 flRX15_126 gv29 ?_
    cases h
    exact EV.reti dX15_aboutPicture_142 rfl
  rw [if_neg c28] at h
  by_cases c30 : a1 = 3
  · rw [if_pos c30] at h
    refine EV.tableIn 143 dX15_aboutPicture_89 (by rw [c30]; decide) (by rw [c30]; decide) (by rw [c30]; rfl) (by decide) ?_
    refine EV.aload_n 0 dX15_aboutPicture_143 rfl rfl ?_
    obtain ⟨o31, go31, h⟩ := px_bs h
    obtain ⟨q32, gq32, h⟩ := px_bs h
    refine EV.callV (As := []) (rest := []) dX15_aboutPicture_144 kcX15_aboutPicture_419 (gO_ok go31) rfl rfl rfl (Nat.le_of_ble_eq_true rfl) (Nat.le_of_ble_eq_true rfl) (eX15_blocks gq32) ?_
    cases h
    exact EV.reti dX15_aboutPicture_147 rfl
  rw [if_neg c30] at h
  by_cases c33 : a1 = 4
  · rw [if_pos c33] at h
    refine EV.tableIn 148 dX15_aboutPicture_89 (by rw [c33]; decide) (by rw [c33]; decide) (by rw [c33]; rfl) (by decide) ?_
    refine EV.aload_n 0 dX15_aboutPicture_148 rfl rfl ?_
    refine EV.iconst (0) dX15_aboutPicture_149 (by decide) ?_
    obtain ⟨o34, go34, h⟩ := px_bs h
    obtain ⟨q35, gq35, h⟩ := px_bs h
    refine EV.callV (As := [.int 0]) (rest := []) dX15_aboutPicture_150 kcX15_aboutPicture_422 (gO_ok go34) rfl rfl rfl (Nat.le_of_ble_eq_true rfl) (Nat.le_of_ble_eq_true rfl) (eX15_sum gq35) ?_
    cases h
    exact EV.reti dX15_aboutPicture_153 rfl
  rw [if_neg c33] at h
  by_cases c36 : a1 = 5
  · rw [if_pos c36] at h
    refine EV.tableIn 154 dX15_aboutPicture_89 (by rw [c36]; decide) (by rw [c36]; decide) (by rw [c36]; rfl) (by decide) ?_
    refine EV.aload_n 0 dX15_aboutPicture_154 rfl rfl ?_
    refine EV.iconst (1) dX15_aboutPicture_155 (by decide) ?_
    obtain ⟨o37, go37, h⟩ := px_bs h
    obtain ⟨q38, gq38, h⟩ := px_bs h
    refine EV.callV (As := [.int 1]) (rest := []) dX15_aboutPicture_156 kcX15_aboutPicture_422 (gO_ok go37) rfl rfl rfl (Nat.le_of_ble_eq_true rfl) (Nat.le_of_ble_eq_true rfl) (eX15_sum gq38) ?_
    cases h
    exact EV.reti dX15_aboutPicture_159 rfl
  rw [if_neg c36] at h
  have nc24 : (a1).toInt ≠ 0 := fun z => c24 (Int32.toInt_inj.mp (z.trans (by decide)))
  have nc26 : (a1).toInt ≠ 1 := fun z => c26 (Int32.toInt_inj.mp (z.trans (by decide)))
  have nc28 : (a1).toInt ≠ 2 := fun z => c28 (Int32.toInt_inj.mp (z.trans (by decide)))
  have nc30 : (a1).toInt ≠ 3 := fun z => c30 (Int32.toInt_inj.mp (z.trans (by decide)))
  have nc33 : (a1).toInt ≠ 4 := fun z => c33 (Int32.toInt_inj.mp (z.trans (by decide)))
  have nc36 : (a1).toInt ≠ 5 := fun z => c36 (Int32.toInt_inj.mp (z.trans (by decide)))
  refine EV.tableOut 160 dX15_aboutPicture_89 (by omega) (by decide) ?_
  refine EV.iconst ((-1)) dX15_aboutPicture_160 (by decide) ?_
  cases h
  exact EV.reti dX15_aboutPicture_161 rfl
set_option maxRecDepth 100000 in
set_option maxHeartbeats 4000000 in
theorem eX15_aboutPicture {X : px_X} {w : px_W} {a0 : Nat} {a1 : Int32} {q : Int32 × px_W} (h : fX15_aboutPicture X w a0 a1 = some q) : EV X mX15_aboutPicture 0 (lv_args 0 [.ref a0, .int a1]) [] w (some (.int q.1)) q.2 := by
  unfold fX15_aboutPicture at h
  show EV X mX15_aboutPicture 0 [(0, .ref a0), (1, .int a1)] [] w (some (.int q.1)) q.2
  refine EV.aload_n 0 dX15_aboutPicture_0 rfl rfl ?_
  obtain ⟨v39, gv39, h⟩ := px_bs h
  refine ev_gI dX15_aboutPicture_1 flRX15_235 gv39 ?_
  refine EV.if_ne 9 dX15_aboutPicture_4 (by decide) (fun c40 => ?_) (fun c40 => ?_)
  · rw [if_neg c40] at h
    refine EV.iload_n 1 dX15_aboutPicture_9 rfl rfl ?_
    refine EV.bipush (8) dX15_aboutPicture_10 (by decide) ?_
    refine EV.icmp_lt 88 dX15_aboutPicture_12 (by decide) (fun c41 => ?_) (fun c41 => ?_)
    · rw [if_pos c41] at h
      refine EV.sub [0, 1] rfl ?_
      exact eX15_aboutPicture_88  _ _ _ _ h
    · rw [if_neg c41] at h
      refine EV.iload_n 1 dX15_aboutPicture_15 rfl rfl ?_
      refine EV.bipush (8) dX15_aboutPicture_16 (by decide) ?_
      refine EV.iconst (4) dX15_aboutPicture_18 (by decide) ?_
      refine EV.aload_n 0 dX15_aboutPicture_19 rfl rfl ?_
      obtain ⟨v42, gv42, h⟩ := px_bs h
      refine ev_gI dX15_aboutPicture_20 flRX15_126 gv42 ?_
      refine EV.imul dX15_aboutPicture_23 ?_
      refine EV.iadd dX15_aboutPicture_24 ?_
      refine EV.icmp_ge 88 dX15_aboutPicture_25 (by decide) (fun c43 => ?_) (fun c43 => ?_)
      · rw [if_pos c43] at h
        refine EV.sub [0, 1] rfl ?_
        exact eX15_aboutPicture_88  _ _ _ _ h
      · rw [if_neg c43] at h
        refine EV.iload_n 1 dX15_aboutPicture_28 rfl rfl ?_
        refine EV.iconst (4) dX15_aboutPicture_29 (by decide) ?_
        obtain ⟨v44, gv44, h⟩ := px_bs h
        refine ev_dI dX15_aboutPicture_30 gv44 ?_
        refine EV.iconst (2) dX15_aboutPicture_31 (by decide) ?_
        refine EV.isub dX15_aboutPicture_32 ?_
        refine EV.istore_n [(2, .int (v44 - 2)), (0, .ref a0), (1, .int a1)] dX15_aboutPicture_33 rfl (by decide) rfl ?_
        refine EV.iload_n 2 dX15_aboutPicture_34 rfl rfl ?_
        refine EV.iconst (4) dX15_aboutPicture_35 (by decide) ?_
        obtain ⟨v45, gv45, h⟩ := px_bs h
        refine ev_rI dX15_aboutPicture_36 gv45 ?_
        refine EV.if_ne 49 dX15_aboutPicture_37 (by decide) (fun c46 => ?_) (fun c46 => ?_)
        · rw [if_neg c46] at h
          refine EV.iload_n 2 dX15_aboutPicture_49 rfl rfl ?_
          refine EV.iconst (4) dX15_aboutPicture_50 (by decide) ?_
          obtain ⟨v47, gv47, h⟩ := px_bs h
          refine ev_rI dX15_aboutPicture_51 gv47 ?_
          refine EV.iconst (1) dX15_aboutPicture_52 (by decide) ?_
          refine EV.icmp_ne 65 dX15_aboutPicture_53 (by decide) (fun c48 => ?_) (fun c48 => ?_)
          · rw [if_neg c48] at h
            refine EV.iload_n 2 dX15_aboutPicture_65 rfl rfl ?_
            refine EV.iconst (4) dX15_aboutPicture_66 (by decide) ?_
            obtain ⟨v49, gv49, h⟩ := px_bs h
            refine ev_rI dX15_aboutPicture_67 gv49 ?_
            refine EV.iconst (2) dX15_aboutPicture_68 (by decide) ?_
            refine EV.icmp_ne 81 dX15_aboutPicture_69 (by decide) (fun c50 => ?_) (fun c50 => ?_)
            · rw [if_neg c50] at h
              refine EV.aload_n 1 dX15_aboutPicture_81 rfl rfl ?_
              obtain ⟨v51, gv51, h⟩ := px_bs h
              refine ev_gR dX15_aboutPicture_82 flRX15_61 gv51 ?_
              refine EV.iload_n 0 dX15_aboutPicture_85 rfl rfl ?_
              obtain ⟨v52, gv52, h⟩ := px_bs h
              refine ev_aI dX15_aboutPicture_86 gv52 ?_
              cases h
              exact EV.reti dX15_aboutPicture_87 rfl
            · rw [if_pos c50] at h
              refine EV.aload_n 1 dX15_aboutPicture_72 rfl rfl ?_
              obtain ⟨v53, gv53, h⟩ := px_bs h
              refine ev_gR dX15_aboutPicture_73 flRX15_58 gv53 ?_
              refine EV.iload_n 0 dX15_aboutPicture_76 rfl rfl ?_
              obtain ⟨v54, gv54, h⟩ := px_bs h
              refine ev_aI dX15_aboutPicture_77 gv54 ?_
              refine EV.goto 87 dX15_aboutPicture_78 (by decide) ?_
              cases h
              exact EV.reti dX15_aboutPicture_87 rfl
          · rw [if_pos c48] at h
            refine EV.aload_n 1 dX15_aboutPicture_56 rfl rfl ?_
            obtain ⟨v55, gv55, h⟩ := px_bs h
            refine ev_gR dX15_aboutPicture_57 flRX15_55 gv55 ?_
            refine EV.iload_n 0 dX15_aboutPicture_60 rfl rfl ?_
            obtain ⟨v56, gv56, h⟩ := px_bs h
            refine ev_aI dX15_aboutPicture_61 gv56 ?_
            refine EV.goto 87 dX15_aboutPicture_62 (by decide) ?_
            cases h
            exact EV.reti dX15_aboutPicture_87 rfl
        · rw [if_pos c46] at h
          refine EV.aload_n 1 dX15_aboutPicture_40 rfl rfl ?_
          obtain ⟨v57, gv57, h⟩ := px_bs h
          refine ev_gR dX15_aboutPicture_41 flRX15_52 gv57 ?_
          refine EV.iload_n 0 dX15_aboutPicture_44 rfl rfl ?_
          obtain ⟨v58, gv58, h⟩ := px_bs h
          refine ev_aI dX15_aboutPicture_45 gv58 ?_
          refine EV.goto 87 dX15_aboutPicture_46 (by decide) ?_
          cases h
          exact EV.reti dX15_aboutPicture_87 rfl
  · rw [if_pos c40] at h
    refine EV.iconst ((-1)) dX15_aboutPicture_7 (by decide) ?_
    cases h
    exact EV.reti dX15_aboutPicture_8 rfl
/-! WavePicturesModel.statusOf(I)I -/
theorem dX15_statusOf_0 : decode cX15_statusOf 0 = .ok (.iload_n 1, 1) := by decide +kernel
theorem dX15_statusOf_1 : decode cX15_statusOf 1 = .ok (.bipush 8, 2) := by decide +kernel
theorem dX15_statusOf_3 : decode cX15_statusOf 3 = .ok (.if_icmp .lt 39, 3) := by decide +kernel
theorem dX15_statusOf_6 : decode cX15_statusOf 6 = .ok (.iload_n 1, 1) := by decide +kernel
theorem dX15_statusOf_7 : decode cX15_statusOf 7 = .ok (.bipush 16, 2) := by decide +kernel
theorem dX15_statusOf_9 : decode cX15_statusOf 9 = .ok (.if_icmp .ge 33, 3) := by decide +kernel
theorem dX15_statusOf_12 : decode cX15_statusOf 12 = .ok (.iload_n 1, 1) := by decide +kernel
theorem dX15_statusOf_13 : decode cX15_statusOf 13 = .ok (.iconst 2, 1) := by decide +kernel
theorem dX15_statusOf_14 : decode cX15_statusOf 14 = .ok (.irem, 1) := by decide +kernel
theorem dX15_statusOf_15 : decode cX15_statusOf 15 = .ok (.ifCond .ne 16, 3) := by decide +kernel
theorem dX15_statusOf_18 : decode cX15_statusOf 18 = .ok (.aload_n 0, 1) := by decide +kernel
theorem dX15_statusOf_19 : decode cX15_statusOf 19 = .ok (.getfield 98, 3) := by decide +kernel
theorem dX15_statusOf_22 : decode cX15_statusOf 22 = .ok (.iload_n 1, 1) := by decide +kernel
theorem dX15_statusOf_23 : decode cX15_statusOf 23 = .ok (.iconst 2, 1) := by decide +kernel
theorem dX15_statusOf_24 : decode cX15_statusOf 24 = .ok (.idiv, 1) := by decide +kernel
theorem dX15_statusOf_25 : decode cX15_statusOf 25 = .ok (.iconst 4, 1) := by decide +kernel
theorem dX15_statusOf_26 : decode cX15_statusOf 26 = .ok (.isub, 1) := by decide +kernel
theorem dX15_statusOf_27 : decode cX15_statusOf 27 = .ok (.iaload, 1) := by decide +kernel
theorem dX15_statusOf_28 : decode cX15_statusOf 28 = .ok (.goto 13, 3) := by decide +kernel
theorem dX15_statusOf_31 : decode cX15_statusOf 31 = .ok (.aload_n 0, 1) := by decide +kernel
theorem dX15_statusOf_32 : decode cX15_statusOf 32 = .ok (.getfield 101, 3) := by decide +kernel
theorem dX15_statusOf_35 : decode cX15_statusOf 35 = .ok (.iload_n 1, 1) := by decide +kernel
theorem dX15_statusOf_36 : decode cX15_statusOf 36 = .ok (.iconst 2, 1) := by decide +kernel
theorem dX15_statusOf_37 : decode cX15_statusOf 37 = .ok (.idiv, 1) := by decide +kernel
theorem dX15_statusOf_38 : decode cX15_statusOf 38 = .ok (.iconst 4, 1) := by decide +kernel
theorem dX15_statusOf_39 : decode cX15_statusOf 39 = .ok (.isub, 1) := by decide +kernel
theorem dX15_statusOf_40 : decode cX15_statusOf 40 = .ok (.iaload, 1) := by decide +kernel
theorem dX15_statusOf_41 : decode cX15_statusOf 41 = .ok (.ireturn, 1) := by decide +kernel
theorem dX15_statusOf_42 : decode cX15_statusOf 42 = .ok (.iload_n 1, 1) := by decide +kernel
theorem dX15_statusOf_43 : decode cX15_statusOf 43 = .ok (.tableswitch 76 0 6 #[41, 46, 51, 56, 61, 66, 71], 41) := by decide +kernel
theorem dX15_statusOf_84 : decode cX15_statusOf 84 = .ok (.aload_n 0, 1) := by decide +kernel
theorem dX15_statusOf_85 : decode cX15_statusOf 85 = .ok (.getfield 114, 3) := by decide +kernel
theorem dX15_statusOf_88 : decode cX15_statusOf 88 = .ok (.ireturn, 1) := by decide +kernel
theorem dX15_statusOf_89 : decode cX15_statusOf 89 = .ok (.aload_n 0, 1) := by decide +kernel
theorem dX15_statusOf_90 : decode cX15_statusOf 90 = .ok (.getfield 217, 3) := by decide +kernel
theorem dX15_statusOf_93 : decode cX15_statusOf 93 = .ok (.ireturn, 1) := by decide +kernel
theorem dX15_statusOf_94 : decode cX15_statusOf 94 = .ok (.aload_n 0, 1) := by decide +kernel
theorem dX15_statusOf_95 : decode cX15_statusOf 95 = .ok (.getfield 19, 3) := by decide +kernel
theorem dX15_statusOf_98 : decode cX15_statusOf 98 = .ok (.ireturn, 1) := by decide +kernel
theorem dX15_statusOf_99 : decode cX15_statusOf 99 = .ok (.aload_n 0, 1) := by decide +kernel
theorem dX15_statusOf_100 : decode cX15_statusOf 100 = .ok (.getfield 117, 3) := by decide +kernel
theorem dX15_statusOf_103 : decode cX15_statusOf 103 = .ok (.ireturn, 1) := by decide +kernel
theorem dX15_statusOf_104 : decode cX15_statusOf 104 = .ok (.aload_n 0, 1) := by decide +kernel
theorem dX15_statusOf_105 : decode cX15_statusOf 105 = .ok (.getfield 243, 3) := by decide +kernel
theorem dX15_statusOf_108 : decode cX15_statusOf 108 = .ok (.ireturn, 1) := by decide +kernel
theorem dX15_statusOf_109 : decode cX15_statusOf 109 = .ok (.aload_n 0, 1) := by decide +kernel
theorem dX15_statusOf_110 : decode cX15_statusOf 110 = .ok (.getfield 246, 3) := by decide +kernel
theorem dX15_statusOf_113 : decode cX15_statusOf 113 = .ok (.ireturn, 1) := by decide +kernel
theorem dX15_statusOf_114 : decode cX15_statusOf 114 = .ok (.aload_n 0, 1) := by decide +kernel
theorem dX15_statusOf_115 : decode cX15_statusOf 115 = .ok (.getfield 249, 3) := by decide +kernel
theorem dX15_statusOf_118 : decode cX15_statusOf 118 = .ok (.ireturn, 1) := by decide +kernel
theorem dX15_statusOf_119 : decode cX15_statusOf 119 = .ok (.iconst (-1), 1) := by decide +kernel
theorem dX15_statusOf_120 : decode cX15_statusOf 120 = .ok (.ireturn, 1) := by decide +kernel
set_option maxRecDepth 100000 in
set_option maxHeartbeats 4000000 in
theorem eX15_statusOf_42 {X : px_X}  : ∀ (a0 : Nat) (a1 : Int32) (w : px_W) (q : Int32 × px_W), fX15_statusOf_42 X  a0 a1 w = some q → EV X mX15_statusOf 42 [(0, .ref a0), (1, .int a1)] [] w (some (.int q.1)) q.2 := by
  intro a0 a1 w q h
  unfold fX15_statusOf_42 at h
  refine EV.iload_n 1 dX15_statusOf_42 rfl rfl ?_
  by_cases c15 : a1 = 0
  · rw [if_pos c15] at h
    refine EV.tableIn 84 dX15_statusOf_43 (by rw [c15]; decide) (by rw [c15]; decide) (by rw [c15]; rfl) (by decide) ?_
    refine EV.aload_n 0 dX15_statusOf_84 rfl rfl ?_
    obtain ⟨v16, gv16, h⟩ := px_bs h
    refine ev_gI dX15_statusOf_85 flRX15_114 gv16 ?_
    cases h
    exact EV.reti dX15_statusOf_88 rfl
  rw [if_neg c15] at h
  by_cases c17 : a1 = 1
  · rw [if_pos c17] at h
    refine EV.tableIn 89 dX15_statusOf_43 (by rw [c17]; decide) (by rw [c17]; decide) (by rw [c17]; rfl) (by decide) ?_
    refine EV.aload_n 0 dX15_statusOf_89 rfl rfl ?_
    obtain ⟨v18, gv18, h⟩ := px_bs h
    refine ev_gI dX15_statusOf_90 flRX15_217 gv18 ?_
    cases h
    exact EV.reti dX15_statusOf_93 rfl
  rw [if_neg c17] at h
  by_cases c19 : a1 = 2
  · rw [if_pos c19] at h
    refine EV.tableIn 94 dX15_statusOf_43 (by rw [c19]; decide) (by rw [c19]; decide) (by rw [c19]; rfl) (by decide) ?_
    refine EV.aload_n 0 dX15_statusOf_94 rfl rfl ?_
    obtain ⟨v20, gv20, h⟩ := px_bs h
    refine ev_gI dX15_statusOf_95 flRX15_19 gv20 ?_
    cases h
    exact EV.reti dX15_statusOf_98 rfl
  rw [if_neg c19] at h
  by_cases c21 : a1 = 3
  · rw [if_pos c21] at h
    refine EV.tableIn 99 dX15_statusOf_43 (by rw [c21]; decide) (by rw [c21]; decide) (by rw [c21]; rfl) (by decide) ?_
    refine EV.aload_n 0 dX15_statusOf_99 rfl rfl ?_
    obtain ⟨v22, gv22, h⟩ := px_bs h
    refine ev_gI dX15_statusOf_100 flRX15_117 gv22 ?_
    cases h
    exact EV.reti dX15_statusOf_103 rfl
  rw [if_neg c21] at h
  by_cases c23 : a1 = 4
  · rw [if_pos c23] at h
    refine EV.tableIn 104 dX15_statusOf_43 (by rw [c23]; decide) (by rw [c23]; decide) (by rw [c23]; rfl) (by decide) ?_
    refine EV.aload_n 0 dX15_statusOf_104 rfl rfl ?_
    obtain ⟨v24, gv24, h⟩ := px_bs h
    refine ev_gI dX15_statusOf_105 flRX15_243 gv24 ?_
    cases h
    exact EV.reti dX15_statusOf_108 rfl
  rw [if_neg c23] at h
  by_cases c25 : a1 = 5
  · rw [if_pos c25] at h
    refine EV.tableIn 109 dX15_statusOf_43 (by rw [c25]; decide) (by rw [c25]; decide) (by rw [c25]; rfl) (by decide) ?_
    refine EV.aload_n 0 dX15_statusOf_109 rfl rfl ?_
    obtain ⟨v26, gv26, h⟩ := px_bs h
    refine ev_gI dX15_statusOf_110 flRX15_246 gv26 ?_
    cases h
    exact EV.reti dX15_statusOf_113 rfl
  rw [if_neg c25] at h
  by_cases c27 : a1 = 6
  · rw [if_pos c27] at h
    refine EV.tableIn 114 dX15_statusOf_43 (by rw [c27]; decide) (by rw [c27]; decide) (by rw [c27]; rfl) (by decide) ?_
    refine EV.aload_n 0 dX15_statusOf_114 rfl rfl ?_
    obtain ⟨v28, gv28, h⟩ := px_bs h
    refine ev_gI dX15_statusOf_115 flRX15_249 gv28 ?_
    cases h
    exact EV.reti dX15_statusOf_118 rfl
  rw [if_neg c27] at h
  have nc15 : (a1).toInt ≠ 0 := fun z => c15 (Int32.toInt_inj.mp (z.trans (by decide)))
  have nc17 : (a1).toInt ≠ 1 := fun z => c17 (Int32.toInt_inj.mp (z.trans (by decide)))
  have nc19 : (a1).toInt ≠ 2 := fun z => c19 (Int32.toInt_inj.mp (z.trans (by decide)))
  have nc21 : (a1).toInt ≠ 3 := fun z => c21 (Int32.toInt_inj.mp (z.trans (by decide)))
  have nc23 : (a1).toInt ≠ 4 := fun z => c23 (Int32.toInt_inj.mp (z.trans (by decide)))
  have nc25 : (a1).toInt ≠ 5 := fun z => c25 (Int32.toInt_inj.mp (z.trans (by decide)))
  have nc27 : (a1).toInt ≠ 6 := fun z => c27 (Int32.toInt_inj.mp (z.trans (by decide)))
  refine EV.tableOut 119 dX15_statusOf_43 (by omega) (by decide) ?_
  refine EV.iconst ((-1)) dX15_statusOf_119 (by decide) ?_
  cases h
  exact EV.reti dX15_statusOf_120 rfl
set_option maxRecDepth 100000 in
set_option maxHeartbeats 4000000 in
theorem eX15_statusOf {X : px_X} {w : px_W} {a0 : Nat} {a1 : Int32} {q : Int32 × px_W} (h : fX15_statusOf X w a0 a1 = some q) : EV X mX15_statusOf 0 (lv_args 0 [.ref a0, .int a1]) [] w (some (.int q.1)) q.2 := by
  unfold fX15_statusOf at h
  show EV X mX15_statusOf 0 [(0, .ref a0), (1, .int a1)] [] w (some (.int q.1)) q.2
  refine EV.iload_n 1 dX15_statusOf_0 rfl rfl ?_
  refine EV.bipush (8) dX15_statusOf_1 (by decide) ?_
  refine EV.icmp_lt 42 dX15_statusOf_3 (by decide) (fun c29 => ?_) (fun c29 => ?_)
  · rw [if_pos c29] at h
    refine EV.sub [0, 1] rfl ?_
    exact eX15_statusOf_42  _ _ _ _ h
  · rw [if_neg c29] at h
    refine EV.iload_n 1 dX15_statusOf_6 rfl rfl ?_
    refine EV.bipush (16) dX15_statusOf_7 (by decide) ?_
    refine EV.icmp_ge 42 dX15_statusOf_9 (by decide) (fun c30 => ?_) (fun c30 => ?_)
    · rw [if_pos c30] at h
      refine EV.sub [0, 1] rfl ?_
      exact eX15_statusOf_42  _ _ _ _ h
    · rw [if_neg c30] at h
      refine EV.iload_n 1 dX15_statusOf_12 rfl rfl ?_
      refine EV.iconst (2) dX15_statusOf_13 (by decide) ?_
      obtain ⟨v31, gv31, h⟩ := px_bs h
      refine ev_rI dX15_statusOf_14 gv31 ?_
      refine EV.if_ne 31 dX15_statusOf_15 (by decide) (fun c32 => ?_) (fun c32 => ?_)
      · rw [if_neg c32] at h
        refine EV.aload_n 0 dX15_statusOf_31 rfl rfl ?_
        obtain ⟨v33, gv33, h⟩ := px_bs h
        refine ev_gR dX15_statusOf_32 flRX15_101 gv33 ?_
        refine EV.iload_n 1 dX15_statusOf_35 rfl rfl ?_
        refine EV.iconst (2) dX15_statusOf_36 (by decide) ?_
        obtain ⟨v34, gv34, h⟩ := px_bs h
        refine ev_dI dX15_statusOf_37 gv34 ?_
        refine EV.iconst (4) dX15_statusOf_38 (by decide) ?_
        refine EV.isub dX15_statusOf_39 ?_
        obtain ⟨v35, gv35, h⟩ := px_bs h
        refine ev_aI dX15_statusOf_40 gv35 ?_
        cases h
        exact EV.reti dX15_statusOf_41 rfl
      · rw [if_pos c32] at h
        refine EV.aload_n 0 dX15_statusOf_18 rfl rfl ?_
        obtain ⟨v36, gv36, h⟩ := px_bs h
        refine ev_gR dX15_statusOf_19 flRX15_98 gv36 ?_
        refine EV.iload_n 1 dX15_statusOf_22 rfl rfl ?_
        refine EV.iconst (2) dX15_statusOf_23 (by decide) ?_
        obtain ⟨v37, gv37, h⟩ := px_bs h
        refine ev_dI dX15_statusOf_24 gv37 ?_
        refine EV.iconst (4) dX15_statusOf_25 (by decide) ?_
        refine EV.isub dX15_statusOf_26 ?_
        obtain ⟨v38, gv38, h⟩ := px_bs h
        refine ev_aI dX15_statusOf_27 gv38 ?_
        refine EV.goto 41 dX15_statusOf_28 (by decide) ?_
        cases h
        exact EV.reti dX15_statusOf_41 rfl
