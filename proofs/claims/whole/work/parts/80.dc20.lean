/-! WavePicturesModel$Segments.readData(I)V -/
theorem dX14_readData_0 : decode cX14_readData 0 = .ok (.iconst 0, 1) := by decide +kernel
theorem dX14_readData_1 : decode cX14_readData 1 = .ok (.istore_n 2, 1) := by decide +kernel
theorem dX14_readData_2 : decode cX14_readData 2 = .ok (.iconst 1, 1) := by decide +kernel
theorem dX14_readData_3 : decode cX14_readData 3 = .ok (.istore_n 3, 1) := by decide +kernel
theorem dX14_readData_4 : decode cX14_readData 4 = .ok (.iload_n 3, 1) := by decide +kernel
theorem dX14_readData_5 : decode cX14_readData 5 = .ok (.ifCond .eq 137, 3) := by decide +kernel
theorem dX14_readData_8 : decode cX14_readData 8 = .ok (.aload_n 0, 1) := by decide +kernel
theorem dX14_readData_9 : decode cX14_readData 9 = .ok (.getfield 100, 3) := by decide +kernel
theorem dX14_readData_12 : decode cX14_readData 12 = .ok (.ifCond .ne 130, 3) := by decide +kernel
theorem dX14_readData_15 : decode cX14_readData 15 = .ok (.aload_n 0, 1) := by decide +kernel
theorem dX14_readData_16 : decode cX14_readData 16 = .ok (.invokevirtual 124, 3) := by decide +kernel
theorem dX14_readData_19 : decode cX14_readData 19 = .ok (.istore 4, 2) := by decide +kernel
theorem dX14_readData_21 : decode cX14_readData 21 = .ok (.aload_n 0, 1) := by decide +kernel
theorem dX14_readData_22 : decode cX14_readData 22 = .ok (.getfield 100, 3) := by decide +kernel
theorem dX14_readData_25 : decode cX14_readData 25 = .ok (.ifCond .ne 114, 3) := by decide +kernel
theorem dX14_readData_28 : decode cX14_readData 28 = .ok (.iload 4, 2) := by decide +kernel
theorem dX14_readData_30 : decode cX14_readData 30 = .ok (.sipush 255, 3) := by decide +kernel
theorem dX14_readData_33 : decode cX14_readData 33 = .ok (.if_icmp .ne 106, 3) := by decide +kernel
theorem dX14_readData_36 : decode cX14_readData 36 = .ok (.aload_n 0, 1) := by decide +kernel
theorem dX14_readData_37 : decode cX14_readData 37 = .ok (.invokevirtual 124, 3) := by decide +kernel
theorem dX14_readData_40 : decode cX14_readData 40 = .ok (.istore 5, 2) := by decide +kernel
theorem dX14_readData_42 : decode cX14_readData 42 = .ok (.iload 5, 2) := by decide +kernel
theorem dX14_readData_44 : decode cX14_readData 44 = .ok (.sipush 208, 3) := by decide +kernel
theorem dX14_readData_47 : decode cX14_readData 47 = .ok (.if_icmp .lt 15, 3) := by decide +kernel
theorem dX14_readData_50 : decode cX14_readData 50 = .ok (.iload 5, 2) := by decide +kernel
theorem dX14_readData_52 : decode cX14_readData 52 = .ok (.sipush 215, 3) := by decide +kernel
theorem dX14_readData_55 : decode cX14_readData 55 = .ok (.if_icmp .gt 7, 3) := by decide +kernel
theorem dX14_readData_58 : decode cX14_readData 58 = .ok (.iconst 1, 1) := by decide +kernel
theorem dX14_readData_59 : decode cX14_readData 59 = .ok (.goto 4, 3) := by decide +kernel
theorem dX14_readData_62 : decode cX14_readData 62 = .ok (.iconst 0, 1) := by decide +kernel
theorem dX14_readData_63 : decode cX14_readData 63 = .ok (.istore 6, 2) := by decide +kernel
theorem dX14_readData_65 : decode cX14_readData 65 = .ok (.aload_n 0, 1) := by decide +kernel
theorem dX14_readData_66 : decode cX14_readData 66 = .ok (.getfield 100, 3) := by decide +kernel
theorem dX14_readData_69 : decode cX14_readData 69 = .ok (.ifCond .ne 41, 3) := by decide +kernel
theorem dX14_readData_72 : decode cX14_readData 72 = .ok (.iload 6, 2) := by decide +kernel
theorem dX14_readData_74 : decode cX14_readData 74 = .ok (.ifCond .eq 36, 3) := by decide +kernel
theorem dX14_readData_77 : decode cX14_readData 77 = .ok (.aload_n 0, 1) := by decide +kernel
theorem dX14_readData_78 : decode cX14_readData 78 = .ok (.getfield 94, 3) := by decide +kernel
theorem dX14_readData_81 : decode cX14_readData 81 = .ok (.ifCond .eq 16, 3) := by decide +kernel
theorem dX14_readData_84 : decode cX14_readData 84 = .ok (.iload 5, 2) := by decide +kernel
theorem dX14_readData_86 : decode cX14_readData 86 = .ok (.sipush 208, 3) := by decide +kernel
theorem dX14_readData_89 : decode cX14_readData 89 = .ok (.iload_n 2, 1) := by decide +kernel
theorem dX14_readData_90 : decode cX14_readData 90 = .ok (.bipush 8, 2) := by decide +kernel
theorem dX14_readData_92 : decode cX14_readData 92 = .ok (.irem, 1) := by decide +kernel
theorem dX14_readData_93 : decode cX14_readData 93 = .ok (.iadd, 1) := by decide +kernel
theorem dX14_readData_94 : decode cX14_readData 94 = .ok (.if_icmp .eq 16, 3) := by decide +kernel
theorem dX14_readData_97 : decode cX14_readData 97 = .ok (.aload_n 0, 1) := by decide +kernel
theorem dX14_readData_98 : decode cX14_readData 98 = .ok (.iconst 4, 1) := by decide +kernel
theorem dX14_readData_99 : decode cX14_readData 99 = .ok (.aload_n 0, 1) := by decide +kernel
theorem dX14_readData_100 : decode cX14_readData 100 = .ok (.getfield 106, 3) := by decide +kernel
theorem dX14_readData_103 : decode cX14_readData 103 = .ok (.iconst 1, 1) := by decide +kernel
theorem dX14_readData_104 : decode cX14_readData 104 = .ok (.isub, 1) := by decide +kernel
theorem dX14_readData_105 : decode cX14_readData 105 = .ok (.invokevirtual 113, 3) := by decide +kernel
theorem dX14_readData_108 : decode cX14_readData 108 = .ok (.istore 7, 2) := by decide +kernel
theorem dX14_readData_110 : decode cX14_readData 110 = .ok (.iload_n 2, 1) := by decide +kernel
theorem dX14_readData_111 : decode cX14_readData 111 = .ok (.iload 6, 2) := by decide +kernel
theorem dX14_readData_113 : decode cX14_readData 113 = .ok (.ifCond .eq 7, 3) := by decide +kernel
theorem dX14_readData_116 : decode cX14_readData 116 = .ok (.iconst 1, 1) := by decide +kernel
theorem dX14_readData_117 : decode cX14_readData 117 = .ok (.goto 4, 3) := by decide +kernel
theorem dX14_readData_120 : decode cX14_readData 120 = .ok (.iconst 0, 1) := by decide +kernel
theorem dX14_readData_121 : decode cX14_readData 121 = .ok (.iadd, 1) := by decide +kernel
theorem dX14_readData_122 : decode cX14_readData 122 = .ok (.istore_n 2, 1) := by decide +kernel
theorem dX14_readData_123 : decode cX14_readData 123 = .ok (.iload 5, 2) := by decide +kernel
theorem dX14_readData_125 : decode cX14_readData 125 = .ok (.ifCond .eq 8, 3) := by decide +kernel
theorem dX14_readData_128 : decode cX14_readData 128 = .ok (.iload 6, 2) := by decide +kernel
theorem dX14_readData_130 : decode cX14_readData 130 = .ok (.ifCond .eq 7, 3) := by decide +kernel
theorem dX14_readData_133 : decode cX14_readData 133 = .ok (.iconst 1, 1) := by decide +kernel
theorem dX14_readData_134 : decode cX14_readData 134 = .ok (.goto 4, 3) := by decide +kernel
theorem dX14_readData_137 : decode cX14_readData 137 = .ok (.iconst 0, 1) := by decide +kernel
theorem dX14_readData_138 : decode cX14_readData 138 = .ok (.istore_n 3, 1) := by decide +kernel
theorem dX14_readData_139 : decode cX14_readData 139 = .ok (.goto (-135), 3) := by decide +kernel
theorem dX14_readData_142 : decode cX14_readData 142 = .ok (.aload_n 0, 1) := by decide +kernel
theorem dX14_readData_143 : decode cX14_readData 143 = .ok (.aload_n 0, 1) := by decide +kernel
theorem dX14_readData_144 : decode cX14_readData 144 = .ok (.getfield 100, 3) := by decide +kernel
theorem dX14_readData_147 : decode cX14_readData 147 = .ok (.ifCond .ne 12, 3) := by decide +kernel
theorem dX14_readData_150 : decode cX14_readData 150 = .ok (.aload_n 0, 1) := by decide +kernel
theorem dX14_readData_151 : decode cX14_readData 151 = .ok (.getfield 106, 3) := by decide +kernel
theorem dX14_readData_154 : decode cX14_readData 154 = .ok (.iconst 2, 1) := by decide +kernel
theorem dX14_readData_155 : decode cX14_readData 155 = .ok (.isub, 1) := by decide +kernel
theorem dX14_readData_156 : decode cX14_readData 156 = .ok (.goto 7, 3) := by decide +kernel
theorem dX14_readData_159 : decode cX14_readData 159 = .ok (.aload_n 0, 1) := by decide +kernel
theorem dX14_readData_160 : decode cX14_readData 160 = .ok (.getfield 106, 3) := by decide +kernel
theorem dX14_readData_163 : decode cX14_readData 163 = .ok (.putfield 106, 3) := by decide +kernel
theorem dX14_readData_166 : decode cX14_readData 166 = .ok (.aload_n 0, 1) := by decide +kernel
theorem dX14_readData_167 : decode cX14_readData 167 = .ok (.getfield 55, 3) := by decide +kernel
theorem dX14_readData_170 : decode cX14_readData 170 = .ok (.iload_n 1, 1) := by decide +kernel
theorem dX14_readData_171 : decode cX14_readData 171 = .ok (.bipush 6, 2) := by decide +kernel
theorem dX14_readData_173 : decode cX14_readData 173 = .ok (.iadd, 1) := by decide +kernel
theorem dX14_readData_174 : decode cX14_readData 174 = .ok (.aload_n 0, 1) := by decide +kernel
theorem dX14_readData_175 : decode cX14_readData 175 = .ok (.getfield 106, 3) := by decide +kernel
theorem dX14_readData_178 : decode cX14_readData 178 = .ok (.aload_n 0, 1) := by decide +kernel
theorem dX14_readData_179 : decode cX14_readData 179 = .ok (.getfield 55, 3) := by decide +kernel
theorem dX14_readData_182 : decode cX14_readData 182 = .ok (.iload_n 1, 1) := by decide +kernel
theorem dX14_readData_183 : decode cX14_readData 183 = .ok (.iconst 5, 1) := by decide +kernel
theorem dX14_readData_184 : decode cX14_readData 184 = .ok (.iadd, 1) := by decide +kernel
theorem dX14_readData_185 : decode cX14_readData 185 = .ok (.iaload, 1) := by decide +kernel
theorem dX14_readData_186 : decode cX14_readData 186 = .ok (.isub, 1) := by decide +kernel
theorem dX14_readData_187 : decode cX14_readData 187 = .ok (.iastore, 1) := by decide +kernel
theorem dX14_readData_188 : decode cX14_readData 188 = .ok (.aload_n 0, 1) := by decide +kernel
theorem dX14_readData_189 : decode cX14_readData 189 = .ok (.getfield 55, 3) := by decide +kernel
theorem dX14_readData_192 : decode cX14_readData 192 = .ok (.iload_n 1, 1) := by decide +kernel
theorem dX14_readData_193 : decode cX14_readData 193 = .ok (.bipush 7, 2) := by decide +kernel
theorem dX14_readData_195 : decode cX14_readData 195 = .ok (.iadd, 1) := by decide +kernel
theorem dX14_readData_196 : decode cX14_readData 196 = .ok (.iload_n 2, 1) := by decide +kernel
theorem dX14_readData_197 : decode cX14_readData 197 = .ok (.iastore, 1) := by decide +kernel
theorem dX14_readData_198 : decode cX14_readData 198 = .ok (.aload_n 0, 1) := by decide +kernel
theorem dX14_readData_199 : decode cX14_readData 199 = .ok (.dup, 1) := by decide +kernel
theorem dX14_readData_200 : decode cX14_readData 200 = .ok (.getfield 97, 3) := by decide +kernel
theorem dX14_readData_203 : decode cX14_readData 203 = .ok (.iconst 1, 1) := by decide +kernel
theorem dX14_readData_204 : decode cX14_readData 204 = .ok (.iadd, 1) := by decide +kernel
theorem dX14_readData_205 : decode cX14_readData 205 = .ok (.putfield 97, 3) := by decide +kernel
theorem dX14_readData_208 : decode cX14_readData 208 = .ok (.return_, 1) := by decide +kernel
theorem flRX14_55 : px_f RX14 55 14 28 := ⟨_, rfl, by decide, Or.inl (tb6 (List.mem_of_getElem? (i := 145) rfl))⟩
theorem kcX14_readData_113 : px_cV mX14_readData 113 mX14_wrong 2 := ⟨⟨mbX14_wrong, by decide, by decide⟩, Or.inl (tb8 (List.mem_of_getElem? (i := 139) rfl)), vbX14_wrong⟩
theorem kcX14_readData_124 : px_cV mX14_readData 124 mX14_next 0 := ⟨⟨mbX14_next, by decide, by decide⟩, Or.inl (tb8 (List.mem_of_getElem? (i := 131) rfl)), vbX14_next⟩
set_option maxRecDepth 100000 in
set_option maxHeartbeats 4000000 in
theorem eX14_readData_139 {X : px_X} {k4 : Nat → Int32 → Int32 → Int32 → px_W → Option (px_W)} (hk4 : ∀ (a0 : Nat) (a1 : Int32) (a2 : Int32) (a3 : Int32) (w : px_W) (q : px_W), k4 a0 a1 a2 a3 w = some q → EV X mX14_readData 4 [(0, .ref a0), (1, .int a1), (2, .int a2), (3, .int a3)] [] w none q) : ∀ (a0 : Nat) (a1 : Int32) (a2 : Int32) (a3 : Int32) (w : px_W) (q : px_W), fX14_readData_139 X k4 a0 a1 a2 a3 w = some q → EV X mX14_readData 139 [(0, .ref a0), (1, .int a1), (2, .int a2), (3, .int a3)] [] w none q := by
  intro a0 a1 a2 a3 w q h
  unfold fX14_readData_139 at h
  refine EV.goto 4 dX14_readData_139 (by decide) ?_
  refine EV.sub [0, 1, 2, 3] rfl ?_
  exact hk4 _ _ _ _ _ _ h
set_option maxRecDepth 100000 in
set_option maxHeartbeats 4000000 in
theorem eX14_readData_138 {X : px_X} {k4 : Nat → Int32 → Int32 → Int32 → px_W → Option (px_W)} (hk4 : ∀ (a0 : Nat) (a1 : Int32) (a2 : Int32) (a3 : Int32) (w : px_W) (q : px_W), k4 a0 a1 a2 a3 w = some q → EV X mX14_readData 4 [(0, .ref a0), (1, .int a1), (2, .int a2), (3, .int a3)] [] w none q) : ∀ (a0 : Nat) (a1 : Int32) (a2 : Int32) (s0 : Int32) (w : px_W) (q : px_W), fX14_readData_138 X k4 a0 a1 a2 s0 w = some q → EV X mX14_readData 138 [(0, .ref a0), (1, .int a1), (2, .int a2)] [.int s0] w none q := by
  intro a0 a1 a2 s0 w q h
  unfold fX14_readData_138 at h
  refine EV.istore_n [(3, .int s0), (0, .ref a0), (1, .int a1), (2, .int a2)] dX14_readData_138 rfl (by decide) rfl ?_
  refine EV.sub [1, 2, 3, 0] rfl ?_
  exact eX14_readData_139 hk4 _ _ _ _ _ _ h
set_option maxRecDepth 100000 in
set_option maxHeartbeats 4000000 in
theorem eX14_readData_133 {X : px_X} {k4 : Nat → Int32 → Int32 → Int32 → px_W → Option (px_W)} (hk4 : ∀ (a0 : Nat) (a1 : Int32) (a2 : Int32) (a3 : Int32) (w : px_W) (q : px_W), k4 a0 a1 a2 a3 w = some q → EV X mX14_readData 4 [(0, .ref a0), (1, .int a1), (2, .int a2), (3, .int a3)] [] w none q) : ∀ (a0 : Nat) (a1 : Int32) (a2 : Int32) (w : px_W) (q : px_W), fX14_readData_133 X k4 a0 a1 a2 w = some q → EV X mX14_readData 133 [(0, .ref a0), (1, .int a1), (2, .int a2)] [] w none q := by
  intro a0 a1 a2 w q h
  unfold fX14_readData_133 at h
  refine EV.iconst (1) dX14_readData_133 (by decide) ?_
  refine EV.goto 138 dX14_readData_134 (by decide) ?_
  refine EV.sub [0, 1, 2] rfl ?_
  exact eX14_readData_138 hk4 _ _ _ _ _ _ h
set_option maxRecDepth 100000 in
set_option maxHeartbeats 4000000 in
theorem eX14_readData_121 {X : px_X} {k4 : Nat → Int32 → Int32 → Int32 → px_W → Option (px_W)} (hk4 : ∀ (a0 : Nat) (a1 : Int32) (a2 : Int32) (a3 : Int32) (w : px_W) (q : px_W), k4 a0 a1 a2 a3 w = some q → EV X mX14_readData 4 [(0, .ref a0), (1, .int a1), (2, .int a2), (3, .int a3)] [] w none q) : ∀ (a0 : Nat) (a1 : Int32) (a5 : Int32) (a6 : Int32) (s0 : Int32) (s1 : Int32) (w : px_W) (q : px_W), fX14_readData_121 X k4 a0 a1 a5 a6 s0 s1 w = some q → EV X mX14_readData 121 [(0, .ref a0), (1, .int a1), (5, .int a5), (6, .int a6)] [.int s0, .int s1] w none q := by
  intro a0 a1 a5 a6 s0 s1 w q h
  unfold fX14_readData_121 at h
  refine EV.iadd dX14_readData_121 ?_
  refine EV.istore_n [(2, .int (s1 + s0)), (0, .ref a0), (1, .int a1), (5, .int a5), (6, .int a6)] dX14_readData_122 rfl (by decide) rfl ?_
  refine EV.iload 3 dX14_readData_123 rfl ?_
  refine EV.if_eq 133 dX14_readData_125 (by decide) (fun c26 => ?_) (fun c26 => ?_)
  · rw [if_pos c26] at h
    refine EV.sub [1, 2, 0] rfl ?_
    exact eX14_readData_133 hk4 _ _ _ _ _ h
  · rw [if_neg c26] at h
    refine EV.iload 4 dX14_readData_128 rfl ?_
    refine EV.if_eq 137 dX14_readData_130 (by decide) (fun c27 => ?_) (fun c27 => ?_)
    · rw [if_pos c27] at h
      refine EV.iconst (0) dX14_readData_137 (by decide) ?_
      refine EV.sub [1, 2, 0] rfl ?_
      exact eX14_readData_138 hk4 _ _ _ _ _ _ h
    · rw [if_neg c27] at h
      refine EV.sub [1, 2, 0] rfl ?_
      exact eX14_readData_133 hk4 _ _ _ _ _ h
set_option maxRecDepth 100000 in
set_option maxHeartbeats 4000000 in
theorem eX14_readData_110 {X : px_X} {k4 : Nat → Int32 → Int32 → Int32 → px_W → Option (px_W)} (hk4 : ∀ (a0 : Nat) (a1 : Int32) (a2 : Int32) (a3 : Int32) (w : px_W) (q : px_W), k4 a0 a1 a2 a3 w = some q → EV X mX14_readData 4 [(0, .ref a0), (1, .int a1), (2, .int a2), (3, .int a3)] [] w none q) : ∀ (a0 : Nat) (a1 : Int32) (a2 : Int32) (a5 : Int32) (a6 : Int32) (w : px_W) (q : px_W), fX14_readData_110 X k4 a0 a1 a2 a5 a6 w = some q → EV X mX14_readData 110 [(0, .ref a0), (1, .int a1), (2, .int a2), (5, .int a5), (6, .int a6)] [] w none q := by
  intro a0 a1 a2 a5 a6 w q h
  unfold fX14_readData_110 at h
  refine EV.iload_n 2 dX14_readData_110 rfl rfl ?_
  refine EV.iload 4 dX14_readData_111 rfl ?_
  refine EV.if_eq 120 dX14_readData_113 (by decide) (fun c28 => ?_) (fun c28 => ?_)
  · rw [if_pos c28] at h
    refine EV.iconst (0) dX14_readData_120 (by decide) ?_
    refine EV.sub [0, 1, 3, 4] rfl ?_
    exact eX14_readData_121 hk4 _ _ _ _ _ _ _ _ h
  · rw [if_neg c28] at h
    refine EV.iconst (1) dX14_readData_116 (by decide) ?_
    refine EV.goto 121 dX14_readData_117 (by decide) ?_
    refine EV.sub [0, 1, 3, 4] rfl ?_
    exact eX14_readData_121 hk4 _ _ _ _ _ _ _ _ h
set_option maxRecDepth 100000 in
set_option maxHeartbeats 4000000 in
theorem eX14_readData_97 {X : px_X} {k4 : Nat → Int32 → Int32 → Int32 → px_W → Option (px_W)} (hk4 : ∀ (a0 : Nat) (a1 : Int32) (a2 : Int32) (a3 : Int32) (w : px_W) (q : px_W), k4 a0 a1 a2 a3 w = some q → EV X mX14_readData 4 [(0, .ref a0), (1, .int a1), (2, .int a2), (3, .int a3)] [] w none q) : ∀ (a0 : Nat) (a1 : Int32) (a2 : Int32) (a5 : Int32) (a6 : Int32) (w : px_W) (q : px_W), fX14_readData_97 X k4 a0 a1 a2 a5 a6 w = some q → EV X mX14_readData 97 [(0, .ref a0), (1, .int a1), (2, .int a2), (5, .int a5), (6, .int a6)] [] w none q := by
  intro a0 a1 a2 a5 a6 w q h
  unfold fX14_readData_97 at h
  refine EV.aload_n 0 dX14_readData_97 rfl rfl ?_
  refine EV.iconst (4) dX14_readData_98 (by decide) ?_
  refine EV.aload_n 0 dX14_readData_99 rfl rfl ?_
  obtain ⟨v29, gv29, h⟩ := px_bs h
  refine ev_gI dX14_readData_100 flRX14_106 gv29 ?_
  refine EV.iconst (1) dX14_readData_103 (by decide) ?_
  refine EV.isub dX14_readData_104 ?_
  obtain ⟨o30, go30, h⟩ := px_bs h
  obtain ⟨q31, gq31, h⟩ := px_bs h
  refine EV.callV (As := [.int 4, .int (v29 - 1)]) (rest := []) dX14_readData_105 kcX14_readData_113 (gO_ok go30) rfl rfl rfl (Nat.le_of_ble_eq_true rfl) (Nat.le_of_ble_eq_true rfl) (eX14_wrong gq31) ?_
  refine EV.istore [(7, .int q31.1), (0, .ref a0), (1, .int a1), (2, .int a2), (5, .int a5), (6, .int a6)] dX14_readData_108 (by decide) rfl ?_
  refine EV.sub [1, 2, 3, 4, 5] rfl ?_
  exact eX14_readData_110 hk4 _ _ _ _ _ _ _ h
set_option maxRecDepth 100000 in
set_option maxHeartbeats 4000000 in
theorem eX14_readData_63 {X : px_X} {k4 : Nat → Int32 → Int32 → Int32 → px_W → Option (px_W)} (hk4 : ∀ (a0 : Nat) (a1 : Int32) (a2 : Int32) (a3 : Int32) (w : px_W) (q : px_W), k4 a0 a1 a2 a3 w = some q → EV X mX14_readData 4 [(0, .ref a0), (1, .int a1), (2, .int a2), (3, .int a3)] [] w none q) : ∀ (a0 : Nat) (a1 : Int32) (a2 : Int32) (a5 : Int32) (s0 : Int32) (w : px_W) (q : px_W), fX14_readData_63 X k4 a0 a1 a2 a5 s0 w = some q → EV X mX14_readData 63 [(0, .ref a0), (1, .int a1), (2, .int a2), (5, .int a5)] [.int s0] w none q := by
  intro a0 a1 a2 a5 s0 w q h
  unfold fX14_readData_63 at h
  refine EV.istore [(6, .int s0), (0, .ref a0), (1, .int a1), (2, .int a2), (5, .int a5)] dX14_readData_63 (by decide) rfl ?_
  refine EV.aload_n 1 dX14_readData_65 rfl rfl ?_
  obtain ⟨v32, gv32, h⟩ := px_bs h
  refine ev_gI dX14_readData_66 flRX14_100 gv32 ?_
  refine EV.if_ne 110 dX14_readData_69 (by decide) (fun c33 => ?_) (fun c33 => ?_)
  · rw [if_neg c33] at h
    refine EV.sub [1, 2, 3, 4, 0] rfl ?_
    exact eX14_readData_110 hk4 _ _ _ _ _ _ _ h
  · rw [if_pos c33] at h
    refine EV.iload 0 dX14_readData_72 rfl ?_
    refine EV.if_eq 110 dX14_readData_74 (by decide) (fun c34 => ?_) (fun c34 => ?_)
    · rw [if_pos c34] at h
      refine EV.sub [1, 2, 3, 4, 0] rfl ?_
      exact eX14_readData_110 hk4 _ _ _ _ _ _ _ h
    · rw [if_neg c34] at h
      refine EV.aload_n 1 dX14_readData_77 rfl rfl ?_
      obtain ⟨v35, gv35, h⟩ := px_bs h
      refine ev_gI dX14_readData_78 flRX14_94 gv35 ?_
      refine EV.if_eq 97 dX14_readData_81 (by decide) (fun c36 => ?_) (fun c36 => ?_)
      · rw [if_pos c36] at h
        refine EV.sub [1, 2, 3, 4, 0] rfl ?_
        exact eX14_readData_97 hk4 _ _ _ _ _ _ _ h
      · rw [if_neg c36] at h
        refine EV.iload 4 dX14_readData_84 rfl ?_
        refine EV.sipush (208) dX14_readData_86 (by decide) ?_
        refine EV.iload_n 3 dX14_readData_89 rfl rfl ?_
        refine EV.bipush (8) dX14_readData_90 (by decide) ?_
        obtain ⟨v37, gv37, h⟩ := px_bs h
        refine ev_rI dX14_readData_92 gv37 ?_
        refine EV.iadd dX14_readData_93 ?_
        refine EV.icmp_eq 110 dX14_readData_94 (by decide) (fun c38 => ?_) (fun c38 => ?_)
        · rw [if_pos c38] at h
          refine EV.sub [1, 2, 3, 4, 0] rfl ?_
          exact eX14_readData_110 hk4 _ _ _ _ _ _ _ h
        · rw [if_neg c38] at h
          refine EV.sub [1, 2, 3, 4, 0] rfl ?_
          exact eX14_readData_97 hk4 _ _ _ _ _ _ _ h
set_option maxRecDepth 100000 in
set_option maxHeartbeats 4000000 in
theorem eX14_readData_62 {X : px_X} {k4 : Nat → Int32 → Int32 → Int32 → px_W → Option (px_W)} (hk4 : ∀ (a0 : Nat) (a1 : Int32) (a2 : Int32) (a3 : Int32) (w : px_W) (q : px_W), k4 a0 a1 a2 a3 w = some q → EV X mX14_readData 4 [(0, .ref a0), (1, .int a1), (2, .int a2), (3, .int a3)] [] w none q) : ∀ (a0 : Nat) (a1 : Int32) (a2 : Int32) (a5 : Int32) (w : px_W) (q : px_W), fX14_readData_62 X k4 a0 a1 a2 a5 w = some q → EV X mX14_readData 62 [(0, .ref a0), (1, .int a1), (2, .int a2), (5, .int a5)] [] w none q := by
  intro a0 a1 a2 a5 w q h
  unfold fX14_readData_62 at h
  refine EV.iconst (0) dX14_readData_62 (by decide) ?_
  refine EV.sub [0, 1, 2, 3] rfl ?_
  exact eX14_readData_63 hk4 _ _ _ _ _ _ _ h
set_option maxRecDepth 100000 in
set_option maxHeartbeats 4000000 in
theorem eX14_readData_163 {X : px_X}  : ∀ (a0 : Nat) (a1 : Int32) (a2 : Int32) (s0 : Int32) (s1 : Nat) (w : px_W) (q : px_W), fX14_readData_163 X  a0 a1 a2 s0 s1 w = some q → EV X mX14_readData 163 [(0, .ref a0), (1, .int a1), (2, .int a2)] [.int s0, .ref s1] w none q := by
  intro a0 a1 a2 s0 s1 w q h
  unfold fX14_readData_163 at h
  obtain ⟨w39, gw39, h⟩ := px_bs h
  refine ev_pV dX14_readData_163 flRX14_106 rfl rfl rfl rfl gw39 ?_
  refine EV.aload_n 0 dX14_readData_166 rfl rfl ?_
  obtain ⟨v40, gv40, h⟩ := px_bs h
  refine ev_gR dX14_readData_167 flRX14_55 gv40 ?_
  refine EV.iload_n 1 dX14_readData_170 rfl rfl ?_
  refine EV.bipush (6) dX14_readData_171 (by decide) ?_
  refine EV.iadd dX14_readData_173 ?_
  refine EV.aload_n 0 dX14_readData_174 rfl rfl ?_
  obtain ⟨v41, gv41, h⟩ := px_bs h
  refine ev_gI dX14_readData_175 flRX14_106 gv41 ?_
  refine EV.aload_n 0 dX14_readData_178 rfl rfl ?_
  obtain ⟨v42, gv42, h⟩ := px_bs h
  refine ev_gR dX14_readData_179 flRX14_55 gv42 ?_
  refine EV.iload_n 1 dX14_readData_182 rfl rfl ?_
  refine EV.iconst (5) dX14_readData_183 (by decide) ?_
  refine EV.iadd dX14_readData_184 ?_
  obtain ⟨v43, gv43, h⟩ := px_bs h
  refine ev_aI dX14_readData_185 gv43 ?_
  refine EV.isub dX14_readData_186 ?_
  obtain ⟨w44, gw44, h⟩ := px_bs h
  refine ev_sI dX14_readData_187 gw44 ?_
  refine EV.aload_n 0 dX14_readData_188 rfl rfl ?_
  obtain ⟨v45, gv45, h⟩ := px_bs h
  refine ev_gR dX14_readData_189 flRX14_55 gv45 ?_
  refine EV.iload_n 1 dX14_readData_192 rfl rfl ?_
  refine EV.bipush (7) dX14_readData_193 (by decide) ?_
  refine EV.iadd dX14_readData_195 ?_
  refine EV.iload_n 2 dX14_readData_196 rfl rfl ?_
  obtain ⟨w46, gw46, h⟩ := px_bs h
  refine ev_sI dX14_readData_197 gw46 ?_
  refine EV.aload_n 0 dX14_readData_198 rfl rfl ?_
  refine EV.dup dX14_readData_199 rfl ?_
  obtain ⟨v47, gv47, h⟩ := px_bs h
  refine ev_gI dX14_readData_200 flRX14_97 gv47 ?_
  refine EV.iconst (1) dX14_readData_203 (by decide) ?_
  refine EV.iadd dX14_readData_204 ?_
  obtain ⟨w48, gw48, h⟩ := px_bs h
  refine ev_pV dX14_readData_205 flRX14_97 rfl rfl rfl rfl gw48 ?_
  cases h
  exact EV.ret0 dX14_readData_208 trivial
set_option maxRecDepth 100000 in
set_option maxHeartbeats 4000000 in
theorem eX14_readData_142 {X : px_X}  : ∀ (a0 : Nat) (a1 : Int32) (a2 : Int32) (w : px_W) (q : px_W), fX14_readData_142 X  a0 a1 a2 w = some q → EV X mX14_readData 142 [(0, .ref a0), (1, .int a1), (2, .int a2)] [] w none q := by
  intro a0 a1 a2 w q h
  unfold fX14_readData_142 at h
  refine EV.aload_n 0 dX14_readData_142 rfl rfl ?_
  refine EV.aload_n 0 dX14_readData_143 rfl rfl ?_
  obtain ⟨v49, gv49, h⟩ := px_bs h
  refine ev_gI dX14_readData_144 flRX14_100 gv49 ?_
  refine EV.if_ne 159 dX14_readData_147 (by decide) (fun c50 => ?_) (fun c50 => ?_)
  · rw [if_neg c50] at h
    refine EV.aload_n 0 dX14_readData_159 rfl rfl ?_
    obtain ⟨v51, gv51, h⟩ := px_bs h
    refine ev_gI dX14_readData_160 flRX14_106 gv51 ?_
    refine EV.sub [0, 1, 2] rfl ?_
    exact eX14_readData_163  _ _ _ _ _ _ _ h
  · rw [if_pos c50] at h
    refine EV.aload_n 0 dX14_readData_150 rfl rfl ?_
    obtain ⟨v52, gv52, h⟩ := px_bs h
    refine ev_gI dX14_readData_151 flRX14_106 gv52 ?_
    refine EV.iconst (2) dX14_readData_154 (by decide) ?_
    refine EV.isub dX14_readData_155 ?_
    refine EV.goto 163 dX14_readData_156 (by decide) ?_
    refine EV.sub [0, 1, 2] rfl ?_
    exact eX14_readData_163  _ _ _ _ _ _ _ h
set_option maxRecDepth 100000 in
set_option maxHeartbeats 4000000 in
theorem eX14_readData_4 {X : px_X}  : ∀ (m : Nat) (a0 : Nat) (a1 : Int32) (a2 : Int32) (a3 : Int32) (w : px_W) (q : px_W), fX14_readData_4 X  m a0 a1 a2 a3 w = some q → EV X mX14_readData 4 [(0, .ref a0), (1, .int a1), (2, .int a2), (3, .int a3)] [] w none q := by
  intro m
  induction m with
  | zero => intro a0 a1 a2 a3 w q h; cases h
  | succ m ih =>
    intro a0 a1 a2 a3 w q h
    rw [fX14_readData_4.eq_2] at h
    refine EV.iload_n 3 dX14_readData_4 rfl rfl ?_
    refine EV.if_eq 142 dX14_readData_5 (by decide) (fun c53 => ?_) (fun c53 => ?_)
    · rw [if_pos c53] at h
      refine EV.sub [0, 1, 2] rfl ?_
      exact eX14_readData_142  _ _ _ _ _ h
    · rw [if_neg c53] at h
      refine EV.aload_n 0 dX14_readData_8 rfl rfl ?_
      obtain ⟨v54, gv54, h⟩ := px_bs h
      refine ev_gI dX14_readData_9 flRX14_100 gv54 ?_
      refine EV.if_ne 142 dX14_readData_12 (by decide) (fun c55 => ?_) (fun c55 => ?_)
      · rw [if_neg c55] at h
        refine EV.sub [0, 1, 2] rfl ?_
        exact eX14_readData_142  _ _ _ _ _ h
      · rw [if_pos c55] at h
        refine EV.aload_n 0 dX14_readData_15 rfl rfl ?_
        obtain ⟨o56, go56, h⟩ := px_bs h
        obtain ⟨q57, gq57, h⟩ := px_bs h
        refine EV.callV (As := []) (rest := []) dX14_readData_16 kcX14_readData_124 (gO_ok go56) rfl rfl rfl (Nat.le_of_ble_eq_true rfl) (Nat.le_of_ble_eq_true rfl) (eX14_next gq57) ?_
        refine EV.istore [(4, .int q57.1), (0, .ref a0), (1, .int a1), (2, .int a2), (3, .int a3)] dX14_readData_19 (by decide) rfl ?_
        refine EV.aload_n 1 dX14_readData_21 rfl rfl ?_
        obtain ⟨v58, gv58, h⟩ := px_bs h
        refine ev_gI dX14_readData_22 flRX14_100 gv58 ?_
        refine EV.if_ne 139 dX14_readData_25 (by decide) (fun c59 => ?_) (fun c59 => ?_)
        · rw [if_neg c59] at h
          refine EV.sub [1, 2, 3, 4] rfl ?_
          exact eX14_readData_139 ih _ _ _ _ _ _ h
        · rw [if_pos c59] at h
          refine EV.iload 0 dX14_readData_28 rfl ?_
          refine EV.sipush (255) dX14_readData_30 (by decide) ?_
          refine EV.icmp_ne 139 dX14_readData_33 (by decide) (fun c60 => ?_) (fun c60 => ?_)
          · rw [if_neg c60] at h
            refine EV.sub [1, 2, 3, 4] rfl ?_
            exact eX14_readData_139 ih _ _ _ _ _ _ h
          · rw [if_pos c60] at h
            refine EV.aload_n 1 dX14_readData_36 rfl rfl ?_
            obtain ⟨o61, go61, h⟩ := px_bs h
            obtain ⟨q62, gq62, h⟩ := px_bs h
            refine EV.callV (As := []) (rest := []) dX14_readData_37 kcX14_readData_124 (gO_ok go61) rfl rfl rfl (Nat.le_of_ble_eq_true rfl) (Nat.le_of_ble_eq_true rfl) (eX14_next gq62) ?_
            refine EV.istore [(5, .int q62.1), (4, .int q57.1), (0, .ref a0), (1, .int a1), (2, .int a2), (3, .int a3)] dX14_readData_40 (by decide) rfl ?_
            refine EV.iload 0 dX14_readData_42 rfl ?_
            refine EV.sipush (208) dX14_readData_44 (by decide) ?_
            refine EV.icmp_lt 62 dX14_readData_47 (by decide) (fun c63 => ?_) (fun c63 => ?_)
            · rw [if_pos c63] at h
              refine EV.sub [2, 3, 4, 0] rfl ?_
              exact eX14_readData_62 ih _ _ _ _ _ _ h
            · rw [if_neg c63] at h
              refine EV.iload 0 dX14_readData_50 rfl ?_
              refine EV.sipush (215) dX14_readData_52 (by decide) ?_
              refine EV.icmp_gt 62 dX14_readData_55 (by decide) (fun c64 => ?_) (fun c64 => ?_)
              · rw [if_pos c64] at h
                refine EV.sub [2, 3, 4, 0] rfl ?_
                exact eX14_readData_62 ih _ _ _ _ _ _ h
              · rw [if_neg c64] at h
                refine EV.iconst (1) dX14_readData_58 (by decide) ?_
                refine EV.goto 63 dX14_readData_59 (by decide) ?_
                refine EV.sub [2, 3, 4, 0] rfl ?_
                exact eX14_readData_63 ih _ _ _ _ _ _ _ h
set_option maxRecDepth 100000 in
set_option maxHeartbeats 4000000 in
theorem eX14_readData {X : px_X} {w : px_W} {a0 : Nat} {a1 : Int32} {q : px_W} (h : fX14_readData X w a0 a1 = some q) : EV X mX14_readData 0 (lv_args 0 [.ref a0, .int a1]) [] w none q := by
  unfold fX14_readData at h
  show EV X mX14_readData 0 [(0, .ref a0), (1, .int a1)] [] w none q
  refine EV.iconst (0) dX14_readData_0 (by decide) ?_
  refine EV.istore_n [(2, .int 0), (0, .ref a0), (1, .int a1)] dX14_readData_1 rfl (by decide) rfl ?_
  refine EV.iconst (1) dX14_readData_2 (by decide) ?_
  refine EV.istore_n [(3, .int 1), (2, .int 0), (0, .ref a0), (1, .int a1)] dX14_readData_3 rfl (by decide) rfl ?_
  refine EV.sub [2, 3, 1, 0] rfl ?_
  exact eX14_readData_4  FU _ _ _ _ _ _ h
/-! WavePicturesModel.lend(LWavePicturesModel$Segments;I)V -/
theorem dX15_lend_0 : decode cX15_lend 0 = .ok (.iconst 1, 1) := by decide +kernel
theorem dX15_lend_1 : decode cX15_lend 1 = .ok (.istore_n 3, 1) := by decide +kernel
theorem dX15_lend_2 : decode cX15_lend 2 = .ok (.iload_n 3, 1) := by decide +kernel
theorem dX15_lend_3 : decode cX15_lend 3 = .ok (.bipush 17, 2) := by decide +kernel
theorem dX15_lend_5 : decode cX15_lend 5 = .ok (.if_icmp .ge 29, 3) := by decide +kernel
theorem dX15_lend_8 : decode cX15_lend 8 = .ok (.aload_n 0, 1) := by decide +kernel
theorem dX15_lend_9 : decode cX15_lend 9 = .ok (.getfield 33, 3) := by decide +kernel
theorem dX15_lend_12 : decode cX15_lend 12 = .ok (.getfield 185, 3) := by decide +kernel
theorem dX15_lend_15 : decode cX15_lend 15 = .ok (.iload_n 3, 1) := by decide +kernel
theorem dX15_lend_16 : decode cX15_lend 16 = .ok (.aload_n 1, 1) := by decide +kernel
theorem dX15_lend_17 : decode cX15_lend 17 = .ok (.getfield 188, 3) := by decide +kernel
theorem dX15_lend_20 : decode cX15_lend 20 = .ok (.bipush 17, 2) := by decide +kernel
theorem dX15_lend_22 : decode cX15_lend 22 = .ok (.iload_n 2, 1) := by decide +kernel
theorem dX15_lend_23 : decode cX15_lend 23 = .ok (.imul, 1) := by decide +kernel
theorem dX15_lend_24 : decode cX15_lend 24 = .ok (.iload_n 3, 1) := by decide +kernel
theorem dX15_lend_25 : decode cX15_lend 25 = .ok (.iadd, 1) := by decide +kernel
theorem dX15_lend_26 : decode cX15_lend 26 = .ok (.iaload, 1) := by decide +kernel
theorem dX15_lend_27 : decode cX15_lend 27 = .ok (.iastore, 1) := by decide +kernel
theorem dX15_lend_28 : decode cX15_lend 28 = .ok (.iinc 3 1, 3) := by decide +kernel
theorem dX15_lend_31 : decode cX15_lend 31 = .ok (.goto (-29), 3) := by decide +kernel
theorem dX15_lend_34 : decode cX15_lend 34 = .ok (.aload_n 0, 1) := by decide +kernel
theorem dX15_lend_35 : decode cX15_lend 35 = .ok (.getfield 33, 3) := by decide +kernel
theorem dX15_lend_38 : decode cX15_lend 38 = .ok (.aload_n 1, 1) := by decide +kernel
theorem dX15_lend_39 : decode cX15_lend 39 = .ok (.getfield 191, 3) := by decide +kernel
theorem dX15_lend_42 : decode cX15_lend 42 = .ok (.iload_n 2, 1) := by decide +kernel
theorem dX15_lend_43 : decode cX15_lend 43 = .ok (.iaload, 1) := by decide +kernel
theorem dX15_lend_44 : decode cX15_lend 44 = .ok (.putfield 194, 3) := by decide +kernel
theorem dX15_lend_47 : decode cX15_lend 47 = .ok (.iconst 0, 1) := by decide +kernel
theorem dX15_lend_48 : decode cX15_lend 48 = .ok (.istore_n 3, 1) := by decide +kernel
theorem dX15_lend_49 : decode cX15_lend 49 = .ok (.iload_n 3, 1) := by decide +kernel
theorem dX15_lend_50 : decode cX15_lend 50 = .ok (.aload_n 0, 1) := by decide +kernel
theorem dX15_lend_51 : decode cX15_lend 51 = .ok (.getfield 33, 3) := by decide +kernel
theorem dX15_lend_54 : decode cX15_lend 54 = .ok (.getfield 194, 3) := by decide +kernel
theorem dX15_lend_57 : decode cX15_lend 57 = .ok (.if_icmp .ge 30, 3) := by decide +kernel
theorem dX15_lend_60 : decode cX15_lend 60 = .ok (.aload_n 0, 1) := by decide +kernel
theorem dX15_lend_61 : decode cX15_lend 61 = .ok (.getfield 33, 3) := by decide +kernel
theorem dX15_lend_64 : decode cX15_lend 64 = .ok (.getfield 197, 3) := by decide +kernel
theorem dX15_lend_67 : decode cX15_lend 67 = .ok (.iload_n 3, 1) := by decide +kernel
theorem dX15_lend_68 : decode cX15_lend 68 = .ok (.aload_n 1, 1) := by decide +kernel
theorem dX15_lend_69 : decode cX15_lend 69 = .ok (.getfield 200, 3) := by decide +kernel
theorem dX15_lend_72 : decode cX15_lend 72 = .ok (.sipush 256, 3) := by decide +kernel
theorem dX15_lend_75 : decode cX15_lend 75 = .ok (.iload_n 2, 1) := by decide +kernel
theorem dX15_lend_76 : decode cX15_lend 76 = .ok (.imul, 1) := by decide +kernel
theorem dX15_lend_77 : decode cX15_lend 77 = .ok (.iload_n 3, 1) := by decide +kernel
theorem dX15_lend_78 : decode cX15_lend 78 = .ok (.iadd, 1) := by decide +kernel
theorem dX15_lend_79 : decode cX15_lend 79 = .ok (.iaload, 1) := by decide +kernel
theorem dX15_lend_80 : decode cX15_lend 80 = .ok (.iastore, 1) := by decide +kernel
theorem dX15_lend_81 : decode cX15_lend 81 = .ok (.iinc 3 1, 3) := by decide +kernel
theorem dX15_lend_84 : decode cX15_lend 84 = .ok (.goto (-35), 3) := by decide +kernel
theorem dX15_lend_87 : decode cX15_lend 87 = .ok (.aload_n 0, 1) := by decide +kernel
theorem dX15_lend_88 : decode cX15_lend 88 = .ok (.getfield 33, 3) := by decide +kernel
theorem dX15_lend_91 : decode cX15_lend 91 = .ok (.iload_n 2, 1) := by decide +kernel
theorem dX15_lend_92 : decode cX15_lend 92 = .ok (.invokevirtual 203, 3) := by decide +kernel
theorem dX15_lend_95 : decode cX15_lend 95 = .ok (.istore_n 3, 1) := by decide +kernel
theorem dX15_lend_96 : decode cX15_lend 96 = .ok (.return_, 1) := by decide +kernel
theorem flRX15_33 : px_f RX15 33 15 13 := ⟨_, rfl, by decide, Or.inl (tb7 (List.mem_of_getElem? (i := 214) rfl))⟩
theorem flRX15_185 : px_f RX15 185 13 14 := ⟨_, rfl, by decide, Or.inr ⟨"WavePicturesModel", tT7 (List.mem_of_getElem? (i := 25) rfl)⟩⟩
theorem flRX15_188 : px_f RX15 188 14 24 := ⟨_, rfl, by decide, Or.inr ⟨"WavePicturesModel", tT6 (List.mem_of_getElem? (i := 138) rfl)⟩⟩
theorem flRX15_191 : px_f RX15 191 14 26 := ⟨_, rfl, by decide, Or.inr ⟨"WavePicturesModel", tT6 (List.mem_of_getElem? (i := 142) rfl)⟩⟩
theorem flRX15_194 : px_f RX15 194 13 16 := ⟨_, rfl, by decide, Or.inr ⟨"WavePicturesModel", tT7 (List.mem_of_getElem? (i := 29) rfl)⟩⟩
theorem flRX15_197 : px_f RX15 197 13 15 := ⟨_, rfl, by decide, Or.inr ⟨"WavePicturesModel", tT7 (List.mem_of_getElem? (i := 27) rfl)⟩⟩
theorem flRX15_200 : px_f RX15 200 14 25 := ⟨_, rfl, by decide, Or.inr ⟨"WavePicturesModel", tT6 (List.mem_of_getElem? (i := 140) rfl)⟩⟩
theorem mbX13_make : px_mB mX13_make 1 := ⟨tb8 (List.mem_of_getElem? (i := 231) rfl), by decide +kernel, tb1 (List.mem_of_getElem? (i := 15) rfl), by decide +kernel, by decide +kernel⟩
theorem vbX13_make : px_vB mX13_make := ⟨tb8 (List.mem_of_getElem? (i := 229) rfl), tb8 (List.mem_of_getElem? (i := 230) rfl)⟩
theorem kcX15_lend_203 : px_cV mX15_lend 203 mX13_make 1 := ⟨⟨mbX13_make, by decide, by decide⟩, Or.inl (tb8 (List.mem_of_getElem? (i := 228) rfl)), vbX13_make⟩
set_option maxRecDepth 100000 in
set_option maxHeartbeats 4000000 in
theorem eX15_lend_87 {X : px_X}  : ∀ (a0 : Nat) (a2 : Int32) (w : px_W) (q : px_W), fX15_lend_87 X  a0 a2 w = some q → EV X mX15_lend 87 [(0, .ref a0), (2, .int a2)] [] w none q := by
  intro a0 a2 w q h
  unfold fX15_lend_87 at h
  refine EV.aload_n 0 dX15_lend_87 rfl rfl ?_
  obtain ⟨v20, gv20, h⟩ := px_bs h
  refine ev_gR dX15_lend_88 flRX15_33 gv20 ?_
  refine EV.iload_n 1 dX15_lend_91 rfl rfl ?_
  obtain ⟨o21, go21, h⟩ := px_bs h
  obtain ⟨q22, gq22, h⟩ := px_bs h
  refine EV.callV (As := [.int a2]) (rest := []) dX15_lend_92 kcX15_lend_203 (gO_ok go21) rfl rfl rfl (Nat.le_of_ble_eq_true rfl) (Nat.le_of_ble_eq_true rfl) (eX13_make gq22) ?_
  refine EV.istore_n [(3, .int q22.1), (0, .ref a0), (2, .int a2)] dX15_lend_95 rfl (by decide) rfl ?_
  cases h
  exact EV.ret0 dX15_lend_96 trivial
set_option maxRecDepth 100000 in
set_option maxHeartbeats 4000000 in
theorem eX15_lend_49 {X : px_X}  : ∀ (m : Nat) (a0 : Nat) (a1 : Nat) (a2 : Int32) (a3 : Int32) (w : px_W) (q : px_W), fX15_lend_49 X  m a0 a1 a2 a3 w = some q → EV X mX15_lend 49 [(0, .ref a0), (1, .ref a1), (2, .int a2), (3, .int a3)] [] w none q := by
  intro m
  induction m with
  | zero => intro a0 a1 a2 a3 w q h; cases h
  | succ m ih =>
    intro a0 a1 a2 a3 w q h
    rw [fX15_lend_49.eq_2] at h
    refine EV.iload_n 3 dX15_lend_49 rfl rfl ?_
    refine EV.aload_n 0 dX15_lend_50 rfl rfl ?_
    obtain ⟨v23, gv23, h⟩ := px_bs h
    refine ev_gR dX15_lend_51 flRX15_33 gv23 ?_
    obtain ⟨v24, gv24, h⟩ := px_bs h
    refine ev_gI dX15_lend_54 flRX15_194 gv24 ?_
    refine EV.icmp_ge 87 dX15_lend_57 (by decide) (fun c25 => ?_) (fun c25 => ?_)
    · rw [if_pos c25] at h
      refine EV.sub [0, 2] rfl ?_
      exact eX15_lend_87  _ _ _ _ h
    · rw [if_neg c25] at h
      refine EV.aload_n 0 dX15_lend_60 rfl rfl ?_
      obtain ⟨v26, gv26, h⟩ := px_bs h
      refine ev_gR dX15_lend_61 flRX15_33 gv26 ?_
      obtain ⟨v27, gv27, h⟩ := px_bs h
      refine ev_gR dX15_lend_64 flRX15_197 gv27 ?_
      refine EV.iload_n 3 dX15_lend_67 rfl rfl ?_
      refine EV.aload_n 1 dX15_lend_68 rfl rfl ?_
      obtain ⟨v28, gv28, h⟩ := px_bs h
      refine ev_gR dX15_lend_69 flRX15_200 gv28 ?_
      refine EV.sipush (256) dX15_lend_72 (by decide) ?_
      refine EV.iload_n 2 dX15_lend_75 rfl rfl ?_
      refine EV.imul dX15_lend_76 ?_
      refine EV.iload_n 3 dX15_lend_77 rfl rfl ?_
      refine EV.iadd dX15_lend_78 ?_
      obtain ⟨v29, gv29, h⟩ := px_bs h
      refine ev_aI dX15_lend_79 gv29 ?_
      obtain ⟨w30, gw30, h⟩ := px_bs h
      refine ev_sI dX15_lend_80 gw30 ?_
      refine EV.iinc 3 (a3 + 1) [(3, .int (a3 + 1)), (0, .ref a0), (1, .ref a1), (2, .int a2)] dX15_lend_81 rfl rfl (by decide) rfl ?_
      refine EV.goto 49 dX15_lend_84 (by decide) ?_
      refine EV.sub [1, 2, 3, 0] rfl ?_
      exact ih _ _ _ _ _ _ h
set_option maxRecDepth 100000 in
set_option maxHeartbeats 4000000 in
theorem eX15_lend_34 {X : px_X}  : ∀ (a0 : Nat) (a1 : Nat) (a2 : Int32) (w : px_W) (q : px_W), fX15_lend_34 X  a0 a1 a2 w = some q → EV X mX15_lend 34 [(0, .ref a0), (1, .ref a1), (2, .int a2)] [] w none q := by
  intro a0 a1 a2 w q h
  unfold fX15_lend_34 at h
  refine EV.aload_n 0 dX15_lend_34 rfl rfl ?_
  obtain ⟨v31, gv31, h⟩ := px_bs h
  refine ev_gR dX15_lend_35 flRX15_33 gv31 ?_
  refine EV.aload_n 1 dX15_lend_38 rfl rfl ?_
  obtain ⟨v32, gv32, h⟩ := px_bs h
  refine ev_gR dX15_lend_39 flRX15_191 gv32 ?_
  refine EV.iload_n 2 dX15_lend_42 rfl rfl ?_
  obtain ⟨v33, gv33, h⟩ := px_bs h
  refine ev_aI dX15_lend_43 gv33 ?_
  obtain ⟨w34, gw34, h⟩ := px_bs h
  refine ev_pV dX15_lend_44 flRX15_194 rfl rfl rfl rfl gw34 ?_
  refine EV.iconst (0) dX15_lend_47 (by decide) ?_
  refine EV.istore_n [(3, .int 0), (0, .ref a0), (1, .ref a1), (2, .int a2)] dX15_lend_48 rfl (by decide) rfl ?_
  refine EV.sub [1, 2, 3, 0] rfl ?_
  exact eX15_lend_49  FU _ _ _ _ _ _ h
set_option maxRecDepth 100000 in
set_option maxHeartbeats 4000000 in
theorem eX15_lend_2 {X : px_X}  : ∀ (m : Nat) (a0 : Nat) (a1 : Nat) (a2 : Int32) (a3 : Int32) (w : px_W) (q : px_W), fX15_lend_2 X  m a0 a1 a2 a3 w = some q → EV X mX15_lend 2 [(0, .ref a0), (1, .ref a1), (2, .int a2), (3, .int a3)] [] w none q := by
  intro m
  induction m with
  | zero => intro a0 a1 a2 a3 w q h; cases h
  | succ m ih =>
    intro a0 a1 a2 a3 w q h
    rw [fX15_lend_2.eq_2] at h
    refine EV.iload_n 3 dX15_lend_2 rfl rfl ?_
    refine EV.bipush (17) dX15_lend_3 (by decide) ?_
    refine EV.icmp_ge 34 dX15_lend_5 (by decide) (fun c35 => ?_) (fun c35 => ?_)
    · rw [if_pos c35] at h
      refine EV.sub [0, 1, 2] rfl ?_
      exact eX15_lend_34  _ _ _ _ _ h
    · rw [if_neg c35] at h
      refine EV.aload_n 0 dX15_lend_8 rfl rfl ?_
      obtain ⟨v36, gv36, h⟩ := px_bs h
      refine ev_gR dX15_lend_9 flRX15_33 gv36 ?_
      obtain ⟨v37, gv37, h⟩ := px_bs h
      refine ev_gR dX15_lend_12 flRX15_185 gv37 ?_
      refine EV.iload_n 3 dX15_lend_15 rfl rfl ?_
      refine EV.aload_n 1 dX15_lend_16 rfl rfl ?_
      obtain ⟨v38, gv38, h⟩ := px_bs h
      refine ev_gR dX15_lend_17 flRX15_188 gv38 ?_
      refine EV.bipush (17) dX15_lend_20 (by decide) ?_
      refine EV.iload_n 2 dX15_lend_22 rfl rfl ?_
      refine EV.imul dX15_lend_23 ?_
      refine EV.iload_n 3 dX15_lend_24 rfl rfl ?_
      refine EV.iadd dX15_lend_25 ?_
      obtain ⟨v39, gv39, h⟩ := px_bs h
      refine ev_aI dX15_lend_26 gv39 ?_
      obtain ⟨w40, gw40, h⟩ := px_bs h
      refine ev_sI dX15_lend_27 gw40 ?_
      refine EV.iinc 3 (a3 + 1) [(3, .int (a3 + 1)), (0, .ref a0), (1, .ref a1), (2, .int a2)] dX15_lend_28 rfl rfl (by decide) rfl ?_
      refine EV.goto 2 dX15_lend_31 (by decide) ?_
      refine EV.sub [1, 2, 3, 0] rfl ?_
      exact ih _ _ _ _ _ _ h
set_option maxRecDepth 100000 in
set_option maxHeartbeats 4000000 in
theorem eX15_lend {X : px_X} {w : px_W} {a0 : Nat} {a1 : Nat} {a2 : Int32} {q : px_W} (h : fX15_lend X w a0 a1 a2 = some q) : EV X mX15_lend 0 (lv_args 0 [.ref a0, .ref a1, .int a2]) [] w none q := by
  unfold fX15_lend at h
  show EV X mX15_lend 0 [(0, .ref a0), (1, .ref a1), (2, .int a2)] [] w none q
  refine EV.iconst (1) dX15_lend_0 (by decide) ?_
  refine EV.istore_n [(3, .int 1), (0, .ref a0), (1, .ref a1), (2, .int a2)] dX15_lend_1 rfl (by decide) rfl ?_
  refine EV.sub [1, 2, 3, 0] rfl ?_
  exact eX15_lend_2  FU _ _ _ _ _ _ h
/-! WavePicturesModel.scanned(LWavePicturesModel$Segments;I)I -/
theorem dX15_scanned_0 : decode cX15_scanned 0 = .ok (.aload_n 0, 1) := by decide +kernel
theorem dX15_scanned_1 : decode cX15_scanned 1 = .ok (.aload_n 1, 1) := by decide +kernel
theorem dX15_scanned_2 : decode cX15_scanned 2 = .ok (.getfield 145, 3) := by decide +kernel
theorem dX15_scanned_5 : decode cX15_scanned 5 = .ok (.iconst 1, 1) := by decide +kernel
theorem dX15_scanned_6 : decode cX15_scanned 6 = .ok (.isub, 1) := by decide +kernel
theorem dX15_scanned_7 : decode cX15_scanned 7 = .ok (.putfield 19, 3) := by decide +kernel
theorem dX15_scanned_10 : decode cX15_scanned 10 = .ok (.aload_n 1, 1) := by decide +kernel
theorem dX15_scanned_11 : decode cX15_scanned 11 = .ok (.getfield 147, 3) := by decide +kernel
theorem dX15_scanned_14 : decode cX15_scanned 14 = .ok (.iload_n 2, 1) := by decide +kernel
theorem dX15_scanned_15 : decode cX15_scanned 15 = .ok (.iconst 4, 1) := by decide +kernel
theorem dX15_scanned_16 : decode cX15_scanned 16 = .ok (.iadd, 1) := by decide +kernel
theorem dX15_scanned_17 : decode cX15_scanned 17 = .ok (.iaload, 1) := by decide +kernel
theorem dX15_scanned_18 : decode cX15_scanned 18 = .ok (.bipush 9, 2) := by decide +kernel
theorem dX15_scanned_20 : decode cX15_scanned 20 = .ok (.if_icmp .le 6, 3) := by decide +kernel
theorem dX15_scanned_23 : decode cX15_scanned 23 = .ok (.bipush 10, 2) := by decide +kernel
theorem dX15_scanned_25 : decode cX15_scanned 25 = .ok (.ireturn, 1) := by decide +kernel
theorem dX15_scanned_26 : decode cX15_scanned 26 = .ok (.iconst 0, 1) := by decide +kernel
theorem dX15_scanned_27 : decode cX15_scanned 27 = .ok (.istore_n 3, 1) := by decide +kernel
theorem dX15_scanned_28 : decode cX15_scanned 28 = .ok (.iconst 0, 1) := by decide +kernel
theorem dX15_scanned_29 : decode cX15_scanned 29 = .ok (.istore 4, 2) := by decide +kernel
theorem dX15_scanned_31 : decode cX15_scanned 31 = .ok (.iload 4, 2) := by decide +kernel
theorem dX15_scanned_33 : decode cX15_scanned 33 = .ok (.bipush 8, 2) := by decide +kernel
theorem dX15_scanned_35 : decode cX15_scanned 35 = .ok (.if_icmp .ge 26, 3) := by decide +kernel
theorem dX15_scanned_38 : decode cX15_scanned 38 = .ok (.aload_n 1, 1) := by decide +kernel
theorem dX15_scanned_39 : decode cX15_scanned 39 = .ok (.getfield 150, 3) := by decide +kernel
theorem dX15_scanned_42 : decode cX15_scanned 42 = .ok (.iload 4, 2) := by decide +kernel
theorem dX15_scanned_44 : decode cX15_scanned 44 = .ok (.baload, 1) := by decide +kernel
theorem dX15_scanned_45 : decode cX15_scanned 45 = .ok (.ifCond .eq 10, 3) := by decide +kernel
theorem dX15_scanned_48 : decode cX15_scanned 48 = .ok (.aload_n 0, 1) := by decide +kernel
theorem dX15_scanned_49 : decode cX15_scanned 49 = .ok (.aload_n 1, 1) := by decide +kernel
theorem dX15_scanned_50 : decode cX15_scanned 50 = .ok (.iload 4, 2) := by decide +kernel
theorem dX15_scanned_52 : decode cX15_scanned 52 = .ok (.invokevirtual 153, 3) := by decide +kernel
theorem dX15_scanned_55 : decode cX15_scanned 55 = .ok (.iinc 4 1, 3) := by decide +kernel
theorem dX15_scanned_58 : decode cX15_scanned 58 = .ok (.goto (-27), 3) := by decide +kernel
theorem dX15_scanned_61 : decode cX15_scanned 61 = .ok (.iconst 0, 1) := by decide +kernel
theorem dX15_scanned_62 : decode cX15_scanned 62 = .ok (.istore 4, 2) := by decide +kernel
theorem dX15_scanned_64 : decode cX15_scanned 64 = .ok (.iload 4, 2) := by decide +kernel
theorem dX15_scanned_66 : decode cX15_scanned 66 = .ok (.aload_n 1, 1) := by decide +kernel
theorem dX15_scanned_67 : decode cX15_scanned 67 = .ok (.getfield 147, 3) := by decide +kernel
theorem dX15_scanned_70 : decode cX15_scanned 70 = .ok (.iload_n 2, 1) := by decide +kernel
theorem dX15_scanned_71 : decode cX15_scanned 71 = .ok (.iaload, 1) := by decide +kernel
theorem dX15_scanned_72 : decode cX15_scanned 72 = .ok (.if_icmp .ge 138, 3) := by decide +kernel
theorem dX15_scanned_75 : decode cX15_scanned 75 = .ok (.aload_n 1, 1) := by decide +kernel
theorem dX15_scanned_76 : decode cX15_scanned 76 = .ok (.getfield 147, 3) := by decide +kernel
theorem dX15_scanned_79 : decode cX15_scanned 79 = .ok (.iload_n 2, 1) := by decide +kernel
theorem dX15_scanned_80 : decode cX15_scanned 80 = .ok (.bipush 10, 2) := by decide +kernel
theorem dX15_scanned_82 : decode cX15_scanned 82 = .ok (.iadd, 1) := by decide +kernel
theorem dX15_scanned_83 : decode cX15_scanned 83 = .ok (.iconst 4, 1) := by decide +kernel
theorem dX15_scanned_84 : decode cX15_scanned 84 = .ok (.iload 4, 2) := by decide +kernel
theorem dX15_scanned_86 : decode cX15_scanned 86 = .ok (.imul, 1) := by decide +kernel
theorem dX15_scanned_87 : decode cX15_scanned 87 = .ok (.iadd, 1) := by decide +kernel
theorem dX15_scanned_88 : decode cX15_scanned 88 = .ok (.iaload, 1) := by decide +kernel
theorem dX15_scanned_89 : decode cX15_scanned 89 = .ok (.istore 5, 2) := by decide +kernel
theorem dX15_scanned_91 : decode cX15_scanned 91 = .ok (.iload_n 3, 1) := by decide +kernel
theorem dX15_scanned_92 : decode cX15_scanned 92 = .ok (.iconst 1, 1) := by decide +kernel
theorem dX15_scanned_93 : decode cX15_scanned 93 = .ok (.iload 5, 2) := by decide +kernel
theorem dX15_scanned_95 : decode cX15_scanned 95 = .ok (.ishl, 1) := by decide +kernel
theorem dX15_scanned_96 : decode cX15_scanned 96 = .ok (.ior, 1) := by decide +kernel
theorem dX15_scanned_97 : decode cX15_scanned 97 = .ok (.istore_n 3, 1) := by decide +kernel
theorem dX15_scanned_98 : decode cX15_scanned 98 = .ok (.aload_n 0, 1) := by decide +kernel
theorem dX15_scanned_99 : decode cX15_scanned 99 = .ok (.getfield 33, 3) := by decide +kernel
theorem dX15_scanned_102 : decode cX15_scanned 102 = .ok (.iload 5, 2) := by decide +kernel
theorem dX15_scanned_104 : decode cX15_scanned 104 = .ok (.aload_n 1, 1) := by decide +kernel
theorem dX15_scanned_105 : decode cX15_scanned 105 = .ok (.getfield 147, 3) := by decide +kernel
theorem dX15_scanned_108 : decode cX15_scanned 108 = .ok (.iload_n 2, 1) := by decide +kernel
theorem dX15_scanned_109 : decode cX15_scanned 109 = .ok (.bipush 11, 2) := by decide +kernel
theorem dX15_scanned_111 : decode cX15_scanned 111 = .ok (.iadd, 1) := by decide +kernel
theorem dX15_scanned_112 : decode cX15_scanned 112 = .ok (.iconst 4, 1) := by decide +kernel
theorem dX15_scanned_113 : decode cX15_scanned 113 = .ok (.iload 4, 2) := by decide +kernel
theorem dX15_scanned_115 : decode cX15_scanned 115 = .ok (.imul, 1) := by decide +kernel
theorem dX15_scanned_116 : decode cX15_scanned 116 = .ok (.iadd, 1) := by decide +kernel
theorem dX15_scanned_117 : decode cX15_scanned 117 = .ok (.iaload, 1) := by decide +kernel
theorem dX15_scanned_118 : decode cX15_scanned 118 = .ok (.iconst 4, 1) := by decide +kernel
theorem dX15_scanned_119 : decode cX15_scanned 119 = .ok (.aload_n 1, 1) := by decide +kernel
theorem dX15_scanned_120 : decode cX15_scanned 120 = .ok (.getfield 147, 3) := by decide +kernel
theorem dX15_scanned_123 : decode cX15_scanned 123 = .ok (.iload_n 2, 1) := by decide +kernel
theorem dX15_scanned_124 : decode cX15_scanned 124 = .ok (.bipush 12, 2) := by decide +kernel
theorem dX15_scanned_126 : decode cX15_scanned 126 = .ok (.iadd, 1) := by decide +kernel
theorem dX15_scanned_127 : decode cX15_scanned 127 = .ok (.iconst 4, 1) := by decide +kernel
theorem dX15_scanned_128 : decode cX15_scanned 128 = .ok (.iload 4, 2) := by decide +kernel
theorem dX15_scanned_130 : decode cX15_scanned 130 = .ok (.imul, 1) := by decide +kernel
theorem dX15_scanned_131 : decode cX15_scanned 131 = .ok (.iadd, 1) := by decide +kernel
theorem dX15_scanned_132 : decode cX15_scanned 132 = .ok (.iaload, 1) := by decide +kernel
theorem dX15_scanned_133 : decode cX15_scanned 133 = .ok (.iadd, 1) := by decide +kernel
theorem dX15_scanned_134 : decode cX15_scanned 134 = .ok (.invokevirtual 157, 3) := by decide +kernel
theorem dX15_scanned_137 : decode cX15_scanned 137 = .ok (.istore 6, 2) := by decide +kernel
theorem dX15_scanned_139 : decode cX15_scanned 139 = .ok (.iconst 0, 1) := by decide +kernel
theorem dX15_scanned_140 : decode cX15_scanned 140 = .ok (.istore 7, 2) := by decide +kernel
theorem dX15_scanned_142 : decode cX15_scanned 142 = .ok (.iload 7, 2) := by decide +kernel
theorem dX15_scanned_144 : decode cX15_scanned 144 = .ok (.bipush 64, 2) := by decide +kernel
theorem dX15_scanned_146 : decode cX15_scanned 146 = .ok (.if_icmp .ge 50, 3) := by decide +kernel
theorem dX15_scanned_149 : decode cX15_scanned 149 = .ok (.aload_n 0, 1) := by decide +kernel
theorem dX15_scanned_150 : decode cX15_scanned 150 = .ok (.getfield 48, 3) := by decide +kernel
theorem dX15_scanned_153 : decode cX15_scanned 153 = .ok (.iload 5, 2) := by decide +kernel
theorem dX15_scanned_155 : decode cX15_scanned 155 = .ok (.baload, 1) := by decide +kernel
theorem dX15_scanned_156 : decode cX15_scanned 156 = .ok (.ifCond .ne 40, 3) := by decide +kernel
theorem dX15_scanned_159 : decode cX15_scanned 159 = .ok (.aload_n 0, 1) := by decide +kernel
theorem dX15_scanned_160 : decode cX15_scanned 160 = .ok (.getfield 44, 3) := by decide +kernel
theorem dX15_scanned_163 : decode cX15_scanned 163 = .ok (.bipush 64, 2) := by decide +kernel
theorem dX15_scanned_165 : decode cX15_scanned 165 = .ok (.iload 5, 2) := by decide +kernel
theorem dX15_scanned_167 : decode cX15_scanned 167 = .ok (.imul, 1) := by decide +kernel
theorem dX15_scanned_168 : decode cX15_scanned 168 = .ok (.iload 7, 2) := by decide +kernel
theorem dX15_scanned_170 : decode cX15_scanned 170 = .ok (.iadd, 1) := by decide +kernel
theorem dX15_scanned_171 : decode cX15_scanned 171 = .ok (.aload_n 1, 1) := by decide +kernel
theorem dX15_scanned_172 : decode cX15_scanned 172 = .ok (.getfield 161, 3) := by decide +kernel
theorem dX15_scanned_175 : decode cX15_scanned 175 = .ok (.bipush 64, 2) := by decide +kernel
theorem dX15_scanned_177 : decode cX15_scanned 177 = .ok (.aload_n 1, 1) := by decide +kernel
theorem dX15_scanned_178 : decode cX15_scanned 178 = .ok (.getfield 164, 3) := by decide +kernel
theorem dX15_scanned_181 : decode cX15_scanned 181 = .ok (.iload 5, 2) := by decide +kernel
theorem dX15_scanned_183 : decode cX15_scanned 183 = .ok (.iaload, 1) := by decide +kernel
theorem dX15_scanned_184 : decode cX15_scanned 184 = .ok (.imul, 1) := by decide +kernel
theorem dX15_scanned_185 : decode cX15_scanned 185 = .ok (.iload 7, 2) := by decide +kernel
theorem dX15_scanned_187 : decode cX15_scanned 187 = .ok (.iadd, 1) := by decide +kernel
theorem dX15_scanned_188 : decode cX15_scanned 188 = .ok (.iaload, 1) := by decide +kernel
theorem dX15_scanned_189 : decode cX15_scanned 189 = .ok (.iastore, 1) := by decide +kernel
theorem dX15_scanned_190 : decode cX15_scanned 190 = .ok (.iinc 7 1, 3) := by decide +kernel
theorem dX15_scanned_193 : decode cX15_scanned 193 = .ok (.goto (-51), 3) := by decide +kernel
theorem dX15_scanned_196 : decode cX15_scanned 196 = .ok (.aload_n 0, 1) := by decide +kernel
theorem dX15_scanned_197 : decode cX15_scanned 197 = .ok (.getfield 48, 3) := by decide +kernel
theorem dX15_scanned_200 : decode cX15_scanned 200 = .ok (.iload 5, 2) := by decide +kernel
theorem dX15_scanned_202 : decode cX15_scanned 202 = .ok (.iconst 1, 1) := by decide +kernel
theorem dX15_scanned_203 : decode cX15_scanned 203 = .ok (.bastore, 1) := by decide +kernel
theorem dX15_scanned_204 : decode cX15_scanned 204 = .ok (.iinc 4 1, 3) := by decide +kernel
theorem dX15_scanned_207 : decode cX15_scanned 207 = .ok (.goto (-143), 3) := by decide +kernel
theorem dX15_scanned_210 : decode cX15_scanned 210 = .ok (.aload_n 0, 1) := by decide +kernel
theorem dX15_scanned_211 : decode cX15_scanned 211 = .ok (.getfield 33, 3) := by decide +kernel
theorem dX15_scanned_214 : decode cX15_scanned 214 = .ok (.iload_n 3, 1) := by decide +kernel
theorem dX15_scanned_215 : decode cX15_scanned 215 = .ok (.aload_n 1, 1) := by decide +kernel
theorem dX15_scanned_216 : decode cX15_scanned 216 = .ok (.getfield 147, 3) := by decide +kernel
theorem dX15_scanned_219 : decode cX15_scanned 219 = .ok (.iload_n 2, 1) := by decide +kernel
theorem dX15_scanned_220 : decode cX15_scanned 220 = .ok (.iconst 1, 1) := by decide +kernel
theorem dX15_scanned_221 : decode cX15_scanned 221 = .ok (.iadd, 1) := by decide +kernel
theorem dX15_scanned_222 : decode cX15_scanned 222 = .ok (.iaload, 1) := by decide +kernel
theorem dX15_scanned_223 : decode cX15_scanned 223 = .ok (.aload_n 1, 1) := by decide +kernel
theorem dX15_scanned_224 : decode cX15_scanned 224 = .ok (.getfield 147, 3) := by decide +kernel
theorem dX15_scanned_227 : decode cX15_scanned 227 = .ok (.iload_n 2, 1) := by decide +kernel
theorem dX15_scanned_228 : decode cX15_scanned 228 = .ok (.iconst 2, 1) := by decide +kernel
theorem dX15_scanned_229 : decode cX15_scanned 229 = .ok (.iadd, 1) := by decide +kernel
theorem dX15_scanned_230 : decode cX15_scanned 230 = .ok (.iaload, 1) := by decide +kernel
theorem dX15_scanned_231 : decode cX15_scanned 231 = .ok (.aload_n 1, 1) := by decide +kernel
theorem dX15_scanned_232 : decode cX15_scanned 232 = .ok (.getfield 147, 3) := by decide +kernel
theorem dX15_scanned_235 : decode cX15_scanned 235 = .ok (.iload_n 2, 1) := by decide +kernel
theorem dX15_scanned_236 : decode cX15_scanned 236 = .ok (.iconst 3, 1) := by decide +kernel
theorem dX15_scanned_237 : decode cX15_scanned 237 = .ok (.iadd, 1) := by decide +kernel
theorem dX15_scanned_238 : decode cX15_scanned 238 = .ok (.iaload, 1) := by decide +kernel
theorem dX15_scanned_239 : decode cX15_scanned 239 = .ok (.aload_n 1, 1) := by decide +kernel
theorem dX15_scanned_240 : decode cX15_scanned 240 = .ok (.getfield 147, 3) := by decide +kernel
theorem dX15_scanned_243 : decode cX15_scanned 243 = .ok (.iload_n 2, 1) := by decide +kernel
theorem dX15_scanned_244 : decode cX15_scanned 244 = .ok (.iconst 4, 1) := by decide +kernel
theorem dX15_scanned_245 : decode cX15_scanned 245 = .ok (.iadd, 1) := by decide +kernel
theorem dX15_scanned_246 : decode cX15_scanned 246 = .ok (.iaload, 1) := by decide +kernel
theorem dX15_scanned_247 : decode cX15_scanned 247 = .ok (.invokevirtual 166, 3) := by decide +kernel
theorem dX15_scanned_250 : decode cX15_scanned 250 = .ok (.ifCond .eq 26, 3) := by decide +kernel
theorem dX15_scanned_253 : decode cX15_scanned 253 = .ok (.aload_n 0, 1) := by decide +kernel
theorem dX15_scanned_254 : decode cX15_scanned 254 = .ok (.getfield 33, 3) := by decide +kernel
theorem dX15_scanned_257 : decode cX15_scanned 257 = .ok (.aload_n 1, 1) := by decide +kernel
theorem dX15_scanned_258 : decode cX15_scanned 258 = .ok (.getfield 147, 3) := by decide +kernel
theorem dX15_scanned_261 : decode cX15_scanned 261 = .ok (.iload_n 2, 1) := by decide +kernel
theorem dX15_scanned_262 : decode cX15_scanned 262 = .ok (.bipush 8, 2) := by decide +kernel
theorem dX15_scanned_264 : decode cX15_scanned 264 = .ok (.iadd, 1) := by decide +kernel
theorem dX15_scanned_265 : decode cX15_scanned 265 = .ok (.iaload, 1) := by decide +kernel
theorem dX15_scanned_266 : decode cX15_scanned 266 = .ok (.invokevirtual 170, 3) := by decide +kernel
theorem dX15_scanned_269 : decode cX15_scanned 269 = .ok (.ifCond .eq 7, 3) := by decide +kernel
theorem dX15_scanned_272 : decode cX15_scanned 272 = .ok (.iconst 1, 1) := by decide +kernel
theorem dX15_scanned_273 : decode cX15_scanned 273 = .ok (.goto 4, 3) := by decide +kernel
theorem dX15_scanned_276 : decode cX15_scanned 276 = .ok (.iconst 0, 1) := by decide +kernel
theorem dX15_scanned_277 : decode cX15_scanned 277 = .ok (.istore 4, 2) := by decide +kernel
theorem dX15_scanned_279 : decode cX15_scanned 279 = .ok (.aload_n 0, 1) := by decide +kernel
theorem dX15_scanned_280 : decode cX15_scanned 280 = .ok (.getfield 33, 3) := by decide +kernel
theorem dX15_scanned_283 : decode cX15_scanned 283 = .ok (.aload_n 1, 1) := by decide +kernel
theorem dX15_scanned_284 : decode cX15_scanned 284 = .ok (.getfield 147, 3) := by decide +kernel
theorem dX15_scanned_287 : decode cX15_scanned 287 = .ok (.iload_n 2, 1) := by decide +kernel
theorem dX15_scanned_288 : decode cX15_scanned 288 = .ok (.bipush 6, 2) := by decide +kernel
theorem dX15_scanned_290 : decode cX15_scanned 290 = .ok (.iadd, 1) := by decide +kernel
theorem dX15_scanned_291 : decode cX15_scanned 291 = .ok (.iaload, 1) := by decide +kernel
theorem dX15_scanned_292 : decode cX15_scanned 292 = .ok (.putfield 174, 3) := by decide +kernel
theorem dX15_scanned_295 : decode cX15_scanned 295 = .ok (.iconst 0, 1) := by decide +kernel
theorem dX15_scanned_296 : decode cX15_scanned 296 = .ok (.istore 5, 2) := by decide +kernel
theorem dX15_scanned_298 : decode cX15_scanned 298 = .ok (.iload 5, 2) := by decide +kernel
theorem dX15_scanned_300 : decode cX15_scanned 300 = .ok (.aload_n 0, 1) := by decide +kernel
theorem dX15_scanned_301 : decode cX15_scanned 301 = .ok (.getfield 33, 3) := by decide +kernel
theorem dX15_scanned_304 : decode cX15_scanned 304 = .ok (.getfield 174, 3) := by decide +kernel
theorem dX15_scanned_307 : decode cX15_scanned 307 = .ok (.if_icmp .ge 35, 3) := by decide +kernel
theorem dX15_scanned_310 : decode cX15_scanned 310 = .ok (.aload_n 0, 1) := by decide +kernel
theorem dX15_scanned_311 : decode cX15_scanned 311 = .ok (.getfield 33, 3) := by decide +kernel
theorem dX15_scanned_314 : decode cX15_scanned 314 = .ok (.getfield 177, 3) := by decide +kernel
theorem dX15_scanned_317 : decode cX15_scanned 317 = .ok (.iload 5, 2) := by decide +kernel
theorem dX15_scanned_319 : decode cX15_scanned 319 = .ok (.aload_n 1, 1) := by decide +kernel
theorem dX15_scanned_320 : decode cX15_scanned 320 = .ok (.getfield 180, 3) := by decide +kernel
theorem dX15_scanned_323 : decode cX15_scanned 323 = .ok (.aload_n 1, 1) := by decide +kernel
theorem dX15_scanned_324 : decode cX15_scanned 324 = .ok (.getfield 147, 3) := by decide +kernel
theorem dX15_scanned_327 : decode cX15_scanned 327 = .ok (.iload_n 2, 1) := by decide +kernel
theorem dX15_scanned_328 : decode cX15_scanned 328 = .ok (.iconst 5, 1) := by decide +kernel
theorem dX15_scanned_329 : decode cX15_scanned 329 = .ok (.iadd, 1) := by decide +kernel
theorem dX15_scanned_330 : decode cX15_scanned 330 = .ok (.iaload, 1) := by decide +kernel
theorem dX15_scanned_331 : decode cX15_scanned 331 = .ok (.iload 5, 2) := by decide +kernel
theorem dX15_scanned_333 : decode cX15_scanned 333 = .ok (.iadd, 1) := by decide +kernel
theorem dX15_scanned_334 : decode cX15_scanned 334 = .ok (.baload, 1) := by decide +kernel
theorem dX15_scanned_335 : decode cX15_scanned 335 = .ok (.bastore, 1) := by decide +kernel
theorem dX15_scanned_336 : decode cX15_scanned 336 = .ok (.iinc 5 1, 3) := by decide +kernel
theorem dX15_scanned_339 : decode cX15_scanned 339 = .ok (.goto (-41), 3) := by decide +kernel
theorem dX15_scanned_342 : decode cX15_scanned 342 = .ok (.aload_n 0, 1) := by decide +kernel
theorem dX15_scanned_343 : decode cX15_scanned 343 = .ok (.getfield 33, 3) := by decide +kernel
theorem dX15_scanned_346 : decode cX15_scanned 346 = .ok (.invokevirtual 181, 3) := by decide +kernel
theorem dX15_scanned_349 : decode cX15_scanned 349 = .ok (.istore 5, 2) := by decide +kernel
theorem dX15_scanned_351 : decode cX15_scanned 351 = .ok (.iload 5, 2) := by decide +kernel
theorem dX15_scanned_353 : decode cX15_scanned 353 = .ok (.ifCond .le 11, 3) := by decide +kernel
theorem dX15_scanned_356 : decode cX15_scanned 356 = .ok (.bipush 10, 2) := by decide +kernel
theorem dX15_scanned_358 : decode cX15_scanned 358 = .ok (.iload 5, 2) := by decide +kernel
theorem dX15_scanned_360 : decode cX15_scanned 360 = .ok (.iadd, 1) := by decide +kernel
theorem dX15_scanned_361 : decode cX15_scanned 361 = .ok (.goto 4, 3) := by decide +kernel
theorem dX15_scanned_364 : decode cX15_scanned 364 = .ok (.iconst 0, 1) := by decide +kernel
theorem dX15_scanned_365 : decode cX15_scanned 365 = .ok (.ireturn, 1) := by decide +kernel
theorem flRX15_19 : px_f RX15 19 15 8 := ⟨_, rfl, by decide, Or.inl (tb7 (List.mem_of_getElem? (i := 209) rfl))⟩
theorem flRX15_44 : px_f RX15 44 15 15 := ⟨_, rfl, by decide, Or.inl (tb7 (List.mem_of_getElem? (i := 216) rfl))⟩
theorem flRX15_48 : px_f RX15 48 15 16 := ⟨_, rfl, by decide, Or.inl (tb7 (List.mem_of_getElem? (i := 217) rfl))⟩
theorem flRX15_145 : px_f RX15 145 14 27 := ⟨_, rfl, by decide, Or.inr ⟨"WavePicturesModel", tT6 (List.mem_of_getElem? (i := 144) rfl)⟩⟩
theorem flRX15_147 : px_f RX15 147 14 28 := ⟨_, rfl, by decide, Or.inr ⟨"WavePicturesModel", tT6 (List.mem_of_getElem? (i := 146) rfl)⟩⟩
theorem flRX15_150 : px_f RX15 150 14 23 := ⟨_, rfl, by decide, Or.inr ⟨"WavePicturesModel", tT6 (List.mem_of_getElem? (i := 136) rfl)⟩⟩
theorem flRX15_161 : px_f RX15 161 14 22 := ⟨_, rfl, by decide, Or.inr ⟨"WavePicturesModel", tT6 (List.mem_of_getElem? (i := 134) rfl)⟩⟩
theorem flRX15_164 : px_f RX15 164 14 19 := ⟨_, rfl, by decide, Or.inr ⟨"WavePicturesModel", tT6 (List.mem_of_getElem? (i := 130) rfl)⟩⟩
theorem flRX15_174 : px_f RX15 174 13 29 := ⟨_, rfl, by decide, Or.inr ⟨"WavePicturesModel", tT7 (List.mem_of_getElem? (i := 43) rfl)⟩⟩
theorem flRX15_177 : px_f RX15 177 13 28 := ⟨_, rfl, by decide, Or.inr ⟨"WavePicturesModel", tT7 (List.mem_of_getElem? (i := 42) rfl)⟩⟩
theorem flRX15_180 : px_f RX15 180 14 0 := ⟨_, rfl, by decide, Or.inr ⟨"WavePicturesModel", tT6 (List.mem_of_getElem? (i := 100) rfl)⟩⟩
theorem mbX15_lend : px_mB mX15_lend 2 := ⟨tb8 (List.mem_of_getElem? (i := 227) rfl), by decide +kernel, tb1 (List.mem_of_getElem? (i := 13) rfl), by decide +kernel, by decide +kernel⟩
theorem vbX15_lend : px_vB mX15_lend := ⟨tb8 (List.mem_of_getElem? (i := 226) rfl), List.mem_append_left _ (List.mem_of_getElem? (i := 110) (by decide +kernel))⟩
theorem kcX15_scanned_153 : px_cV mX15_scanned 153 mX15_lend 2 := ⟨⟨mbX15_lend, by decide, by decide⟩, Or.inl (tb8 (List.mem_of_getElem? (i := 224) rfl)), vbX15_lend⟩
theorem mbX13_tables : px_mB mX13_tables 3 := ⟨tb9 (List.mem_of_getElem? (i := 0) rfl), by decide +kernel, tb1 (List.mem_of_getElem? (i := 15) rfl), by decide +kernel, by decide +kernel⟩
theorem vbX13_tables : px_vB mX13_tables := ⟨tb8 (List.mem_of_getElem? (i := 238) rfl), tb8 (List.mem_of_getElem? (i := 239) rfl)⟩
theorem kcX15_scanned_157 : px_cV mX15_scanned 157 mX13_tables 3 := ⟨⟨mbX13_tables, by decide, by decide⟩, Or.inl (tb8 (List.mem_of_getElem? (i := 237) rfl)), vbX13_tables⟩
theorem mbX13_scan : px_mB mX13_scan 5 := ⟨tb9 (List.mem_of_getElem? (i := 4) rfl), by decide +kernel, tb1 (List.mem_of_getElem? (i := 15) rfl), by decide +kernel, by decide +kernel⟩
theorem vbX13_scan : px_vB mX13_scan := ⟨tb9 (List.mem_of_getElem? (i := 2) rfl), tb9 (List.mem_of_getElem? (i := 3) rfl)⟩
theorem kcX15_scanned_166 : px_cV mX15_scanned 166 mX13_scan 5 := ⟨⟨mbX13_scan, by decide, by decide⟩, Or.inl (tb9 (List.mem_of_getElem? (i := 1) rfl)), vbX13_scan⟩
theorem mbX13_restart : px_mB mX13_restart 1 := ⟨tb9 (List.mem_of_getElem? (i := 11) rfl), by decide +kernel, tb1 (List.mem_of_getElem? (i := 15) rfl), by decide +kernel, by decide +kernel⟩
theorem vbX13_restart : px_vB mX13_restart := ⟨tb9 (List.mem_of_getElem? (i := 9) rfl), tb9 (List.mem_of_getElem? (i := 10) rfl)⟩
theorem kcX15_scanned_170 : px_cV mX15_scanned 170 mX13_restart 1 := ⟨⟨mbX13_restart, by decide, by decide⟩, Or.inl (tb9 (List.mem_of_getElem? (i := 8) rfl)), vbX13_restart⟩
theorem mbX13_read : px_mB mX13_read 0 := ⟨tb9 (List.mem_of_getElem? (i := 16) rfl), by decide +kernel, tb1 (List.mem_of_getElem? (i := 15) rfl), by decide +kernel, by decide +kernel⟩
theorem vbX13_read : px_vB mX13_read := ⟨tb9 (List.mem_of_getElem? (i := 14) rfl), tb9 (List.mem_of_getElem? (i := 15) rfl)⟩
theorem kcX15_scanned_181 : px_cV mX15_scanned 181 mX13_read 0 := ⟨⟨mbX13_read, by decide, by decide⟩, Or.inl (tb9 (List.mem_of_getElem? (i := 13) rfl)), vbX13_read⟩
set_option maxRecDepth 100000 in
set_option maxHeartbeats 4000000 in
theorem eX15_scanned_342 {X : px_X}  : ∀ (a0 : Nat) (w : px_W) (q : Int32 × px_W), fX15_scanned_342 X  a0 w = some q → EV X mX15_scanned 342 [(0, .ref a0)] [] w (some (.int q.1)) q.2 := by
  intro a0 w q h
  unfold fX15_scanned_342 at h
  refine EV.aload_n 0 dX15_scanned_342 rfl rfl ?_
  obtain ⟨v62, gv62, h⟩ := px_bs h
  refine ev_gR dX15_scanned_343 flRX15_33 gv62 ?_
  obtain ⟨o63, go63, h⟩ := px_bs h
  obtain ⟨q64, gq64, h⟩ := px_bs h
  refine EV.callV (As := []) (rest := []) dX15_scanned_346 kcX15_scanned_181 (gO_ok go63) rfl rfl rfl (Nat.le_of_ble_eq_true rfl) (Nat.le_of_ble_eq_true rfl) (eX13_read gq64) ?_
  refine EV.istore [(5, .int q64.1), (0, .ref a0)] dX15_scanned_349 (by decide) rfl ?_
  refine EV.iload 0 dX15_scanned_351 rfl ?_
  refine EV.if_le 364 dX15_scanned_353 (by decide) (fun c65 => ?_) (fun c65 => ?_)
  · rw [if_pos c65] at h
    refine EV.iconst (0) dX15_scanned_364 (by decide) ?_
    cases h
    exact EV.reti dX15_scanned_365 rfl
  · rw [if_neg c65] at h
    refine EV.bipush (10) dX15_scanned_356 (by decide) ?_
    refine EV.iload 0 dX15_scanned_358 rfl ?_
    refine EV.iadd dX15_scanned_360 ?_
    refine EV.goto 365 dX15_scanned_361 (by decide) ?_
    cases h
    exact EV.reti dX15_scanned_365 rfl
set_option maxRecDepth 100000 in
set_option maxHeartbeats 4000000 in
theorem eX15_scanned_298 {X : px_X}  : ∀ (m : Nat) (a0 : Nat) (a1 : Nat) (a2 : Int32) (a5 : Int32) (w : px_W) (q : Int32 × px_W), fX15_scanned_298 X  m a0 a1 a2 a5 w = some q → EV X mX15_scanned 298 [(0, .ref a0), (1, .ref a1), (2, .int a2), (5, .int a5)] [] w (some (.int q.1)) q.2 := by
  intro m
  induction m with
  | zero => intro a0 a1 a2 a5 w q h; cases h
  | succ m ih =>
    intro a0 a1 a2 a5 w q h
    rw [fX15_scanned_298.eq_2] at h
    refine EV.iload 3 dX15_scanned_298 rfl ?_
    refine EV.aload_n 0 dX15_scanned_300 rfl rfl ?_
    obtain ⟨v66, gv66, h⟩ := px_bs h
    refine ev_gR dX15_scanned_301 flRX15_33 gv66 ?_
    obtain ⟨v67, gv67, h⟩ := px_bs h
    refine ev_gI dX15_scanned_304 flRX15_174 gv67 ?_
    refine EV.icmp_ge 342 dX15_scanned_307 (by decide) (fun c68 => ?_) (fun c68 => ?_)
    · rw [if_pos c68] at h
      refine EV.sub [0] rfl ?_
      exact eX15_scanned_342  _ _ _ h
    · rw [if_neg c68] at h
      refine EV.aload_n 0 dX15_scanned_310 rfl rfl ?_
      obtain ⟨v69, gv69, h⟩ := px_bs h
      refine ev_gR dX15_scanned_311 flRX15_33 gv69 ?_
      obtain ⟨v70, gv70, h⟩ := px_bs h
      refine ev_gR dX15_scanned_314 flRX15_177 gv70 ?_
      refine EV.iload 3 dX15_scanned_317 rfl ?_
      refine EV.aload_n 1 dX15_scanned_319 rfl rfl ?_
      obtain ⟨v71, gv71, h⟩ := px_bs h
      refine ev_gR dX15_scanned_320 flRX15_180 gv71 ?_
      refine EV.aload_n 1 dX15_scanned_323 rfl rfl ?_
      obtain ⟨v72, gv72, h⟩ := px_bs h
      refine ev_gR dX15_scanned_324 flRX15_147 gv72 ?_
      refine EV.iload_n 2 dX15_scanned_327 rfl rfl ?_
      refine EV.iconst (5) dX15_scanned_328 (by decide) ?_
      refine EV.iadd dX15_scanned_329 ?_
      obtain ⟨v73, gv73, h⟩ := px_bs h
      refine ev_aI dX15_scanned_330 gv73 ?_
      refine EV.iload 3 dX15_scanned_331 rfl ?_
      refine EV.iadd dX15_scanned_333 ?_
      obtain ⟨v74, gv74, h⟩ := px_bs h
      refine ev_aB dX15_scanned_334 gv74 ?_
      obtain ⟨w75, gw75, h⟩ := px_bs h
      refine ev_sB dX15_scanned_335 gw75 ?_
      refine EV.iinc 3 (a5 + 1) [(5, .int (a5 + 1)), (0, .ref a0), (1, .ref a1), (2, .int a2)] dX15_scanned_336 rfl rfl (by decide) rfl ?_
      refine EV.goto 298 dX15_scanned_339 (by decide) ?_
      refine EV.sub [1, 2, 3, 0] rfl ?_
      exact ih _ _ _ _ _ _ h
set_option maxRecDepth 100000 in
set_option maxHeartbeats 4000000 in
theorem eX15_scanned_277 {X : px_X}  : ∀ (a0 : Nat) (a1 : Nat) (a2 : Int32) (s0 : Int32) (w : px_W) (q : Int32 × px_W), fX15_scanned_277 X  a0 a1 a2 s0 w = some q → EV X mX15_scanned 277 [(0, .ref a0), (1, .ref a1), (2, .int a2)] [.int s0] w (some (.int q.1)) q.2 := by
  intro a0 a1 a2 s0 w q h
  unfold fX15_scanned_277 at h
  refine EV.istore [(4, .int s0), (0, .ref a0), (1, .ref a1), (2, .int a2)] dX15_scanned_277 (by decide) rfl ?_
  refine EV.aload_n 1 dX15_scanned_279 rfl rfl ?_
  obtain ⟨v76, gv76, h⟩ := px_bs h
  refine ev_gR dX15_scanned_280 flRX15_33 gv76 ?_
  refine EV.aload_n 2 dX15_scanned_283 rfl rfl ?_
  obtain ⟨v77, gv77, h⟩ := px_bs h
  refine ev_gR dX15_scanned_284 flRX15_147 gv77 ?_
  refine EV.iload_n 3 dX15_scanned_287 rfl rfl ?_
  refine EV.bipush (6) dX15_scanned_288 (by decide) ?_
  refine EV.iadd dX15_scanned_290 ?_
  obtain ⟨v78, gv78, h⟩ := px_bs h
  refine ev_aI dX15_scanned_291 gv78 ?_
  obtain ⟨w79, gw79, h⟩ := px_bs h
  refine ev_pV dX15_scanned_292 flRX15_174 rfl rfl rfl rfl gw79 ?_
  refine EV.iconst (0) dX15_scanned_295 (by decide) ?_
  refine EV.istore [(5, .int 0), (4, .int s0), (0, .ref a0), (1, .ref a1), (2, .int a2)] dX15_scanned_296 (by decide) rfl ?_
  refine EV.sub [2, 3, 4, 0] rfl ?_
  exact eX15_scanned_298  FU _ _ _ _ _ _ h
set_option maxRecDepth 100000 in
set_option maxHeartbeats 4000000 in
theorem eX15_scanned_276 {X : px_X}  : ∀ (a0 : Nat) (a1 : Nat) (a2 : Int32) (w : px_W) (q : Int32 × px_W), fX15_scanned_276 X  a0 a1 a2 w = some q → EV X mX15_scanned 276 [(0, .ref a0), (1, .ref a1), (2, .int a2)] [] w (some (.int q.1)) q.2 := by
  intro a0 a1 a2 w q h
  unfold fX15_scanned_276 at h
  refine EV.iconst (0) dX15_scanned_276 (by decide) ?_
  refine EV.sub [0, 1, 2] rfl ?_
  exact eX15_scanned_277  _ _ _ _ _ _ h
set_option maxRecDepth 100000 in
set_option maxHeartbeats 4000000 in
theorem eX15_scanned_210 {X : px_X}  : ∀ (a0 : Nat) (a1 : Nat) (a2 : Int32) (a3 : Int32) (w : px_W) (q : Int32 × px_W), fX15_scanned_210 X  a0 a1 a2 a3 w = some q → EV X mX15_scanned 210 [(0, .ref a0), (1, .ref a1), (2, .int a2), (3, .int a3)] [] w (some (.int q.1)) q.2 := by
  intro a0 a1 a2 a3 w q h
  unfold fX15_scanned_210 at h
  refine EV.aload_n 0 dX15_scanned_210 rfl rfl ?_
  obtain ⟨v80, gv80, h⟩ := px_bs h
  refine ev_gR dX15_scanned_211 flRX15_33 gv80 ?_
  refine EV.iload_n 3 dX15_scanned_214 rfl rfl ?_
  refine EV.aload_n 1 dX15_scanned_215 rfl rfl ?_
  obtain ⟨v81, gv81, h⟩ := px_bs h
  refine ev_gR dX15_scanned_216 flRX15_147 gv81 ?_
  refine EV.iload_n 2 dX15_scanned_219 rfl rfl ?_
  refine EV.iconst (1) dX15_scanned_220 (by decide) ?_
  refine EV.iadd dX15_scanned_221 ?_
  obtain ⟨v82, gv82, h⟩ := px_bs h
  refine ev_aI dX15_scanned_222 gv82 ?_
  refine EV.aload_n 1 dX15_scanned_223 rfl rfl ?_
  obtain ⟨v83, gv83, h⟩ := px_bs h
  refine ev_gR dX15_scanned_224 flRX15_147 gv83 ?_
  refine EV.iload_n 2 dX15_scanned_227 rfl rfl ?_
  refine EV.iconst (2) dX15_scanned_228 (by decide) ?_
  refine EV.iadd dX15_scanned_229 ?_
  obtain ⟨v84, gv84, h⟩ := px_bs h
  refine ev_aI dX15_scanned_230 gv84 ?_
  refine EV.aload_n 1 dX15_scanned_231 rfl rfl ?_
  obtain ⟨v85, gv85, h⟩ := px_bs h
  refine ev_gR dX15_scanned_232 flRX15_147 gv85 ?_
  refine EV.iload_n 2 dX15_scanned_235 rfl rfl ?_
  refine EV.iconst (3) dX15_scanned_236 (by decide) ?_
  refine EV.iadd dX15_scanned_237 ?_
  obtain ⟨v86, gv86, h⟩ := px_bs h
  refine ev_aI dX15_scanned_238 gv86 ?_
  refine EV.aload_n 1 dX15_scanned_239 rfl rfl ?_
  obtain ⟨v87, gv87, h⟩ := px_bs h
  refine ev_gR dX15_scanned_240 flRX15_147 gv87 ?_
  refine EV.iload_n 2 dX15_scanned_243 rfl rfl ?_
  refine EV.iconst (4) dX15_scanned_244 (by decide) ?_
  refine EV.iadd dX15_scanned_245 ?_
  obtain ⟨v88, gv88, h⟩ := px_bs h
  refine ev_aI dX15_scanned_246 gv88 ?_
  obtain ⟨o89, go89, h⟩ := px_bs h
  obtain ⟨q90, gq90, h⟩ := px_bs h
  refine EV.callV (As := [.int a3, .int v82, .int v84, .int v86, .int v88]) (rest := []) dX15_scanned_247 kcX15_scanned_166 (gO_ok go89) rfl rfl rfl (Nat.le_of_ble_eq_true rfl) (Nat.le_of_ble_eq_true rfl) (eX13_scan gq90) ?_
  refine EV.if_eq 276 dX15_scanned_250 (by decide) (fun c91 => ?_) (fun c91 => ?_)
  · rw [if_pos c91] at h
    refine EV.sub [0, 1, 2] rfl ?_
    exact eX15_scanned_276  _ _ _ _ _ h
  · rw [if_neg c91] at h
    refine EV.aload_n 0 dX15_scanned_253 rfl rfl ?_
    obtain ⟨v92, gv92, h⟩ := px_bs h
    refine ev_gR dX15_scanned_254 flRX15_33 gv92 ?_
    refine EV.aload_n 1 dX15_scanned_257 rfl rfl ?_
    obtain ⟨v93, gv93, h⟩ := px_bs h
    refine ev_gR dX15_scanned_258 flRX15_147 gv93 ?_
    refine EV.iload_n 2 dX15_scanned_261 rfl rfl ?_
    refine EV.bipush (8) dX15_scanned_262 (by decide) ?_
    refine EV.iadd dX15_scanned_264 ?_
    obtain ⟨v94, gv94, h⟩ := px_bs h
    refine ev_aI dX15_scanned_265 gv94 ?_
    obtain ⟨o95, go95, h⟩ := px_bs h
    obtain ⟨q96, gq96, h⟩ := px_bs h
    refine EV.callV (As := [.int v94]) (rest := []) dX15_scanned_266 kcX15_scanned_170 (gO_ok go95) rfl rfl rfl (Nat.le_of_ble_eq_true rfl) (Nat.le_of_ble_eq_true rfl) (eX13_restart gq96) ?_
    refine EV.if_eq 276 dX15_scanned_269 (by decide) (fun c97 => ?_) (fun c97 => ?_)
    · rw [if_pos c97] at h
      refine EV.sub [0, 1, 2] rfl ?_
      exact eX15_scanned_276  _ _ _ _ _ h
    · rw [if_neg c97] at h
      refine EV.iconst (1) dX15_scanned_272 (by decide) ?_
      refine EV.goto 277 dX15_scanned_273 (by decide) ?_
      refine EV.sub [0, 1, 2] rfl ?_
      exact eX15_scanned_277  _ _ _ _ _ _ h
set_option maxRecDepth 100000 in
set_option maxHeartbeats 4000000 in
theorem eX15_scanned_196 {X : px_X} {k64 : Nat → Nat → Int32 → Int32 → Int32 → px_W → Option (Int32 × px_W)} (hk64 : ∀ (a0 : Nat) (a1 : Nat) (a2 : Int32) (a3 : Int32) (a4 : Int32) (w : px_W) (q : Int32 × px_W), k64 a0 a1 a2 a3 a4 w = some q → EV X mX15_scanned 64 [(0, .ref a0), (1, .ref a1), (2, .int a2), (3, .int a3), (4, .int a4)] [] w (some (.int q.1)) q.2) : ∀ (a0 : Nat) (a1 : Nat) (a2 : Int32) (a3 : Int32) (a4 : Int32) (a5 : Int32) (w : px_W) (q : Int32 × px_W), fX15_scanned_196 X k64 a0 a1 a2 a3 a4 a5 w = some q → EV X mX15_scanned 196 [(0, .ref a0), (1, .ref a1), (2, .int a2), (3, .int a3), (4, .int a4), (5, .int a5)] [] w (some (.int q.1)) q.2 := by
  intro a0 a1 a2 a3 a4 a5 w q h
  unfold fX15_scanned_196 at h
  refine EV.aload_n 0 dX15_scanned_196 rfl rfl ?_
  obtain ⟨v98, gv98, h⟩ := px_bs h
  refine ev_gR dX15_scanned_197 flRX15_48 gv98 ?_
  refine EV.iload 5 dX15_scanned_200 rfl ?_
  refine EV.iconst (1) dX15_scanned_202 (by decide) ?_
  obtain ⟨w99, gw99, h⟩ := px_bs h
  refine ev_sZ dX15_scanned_203 gw99 ?_
  refine EV.iinc 4 (a4 + 1) [(4, .int (a4 + 1)), (0, .ref a0), (1, .ref a1), (2, .int a2), (3, .int a3), (5, .int a5)] dX15_scanned_204 rfl rfl (by decide) rfl ?_
  refine EV.goto 64 dX15_scanned_207 (by decide) ?_
  refine EV.sub [1, 2, 3, 4, 0] rfl ?_
  exact hk64 _ _ _ _ _ _ _ h
set_option maxRecDepth 100000 in
set_option maxHeartbeats 4000000 in
theorem eX15_scanned_142 {X : px_X} {k64 : Nat → Nat → Int32 → Int32 → Int32 → px_W → Option (Int32 × px_W)} (hk64 : ∀ (a0 : Nat) (a1 : Nat) (a2 : Int32) (a3 : Int32) (a4 : Int32) (w : px_W) (q : Int32 × px_W), k64 a0 a1 a2 a3 a4 w = some q → EV X mX15_scanned 64 [(0, .ref a0), (1, .ref a1), (2, .int a2), (3, .int a3), (4, .int a4)] [] w (some (.int q.1)) q.2) : ∀ (m : Nat) (a0 : Nat) (a1 : Nat) (a2 : Int32) (a3 : Int32) (a4 : Int32) (a5 : Int32) (a7 : Int32) (w : px_W) (q : Int32 × px_W), fX15_scanned_142 X k64 m a0 a1 a2 a3 a4 a5 a7 w = some q → EV X mX15_scanned 142 [(0, .ref a0), (1, .ref a1), (2, .int a2), (3, .int a3), (4, .int a4), (5, .int a5), (7, .int a7)] [] w (some (.int q.1)) q.2 := by
  intro m
  induction m with
  | zero => intro a0 a1 a2 a3 a4 a5 a7 w q h; cases h
  | succ m ih =>
    intro a0 a1 a2 a3 a4 a5 a7 w q h
    rw [fX15_scanned_142.eq_2] at h
    refine EV.iload 6 dX15_scanned_142 rfl ?_
    refine EV.bipush (64) dX15_scanned_144 (by decide) ?_
    refine EV.icmp_ge 196 dX15_scanned_146 (by decide) (fun c100 => ?_) (fun c100 => ?_)
    · rw [if_pos c100] at h
      refine EV.sub [0, 1, 2, 3, 4, 5] rfl ?_
      exact eX15_scanned_196 hk64 _ _ _ _ _ _ _ _ h
    · rw [if_neg c100] at h
      refine EV.aload_n 0 dX15_scanned_149 rfl rfl ?_
      obtain ⟨v101, gv101, h⟩ := px_bs h
      refine ev_gR dX15_scanned_150 flRX15_48 gv101 ?_
      refine EV.iload 5 dX15_scanned_153 rfl ?_
      obtain ⟨v102, gv102, h⟩ := px_bs h
      refine ev_aZ dX15_scanned_155 gv102 ?_
      refine EV.if_ne 196 dX15_scanned_156 (by decide) (fun c103 => ?_) (fun c103 => ?_)
      · rw [if_neg c103] at h
        refine EV.sub [0, 1, 2, 3, 4, 5] rfl ?_
        exact eX15_scanned_196 hk64 _ _ _ _ _ _ _ _ h
      · rw [if_pos c103] at h
        refine EV.aload_n 0 dX15_scanned_159 rfl rfl ?_
        obtain ⟨v104, gv104, h⟩ := px_bs h
        refine ev_gR dX15_scanned_160 flRX15_44 gv104 ?_
        refine EV.bipush (64) dX15_scanned_163 (by decide) ?_
        refine EV.iload 5 dX15_scanned_165 rfl ?_
        refine EV.imul dX15_scanned_167 ?_
        refine EV.iload 6 dX15_scanned_168 rfl ?_
        refine EV.iadd dX15_scanned_170 ?_
        refine EV.aload_n 1 dX15_scanned_171 rfl rfl ?_
        obtain ⟨v105, gv105, h⟩ := px_bs h
        refine ev_gR dX15_scanned_172 flRX15_161 gv105 ?_
        refine EV.bipush (64) dX15_scanned_175 (by decide) ?_
        refine EV.aload_n 1 dX15_scanned_177 rfl rfl ?_
        obtain ⟨v106, gv106, h⟩ := px_bs h
        refine ev_gR dX15_scanned_178 flRX15_164 gv106 ?_
        refine EV.iload 5 dX15_scanned_181 rfl ?_
        obtain ⟨v107, gv107, h⟩ := px_bs h
        refine ev_aI dX15_scanned_183 gv107 ?_
        refine EV.imul dX15_scanned_184 ?_
        refine EV.iload 6 dX15_scanned_185 rfl ?_
        refine EV.iadd dX15_scanned_187 ?_
        obtain ⟨v108, gv108, h⟩ := px_bs h
        refine ev_aI dX15_scanned_188 gv108 ?_
        obtain ⟨w109, gw109, h⟩ := px_bs h
        refine ev_sI dX15_scanned_189 gw109 ?_
        refine EV.iinc 6 (a7 + 1) [(7, .int (a7 + 1)), (0, .ref a0), (1, .ref a1), (2, .int a2), (3, .int a3), (4, .int a4), (5, .int a5)] dX15_scanned_190 rfl rfl (by decide) rfl ?_
        refine EV.goto 142 dX15_scanned_193 (by decide) ?_
        refine EV.sub [1, 2, 3, 4, 5, 6, 0] rfl ?_
        exact ih _ _ _ _ _ _ _ _ _ h
set_option maxRecDepth 100000 in
set_option maxHeartbeats 4000000 in
theorem eX15_scanned_64 {X : px_X}  : ∀ (m : Nat) (a0 : Nat) (a1 : Nat) (a2 : Int32) (a3 : Int32) (a4 : Int32) (w : px_W) (q : Int32 × px_W), fX15_scanned_64 X  m a0 a1 a2 a3 a4 w = some q → EV X mX15_scanned 64 [(0, .ref a0), (1, .ref a1), (2, .int a2), (3, .int a3), (4, .int a4)] [] w (some (.int q.1)) q.2 := by
  intro m
  induction m with
  | zero => intro a0 a1 a2 a3 a4 w q h; cases h
  | succ m ih =>
    intro a0 a1 a2 a3 a4 w q h
    rw [fX15_scanned_64.eq_2] at h
    refine EV.iload 4 dX15_scanned_64 rfl ?_
    refine EV.aload_n 1 dX15_scanned_66 rfl rfl ?_
    obtain ⟨v110, gv110, h⟩ := px_bs h
    refine ev_gR dX15_scanned_67 flRX15_147 gv110 ?_
    refine EV.iload_n 2 dX15_scanned_70 rfl rfl ?_
    obtain ⟨v111, gv111, h⟩ := px_bs h
    refine ev_aI dX15_scanned_71 gv111 ?_
    refine EV.icmp_ge 210 dX15_scanned_72 (by decide) (fun c112 => ?_) (fun c112 => ?_)
    · rw [if_pos c112] at h
      refine EV.sub [0, 1, 2, 3] rfl ?_
      exact eX15_scanned_210  _ _ _ _ _ _ h
    · rw [if_neg c112] at h
      refine EV.aload_n 1 dX15_scanned_75 rfl rfl ?_
      obtain ⟨v113, gv113, h⟩ := px_bs h
      refine ev_gR dX15_scanned_76 flRX15_147 gv113 ?_
      refine EV.iload_n 2 dX15_scanned_79 rfl rfl ?_
      refine EV.bipush (10) dX15_scanned_80 (by decide) ?_
      refine EV.iadd dX15_scanned_82 ?_
      refine EV.iconst (4) dX15_scanned_83 (by decide) ?_
      refine EV.iload 4 dX15_scanned_84 rfl ?_
      refine EV.imul dX15_scanned_86 ?_
      refine EV.iadd dX15_scanned_87 ?_
      obtain ⟨v114, gv114, h⟩ := px_bs h
      refine ev_aI dX15_scanned_88 gv114 ?_
      refine EV.istore [(5, .int v114), (0, .ref a0), (1, .ref a1), (2, .int a2), (3, .int a3), (4, .int a4)] dX15_scanned_89 (by decide) rfl ?_
      refine EV.iload_n 4 dX15_scanned_91 rfl rfl ?_
      refine EV.iconst (1) dX15_scanned_92 (by decide) ?_
      refine EV.iload 0 dX15_scanned_93 rfl ?_
      refine EV.ishl dX15_scanned_95 ?_
      refine EV.ior dX15_scanned_96 ?_
      refine EV.istore_n [(3, .int (a3 ||| ((1 : Int32) <<< (v114 &&& 31)))), (5, .int v114), (0, .ref a0), (1, .ref a1), (2, .int a2), (4, .int a4)] dX15_scanned_97 rfl (by decide) rfl ?_
      refine EV.aload_n 2 dX15_scanned_98 rfl rfl ?_
      obtain ⟨v115, gv115, h⟩ := px_bs h
      refine ev_gR dX15_scanned_99 flRX15_33 gv115 ?_
      refine EV.iload 1 dX15_scanned_102 rfl ?_
      refine EV.aload_n 3 dX15_scanned_104 rfl rfl ?_
      obtain ⟨v116, gv116, h⟩ := px_bs h
      refine ev_gR dX15_scanned_105 flRX15_147 gv116 ?_
      refine EV.iload_n 4 dX15_scanned_108 rfl rfl ?_
      refine EV.bipush (11) dX15_scanned_109 (by decide) ?_
      refine EV.iadd dX15_scanned_111 ?_
      refine EV.iconst (4) dX15_scanned_112 (by decide) ?_
      refine EV.iload 5 dX15_scanned_113 rfl ?_
      refine EV.imul dX15_scanned_115 ?_
      refine EV.iadd dX15_scanned_116 ?_
      obtain ⟨v117, gv117, h⟩ := px_bs h
      refine ev_aI dX15_scanned_117 gv117 ?_
      refine EV.iconst (4) dX15_scanned_118 (by decide) ?_
      refine EV.aload_n 3 dX15_scanned_119 rfl rfl ?_
      obtain ⟨v118, gv118, h⟩ := px_bs h
      refine ev_gR dX15_scanned_120 flRX15_147 gv118 ?_
      refine EV.iload_n 4 dX15_scanned_123 rfl rfl ?_
      refine EV.bipush (12) dX15_scanned_124 (by decide) ?_
      refine EV.iadd dX15_scanned_126 ?_
      refine EV.iconst (4) dX15_scanned_127 (by decide) ?_
      refine EV.iload 5 dX15_scanned_128 rfl ?_
      refine EV.imul dX15_scanned_130 ?_
      refine EV.iadd dX15_scanned_131 ?_
      obtain ⟨v119, gv119, h⟩ := px_bs h
      refine ev_aI dX15_scanned_132 gv119 ?_
      refine EV.iadd dX15_scanned_133 ?_
      obtain ⟨o120, go120, h⟩ := px_bs h
      obtain ⟨q121, gq121, h⟩ := px_bs h
      refine EV.callV (As := [.int v114, .int v117, .int (4 + v119)]) (rest := []) dX15_scanned_134 kcX15_scanned_157 (gO_ok go120) rfl rfl rfl (Nat.le_of_ble_eq_true rfl) (Nat.le_of_ble_eq_true rfl) (eX13_tables gq121) ?_
      refine EV.istore [(6, .int q121.1), (3, .int (a3 ||| ((1 : Int32) <<< (v114 &&& 31)))), (5, .int v114), (0, .ref a0), (1, .ref a1), (2, .int a2), (4, .int a4)] dX15_scanned_137 (by decide) rfl ?_
      refine EV.iconst (0) dX15_scanned_139 (by decide) ?_
      refine EV.istore [(7, .int 0), (6, .int q121.1), (3, .int (a3 ||| ((1 : Int32) <<< (v114 &&& 31)))), (5, .int v114), (0, .ref a0), (1, .ref a1), (2, .int a2), (4, .int a4)] dX15_scanned_140 (by decide) rfl ?_
      refine EV.sub [4, 5, 6, 2, 7, 3, 0] rfl ?_
      exact eX15_scanned_142 ih FU _ _ _ _ _ _ _ _ _ h
set_option maxRecDepth 100000 in
set_option maxHeartbeats 4000000 in
theorem eX15_scanned_61 {X : px_X}  : ∀ (a0 : Nat) (a1 : Nat) (a2 : Int32) (a3 : Int32) (w : px_W) (q : Int32 × px_W), fX15_scanned_61 X  a0 a1 a2 a3 w = some q → EV X mX15_scanned 61 [(0, .ref a0), (1, .ref a1), (2, .int a2), (3, .int a3)] [] w (some (.int q.1)) q.2 := by
  intro a0 a1 a2 a3 w q h
  unfold fX15_scanned_61 at h
  refine EV.iconst (0) dX15_scanned_61 (by decide) ?_
  refine EV.istore [(4, .int 0), (0, .ref a0), (1, .ref a1), (2, .int a2), (3, .int a3)] dX15_scanned_62 (by decide) rfl ?_
  refine EV.sub [1, 2, 3, 4, 0] rfl ?_
  exact eX15_scanned_64  FU _ _ _ _ _ _ _ h
set_option maxRecDepth 100000 in
set_option maxHeartbeats 4000000 in
theorem eX15_scanned_55 {X : px_X} {k31 : Nat → Nat → Int32 → Int32 → Int32 → px_W → Option (Int32 × px_W)} (hk31 : ∀ (a0 : Nat) (a1 : Nat) (a2 : Int32) (a3 : Int32) (a4 : Int32) (w : px_W) (q : Int32 × px_W), k31 a0 a1 a2 a3 a4 w = some q → EV X mX15_scanned 31 [(0, .ref a0), (1, .ref a1), (2, .int a2), (3, .int a3), (4, .int a4)] [] w (some (.int q.1)) q.2) : ∀ (a0 : Nat) (a1 : Nat) (a2 : Int32) (a3 : Int32) (a4 : Int32) (w : px_W) (q : Int32 × px_W), fX15_scanned_55 X k31 a0 a1 a2 a3 a4 w = some q → EV X mX15_scanned 55 [(0, .ref a0), (1, .ref a1), (2, .int a2), (3, .int a3), (4, .int a4)] [] w (some (.int q.1)) q.2 := by
  intro a0 a1 a2 a3 a4 w q h
  unfold fX15_scanned_55 at h
  refine EV.iinc 4 (a4 + 1) [(4, .int (a4 + 1)), (0, .ref a0), (1, .ref a1), (2, .int a2), (3, .int a3)] dX15_scanned_55 rfl rfl (by decide) rfl ?_
  refine EV.goto 31 dX15_scanned_58 (by decide) ?_
  refine EV.sub [1, 2, 3, 4, 0] rfl ?_
  exact hk31 _ _ _ _ _ _ _ h
set_option maxRecDepth 100000 in
set_option maxHeartbeats 4000000 in
theorem eX15_scanned_31 {X : px_X}  : ∀ (m : Nat) (a0 : Nat) (a1 : Nat) (a2 : Int32) (a3 : Int32) (a4 : Int32) (w : px_W) (q : Int32 × px_W), fX15_scanned_31 X  m a0 a1 a2 a3 a4 w = some q → EV X mX15_scanned 31 [(0, .ref a0), (1, .ref a1), (2, .int a2), (3, .int a3), (4, .int a4)] [] w (some (.int q.1)) q.2 := by
  intro m
  induction m with
  | zero => intro a0 a1 a2 a3 a4 w q h; cases h
  | succ m ih =>
    intro a0 a1 a2 a3 a4 w q h
    rw [fX15_scanned_31.eq_2] at h
    refine EV.iload 4 dX15_scanned_31 rfl ?_
    refine EV.bipush (8) dX15_scanned_33 (by decide) ?_
    refine EV.icmp_ge 61 dX15_scanned_35 (by decide) (fun c122 => ?_) (fun c122 => ?_)
    · rw [if_pos c122] at h
      refine EV.sub [0, 1, 2, 3] rfl ?_
      exact eX15_scanned_61  _ _ _ _ _ _ h
    · rw [if_neg c122] at h
      refine EV.aload_n 1 dX15_scanned_38 rfl rfl ?_
      obtain ⟨v123, gv123, h⟩ := px_bs h
      refine ev_gR dX15_scanned_39 flRX15_150 gv123 ?_
      refine EV.iload 4 dX15_scanned_42 rfl ?_
      obtain ⟨v124, gv124, h⟩ := px_bs h
      refine ev_aZ dX15_scanned_44 gv124 ?_
      refine EV.if_eq 55 dX15_scanned_45 (by decide) (fun c125 => ?_) (fun c125 => ?_)
      · rw [if_pos c125] at h
        refine EV.sub [0, 1, 2, 3, 4] rfl ?_
        exact eX15_scanned_55 ih _ _ _ _ _ _ _ h
      · rw [if_neg c125] at h
        refine EV.aload_n 0 dX15_scanned_48 rfl rfl ?_
        refine EV.aload_n 1 dX15_scanned_49 rfl rfl ?_
        refine EV.iload 4 dX15_scanned_50 rfl ?_
        obtain ⟨o126, go126, h⟩ := px_bs h
        obtain ⟨q127, gq127, h⟩ := px_bs h
        refine EV.callV (As := [.ref a1, .int a4]) (rest := []) dX15_scanned_52 kcX15_scanned_153 (gO_ok go126) rfl rfl rfl (Nat.le_of_ble_eq_true rfl) (Nat.le_of_ble_eq_true rfl) (eX15_lend gq127) ?_
        refine EV.sub [0, 1, 2, 3, 4] rfl ?_
        exact eX15_scanned_55 ih _ _ _ _ _ _ _ h
set_option maxRecDepth 100000 in
set_option maxHeartbeats 4000000 in
theorem eX15_scanned {X : px_X} {w : px_W} {a0 : Nat} {a1 : Nat} {a2 : Int32} {q : Int32 × px_W} (h : fX15_scanned X w a0 a1 a2 = some q) : EV X mX15_scanned 0 (lv_args 0 [.ref a0, .ref a1, .int a2]) [] w (some (.int q.1)) q.2 := by
  unfold fX15_scanned at h
  show EV X mX15_scanned 0 [(0, .ref a0), (1, .ref a1), (2, .int a2)] [] w (some (.int q.1)) q.2
  refine EV.aload_n 0 dX15_scanned_0 rfl rfl ?_
  refine EV.aload_n 1 dX15_scanned_1 rfl rfl ?_
  obtain ⟨v128, gv128, h⟩ := px_bs h
  refine ev_gI dX15_scanned_2 flRX15_145 gv128 ?_
  refine EV.iconst (1) dX15_scanned_5 (by decide) ?_
  refine EV.isub dX15_scanned_6 ?_
  obtain ⟨w129, gw129, h⟩ := px_bs h
  refine ev_pV dX15_scanned_7 flRX15_19 rfl rfl rfl rfl gw129 ?_
  refine EV.aload_n 1 dX15_scanned_10 rfl rfl ?_
  obtain ⟨v130, gv130, h⟩ := px_bs h
  refine ev_gR dX15_scanned_11 flRX15_147 gv130 ?_
  refine EV.iload_n 2 dX15_scanned_14 rfl rfl ?_
  refine EV.iconst (4) dX15_scanned_15 (by decide) ?_
  refine EV.iadd dX15_scanned_16 ?_
  obtain ⟨v131, gv131, h⟩ := px_bs h
  refine ev_aI dX15_scanned_17 gv131 ?_
  refine EV.bipush (9) dX15_scanned_18 (by decide) ?_
  refine EV.icmp_le 26 dX15_scanned_20 (by decide) (fun c132 => ?_) (fun c132 => ?_)
  · rw [if_pos c132] at h
    refine EV.iconst (0) dX15_scanned_26 (by decide) ?_
    refine EV.istore_n [(3, .int 0), (0, .ref a0), (1, .ref a1), (2, .int a2)] dX15_scanned_27 rfl (by decide) rfl ?_
    refine EV.iconst (0) dX15_scanned_28 (by decide) ?_
    refine EV.istore [(4, .int 0), (3, .int 0), (0, .ref a0), (1, .ref a1), (2, .int a2)] dX15_scanned_29 (by decide) rfl ?_
    refine EV.sub [2, 3, 4, 1, 0] rfl ?_
    exact eX15_scanned_31  FU _ _ _ _ _ _ _ h
  · rw [if_neg c132] at h
    refine EV.bipush (10) dX15_scanned_23 (by decide) ?_
    cases h
    exact EV.reti dX15_scanned_25 rfl
/-! WavePicturesModel$Segments.keepScan()V -/
theorem dX14_keepScan_0 : decode cX14_keepScan 0 = .ok (.bipush 30, 2) := by decide +kernel
theorem dX14_keepScan_2 : decode cX14_keepScan 2 = .ok (.aload_n 0, 1) := by decide +kernel
theorem dX14_keepScan_3 : decode cX14_keepScan 3 = .ok (.getfield 97, 3) := by decide +kernel
theorem dX14_keepScan_6 : decode cX14_keepScan 6 = .ok (.imul, 1) := by decide +kernel
theorem dX14_keepScan_7 : decode cX14_keepScan 7 = .ok (.istore_n 1, 1) := by decide +kernel
theorem dX14_keepScan_8 : decode cX14_keepScan 8 = .ok (.aload_n 0, 1) := by decide +kernel
theorem dX14_keepScan_9 : decode cX14_keepScan 9 = .ok (.getfield 55, 3) := by decide +kernel
theorem dX14_keepScan_12 : decode cX14_keepScan 12 = .ok (.iload_n 1, 1) := by decide +kernel
theorem dX14_keepScan_13 : decode cX14_keepScan 13 = .ok (.aload_n 0, 1) := by decide +kernel
theorem dX14_keepScan_14 : decode cX14_keepScan 14 = .ok (.getfield 146, 3) := by decide +kernel
theorem dX14_keepScan_17 : decode cX14_keepScan 17 = .ok (.iastore, 1) := by decide +kernel
theorem dX14_keepScan_18 : decode cX14_keepScan 18 = .ok (.aload_n 0, 1) := by decide +kernel
theorem dX14_keepScan_19 : decode cX14_keepScan 19 = .ok (.getfield 55, 3) := by decide +kernel
theorem dX14_keepScan_22 : decode cX14_keepScan 22 = .ok (.iload_n 1, 1) := by decide +kernel
theorem dX14_keepScan_23 : decode cX14_keepScan 23 = .ok (.iconst 1, 1) := by decide +kernel
theorem dX14_keepScan_24 : decode cX14_keepScan 24 = .ok (.iadd, 1) := by decide +kernel
theorem dX14_keepScan_25 : decode cX14_keepScan 25 = .ok (.aload_n 0, 1) := by decide +kernel
theorem dX14_keepScan_26 : decode cX14_keepScan 26 = .ok (.getfield 152, 3) := by decide +kernel
theorem dX14_keepScan_29 : decode cX14_keepScan 29 = .ok (.iastore, 1) := by decide +kernel
theorem dX14_keepScan_30 : decode cX14_keepScan 30 = .ok (.aload_n 0, 1) := by decide +kernel
theorem dX14_keepScan_31 : decode cX14_keepScan 31 = .ok (.getfield 55, 3) := by decide +kernel
theorem dX14_keepScan_34 : decode cX14_keepScan 34 = .ok (.iload_n 1, 1) := by decide +kernel
theorem dX14_keepScan_35 : decode cX14_keepScan 35 = .ok (.iconst 2, 1) := by decide +kernel
theorem dX14_keepScan_36 : decode cX14_keepScan 36 = .ok (.iadd, 1) := by decide +kernel
theorem dX14_keepScan_37 : decode cX14_keepScan 37 = .ok (.aload_n 0, 1) := by decide +kernel
theorem dX14_keepScan_38 : decode cX14_keepScan 38 = .ok (.getfield 155, 3) := by decide +kernel
theorem dX14_keepScan_41 : decode cX14_keepScan 41 = .ok (.iastore, 1) := by decide +kernel
theorem dX14_keepScan_42 : decode cX14_keepScan 42 = .ok (.aload_n 0, 1) := by decide +kernel
theorem dX14_keepScan_43 : decode cX14_keepScan 43 = .ok (.getfield 55, 3) := by decide +kernel
theorem dX14_keepScan_46 : decode cX14_keepScan 46 = .ok (.iload_n 1, 1) := by decide +kernel
theorem dX14_keepScan_47 : decode cX14_keepScan 47 = .ok (.iconst 3, 1) := by decide +kernel
theorem dX14_keepScan_48 : decode cX14_keepScan 48 = .ok (.iadd, 1) := by decide +kernel
theorem dX14_keepScan_49 : decode cX14_keepScan 49 = .ok (.aload_n 0, 1) := by decide +kernel
theorem dX14_keepScan_50 : decode cX14_keepScan 50 = .ok (.getfield 158, 3) := by decide +kernel
theorem dX14_keepScan_53 : decode cX14_keepScan 53 = .ok (.iastore, 1) := by decide +kernel
theorem dX14_keepScan_54 : decode cX14_keepScan 54 = .ok (.aload_n 0, 1) := by decide +kernel
theorem dX14_keepScan_55 : decode cX14_keepScan 55 = .ok (.getfield 55, 3) := by decide +kernel
theorem dX14_keepScan_58 : decode cX14_keepScan 58 = .ok (.iload_n 1, 1) := by decide +kernel
theorem dX14_keepScan_59 : decode cX14_keepScan 59 = .ok (.iconst 4, 1) := by decide +kernel
theorem dX14_keepScan_60 : decode cX14_keepScan 60 = .ok (.iadd, 1) := by decide +kernel
theorem dX14_keepScan_61 : decode cX14_keepScan 61 = .ok (.aload_n 0, 1) := by decide +kernel
theorem dX14_keepScan_62 : decode cX14_keepScan 62 = .ok (.getfield 161, 3) := by decide +kernel
theorem dX14_keepScan_65 : decode cX14_keepScan 65 = .ok (.iastore, 1) := by decide +kernel
theorem dX14_keepScan_66 : decode cX14_keepScan 66 = .ok (.aload_n 0, 1) := by decide +kernel
theorem dX14_keepScan_67 : decode cX14_keepScan 67 = .ok (.getfield 55, 3) := by decide +kernel
theorem dX14_keepScan_70 : decode cX14_keepScan 70 = .ok (.iload_n 1, 1) := by decide +kernel
theorem dX14_keepScan_71 : decode cX14_keepScan 71 = .ok (.iconst 5, 1) := by decide +kernel
theorem dX14_keepScan_72 : decode cX14_keepScan 72 = .ok (.iadd, 1) := by decide +kernel
theorem dX14_keepScan_73 : decode cX14_keepScan 73 = .ok (.aload_n 0, 1) := by decide +kernel
theorem dX14_keepScan_74 : decode cX14_keepScan 74 = .ok (.getfield 106, 3) := by decide +kernel
theorem dX14_keepScan_77 : decode cX14_keepScan 77 = .ok (.iastore, 1) := by decide +kernel
theorem dX14_keepScan_78 : decode cX14_keepScan 78 = .ok (.aload_n 0, 1) := by decide +kernel
theorem dX14_keepScan_79 : decode cX14_keepScan 79 = .ok (.getfield 55, 3) := by decide +kernel
theorem dX14_keepScan_82 : decode cX14_keepScan 82 = .ok (.iload_n 1, 1) := by decide +kernel
theorem dX14_keepScan_83 : decode cX14_keepScan 83 = .ok (.bipush 8, 2) := by decide +kernel
theorem dX14_keepScan_85 : decode cX14_keepScan 85 = .ok (.iadd, 1) := by decide +kernel
theorem dX14_keepScan_86 : decode cX14_keepScan 86 = .ok (.aload_n 0, 1) := by decide +kernel
theorem dX14_keepScan_87 : decode cX14_keepScan 87 = .ok (.getfield 94, 3) := by decide +kernel
theorem dX14_keepScan_90 : decode cX14_keepScan 90 = .ok (.iastore, 1) := by decide +kernel
theorem dX14_keepScan_91 : decode cX14_keepScan 91 = .ok (.iconst 0, 1) := by decide +kernel
theorem dX14_keepScan_92 : decode cX14_keepScan 92 = .ok (.istore_n 2, 1) := by decide +kernel
theorem dX14_keepScan_93 : decode cX14_keepScan 93 = .ok (.iload_n 2, 1) := by decide +kernel
theorem dX14_keepScan_94 : decode cX14_keepScan 94 = .ok (.aload_n 0, 1) := by decide +kernel
theorem dX14_keepScan_95 : decode cX14_keepScan 95 = .ok (.getfield 146, 3) := by decide +kernel
theorem dX14_keepScan_98 : decode cX14_keepScan 98 = .ok (.if_icmp .ge 105, 3) := by decide +kernel
theorem dX14_keepScan_101 : decode cX14_keepScan 101 = .ok (.aload_n 0, 1) := by decide +kernel
theorem dX14_keepScan_102 : decode cX14_keepScan 102 = .ok (.getfield 55, 3) := by decide +kernel
theorem dX14_keepScan_105 : decode cX14_keepScan 105 = .ok (.iload_n 1, 1) := by decide +kernel
theorem dX14_keepScan_106 : decode cX14_keepScan 106 = .ok (.bipush 10, 2) := by decide +kernel
theorem dX14_keepScan_108 : decode cX14_keepScan 108 = .ok (.iadd, 1) := by decide +kernel
theorem dX14_keepScan_109 : decode cX14_keepScan 109 = .ok (.iconst 4, 1) := by decide +kernel
theorem dX14_keepScan_110 : decode cX14_keepScan 110 = .ok (.iload_n 2, 1) := by decide +kernel
theorem dX14_keepScan_111 : decode cX14_keepScan 111 = .ok (.imul, 1) := by decide +kernel
theorem dX14_keepScan_112 : decode cX14_keepScan 112 = .ok (.iadd, 1) := by decide +kernel
theorem dX14_keepScan_113 : decode cX14_keepScan 113 = .ok (.aload_n 0, 1) := by decide +kernel
theorem dX14_keepScan_114 : decode cX14_keepScan 114 = .ok (.getfield 61, 3) := by decide +kernel
theorem dX14_keepScan_117 : decode cX14_keepScan 117 = .ok (.iload_n 2, 1) := by decide +kernel
theorem dX14_keepScan_118 : decode cX14_keepScan 118 = .ok (.iaload, 1) := by decide +kernel
theorem dX14_keepScan_119 : decode cX14_keepScan 119 = .ok (.iastore, 1) := by decide +kernel
theorem dX14_keepScan_120 : decode cX14_keepScan 120 = .ok (.aload_n 0, 1) := by decide +kernel
theorem dX14_keepScan_121 : decode cX14_keepScan 121 = .ok (.getfield 55, 3) := by decide +kernel
theorem dX14_keepScan_124 : decode cX14_keepScan 124 = .ok (.iload_n 1, 1) := by decide +kernel
theorem dX14_keepScan_125 : decode cX14_keepScan 125 = .ok (.bipush 11, 2) := by decide +kernel
theorem dX14_keepScan_127 : decode cX14_keepScan 127 = .ok (.iadd, 1) := by decide +kernel
theorem dX14_keepScan_128 : decode cX14_keepScan 128 = .ok (.iconst 4, 1) := by decide +kernel
theorem dX14_keepScan_129 : decode cX14_keepScan 129 = .ok (.iload_n 2, 1) := by decide +kernel
theorem dX14_keepScan_130 : decode cX14_keepScan 130 = .ok (.imul, 1) := by decide +kernel
theorem dX14_keepScan_131 : decode cX14_keepScan 131 = .ok (.iadd, 1) := by decide +kernel
theorem dX14_keepScan_132 : decode cX14_keepScan 132 = .ok (.aload_n 0, 1) := by decide +kernel
theorem dX14_keepScan_133 : decode cX14_keepScan 133 = .ok (.getfield 64, 3) := by decide +kernel
theorem dX14_keepScan_136 : decode cX14_keepScan 136 = .ok (.iload_n 2, 1) := by decide +kernel
theorem dX14_keepScan_137 : decode cX14_keepScan 137 = .ok (.iaload, 1) := by decide +kernel
theorem dX14_keepScan_138 : decode cX14_keepScan 138 = .ok (.iastore, 1) := by decide +kernel
theorem dX14_keepScan_139 : decode cX14_keepScan 139 = .ok (.aload_n 0, 1) := by decide +kernel
theorem dX14_keepScan_140 : decode cX14_keepScan 140 = .ok (.getfield 55, 3) := by decide +kernel
theorem dX14_keepScan_143 : decode cX14_keepScan 143 = .ok (.iload_n 1, 1) := by decide +kernel
theorem dX14_keepScan_144 : decode cX14_keepScan 144 = .ok (.bipush 12, 2) := by decide +kernel
theorem dX14_keepScan_146 : decode cX14_keepScan 146 = .ok (.iadd, 1) := by decide +kernel
theorem dX14_keepScan_147 : decode cX14_keepScan 147 = .ok (.iconst 4, 1) := by decide +kernel
theorem dX14_keepScan_148 : decode cX14_keepScan 148 = .ok (.iload_n 2, 1) := by decide +kernel
theorem dX14_keepScan_149 : decode cX14_keepScan 149 = .ok (.imul, 1) := by decide +kernel
theorem dX14_keepScan_150 : decode cX14_keepScan 150 = .ok (.iadd, 1) := by decide +kernel
theorem dX14_keepScan_151 : decode cX14_keepScan 151 = .ok (.aload_n 0, 1) := by decide +kernel
theorem dX14_keepScan_152 : decode cX14_keepScan 152 = .ok (.getfield 67, 3) := by decide +kernel
theorem dX14_keepScan_155 : decode cX14_keepScan 155 = .ok (.iload_n 2, 1) := by decide +kernel
theorem dX14_keepScan_156 : decode cX14_keepScan 156 = .ok (.iaload, 1) := by decide +kernel
theorem dX14_keepScan_157 : decode cX14_keepScan 157 = .ok (.iastore, 1) := by decide +kernel
theorem dX14_keepScan_158 : decode cX14_keepScan 158 = .ok (.aload_n 0, 1) := by decide +kernel
theorem dX14_keepScan_159 : decode cX14_keepScan 159 = .ok (.getfield 152, 3) := by decide +kernel
theorem dX14_keepScan_162 : decode cX14_keepScan 162 = .ok (.istore_n 3, 1) := by decide +kernel
theorem dX14_keepScan_163 : decode cX14_keepScan 163 = .ok (.iload_n 3, 1) := by decide +kernel
theorem dX14_keepScan_164 : decode cX14_keepScan 164 = .ok (.aload_n 0, 1) := by decide +kernel
theorem dX14_keepScan_165 : decode cX14_keepScan 165 = .ok (.getfield 155, 3) := by decide +kernel
theorem dX14_keepScan_168 : decode cX14_keepScan 168 = .ok (.if_icmp .gt 29, 3) := by decide +kernel
theorem dX14_keepScan_171 : decode cX14_keepScan 171 = .ok (.aload_n 0, 1) := by decide +kernel
theorem dX14_keepScan_172 : decode cX14_keepScan 172 = .ok (.getfield 58, 3) := by decide +kernel
theorem dX14_keepScan_175 : decode cX14_keepScan 175 = .ok (.bipush 64, 2) := by decide +kernel
theorem dX14_keepScan_177 : decode cX14_keepScan 177 = .ok (.aload_n 0, 1) := by decide +kernel
theorem dX14_keepScan_178 : decode cX14_keepScan 178 = .ok (.getfield 61, 3) := by decide +kernel
theorem dX14_keepScan_181 : decode cX14_keepScan 181 = .ok (.iload_n 2, 1) := by decide +kernel
theorem dX14_keepScan_182 : decode cX14_keepScan 182 = .ok (.iaload, 1) := by decide +kernel
theorem dX14_keepScan_183 : decode cX14_keepScan 183 = .ok (.imul, 1) := by decide +kernel
theorem dX14_keepScan_184 : decode cX14_keepScan 184 = .ok (.iload_n 3, 1) := by decide +kernel
theorem dX14_keepScan_185 : decode cX14_keepScan 185 = .ok (.iadd, 1) := by decide +kernel
theorem dX14_keepScan_186 : decode cX14_keepScan 186 = .ok (.aload_n 0, 1) := by decide +kernel
theorem dX14_keepScan_187 : decode cX14_keepScan 187 = .ok (.getfield 161, 3) := by decide +kernel
theorem dX14_keepScan_190 : decode cX14_keepScan 190 = .ok (.iastore, 1) := by decide +kernel
theorem dX14_keepScan_191 : decode cX14_keepScan 191 = .ok (.iinc 3 1, 3) := by decide +kernel
theorem dX14_keepScan_194 : decode cX14_keepScan 194 = .ok (.goto (-31), 3) := by decide +kernel
theorem dX14_keepScan_197 : decode cX14_keepScan 197 = .ok (.iinc 2 1, 3) := by decide +kernel
theorem dX14_keepScan_200 : decode cX14_keepScan 200 = .ok (.goto (-107), 3) := by decide +kernel
theorem dX14_keepScan_203 : decode cX14_keepScan 203 = .ok (.aload_n 0, 1) := by decide +kernel
theorem dX14_keepScan_204 : decode cX14_keepScan 204 = .ok (.iload_n 1, 1) := by decide +kernel
theorem dX14_keepScan_205 : decode cX14_keepScan 205 = .ok (.invokevirtual 171, 3) := by decide +kernel
theorem dX14_keepScan_208 : decode cX14_keepScan 208 = .ok (.aload_n 0, 1) := by decide +kernel
theorem dX14_keepScan_209 : decode cX14_keepScan 209 = .ok (.getfield 174, 3) := by decide +kernel
theorem dX14_keepScan_212 : decode cX14_keepScan 212 = .ok (.ifnull 23, 3) := by decide +kernel
theorem dX14_keepScan_215 : decode cX14_keepScan 215 = .ok (.aload_n 0, 1) := by decide +kernel
theorem dX14_keepScan_216 : decode cX14_keepScan 216 = .ok (.getfield 100, 3) := by decide +kernel
theorem dX14_keepScan_219 : decode cX14_keepScan 219 = .ok (.ifCond .ne 16, 3) := by decide +kernel
theorem dX14_keepScan_222 : decode cX14_keepScan 222 = .ok (.aload_n 0, 1) := by decide +kernel
theorem dX14_keepScan_223 : decode cX14_keepScan 223 = .ok (.aload_n 0, 1) := by decide +kernel
theorem dX14_keepScan_224 : decode cX14_keepScan 224 = .ok (.getfield 174, 3) := by decide +kernel
theorem dX14_keepScan_227 : decode cX14_keepScan 227 = .ok (.aload_n 0, 1) := by decide +kernel
theorem dX14_keepScan_228 : decode cX14_keepScan 228 = .ok (.iload_n 1, 1) := by decide +kernel
theorem dX14_keepScan_229 : decode cX14_keepScan 229 = .ok (.invokevirtual 178, 3) := by decide +kernel
theorem dX14_keepScan_232 : decode cX14_keepScan 232 = .ok (.putfield 182, 3) := by decide +kernel
theorem dX14_keepScan_235 : decode cX14_keepScan 235 = .ok (.return_, 1) := by decide +kernel
theorem flRX14_174 : px_f RX14 174 14 2 := ⟨_, rfl, by decide, Or.inl (tb6 (List.mem_of_getElem? (i := 104) rfl))⟩
theorem flRX14_182 : px_f RX14 182 14 3 := ⟨_, rfl, by decide, Or.inl (tb6 (List.mem_of_getElem? (i := 106) rfl))⟩
theorem mbX14_readData : px_mB mX14_readData 1 := ⟨tb8 (List.mem_of_getElem? (i := 219) rfl), by decide +kernel, tb1 (List.mem_of_getElem? (i := 14) rfl), by decide +kernel, by decide +kernel⟩
theorem vbX14_readData : px_vB mX14_readData := ⟨tb8 (List.mem_of_getElem? (i := 218) rfl), List.mem_append_left _ (List.mem_of_getElem? (i := 108) (by decide +kernel))⟩
theorem kcX14_keepScan_171 : px_cV mX14_keepScan 171 mX14_readData 1 := ⟨⟨mbX14_readData, by decide, by decide⟩, Or.inl (tb8 (List.mem_of_getElem? (i := 216) rfl)), vbX14_readData⟩
theorem mbX15_scanned : px_mB mX15_scanned 2 := ⟨tb8 (List.mem_of_getElem? (i := 223) rfl), by decide +kernel, tb1 (List.mem_of_getElem? (i := 13) rfl), by decide +kernel, by decide +kernel⟩
theorem vbX15_scanned : px_vB mX15_scanned := ⟨tb8 (List.mem_of_getElem? (i := 222) rfl), List.mem_append_left _ (List.mem_of_getElem? (i := 109) (by decide +kernel))⟩
theorem kcX14_keepScan_178 : px_cV mX14_keepScan 178 mX15_scanned 2 := ⟨⟨mbX15_scanned, by decide, by decide⟩, Or.inr ⟨"WavePicturesModel", tT8 (List.mem_of_getElem? (i := 220) rfl)⟩, vbX15_scanned⟩
set_option maxRecDepth 100000 in
set_option maxHeartbeats 4000000 in
theorem eX14_keepScan_203 {X : px_X}  : ∀ (a0 : Nat) (a1 : Int32) (w : px_W) (q : px_W), fX14_keepScan_203 X  a0 a1 w = some q → EV X mX14_keepScan 203 [(0, .ref a0), (1, .int a1)] [] w none q := by
  intro a0 a1 w q h
  unfold fX14_keepScan_203 at h
  refine EV.aload_n 0 dX14_keepScan_203 rfl rfl ?_
  refine EV.iload_n 1 dX14_keepScan_204 rfl rfl ?_
  obtain ⟨o51, go51, h⟩ := px_bs h
  obtain ⟨q52, gq52, h⟩ := px_bs h
  refine EV.callV (As := [.int a1]) (rest := []) dX14_keepScan_205 kcX14_keepScan_171 (gO_ok go51) rfl rfl rfl (Nat.le_of_ble_eq_true rfl) (Nat.le_of_ble_eq_true rfl) (eX14_readData gq52) ?_
  refine EV.aload_n 0 dX14_keepScan_208 rfl rfl ?_
  obtain ⟨v53, gv53, h⟩ := px_bs h
  refine ev_gQ dX14_keepScan_209 flRX14_174 gv53 ?_
  by_cases c60 : v53 = none
  · rw [if_pos c60] at h
    rw [c60]
    refine EV.ifnullN 235 dX14_keepScan_212 (by decide) ?_
    cases h
    exact EV.ret0 dX14_keepScan_235 trivial
  · rw [if_neg c60] at h
    obtain ⟨z, hz⟩ := Option.ne_none_iff_exists'.mp c60
    rw [hz]
    refine EV.ifnullR dX14_keepScan_212 ?_
    refine EV.aload_n 0 dX14_keepScan_215 rfl rfl ?_
    obtain ⟨v54, gv54, h⟩ := px_bs h
    refine ev_gI dX14_keepScan_216 flRX14_100 gv54 ?_
    refine EV.if_ne 235 dX14_keepScan_219 (by decide) (fun c55 => ?_) (fun c55 => ?_)
    · rw [if_neg c55] at h
      cases h
      exact EV.ret0 dX14_keepScan_235 trivial
    · rw [if_pos c55] at h
      refine EV.aload_n 0 dX14_keepScan_222 rfl rfl ?_
      refine EV.aload_n 0 dX14_keepScan_223 rfl rfl ?_
      obtain ⟨v56, gv56, h⟩ := px_bs h
      refine ev_gR dX14_keepScan_224 flRX14_174 gv56 ?_
      refine EV.aload_n 0 dX14_keepScan_227 rfl rfl ?_
      refine EV.iload_n 1 dX14_keepScan_228 rfl rfl ?_
      obtain ⟨o57, go57, h⟩ := px_bs h
      obtain ⟨q58, gq58, h⟩ := px_bs h
      refine EV.callV (As := [.ref a0, .int a1]) (rest := [.ref a0]) dX14_keepScan_229 kcX14_keepScan_178 (gO_ok go57) rfl rfl rfl (Nat.le_of_ble_eq_true rfl) (Nat.le_of_ble_eq_true rfl) (eX15_scanned gq58) ?_
      obtain ⟨w59, gw59, h⟩ := px_bs h
      refine ev_pV dX14_keepScan_232 flRX14_182 rfl rfl rfl rfl gw59 ?_
      cases h
      exact EV.ret0 dX14_keepScan_235 trivial
set_option maxRecDepth 100000 in
set_option maxHeartbeats 4000000 in
theorem eX14_keepScan_197 {X : px_X} {k93 : Nat → Int32 → Int32 → px_W → Option (px_W)} (hk93 : ∀ (a0 : Nat) (a1 : Int32) (a2 : Int32) (w : px_W) (q : px_W), k93 a0 a1 a2 w = some q → EV X mX14_keepScan 93 [(0, .ref a0), (1, .int a1), (2, .int a2)] [] w none q) : ∀ (a0 : Nat) (a1 : Int32) (a2 : Int32) (w : px_W) (q : px_W), fX14_keepScan_197 X k93 a0 a1 a2 w = some q → EV X mX14_keepScan 197 [(0, .ref a0), (1, .int a1), (2, .int a2)] [] w none q := by
  intro a0 a1 a2 w q h
  unfold fX14_keepScan_197 at h
  refine EV.iinc 2 (a2 + 1) [(2, .int (a2 + 1)), (0, .ref a0), (1, .int a1)] dX14_keepScan_197 rfl rfl (by decide) rfl ?_
  refine EV.goto 93 dX14_keepScan_200 (by decide) ?_
  refine EV.sub [1, 2, 0] rfl ?_
  exact hk93 _ _ _ _ _ h
set_option maxRecDepth 100000 in
set_option maxHeartbeats 4000000 in
theorem eX14_keepScan_163 {X : px_X} {k93 : Nat → Int32 → Int32 → px_W → Option (px_W)} (hk93 : ∀ (a0 : Nat) (a1 : Int32) (a2 : Int32) (w : px_W) (q : px_W), k93 a0 a1 a2 w = some q → EV X mX14_keepScan 93 [(0, .ref a0), (1, .int a1), (2, .int a2)] [] w none q) : ∀ (m : Nat) (a0 : Nat) (a1 : Int32) (a2 : Int32) (a3 : Int32) (w : px_W) (q : px_W), fX14_keepScan_163 X k93 m a0 a1 a2 a3 w = some q → EV X mX14_keepScan 163 [(0, .ref a0), (1, .int a1), (2, .int a2), (3, .int a3)] [] w none q := by
  intro m
  induction m with
  | zero => intro a0 a1 a2 a3 w q h; cases h
  | succ m ih =>
    intro a0 a1 a2 a3 w q h
    rw [fX14_keepScan_163.eq_2] at h
    refine EV.iload_n 3 dX14_keepScan_163 rfl rfl ?_
    refine EV.aload_n 0 dX14_keepScan_164 rfl rfl ?_
    obtain ⟨v61, gv61, h⟩ := px_bs h
    refine ev_gI dX14_keepScan_165 flRX14_155 gv61 ?_
    refine EV.icmp_gt 197 dX14_keepScan_168 (by decide) (fun c62 => ?_) (fun c62 => ?_)
    · rw [if_pos c62] at h
      refine EV.sub [0, 1, 2] rfl ?_
      exact eX14_keepScan_197 hk93 _ _ _ _ _ h
    · rw [if_neg c62] at h
      refine EV.aload_n 0 dX14_keepScan_171 rfl rfl ?_
      obtain ⟨v63, gv63, h⟩ := px_bs h
      refine ev_gR dX14_keepScan_172 flRX14_58 gv63 ?_
      refine EV.bipush (64) dX14_keepScan_175 (by decide) ?_
      refine EV.aload_n 0 dX14_keepScan_177 rfl rfl ?_
      obtain ⟨v64, gv64, h⟩ := px_bs h
      refine ev_gR dX14_keepScan_178 flRX14_61 gv64 ?_
      refine EV.iload_n 2 dX14_keepScan_181 rfl rfl ?_
      obtain ⟨v65, gv65, h⟩ := px_bs h
      refine ev_aI dX14_keepScan_182 gv65 ?_
      refine EV.imul dX14_keepScan_183 ?_
      refine EV.iload_n 3 dX14_keepScan_184 rfl rfl ?_
      refine EV.iadd dX14_keepScan_185 ?_
      refine EV.aload_n 0 dX14_keepScan_186 rfl rfl ?_
      obtain ⟨v66, gv66, h⟩ := px_bs h
      refine ev_gI dX14_keepScan_187 flRX14_161 gv66 ?_
      obtain ⟨w67, gw67, h⟩ := px_bs h
      refine ev_sI dX14_keepScan_190 gw67 ?_
      refine EV.iinc 3 (a3 + 1) [(3, .int (a3 + 1)), (0, .ref a0), (1, .int a1), (2, .int a2)] dX14_keepScan_191 rfl rfl (by decide) rfl ?_
      refine EV.goto 163 dX14_keepScan_194 (by decide) ?_
      refine EV.sub [1, 2, 3, 0] rfl ?_
      exact ih _ _ _ _ _ _ h
set_option maxRecDepth 100000 in
set_option maxHeartbeats 4000000 in
theorem eX14_keepScan_93 {X : px_X}  : ∀ (m : Nat) (a0 : Nat) (a1 : Int32) (a2 : Int32) (w : px_W) (q : px_W), fX14_keepScan_93 X  m a0 a1 a2 w = some q → EV X mX14_keepScan 93 [(0, .ref a0), (1, .int a1), (2, .int a2)] [] w none q := by
  intro m
  induction m with
  | zero => intro a0 a1 a2 w q h; cases h
  | succ m ih =>
    intro a0 a1 a2 w q h
    rw [fX14_keepScan_93.eq_2] at h
    refine EV.iload_n 2 dX14_keepScan_93 rfl rfl ?_
    refine EV.aload_n 0 dX14_keepScan_94 rfl rfl ?_
    obtain ⟨v68, gv68, h⟩ := px_bs h
    refine ev_gI dX14_keepScan_95 flRX14_146 gv68 ?_
    refine EV.icmp_ge 203 dX14_keepScan_98 (by decide) (fun c69 => ?_) (fun c69 => ?_)
    · rw [if_pos c69] at h
      refine EV.sub [0, 1] rfl ?_
      exact eX14_keepScan_203  _ _ _ _ h
    · rw [if_neg c69] at h
      refine EV.aload_n 0 dX14_keepScan_101 rfl rfl ?_
      obtain ⟨v70, gv70, h⟩ := px_bs h
      refine ev_gR dX14_keepScan_102 flRX14_55 gv70 ?_
      refine EV.iload_n 1 dX14_keepScan_105 rfl rfl ?_
      refine EV.bipush (10) dX14_keepScan_106 (by decide) ?_
      refine EV.iadd dX14_keepScan_108 ?_
      refine EV.iconst (4) dX14_keepScan_109 (by decide) ?_
      refine EV.iload_n 2 dX14_keepScan_110 rfl rfl ?_
      refine EV.imul dX14_keepScan_111 ?_
      refine EV.iadd dX14_keepScan_112 ?_
      refine EV.aload_n 0 dX14_keepScan_113 rfl rfl ?_
      obtain ⟨v71, gv71, h⟩ := px_bs h
      refine ev_gR dX14_keepScan_114 flRX14_61 gv71 ?_
      refine EV.iload_n 2 dX14_keepScan_117 rfl rfl ?_
      obtain ⟨v72, gv72, h⟩ := px_bs h
      refine ev_aI dX14_keepScan_118 gv72 ?_
      obtain ⟨w73, gw73, h⟩ := px_bs h
      refine ev_sI dX14_keepScan_119 gw73 ?_
      refine EV.aload_n 0 dX14_keepScan_120 rfl rfl ?_
      obtain ⟨v74, gv74, h⟩ := px_bs h
      refine ev_gR dX14_keepScan_121 flRX14_55 gv74 ?_
      refine EV.iload_n 1 dX14_keepScan_124 rfl rfl ?_
      refine EV.bipush (11) dX14_keepScan_125 (by decide) ?_
      refine EV.iadd dX14_keepScan_127 ?_
      refine EV.iconst (4) dX14_keepScan_128 (by decide) ?_
      refine EV.iload_n 2 dX14_keepScan_129 rfl rfl ?_
      refine EV.imul dX14_keepScan_130 ?_
      refine EV.iadd dX14_keepScan_131 ?_
      refine EV.aload_n 0 dX14_keepScan_132 rfl rfl ?_
      obtain ⟨v75, gv75, h⟩ := px_bs h
      refine ev_gR dX14_keepScan_133 flRX14_64 gv75 ?_
      refine EV.iload_n 2 dX14_keepScan_136 rfl rfl ?_
      obtain ⟨v76, gv76, h⟩ := px_bs h
      refine ev_aI dX14_keepScan_137 gv76 ?_
      obtain ⟨w77, gw77, h⟩ := px_bs h
      refine ev_sI dX14_keepScan_138 gw77 ?_
      refine EV.aload_n 0 dX14_keepScan_139 rfl rfl ?_
      obtain ⟨v78, gv78, h⟩ := px_bs h
      refine ev_gR dX14_keepScan_140 flRX14_55 gv78 ?_
      refine EV.iload_n 1 dX14_keepScan_143 rfl rfl ?_
      refine EV.bipush (12) dX14_keepScan_144 (by decide) ?_
      refine EV.iadd dX14_keepScan_146 ?_
      refine EV.iconst (4) dX14_keepScan_147 (by decide) ?_
      refine EV.iload_n 2 dX14_keepScan_148 rfl rfl ?_
      refine EV.imul dX14_keepScan_149 ?_
      refine EV.iadd dX14_keepScan_150 ?_
      refine EV.aload_n 0 dX14_keepScan_151 rfl rfl ?_
      obtain ⟨v79, gv79, h⟩ := px_bs h
      refine ev_gR dX14_keepScan_152 flRX14_67 gv79 ?_
      refine EV.iload_n 2 dX14_keepScan_155 rfl rfl ?_
      obtain ⟨v80, gv80, h⟩ := px_bs h
      refine ev_aI dX14_keepScan_156 gv80 ?_
      obtain ⟨w81, gw81, h⟩ := px_bs h
      refine ev_sI dX14_keepScan_157 gw81 ?_
      refine EV.aload_n 0 dX14_keepScan_158 rfl rfl ?_
      obtain ⟨v82, gv82, h⟩ := px_bs h
      refine ev_gI dX14_keepScan_159 flRX14_152 gv82 ?_
      refine EV.istore_n [(3, .int v82), (0, .ref a0), (1, .int a1), (2, .int a2)] dX14_keepScan_162 rfl (by decide) rfl ?_
      refine EV.sub [1, 2, 3, 0] rfl ?_
      exact eX14_keepScan_163 ih FU _ _ _ _ _ _ h
set_option maxRecDepth 100000 in
set_option maxHeartbeats 4000000 in
theorem eX14_keepScan {X : px_X} {w : px_W} {a0 : Nat} {q : px_W} (h : fX14_keepScan X w a0 = some q) : EV X mX14_keepScan 0 (lv_args 0 [.ref a0]) [] w none q := by
  unfold fX14_keepScan at h
  show EV X mX14_keepScan 0 [(0, .ref a0)] [] w none q
  refine EV.bipush (30) dX14_keepScan_0 (by decide) ?_
  refine EV.aload_n 0 dX14_keepScan_2 rfl rfl ?_
  obtain ⟨v83, gv83, h⟩ := px_bs h
  refine ev_gI dX14_keepScan_3 flRX14_97 gv83 ?_
  refine EV.imul dX14_keepScan_6 ?_
  refine EV.istore_n [(1, .int (30 * v83)), (0, .ref a0)] dX14_keepScan_7 rfl (by decide) rfl ?_
  refine EV.aload_n 1 dX14_keepScan_8 rfl rfl ?_
  obtain ⟨v84, gv84, h⟩ := px_bs h
  refine ev_gR dX14_keepScan_9 flRX14_55 gv84 ?_
  refine EV.iload_n 0 dX14_keepScan_12 rfl rfl ?_
  refine EV.aload_n 1 dX14_keepScan_13 rfl rfl ?_
  obtain ⟨v85, gv85, h⟩ := px_bs h
  refine ev_gI dX14_keepScan_14 flRX14_146 gv85 ?_
  obtain ⟨w86, gw86, h⟩ := px_bs h
  refine ev_sI dX14_keepScan_17 gw86 ?_
  refine EV.aload_n 1 dX14_keepScan_18 rfl rfl ?_
  obtain ⟨v87, gv87, h⟩ := px_bs h
  refine ev_gR dX14_keepScan_19 flRX14_55 gv87 ?_
  refine EV.iload_n 0 dX14_keepScan_22 rfl rfl ?_
  refine EV.iconst (1) dX14_keepScan_23 (by decide) ?_
  refine EV.iadd dX14_keepScan_24 ?_
  refine EV.aload_n 1 dX14_keepScan_25 rfl rfl ?_
  obtain ⟨v88, gv88, h⟩ := px_bs h
  refine ev_gI dX14_keepScan_26 flRX14_152 gv88 ?_
  obtain ⟨w89, gw89, h⟩ := px_bs h
  refine ev_sI dX14_keepScan_29 gw89 ?_
  refine EV.aload_n 1 dX14_keepScan_30 rfl rfl ?_
  obtain ⟨v90, gv90, h⟩ := px_bs h
  refine ev_gR dX14_keepScan_31 flRX14_55 gv90 ?_
  refine EV.iload_n 0 dX14_keepScan_34 rfl rfl ?_
  refine EV.iconst (2) dX14_keepScan_35 (by decide) ?_
  refine EV.iadd dX14_keepScan_36 ?_
  refine EV.aload_n 1 dX14_keepScan_37 rfl rfl ?_
  obtain ⟨v91, gv91, h⟩ := px_bs h
  refine ev_gI dX14_keepScan_38 flRX14_155 gv91 ?_
  obtain ⟨w92, gw92, h⟩ := px_bs h
  refine ev_sI dX14_keepScan_41 gw92 ?_
  refine EV.aload_n 1 dX14_keepScan_42 rfl rfl ?_
  obtain ⟨v93, gv93, h⟩ := px_bs h
  refine ev_gR dX14_keepScan_43 flRX14_55 gv93 ?_
  refine EV.iload_n 0 dX14_keepScan_46 rfl rfl ?_
  refine EV.iconst (3) dX14_keepScan_47 (by decide) ?_
  refine EV.iadd dX14_keepScan_48 ?_
  refine EV.aload_n 1 dX14_keepScan_49 rfl rfl ?_
  obtain ⟨v94, gv94, h⟩ := px_bs h
  refine ev_gI dX14_keepScan_50 flRX14_158 gv94 ?_
  obtain ⟨w95, gw95, h⟩ := px_bs h
  refine ev_sI dX14_keepScan_53 gw95 ?_
  refine EV.aload_n 1 dX14_keepScan_54 rfl rfl ?_
  obtain ⟨v96, gv96, h⟩ := px_bs h
  refine ev_gR dX14_keepScan_55 flRX14_55 gv96 ?_
  refine EV.iload_n 0 dX14_keepScan_58 rfl rfl ?_
  refine EV.iconst (4) dX14_keepScan_59 (by decide) ?_
  refine EV.iadd dX14_keepScan_60 ?_
  refine EV.aload_n 1 dX14_keepScan_61 rfl rfl ?_
  obtain ⟨v97, gv97, h⟩ := px_bs h
  refine ev_gI dX14_keepScan_62 flRX14_161 gv97 ?_
  obtain ⟨w98, gw98, h⟩ := px_bs h
  refine ev_sI dX14_keepScan_65 gw98 ?_
  refine EV.aload_n 1 dX14_keepScan_66 rfl rfl ?_
  obtain ⟨v99, gv99, h⟩ := px_bs h
  refine ev_gR dX14_keepScan_67 flRX14_55 gv99 ?_
  refine EV.iload_n 0 dX14_keepScan_70 rfl rfl ?_
  refine EV.iconst (5) dX14_keepScan_71 (by decide) ?_
  refine EV.iadd dX14_keepScan_72 ?_
  refine EV.aload_n 1 dX14_keepScan_73 rfl rfl ?_
  obtain ⟨v100, gv100, h⟩ := px_bs h
  refine ev_gI dX14_keepScan_74 flRX14_106 gv100 ?_
  obtain ⟨w101, gw101, h⟩ := px_bs h
  refine ev_sI dX14_keepScan_77 gw101 ?_
  refine EV.aload_n 1 dX14_keepScan_78 rfl rfl ?_
  obtain ⟨v102, gv102, h⟩ := px_bs h
  refine ev_gR dX14_keepScan_79 flRX14_55 gv102 ?_
  refine EV.iload_n 0 dX14_keepScan_82 rfl rfl ?_
  refine EV.bipush (8) dX14_keepScan_83 (by decide) ?_
  refine EV.iadd dX14_keepScan_85 ?_
  refine EV.aload_n 1 dX14_keepScan_86 rfl rfl ?_
  obtain ⟨v103, gv103, h⟩ := px_bs h
  refine ev_gI dX14_keepScan_87 flRX14_94 gv103 ?_
  obtain ⟨w104, gw104, h⟩ := px_bs h
  refine ev_sI dX14_keepScan_90 gw104 ?_
  refine EV.iconst (0) dX14_keepScan_91 (by decide) ?_
  refine EV.istore_n [(2, .int 0), (1, .int (30 * v83)), (0, .ref a0)] dX14_keepScan_92 rfl (by decide) rfl ?_
  refine EV.sub [2, 1, 0] rfl ?_
  exact eX14_keepScan_93  FU _ _ _ _ _ h
/-! WavePicturesModel$Segments.isSent()Z -/
theorem dX14_isSent_0 : decode cX14_isSent 0 = .ok (.aload_n 0, 1) := by decide +kernel
theorem dX14_isSent_1 : decode cX14_isSent 1 = .ok (.getfield 91, 3) := by decide +kernel
theorem dX14_isSent_4 : decode cX14_isSent 4 = .ok (.ifCond .le 7, 3) := by decide +kernel
theorem dX14_isSent_7 : decode cX14_isSent 7 = .ok (.iconst 1, 1) := by decide +kernel
theorem dX14_isSent_8 : decode cX14_isSent 8 = .ok (.goto 4, 3) := by decide +kernel
theorem dX14_isSent_11 : decode cX14_isSent 11 = .ok (.iconst 0, 1) := by decide +kernel
theorem dX14_isSent_12 : decode cX14_isSent 12 = .ok (.istore_n 1, 1) := by decide +kernel
theorem dX14_isSent_13 : decode cX14_isSent 13 = .ok (.iconst 0, 1) := by decide +kernel
theorem dX14_isSent_14 : decode cX14_isSent 14 = .ok (.istore_n 2, 1) := by decide +kernel
theorem dX14_isSent_15 : decode cX14_isSent 15 = .ok (.iload_n 2, 1) := by decide +kernel
theorem dX14_isSent_16 : decode cX14_isSent 16 = .ok (.aload_n 0, 1) := by decide +kernel
theorem dX14_isSent_17 : decode cX14_isSent 17 = .ok (.getfield 91, 3) := by decide +kernel
theorem dX14_isSent_20 : decode cX14_isSent 20 = .ok (.if_icmp .ge 31, 3) := by decide +kernel
theorem dX14_isSent_23 : decode cX14_isSent 23 = .ok (.iload_n 1, 1) := by decide +kernel
theorem dX14_isSent_24 : decode cX14_isSent 24 = .ok (.ifCond .eq 19, 3) := by decide +kernel
theorem dX14_isSent_27 : decode cX14_isSent 27 = .ok (.aload_n 0, 1) := by decide +kernel
theorem dX14_isSent_28 : decode cX14_isSent 28 = .ok (.getfield 58, 3) := by decide +kernel
theorem dX14_isSent_31 : decode cX14_isSent 31 = .ok (.bipush 64, 2) := by decide +kernel
theorem dX14_isSent_33 : decode cX14_isSent 33 = .ok (.iload_n 2, 1) := by decide +kernel
theorem dX14_isSent_34 : decode cX14_isSent 34 = .ok (.imul, 1) := by decide +kernel
theorem dX14_isSent_35 : decode cX14_isSent 35 = .ok (.iaload, 1) := by decide +kernel
theorem dX14_isSent_36 : decode cX14_isSent 36 = .ok (.ifCond .lt 7, 3) := by decide +kernel
theorem dX14_isSent_39 : decode cX14_isSent 39 = .ok (.iconst 1, 1) := by decide +kernel
theorem dX14_isSent_40 : decode cX14_isSent 40 = .ok (.goto 4, 3) := by decide +kernel
theorem dX14_isSent_43 : decode cX14_isSent 43 = .ok (.iconst 0, 1) := by decide +kernel
theorem dX14_isSent_44 : decode cX14_isSent 44 = .ok (.istore_n 1, 1) := by decide +kernel
theorem dX14_isSent_45 : decode cX14_isSent 45 = .ok (.iinc 2 1, 3) := by decide +kernel
theorem dX14_isSent_48 : decode cX14_isSent 48 = .ok (.goto (-33), 3) := by decide +kernel
theorem dX14_isSent_51 : decode cX14_isSent 51 = .ok (.iload_n 1, 1) := by decide +kernel
theorem dX14_isSent_52 : decode cX14_isSent 52 = .ok (.ireturn, 1) := by decide +kernel
set_option maxRecDepth 100000 in
set_option maxHeartbeats 4000000 in
theorem eX14_isSent_44 {X : px_X} {k15 : Nat → Int32 → Int32 → px_W → Option (Int32 × px_W)} (hk15 : ∀ (a0 : Nat) (a1 : Int32) (a2 : Int32) (w : px_W) (q : Int32 × px_W), k15 a0 a1 a2 w = some q → EV X mX14_isSent 15 [(0, .ref a0), (1, .int a1), (2, .int a2)] [] w (some (.int q.1)) q.2) : ∀ (a0 : Nat) (a2 : Int32) (s0 : Int32) (w : px_W) (q : Int32 × px_W), fX14_isSent_44 X k15 a0 a2 s0 w = some q → EV X mX14_isSent 44 [(0, .ref a0), (2, .int a2)] [.int s0] w (some (.int q.1)) q.2 := by
  intro a0 a2 s0 w q h
  unfold fX14_isSent_44 at h
  refine EV.istore_n [(1, .int s0), (0, .ref a0), (2, .int a2)] dX14_isSent_44 rfl (by decide) rfl ?_
  refine EV.iinc 2 (a2 + 1) [(2, .int (a2 + 1)), (1, .int s0), (0, .ref a0)] dX14_isSent_45 rfl rfl (by decide) rfl ?_
  refine EV.goto 15 dX14_isSent_48 (by decide) ?_
  refine EV.sub [2, 1, 0] rfl ?_
  exact hk15 _ _ _ _ _ h
set_option maxRecDepth 100000 in
set_option maxHeartbeats 4000000 in
theorem eX14_isSent_43 {X : px_X} {k15 : Nat → Int32 → Int32 → px_W → Option (Int32 × px_W)} (hk15 : ∀ (a0 : Nat) (a1 : Int32) (a2 : Int32) (w : px_W) (q : Int32 × px_W), k15 a0 a1 a2 w = some q → EV X mX14_isSent 15 [(0, .ref a0), (1, .int a1), (2, .int a2)] [] w (some (.int q.1)) q.2) : ∀ (a0 : Nat) (a2 : Int32) (w : px_W) (q : Int32 × px_W), fX14_isSent_43 X k15 a0 a2 w = some q → EV X mX14_isSent 43 [(0, .ref a0), (2, .int a2)] [] w (some (.int q.1)) q.2 := by
  intro a0 a2 w q h
  unfold fX14_isSent_43 at h
  refine EV.iconst (0) dX14_isSent_43 (by decide) ?_
  refine EV.sub [0, 1] rfl ?_
  exact eX14_isSent_44 hk15 _ _ _ _ _ h
set_option maxRecDepth 100000 in
set_option maxHeartbeats 4000000 in
theorem eX14_isSent_15 {X : px_X}  : ∀ (m : Nat) (a0 : Nat) (a1 : Int32) (a2 : Int32) (w : px_W) (q : Int32 × px_W), fX14_isSent_15 X  m a0 a1 a2 w = some q → EV X mX14_isSent 15 [(0, .ref a0), (1, .int a1), (2, .int a2)] [] w (some (.int q.1)) q.2 := by
  intro m
  induction m with
  | zero => intro a0 a1 a2 w q h; cases h
  | succ m ih =>
    intro a0 a1 a2 w q h
    rw [fX14_isSent_15.eq_2] at h
    refine EV.iload_n 2 dX14_isSent_15 rfl rfl ?_
    refine EV.aload_n 0 dX14_isSent_16 rfl rfl ?_
    obtain ⟨v5, gv5, h⟩ := px_bs h
    refine ev_gI dX14_isSent_17 flRX14_91 gv5 ?_
    refine EV.icmp_ge 51 dX14_isSent_20 (by decide) (fun c6 => ?_) (fun c6 => ?_)
    · rw [if_pos c6] at h
      refine EV.iload_n 1 dX14_isSent_51 rfl rfl ?_
      exact ev_retZ dX14_isSent_52 rfl h
    · rw [if_neg c6] at h
      refine EV.iload_n 1 dX14_isSent_23 rfl rfl ?_
      refine EV.if_eq 43 dX14_isSent_24 (by decide) (fun c7 => ?_) (fun c7 => ?_)
      · rw [if_pos c7] at h
        refine EV.sub [0, 2] rfl ?_
        exact eX14_isSent_43 ih _ _ _ _ h
      · rw [if_neg c7] at h
        refine EV.aload_n 0 dX14_isSent_27 rfl rfl ?_
        obtain ⟨v8, gv8, h⟩ := px_bs h
        refine ev_gR dX14_isSent_28 flRX14_58 gv8 ?_
        refine EV.bipush (64) dX14_isSent_31 (by decide) ?_
        refine EV.iload_n 2 dX14_isSent_33 rfl rfl ?_
        refine EV.imul dX14_isSent_34 ?_
        obtain ⟨v9, gv9, h⟩ := px_bs h
        refine ev_aI dX14_isSent_35 gv9 ?_
        refine EV.if_lt 43 dX14_isSent_36 (by decide) (fun c10 => ?_) (fun c10 => ?_)
        · rw [if_pos c10] at h
          refine EV.sub [0, 2] rfl ?_
          exact eX14_isSent_43 ih _ _ _ _ h
        · rw [if_neg c10] at h
          refine EV.iconst (1) dX14_isSent_39 (by decide) ?_
          refine EV.goto 44 dX14_isSent_40 (by decide) ?_
          refine EV.sub [0, 2] rfl ?_
          exact eX14_isSent_44 ih _ _ _ _ _ h
set_option maxRecDepth 100000 in
set_option maxHeartbeats 4000000 in
theorem eX14_isSent_12 {X : px_X}  : ∀ (a0 : Nat) (s0 : Int32) (w : px_W) (q : Int32 × px_W), fX14_isSent_12 X  a0 s0 w = some q → EV X mX14_isSent 12 [(0, .ref a0)] [.int s0] w (some (.int q.1)) q.2 := by
  intro a0 s0 w q h
  unfold fX14_isSent_12 at h
  refine EV.istore_n [(1, .int s0), (0, .ref a0)] dX14_isSent_12 rfl (by decide) rfl ?_
  refine EV.iconst (0) dX14_isSent_13 (by decide) ?_
  refine EV.istore_n [(2, .int 0), (1, .int s0), (0, .ref a0)] dX14_isSent_14 rfl (by decide) rfl ?_
  refine EV.sub [2, 1, 0] rfl ?_
  exact eX14_isSent_15  FU _ _ _ _ _ h
set_option maxRecDepth 100000 in
set_option maxHeartbeats 4000000 in
theorem eX14_isSent {X : px_X} {w : px_W} {a0 : Nat} {q : Int32 × px_W} (h : fX14_isSent X w a0 = some q) : EV X mX14_isSent 0 (lv_args 0 [.ref a0]) [] w (some (.int q.1)) q.2 := by
  unfold fX14_isSent at h
  show EV X mX14_isSent 0 [(0, .ref a0)] [] w (some (.int q.1)) q.2
  refine EV.aload_n 0 dX14_isSent_0 rfl rfl ?_
  obtain ⟨v11, gv11, h⟩ := px_bs h
  refine ev_gI dX14_isSent_1 flRX14_91 gv11 ?_
  refine EV.if_le 11 dX14_isSent_4 (by decide) (fun c12 => ?_) (fun c12 => ?_)
  · rw [if_pos c12] at h
    refine EV.iconst (0) dX14_isSent_11 (by decide) ?_
    refine EV.sub [0] rfl ?_
    exact eX14_isSent_12  _ _ _ _ h
  · rw [if_neg c12] at h
    refine EV.iconst (1) dX14_isSent_7 (by decide) ?_
    refine EV.goto 12 dX14_isSent_8 (by decide) ?_
    refine EV.sub [0] rfl ?_
    exact eX14_isSent_12  _ _ _ _ h
/-! WavePicturesModel$Segments.segment(I)Z -/
theorem dX14_segment_0 : decode cX14_segment 0 = .ok (.aload_n 0, 1) := by decide +kernel
theorem dX14_segment_1 : decode cX14_segment 1 = .ok (.invokevirtual 196, 3) := by decide +kernel
theorem dX14_segment_4 : decode cX14_segment 4 = .ok (.aload_n 0, 1) := by decide +kernel
theorem dX14_segment_5 : decode cX14_segment 5 = .ok (.getfield 100, 3) := by decide +kernel
theorem dX14_segment_8 : decode cX14_segment 8 = .ok (.ifCond .le 5, 3) := by decide +kernel
theorem dX14_segment_11 : decode cX14_segment 11 = .ok (.iconst 0, 1) := by decide +kernel
theorem dX14_segment_12 : decode cX14_segment 12 = .ok (.ireturn, 1) := by decide +kernel
theorem dX14_segment_13 : decode cX14_segment 13 = .ok (.iload_n 1, 1) := by decide +kernel
theorem dX14_segment_14 : decode cX14_segment 14 = .ok (.sipush 219, 3) := by decide +kernel
theorem dX14_segment_17 : decode cX14_segment 17 = .ok (.if_icmp .ne 10, 3) := by decide +kernel
theorem dX14_segment_20 : decode cX14_segment 20 = .ok (.aload_n 0, 1) := by decide +kernel
theorem dX14_segment_21 : decode cX14_segment 21 = .ok (.invokevirtual 199, 3) := by decide +kernel
theorem dX14_segment_24 : decode cX14_segment 24 = .ok (.goto 137, 3) := by decide +kernel
theorem dX14_segment_27 : decode cX14_segment 27 = .ok (.iload_n 1, 1) := by decide +kernel
theorem dX14_segment_28 : decode cX14_segment 28 = .ok (.sipush 196, 3) := by decide +kernel
theorem dX14_segment_31 : decode cX14_segment 31 = .ok (.if_icmp .ne 10, 3) := by decide +kernel
theorem dX14_segment_34 : decode cX14_segment 34 = .ok (.aload_n 0, 1) := by decide +kernel
theorem dX14_segment_35 : decode cX14_segment 35 = .ok (.invokevirtual 202, 3) := by decide +kernel
theorem dX14_segment_38 : decode cX14_segment 38 = .ok (.goto 123, 3) := by decide +kernel
theorem dX14_segment_41 : decode cX14_segment 41 = .ok (.iload_n 1, 1) := by decide +kernel
theorem dX14_segment_42 : decode cX14_segment 42 = .ok (.sipush 221, 3) := by decide +kernel
theorem dX14_segment_45 : decode cX14_segment 45 = .ok (.if_icmp .ne 30, 3) := by decide +kernel
theorem dX14_segment_48 : decode cX14_segment 48 = .ok (.aload_n 0, 1) := by decide +kernel
theorem dX14_segment_49 : decode cX14_segment 49 = .ok (.invokevirtual 133, 3) := by decide +kernel
theorem dX14_segment_52 : decode cX14_segment 52 = .ok (.istore_n 2, 1) := by decide +kernel
theorem dX14_segment_53 : decode cX14_segment 53 = .ok (.aload_n 0, 1) := by decide +kernel
theorem dX14_segment_54 : decode cX14_segment 54 = .ok (.aload_n 0, 1) := by decide +kernel
theorem dX14_segment_55 : decode cX14_segment 55 = .ok (.getfield 100, 3) := by decide +kernel
theorem dX14_segment_58 : decode cX14_segment 58 = .ok (.ifCond .ne 7, 3) := by decide +kernel
theorem dX14_segment_61 : decode cX14_segment 61 = .ok (.iload_n 2, 1) := by decide +kernel
theorem dX14_segment_62 : decode cX14_segment 62 = .ok (.goto 7, 3) := by decide +kernel
theorem dX14_segment_65 : decode cX14_segment 65 = .ok (.aload_n 0, 1) := by decide +kernel
theorem dX14_segment_66 : decode cX14_segment 66 = .ok (.getfield 94, 3) := by decide +kernel
theorem dX14_segment_69 : decode cX14_segment 69 = .ok (.putfield 94, 3) := by decide +kernel
theorem dX14_segment_72 : decode cX14_segment 72 = .ok (.goto 89, 3) := by decide +kernel
theorem dX14_segment_75 : decode cX14_segment 75 = .ok (.iload_n 1, 1) := by decide +kernel
theorem dX14_segment_76 : decode cX14_segment 76 = .ok (.sipush 192, 3) := by decide +kernel
theorem dX14_segment_79 : decode cX14_segment 79 = .ok (.if_icmp .eq 10, 3) := by decide +kernel
theorem dX14_segment_82 : decode cX14_segment 82 = .ok (.iload_n 1, 1) := by decide +kernel
theorem dX14_segment_83 : decode cX14_segment 83 = .ok (.sipush 194, 3) := by decide +kernel
theorem dX14_segment_86 : decode cX14_segment 86 = .ok (.if_icmp .ne 11, 3) := by decide +kernel
theorem dX14_segment_89 : decode cX14_segment 89 = .ok (.aload_n 0, 1) := by decide +kernel
theorem dX14_segment_90 : decode cX14_segment 90 = .ok (.iload_n 1, 1) := by decide +kernel
theorem dX14_segment_91 : decode cX14_segment 91 = .ok (.invokevirtual 205, 3) := by decide +kernel
theorem dX14_segment_94 : decode cX14_segment 94 = .ok (.goto 67, 3) := by decide +kernel
theorem dX14_segment_97 : decode cX14_segment 97 = .ok (.iload_n 1, 1) := by decide +kernel
theorem dX14_segment_98 : decode cX14_segment 98 = .ok (.sipush 218, 3) := by decide +kernel
theorem dX14_segment_101 : decode cX14_segment 101 = .ok (.if_icmp .ne 10, 3) := by decide +kernel
theorem dX14_segment_104 : decode cX14_segment 104 = .ok (.aload_n 0, 1) := by decide +kernel
theorem dX14_segment_105 : decode cX14_segment 105 = .ok (.invokevirtual 208, 3) := by decide +kernel
theorem dX14_segment_108 : decode cX14_segment 108 = .ok (.goto 53, 3) := by decide +kernel
theorem dX14_segment_111 : decode cX14_segment 111 = .ok (.iload_n 1, 1) := by decide +kernel
theorem dX14_segment_112 : decode cX14_segment 112 = .ok (.sipush 220, 3) := by decide +kernel
theorem dX14_segment_115 : decode cX14_segment 115 = .ok (.if_icmp .ne 42, 3) := by decide +kernel
theorem dX14_segment_118 : decode cX14_segment 118 = .ok (.aload_n 0, 1) := by decide +kernel
theorem dX14_segment_119 : decode cX14_segment 119 = .ok (.invokevirtual 133, 3) := by decide +kernel
theorem dX14_segment_122 : decode cX14_segment 122 = .ok (.istore_n 2, 1) := by decide +kernel
theorem dX14_segment_123 : decode cX14_segment 123 = .ok (.aload_n 0, 1) := by decide +kernel
theorem dX14_segment_124 : decode cX14_segment 124 = .ok (.aload_n 0, 1) := by decide +kernel
theorem dX14_segment_125 : decode cX14_segment 125 = .ok (.getfield 100, 3) := by decide +kernel
theorem dX14_segment_128 : decode cX14_segment 128 = .ok (.ifCond .gt 13, 3) := by decide +kernel
theorem dX14_segment_131 : decode cX14_segment 131 = .ok (.iload_n 2, 1) := by decide +kernel
theorem dX14_segment_132 : decode cX14_segment 132 = .ok (.ifCond .le 13, 3) := by decide +kernel
theorem dX14_segment_135 : decode cX14_segment 135 = .ok (.iload_n 2, 1) := by decide +kernel
theorem dX14_segment_136 : decode cX14_segment 136 = .ok (.bipush 64, 2) := by decide +kernel
theorem dX14_segment_138 : decode cX14_segment 138 = .ok (.if_icmp .gt 7, 3) := by decide +kernel
theorem dX14_segment_141 : decode cX14_segment 141 = .ok (.iconst 1, 1) := by decide +kernel
theorem dX14_segment_142 : decode cX14_segment 142 = .ok (.goto 4, 3) := by decide +kernel
theorem dX14_segment_145 : decode cX14_segment 145 = .ok (.iconst 0, 1) := by decide +kernel
theorem dX14_segment_146 : decode cX14_segment 146 = .ok (.invokevirtual 136, 3) := by decide +kernel
theorem dX14_segment_149 : decode cX14_segment 149 = .ok (.aload_n 0, 1) := by decide +kernel
theorem dX14_segment_150 : decode cX14_segment 150 = .ok (.iload_n 2, 1) := by decide +kernel
theorem dX14_segment_151 : decode cX14_segment 151 = .ok (.putfield 88, 3) := by decide +kernel
theorem dX14_segment_154 : decode cX14_segment 154 = .ok (.goto 7, 3) := by decide +kernel
theorem dX14_segment_157 : decode cX14_segment 157 = .ok (.aload_n 0, 1) := by decide +kernel
theorem dX14_segment_158 : decode cX14_segment 158 = .ok (.invokevirtual 211, 3) := by decide +kernel
theorem dX14_segment_161 : decode cX14_segment 161 = .ok (.aload_n 0, 1) := by decide +kernel
theorem dX14_segment_162 : decode cX14_segment 162 = .ok (.iload_n 1, 1) := by decide +kernel
theorem dX14_segment_163 : decode cX14_segment 163 = .ok (.invokevirtual 214, 3) := by decide +kernel
theorem dX14_segment_166 : decode cX14_segment 166 = .ok (.iload_n 1, 1) := by decide +kernel
theorem dX14_segment_167 : decode cX14_segment 167 = .ok (.sipush 218, 3) := by decide +kernel
theorem dX14_segment_170 : decode cX14_segment 170 = .ok (.if_icmp .ne 35, 3) := by decide +kernel
theorem dX14_segment_173 : decode cX14_segment 173 = .ok (.aload_n 0, 1) := by decide +kernel
theorem dX14_segment_174 : decode cX14_segment 174 = .ok (.getfield 100, 3) := by decide +kernel
theorem dX14_segment_177 : decode cX14_segment 177 = .ok (.ifCond .ne 28, 3) := by decide +kernel
theorem dX14_segment_180 : decode cX14_segment 180 = .ok (.aload_n 0, 1) := by decide +kernel
theorem dX14_segment_181 : decode cX14_segment 181 = .ok (.invokevirtual 217, 3) := by decide +kernel
theorem dX14_segment_184 : decode cX14_segment 184 = .ok (.aload_n 0, 1) := by decide +kernel
theorem dX14_segment_185 : decode cX14_segment 185 = .ok (.getfield 88, 3) := by decide +kernel
theorem dX14_segment_188 : decode cX14_segment 188 = .ok (.ifCond .ne 15, 3) := by decide +kernel
theorem dX14_segment_191 : decode cX14_segment 191 = .ok (.aload_n 0, 1) := by decide +kernel
theorem dX14_segment_192 : decode cX14_segment 192 = .ok (.getfield 97, 3) := by decide +kernel
theorem dX14_segment_195 : decode cX14_segment 195 = .ok (.iconst 1, 1) := by decide +kernel
theorem dX14_segment_196 : decode cX14_segment 196 = .ok (.if_icmp .ne 7, 3) := by decide +kernel
theorem dX14_segment_199 : decode cX14_segment 199 = .ok (.iconst 1, 1) := by decide +kernel
theorem dX14_segment_200 : decode cX14_segment 200 = .ok (.goto 4, 3) := by decide +kernel
theorem dX14_segment_203 : decode cX14_segment 203 = .ok (.iconst 0, 1) := by decide +kernel
theorem dX14_segment_204 : decode cX14_segment 204 = .ok (.ireturn, 1) := by decide +kernel
theorem dX14_segment_205 : decode cX14_segment 205 = .ok (.iconst 0, 1) := by decide +kernel
theorem dX14_segment_206 : decode cX14_segment 206 = .ok (.ireturn, 1) := by decide +kernel
theorem kcX14_segment_133 : px_cV mX14_segment 133 mX14_two 0 := ⟨⟨mbX14_two, by decide, by decide⟩, Or.inl (tb8 (List.mem_of_getElem? (i := 163) rfl)), vbX14_two⟩
theorem kcX14_segment_136 : px_cV mX14_segment 136 mX14_must 1 := ⟨⟨mbX14_must, by decide, by decide⟩, Or.inl (tb8 (List.mem_of_getElem? (i := 171) rfl)), vbX14_must⟩
theorem mbX14_begun : px_mB mX14_begun 0 := ⟨tb8 (List.mem_of_getElem? (i := 162) rfl), by decide +kernel, tb1 (List.mem_of_getElem? (i := 14) rfl), by decide +kernel, by decide +kernel⟩
theorem vbX14_begun : px_vB mX14_begun := ⟨tb8 (List.mem_of_getElem? (i := 161) rfl), List.mem_append_left _ (List.mem_of_getElem? (i := 94) (by decide +kernel))⟩
theorem kcX14_segment_196 : px_cV mX14_segment 196 mX14_begun 0 := ⟨⟨mbX14_begun, by decide, by decide⟩, Or.inl (tb8 (List.mem_of_getElem? (i := 159) rfl)), vbX14_begun⟩
theorem mbX14_readQuantisers : px_mB mX14_readQuantisers 0 := ⟨tb8 (List.mem_of_getElem? (i := 170) rfl), by decide +kernel, tb1 (List.mem_of_getElem? (i := 14) rfl), by decide +kernel, by decide +kernel⟩
theorem vbX14_readQuantisers : px_vB mX14_readQuantisers := ⟨tb8 (List.mem_of_getElem? (i := 169) rfl), List.mem_append_left _ (List.mem_of_getElem? (i := 96) (by decide +kernel))⟩
theorem kcX14_segment_199 : px_cV mX14_segment 199 mX14_readQuantisers 0 := ⟨⟨mbX14_readQuantisers, by decide, by decide⟩, Or.inl (tb8 (List.mem_of_getElem? (i := 167) rfl)), vbX14_readQuantisers⟩
theorem mbX14_readWords : px_mB mX14_readWords 0 := ⟨tb8 (List.mem_of_getElem? (i := 178) rfl), by decide +kernel, tb1 (List.mem_of_getElem? (i := 14) rfl), by decide +kernel, by decide +kernel⟩
theorem vbX14_readWords : px_vB mX14_readWords := ⟨tb8 (List.mem_of_getElem? (i := 177) rfl), List.mem_append_left _ (List.mem_of_getElem? (i := 98) (by decide +kernel))⟩
theorem kcX14_segment_202 : px_cV mX14_segment 202 mX14_readWords 0 := ⟨⟨mbX14_readWords, by decide, by decide⟩, Or.inl (tb8 (List.mem_of_getElem? (i := 175) rfl)), vbX14_readWords⟩
theorem mbX14_readFrame : px_mB mX14_readFrame 1 := ⟨tb8 (List.mem_of_getElem? (i := 187) rfl), by decide +kernel, tb1 (List.mem_of_getElem? (i := 14) rfl), by decide +kernel, by decide +kernel⟩
theorem vbX14_readFrame : px_vB mX14_readFrame := ⟨tb8 (List.mem_of_getElem? (i := 186) rfl), List.mem_append_left _ (List.mem_of_getElem? (i := 100) (by decide +kernel))⟩
theorem kcX14_segment_205 : px_cV mX14_segment 205 mX14_readFrame 1 := ⟨⟨mbX14_readFrame, by decide, by decide⟩, Or.inl (tb8 (List.mem_of_getElem? (i := 184) rfl)), vbX14_readFrame⟩
theorem mbX14_readScan : px_mB mX14_readScan 0 := ⟨tb8 (List.mem_of_getElem? (i := 191) rfl), by decide +kernel, tb1 (List.mem_of_getElem? (i := 14) rfl), by decide +kernel, by decide +kernel⟩
theorem vbX14_readScan : px_vB mX14_readScan := ⟨tb8 (List.mem_of_getElem? (i := 190) rfl), List.mem_append_left _ (List.mem_of_getElem? (i := 101) (by decide +kernel))⟩
theorem kcX14_segment_208 : px_cV mX14_segment 208 mX14_readScan 0 := ⟨⟨mbX14_readScan, by decide, by decide⟩, Or.inl (tb8 (List.mem_of_getElem? (i := 188) rfl)), vbX14_readScan⟩
theorem mbX14_any : px_mB mX14_any 0 := ⟨tb8 (List.mem_of_getElem? (i := 207) rfl), by decide +kernel, tb1 (List.mem_of_getElem? (i := 14) rfl), by decide +kernel, by decide +kernel⟩
theorem vbX14_any : px_vB mX14_any := ⟨tb8 (List.mem_of_getElem? (i := 206) rfl), List.mem_append_left _ (List.mem_of_getElem? (i := 105) (by decide +kernel))⟩
theorem kcX14_segment_211 : px_cV mX14_segment 211 mX14_any 0 := ⟨⟨mbX14_any, by decide, by decide⟩, Or.inl (tb8 (List.mem_of_getElem? (i := 204) rfl)), vbX14_any⟩
theorem mbX14_close : px_mB mX14_close 1 := ⟨tb8 (List.mem_of_getElem? (i := 211) rfl), by decide +kernel, tb1 (List.mem_of_getElem? (i := 14) rfl), by decide +kernel, by decide +kernel⟩
theorem vbX14_close : px_vB mX14_close := ⟨tb8 (List.mem_of_getElem? (i := 210) rfl), List.mem_append_left _ (List.mem_of_getElem? (i := 106) (by decide +kernel))⟩
theorem kcX14_segment_214 : px_cV mX14_segment 214 mX14_close 1 := ⟨⟨mbX14_close, by decide, by decide⟩, Or.inl (tb8 (List.mem_of_getElem? (i := 208) rfl)), vbX14_close⟩
theorem mbX14_keepScan : px_mB mX14_keepScan 0 := ⟨tb8 (List.mem_of_getElem? (i := 215) rfl), by decide +kernel, tb1 (List.mem_of_getElem? (i := 14) rfl), by decide +kernel, by decide +kernel⟩
theorem vbX14_keepScan : px_vB mX14_keepScan := ⟨tb8 (List.mem_of_getElem? (i := 214) rfl), List.mem_append_left _ (List.mem_of_getElem? (i := 107) (by decide +kernel))⟩
theorem kcX14_segment_217 : px_cV mX14_segment 217 mX14_keepScan 0 := ⟨⟨mbX14_keepScan, by decide, by decide⟩, Or.inl (tb8 (List.mem_of_getElem? (i := 212) rfl)), vbX14_keepScan⟩
set_option maxRecDepth 100000 in
set_option maxHeartbeats 4000000 in
theorem eX14_segment_161 {X : px_X}  : ∀ (a0 : Nat) (a1 : Int32) (w : px_W) (q : Int32 × px_W), fX14_segment_161 X  a0 a1 w = some q → EV X mX14_segment 161 [(0, .ref a0), (1, .int a1)] [] w (some (.int q.1)) q.2 := by
  intro a0 a1 w q h
  unfold fX14_segment_161 at h
  refine EV.aload_n 0 dX14_segment_161 rfl rfl ?_
  refine EV.iload_n 1 dX14_segment_162 rfl rfl ?_
  obtain ⟨o32, go32, h⟩ := px_bs h
  obtain ⟨q33, gq33, h⟩ := px_bs h
  refine EV.callV (As := [.int a1]) (rest := []) dX14_segment_163 kcX14_segment_214 (gO_ok go32) rfl rfl rfl (Nat.le_of_ble_eq_true rfl) (Nat.le_of_ble_eq_true rfl) (eX14_close gq33) ?_
  refine EV.iload_n 1 dX14_segment_166 rfl rfl ?_
  refine EV.sipush (218) dX14_segment_167 (by decide) ?_
  refine EV.icmp_ne 205 dX14_segment_170 (by decide) (fun c34 => ?_) (fun c34 => ?_)
  · rw [if_neg c34] at h
    refine EV.iconst (0) dX14_segment_205 (by decide) ?_
    cases h
    exact EV.reti dX14_segment_206 rfl
  · rw [if_pos c34] at h
    refine EV.aload_n 0 dX14_segment_173 rfl rfl ?_
    obtain ⟨v35, gv35, h⟩ := px_bs h
    refine ev_gI dX14_segment_174 flRX14_100 gv35 ?_
    refine EV.if_ne 205 dX14_segment_177 (by decide) (fun c36 => ?_) (fun c36 => ?_)
    · rw [if_neg c36] at h
      refine EV.iconst (0) dX14_segment_205 (by decide) ?_
      cases h
      exact EV.reti dX14_segment_206 rfl
    · rw [if_pos c36] at h
      refine EV.aload_n 0 dX14_segment_180 rfl rfl ?_
      obtain ⟨o37, go37, h⟩ := px_bs h
      obtain ⟨q38, gq38, h⟩ := px_bs h
      refine EV.callV (As := []) (rest := []) dX14_segment_181 kcX14_segment_217 (gO_ok go37) rfl rfl rfl (Nat.le_of_ble_eq_true rfl) (Nat.le_of_ble_eq_true rfl) (eX14_keepScan gq38) ?_
      refine EV.aload_n 0 dX14_segment_184 rfl rfl ?_
      obtain ⟨v39, gv39, h⟩ := px_bs h
      refine ev_gI dX14_segment_185 flRX14_88 gv39 ?_
      refine EV.if_ne 203 dX14_segment_188 (by decide) (fun c40 => ?_) (fun c40 => ?_)
      · rw [if_neg c40] at h
        refine EV.iconst (0) dX14_segment_203 (by decide) ?_
        cases h
        exact EV.reti dX14_segment_204 rfl
      · rw [if_pos c40] at h
        refine EV.aload_n 0 dX14_segment_191 rfl rfl ?_
        obtain ⟨v41, gv41, h⟩ := px_bs h
        refine ev_gI dX14_segment_192 flRX14_97 gv41 ?_
        refine EV.iconst (1) dX14_segment_195 (by decide) ?_
        refine EV.icmp_ne 203 dX14_segment_196 (by decide) (fun c42 => ?_) (fun c42 => ?_)
        · rw [if_neg c42] at h
          refine EV.iconst (0) dX14_segment_203 (by decide) ?_
          cases h
          exact EV.reti dX14_segment_204 rfl
        · rw [if_pos c42] at h
          refine EV.iconst (1) dX14_segment_199 (by decide) ?_
          refine EV.goto 204 dX14_segment_200 (by decide) ?_
          cases h
          exact EV.reti dX14_segment_204 rfl
set_option maxRecDepth 100000 in
set_option maxHeartbeats 4000000 in
theorem eX14_segment_69 {X : px_X}  : ∀ (a0 : Nat) (a1 : Int32) (s0 : Int32) (s1 : Nat) (w : px_W) (q : Int32 × px_W), fX14_segment_69 X  a0 a1 s0 s1 w = some q → EV X mX14_segment 69 [(0, .ref a0), (1, .int a1)] [.int s0, .ref s1] w (some (.int q.1)) q.2 := by
  intro a0 a1 s0 s1 w q h
  unfold fX14_segment_69 at h
  obtain ⟨w43, gw43, h⟩ := px_bs h
  refine ev_pV dX14_segment_69 flRX14_94 rfl rfl rfl rfl gw43 ?_
  refine EV.goto 161 dX14_segment_72 (by decide) ?_
  refine EV.sub [0, 1] rfl ?_
  exact eX14_segment_161  _ _ _ _ h
set_option maxRecDepth 100000 in
set_option maxHeartbeats 4000000 in
theorem eX14_segment_89 {X : px_X}  : ∀ (a0 : Nat) (a1 : Int32) (w : px_W) (q : Int32 × px_W), fX14_segment_89 X  a0 a1 w = some q → EV X mX14_segment 89 [(0, .ref a0), (1, .int a1)] [] w (some (.int q.1)) q.2 := by
  intro a0 a1 w q h
  unfold fX14_segment_89 at h
  refine EV.aload_n 0 dX14_segment_89 rfl rfl ?_
  refine EV.iload_n 1 dX14_segment_90 rfl rfl ?_
  obtain ⟨o44, go44, h⟩ := px_bs h
  obtain ⟨q45, gq45, h⟩ := px_bs h
  refine EV.callV (As := [.int a1]) (rest := []) dX14_segment_91 kcX14_segment_205 (gO_ok go44) rfl rfl rfl (Nat.le_of_ble_eq_true rfl) (Nat.le_of_ble_eq_true rfl) (eX14_readFrame gq45) ?_
  refine EV.goto 161 dX14_segment_94 (by decide) ?_
  refine EV.sub [0, 1] rfl ?_
  exact eX14_segment_161  _ _ _ _ h
set_option maxRecDepth 100000 in
set_option maxHeartbeats 4000000 in
theorem eX14_segment_146 {X : px_X}  : ∀ (a0 : Nat) (a1 : Int32) (a2 : Int32) (s0 : Int32) (s1 : Nat) (w : px_W) (q : Int32 × px_W), fX14_segment_146 X  a0 a1 a2 s0 s1 w = some q → EV X mX14_segment 146 [(0, .ref a0), (1, .int a1), (2, .int a2)] [.int s0, .ref s1] w (some (.int q.1)) q.2 := by
  intro a0 a1 a2 s0 s1 w q h
  unfold fX14_segment_146 at h
  obtain ⟨o46, go46, h⟩ := px_bs h
  obtain ⟨q47, gq47, h⟩ := px_bs h
  refine EV.callV (As := [.int s0]) (rest := []) dX14_segment_146 kcX14_segment_136 (gO_ok go46) rfl rfl rfl (Nat.le_of_ble_eq_true rfl) (Nat.le_of_ble_eq_true rfl) (eX14_must gq47) ?_
  refine EV.aload_n 0 dX14_segment_149 rfl rfl ?_
  refine EV.iload_n 2 dX14_segment_150 rfl rfl ?_
  obtain ⟨w48, gw48, h⟩ := px_bs h
  refine ev_pV dX14_segment_151 flRX14_88 rfl rfl rfl rfl gw48 ?_
  refine EV.goto 161 dX14_segment_154 (by decide) ?_
  refine EV.sub [0, 1] rfl ?_
  exact eX14_segment_161  _ _ _ _ h
set_option maxRecDepth 100000 in
set_option maxHeartbeats 4000000 in
theorem eX14_segment_141 {X : px_X}  : ∀ (a0 : Nat) (a1 : Int32) (a2 : Int32) (s0 : Nat) (w : px_W) (q : Int32 × px_W), fX14_segment_141 X  a0 a1 a2 s0 w = some q → EV X mX14_segment 141 [(0, .ref a0), (1, .int a1), (2, .int a2)] [.ref s0] w (some (.int q.1)) q.2 := by
  intro a0 a1 a2 s0 w q h
  unfold fX14_segment_141 at h
  refine EV.iconst (1) dX14_segment_141 (by decide) ?_
  refine EV.goto 146 dX14_segment_142 (by decide) ?_
  refine EV.sub [0, 1, 2] rfl ?_
  exact eX14_segment_146  _ _ _ _ _ _ _ h
set_option maxRecDepth 100000 in
set_option maxHeartbeats 4000000 in
theorem eX14_segment_145 {X : px_X}  : ∀ (a0 : Nat) (a1 : Int32) (a2 : Int32) (s0 : Nat) (w : px_W) (q : Int32 × px_W), fX14_segment_145 X  a0 a1 a2 s0 w = some q → EV X mX14_segment 145 [(0, .ref a0), (1, .int a1), (2, .int a2)] [.ref s0] w (some (.int q.1)) q.2 := by
  intro a0 a1 a2 s0 w q h
  unfold fX14_segment_145 at h
  refine EV.iconst (0) dX14_segment_145 (by decide) ?_
  refine EV.sub [0, 1, 2] rfl ?_
  exact eX14_segment_146  _ _ _ _ _ _ _ h
set_option maxRecDepth 100000 in
set_option maxHeartbeats 4000000 in
theorem eX14_segment {X : px_X} {w : px_W} {a0 : Nat} {a1 : Int32} {q : Int32 × px_W} (h : fX14_segment X w a0 a1 = some q) : EV X mX14_segment 0 (lv_args 0 [.ref a0, .int a1]) [] w (some (.int q.1)) q.2 := by
  unfold fX14_segment at h
  show EV X mX14_segment 0 [(0, .ref a0), (1, .int a1)] [] w (some (.int q.1)) q.2
  refine EV.aload_n 0 dX14_segment_0 rfl rfl ?_
  obtain ⟨o49, go49, h⟩ := px_bs h
  obtain ⟨q50, gq50, h⟩ := px_bs h
  refine EV.callV (As := []) (rest := []) dX14_segment_1 kcX14_segment_196 (gO_ok go49) rfl rfl rfl (Nat.le_of_ble_eq_true rfl) (Nat.le_of_ble_eq_true rfl) (eX14_begun gq50) ?_
  refine EV.aload_n 0 dX14_segment_4 rfl rfl ?_
  obtain ⟨v51, gv51, h⟩ := px_bs h
  refine ev_gI dX14_segment_5 flRX14_100 gv51 ?_
  refine EV.if_le 13 dX14_segment_8 (by decide) (fun c52 => ?_) (fun c52 => ?_)
  · rw [if_pos c52] at h
    refine EV.iload_n 1 dX14_segment_13 rfl rfl ?_
    refine EV.sipush (219) dX14_segment_14 (by decide) ?_
    refine EV.icmp_ne 27 dX14_segment_17 (by decide) (fun c53 => ?_) (fun c53 => ?_)
    · rw [if_neg c53] at h
      refine EV.iload_n 1 dX14_segment_27 rfl rfl ?_
      refine EV.sipush (196) dX14_segment_28 (by decide) ?_
      refine EV.icmp_ne 41 dX14_segment_31 (by decide) (fun c54 => ?_) (fun c54 => ?_)
      · rw [if_neg c54] at h
        refine EV.iload_n 1 dX14_segment_41 rfl rfl ?_
        refine EV.sipush (221) dX14_segment_42 (by decide) ?_
        refine EV.icmp_ne 75 dX14_segment_45 (by decide) (fun c55 => ?_) (fun c55 => ?_)
        · rw [if_neg c55] at h
          refine EV.iload_n 1 dX14_segment_75 rfl rfl ?_
          refine EV.sipush (192) dX14_segment_76 (by decide) ?_
          refine EV.icmp_eq 89 dX14_segment_79 (by decide) (fun c56 => ?_) (fun c56 => ?_)
          · rw [if_pos c56] at h
            refine EV.sub [0, 1] rfl ?_
            exact eX14_segment_89  _ _ _ _ h
          · rw [if_neg c56] at h
            refine EV.iload_n 1 dX14_segment_82 rfl rfl ?_
            refine EV.sipush (194) dX14_segment_83 (by decide) ?_
            refine EV.icmp_ne 97 dX14_segment_86 (by decide) (fun c57 => ?_) (fun c57 => ?_)
            · rw [if_neg c57] at h
              refine EV.iload_n 1 dX14_segment_97 rfl rfl ?_
              refine EV.sipush (218) dX14_segment_98 (by decide) ?_
              refine EV.icmp_ne 111 dX14_segment_101 (by decide) (fun c58 => ?_) (fun c58 => ?_)
              · rw [if_neg c58] at h
                refine EV.iload_n 1 dX14_segment_111 rfl rfl ?_
                refine EV.sipush (220) dX14_segment_112 (by decide) ?_
                refine EV.icmp_ne 157 dX14_segment_115 (by decide) (fun c59 => ?_) (fun c59 => ?_)
                · rw [if_neg c59] at h
                  refine EV.aload_n 0 dX14_segment_157 rfl rfl ?_
                  obtain ⟨o60, go60, h⟩ := px_bs h
                  obtain ⟨q61, gq61, h⟩ := px_bs h
                  refine EV.callV (As := []) (rest := []) dX14_segment_158 kcX14_segment_211 (gO_ok go60) rfl rfl rfl (Nat.le_of_ble_eq_true rfl) (Nat.le_of_ble_eq_true rfl) (eX14_any gq61) ?_
                  refine EV.sub [0, 1] rfl ?_
                  exact eX14_segment_161  _ _ _ _ h
                · rw [if_pos c59] at h
                  refine EV.aload_n 0 dX14_segment_118 rfl rfl ?_
                  obtain ⟨o62, go62, h⟩ := px_bs h
                  obtain ⟨q63, gq63, h⟩ := px_bs h
                  refine EV.callV (As := []) (rest := []) dX14_segment_119 kcX14_segment_133 (gO_ok go62) rfl rfl rfl (Nat.le_of_ble_eq_true rfl) (Nat.le_of_ble_eq_true rfl) (eX14_two gq63) ?_
                  refine EV.istore_n [(2, .int q63.1), (0, .ref a0), (1, .int a1)] dX14_segment_122 rfl (by decide) rfl ?_
                  refine EV.aload_n 1 dX14_segment_123 rfl rfl ?_
                  refine EV.aload_n 1 dX14_segment_124 rfl rfl ?_
                  obtain ⟨v64, gv64, h⟩ := px_bs h
                  refine ev_gI dX14_segment_125 flRX14_100 gv64 ?_
                  refine EV.if_gt 141 dX14_segment_128 (by decide) (fun c65 => ?_) (fun c65 => ?_)
                  · rw [if_pos c65] at h
                    refine EV.sub [1, 2, 0] rfl ?_
                    exact eX14_segment_141  _ _ _ _ _ _ h
                  · rw [if_neg c65] at h
                    refine EV.iload_n 0 dX14_segment_131 rfl rfl ?_
                    refine EV.if_le 145 dX14_segment_132 (by decide) (fun c66 => ?_) (fun c66 => ?_)
                    · rw [if_pos c66] at h
                      refine EV.sub [1, 2, 0] rfl ?_
                      exact eX14_segment_145  _ _ _ _ _ _ h
                    · rw [if_neg c66] at h
                      refine EV.iload_n 0 dX14_segment_135 rfl rfl ?_
                      refine EV.bipush (64) dX14_segment_136 (by decide) ?_
                      refine EV.icmp_gt 145 dX14_segment_138 (by decide) (fun c67 => ?_) (fun c67 => ?_)
                      · rw [if_pos c67] at h
                        refine EV.sub [1, 2, 0] rfl ?_
                        exact eX14_segment_145  _ _ _ _ _ _ h
                      · rw [if_neg c67] at h
                        refine EV.sub [1, 2, 0] rfl ?_
                        exact eX14_segment_141  _ _ _ _ _ _ h
              · rw [if_pos c58] at h
                refine EV.aload_n 0 dX14_segment_104 rfl rfl ?_
                obtain ⟨o68, go68, h⟩ := px_bs h
                obtain ⟨q69, gq69, h⟩ := px_bs h
                refine EV.callV (As := []) (rest := []) dX14_segment_105 kcX14_segment_208 (gO_ok go68) rfl rfl rfl (Nat.le_of_ble_eq_true rfl) (Nat.le_of_ble_eq_true rfl) (eX14_readScan gq69) ?_
                refine EV.goto 161 dX14_segment_108 (by decide) ?_
                refine EV.sub [0, 1] rfl ?_
                exact eX14_segment_161  _ _ _ _ h
            · rw [if_pos c57] at h
              refine EV.sub [0, 1] rfl ?_
              exact eX14_segment_89  _ _ _ _ h
        · rw [if_pos c55] at h
          refine EV.aload_n 0 dX14_segment_48 rfl rfl ?_
          obtain ⟨o70, go70, h⟩ := px_bs h
          obtain ⟨q71, gq71, h⟩ := px_bs h
          refine EV.callV (As := []) (rest := []) dX14_segment_49 kcX14_segment_133 (gO_ok go70) rfl rfl rfl (Nat.le_of_ble_eq_true rfl) (Nat.le_of_ble_eq_true rfl) (eX14_two gq71) ?_
          refine EV.istore_n [(2, .int q71.1), (0, .ref a0), (1, .int a1)] dX14_segment_52 rfl (by decide) rfl ?_
          refine EV.aload_n 1 dX14_segment_53 rfl rfl ?_
          refine EV.aload_n 1 dX14_segment_54 rfl rfl ?_
          obtain ⟨v72, gv72, h⟩ := px_bs h
          refine ev_gI dX14_segment_55 flRX14_100 gv72 ?_
          refine EV.if_ne 65 dX14_segment_58 (by decide) (fun c73 => ?_) (fun c73 => ?_)
          · rw [if_neg c73] at h
            refine EV.aload_n 1 dX14_segment_65 rfl rfl ?_
            obtain ⟨v74, gv74, h⟩ := px_bs h
            refine ev_gI dX14_segment_66 flRX14_94 gv74 ?_
            refine EV.sub [1, 2] rfl ?_
            exact eX14_segment_69  _ _ _ _ _ _ h
          · rw [if_pos c73] at h
            refine EV.iload_n 0 dX14_segment_61 rfl rfl ?_
            refine EV.goto 69 dX14_segment_62 (by decide) ?_
            refine EV.sub [1, 2] rfl ?_
            exact eX14_segment_69  _ _ _ _ _ _ h
      · rw [if_pos c54] at h
        refine EV.aload_n 0 dX14_segment_34 rfl rfl ?_
        obtain ⟨o75, go75, h⟩ := px_bs h
        obtain ⟨q76, gq76, h⟩ := px_bs h
        refine EV.callV (As := []) (rest := []) dX14_segment_35 kcX14_segment_202 (gO_ok go75) rfl rfl rfl (Nat.le_of_ble_eq_true rfl) (Nat.le_of_ble_eq_true rfl) (eX14_readWords gq76) ?_
        refine EV.goto 161 dX14_segment_38 (by decide) ?_
        refine EV.sub [0, 1] rfl ?_
        exact eX14_segment_161  _ _ _ _ h
    · rw [if_pos c53] at h
      refine EV.aload_n 0 dX14_segment_20 rfl rfl ?_
      obtain ⟨o77, go77, h⟩ := px_bs h
      obtain ⟨q78, gq78, h⟩ := px_bs h
      refine EV.callV (As := []) (rest := []) dX14_segment_21 kcX14_segment_199 (gO_ok go77) rfl rfl rfl (Nat.le_of_ble_eq_true rfl) (Nat.le_of_ble_eq_true rfl) (eX14_readQuantisers gq78) ?_
      refine EV.goto 161 dX14_segment_24 (by decide) ?_
      refine EV.sub [0, 1] rfl ?_
      exact eX14_segment_161  _ _ _ _ h
  · rw [if_neg c52] at h
    refine EV.iconst (0) dX14_segment_11 (by decide) ?_
    cases h
    exact EV.reti dX14_segment_12 rfl
