/-! WavePictures$ScanWriter.writeOthers(ILWavePictures$BestTable;)V -/
theorem dX7_writeOthers_0 : decode cX7_writeOthers 0 = .ok (.iconst 0, 1) := by decide +kernel
theorem dX7_writeOthers_1 : decode cX7_writeOthers 1 = .ok (.istore_n 3, 1) := by decide +kernel
theorem dX7_writeOthers_2 : decode cX7_writeOthers 2 = .ok (.iconst 1, 1) := by decide +kernel
theorem dX7_writeOthers_3 : decode cX7_writeOthers 3 = .ok (.aload_n 0, 1) := by decide +kernel
theorem dX7_writeOthers_4 : decode cX7_writeOthers 4 = .ok (.getfield 21, 3) := by decide +kernel
theorem dX7_writeOthers_7 : decode cX7_writeOthers 7 = .ok (.getfield 79, 3) := by decide +kernel
theorem dX7_writeOthers_10 : decode cX7_writeOthers 10 = .ok (.invokestatic 142, 3) := by decide +kernel
theorem dX7_writeOthers_13 : decode cX7_writeOthers 13 = .ok (.istore 4, 2) := by decide +kernel
theorem dX7_writeOthers_15 : decode cX7_writeOthers 15 = .ok (.iload 4, 2) := by decide +kernel
theorem dX7_writeOthers_17 : decode cX7_writeOthers 17 = .ok (.aload_n 0, 1) := by decide +kernel
theorem dX7_writeOthers_18 : decode cX7_writeOthers 18 = .ok (.getfield 21, 3) := by decide +kernel
theorem dX7_writeOthers_21 : decode cX7_writeOthers 21 = .ok (.getfield 86, 3) := by decide +kernel
theorem dX7_writeOthers_24 : decode cX7_writeOthers 24 = .ok (.if_icmp .gt 113, 3) := by decide +kernel
theorem dX7_writeOthers_27 : decode cX7_writeOthers 27 = .ok (.aload_n 0, 1) := by decide +kernel
theorem dX7_writeOthers_28 : decode cX7_writeOthers 28 = .ok (.getfield 33, 3) := by decide +kernel
theorem dX7_writeOthers_31 : decode cX7_writeOthers 31 = .ok (.getfield 123, 3) := by decide +kernel
theorem dX7_writeOthers_34 : decode cX7_writeOthers 34 = .ok (.iload_n 1, 1) := by decide +kernel
theorem dX7_writeOthers_35 : decode cX7_writeOthers 35 = .ok (.iload 4, 2) := by decide +kernel
theorem dX7_writeOthers_37 : decode cX7_writeOthers 37 = .ok (.iadd, 1) := by decide +kernel
theorem dX7_writeOthers_38 : decode cX7_writeOthers 38 = .ok (.iaload, 1) := by decide +kernel
theorem dX7_writeOthers_39 : decode cX7_writeOthers 39 = .ok (.istore 5, 2) := by decide +kernel
theorem dX7_writeOthers_41 : decode cX7_writeOthers 41 = .ok (.iload 5, 2) := by decide +kernel
theorem dX7_writeOthers_43 : decode cX7_writeOthers 43 = .ok (.invokestatic 148, 3) := by decide +kernel
theorem dX7_writeOthers_46 : decode cX7_writeOthers 46 = .ok (.aload_n 0, 1) := by decide +kernel
theorem dX7_writeOthers_47 : decode cX7_writeOthers 47 = .ok (.getfield 21, 3) := by decide +kernel
theorem dX7_writeOthers_50 : decode cX7_writeOthers 50 = .ok (.getfield 128, 3) := by decide +kernel
theorem dX7_writeOthers_53 : decode cX7_writeOthers 53 = .ok (.ishr, 1) := by decide +kernel
theorem dX7_writeOthers_54 : decode cX7_writeOthers 54 = .ok (.istore 6, 2) := by decide +kernel
theorem dX7_writeOthers_56 : decode cX7_writeOthers 56 = .ok (.iload 6, 2) := by decide +kernel
theorem dX7_writeOthers_58 : decode cX7_writeOthers 58 = .ok (.ifCond .ne 9, 3) := by decide +kernel
theorem dX7_writeOthers_61 : decode cX7_writeOthers 61 = .ok (.iinc 3 1, 3) := by decide +kernel
theorem dX7_writeOthers_64 : decode cX7_writeOthers 64 = .ok (.goto 67, 3) := by decide +kernel
theorem dX7_writeOthers_67 : decode cX7_writeOthers 67 = .ok (.aload_n 0, 1) := by decide +kernel
theorem dX7_writeOthers_68 : decode cX7_writeOthers 68 = .ok (.aload_n 2, 1) := by decide +kernel
theorem dX7_writeOthers_69 : decode cX7_writeOthers 69 = .ok (.invokevirtual 100, 3) := by decide +kernel
theorem dX7_writeOthers_72 : decode cX7_writeOthers 72 = .ok (.iload_n 3, 1) := by decide +kernel
theorem dX7_writeOthers_73 : decode cX7_writeOthers 73 = .ok (.bipush 15, 2) := by decide +kernel
theorem dX7_writeOthers_75 : decode cX7_writeOthers 75 = .ok (.if_icmp .le 17, 3) := by decide +kernel
theorem dX7_writeOthers_78 : decode cX7_writeOthers 78 = .ok (.aload_n 0, 1) := by decide +kernel
theorem dX7_writeOthers_79 : decode cX7_writeOthers 79 = .ok (.aload_n 2, 1) := by decide +kernel
theorem dX7_writeOthers_80 : decode cX7_writeOthers 80 = .ok (.sipush 240, 3) := by decide +kernel
theorem dX7_writeOthers_83 : decode cX7_writeOthers 83 = .ok (.invokevirtual 135, 3) := by decide +kernel
theorem dX7_writeOthers_86 : decode cX7_writeOthers 86 = .ok (.iinc 3 (-16), 3) := by decide +kernel
theorem dX7_writeOthers_89 : decode cX7_writeOthers 89 = .ok (.goto (-17), 3) := by decide +kernel
theorem dX7_writeOthers_92 : decode cX7_writeOthers 92 = .ok (.aload_n 0, 1) := by decide +kernel
theorem dX7_writeOthers_93 : decode cX7_writeOthers 93 = .ok (.aload_n 2, 1) := by decide +kernel
theorem dX7_writeOthers_94 : decode cX7_writeOthers 94 = .ok (.bipush 16, 2) := by decide +kernel
theorem dX7_writeOthers_96 : decode cX7_writeOthers 96 = .ok (.iload_n 3, 1) := by decide +kernel
theorem dX7_writeOthers_97 : decode cX7_writeOthers 97 = .ok (.imul, 1) := by decide +kernel
theorem dX7_writeOthers_98 : decode cX7_writeOthers 98 = .ok (.iload 6, 2) := by decide +kernel
theorem dX7_writeOthers_100 : decode cX7_writeOthers 100 = .ok (.invokestatic 131, 3) := by decide +kernel
theorem dX7_writeOthers_103 : decode cX7_writeOthers 103 = .ok (.iadd, 1) := by decide +kernel
theorem dX7_writeOthers_104 : decode cX7_writeOthers 104 = .ok (.invokevirtual 135, 3) := by decide +kernel
theorem dX7_writeOthers_107 : decode cX7_writeOthers 107 = .ok (.aload_n 0, 1) := by decide +kernel
theorem dX7_writeOthers_108 : decode cX7_writeOthers 108 = .ok (.iload 5, 2) := by decide +kernel
theorem dX7_writeOthers_110 : decode cX7_writeOthers 110 = .ok (.ifCond .le 8, 3) := by decide +kernel
theorem dX7_writeOthers_113 : decode cX7_writeOthers 113 = .ok (.iload 6, 2) := by decide +kernel
theorem dX7_writeOthers_115 : decode cX7_writeOthers 115 = .ok (.goto 6, 3) := by decide +kernel
theorem dX7_writeOthers_118 : decode cX7_writeOthers 118 = .ok (.iload 6, 2) := by decide +kernel
theorem dX7_writeOthers_120 : decode cX7_writeOthers 120 = .ok (.ineg, 1) := by decide +kernel
theorem dX7_writeOthers_121 : decode cX7_writeOthers 121 = .ok (.iload 6, 2) := by decide +kernel
theorem dX7_writeOthers_123 : decode cX7_writeOthers 123 = .ok (.invokestatic 131, 3) := by decide +kernel
theorem dX7_writeOthers_126 : decode cX7_writeOthers 126 = .ok (.invokevirtual 139, 3) := by decide +kernel
theorem dX7_writeOthers_129 : decode cX7_writeOthers 129 = .ok (.iconst 0, 1) := by decide +kernel
theorem dX7_writeOthers_130 : decode cX7_writeOthers 130 = .ok (.istore_n 3, 1) := by decide +kernel
theorem dX7_writeOthers_131 : decode cX7_writeOthers 131 = .ok (.iinc 4 1, 3) := by decide +kernel
theorem dX7_writeOthers_134 : decode cX7_writeOthers 134 = .ok (.goto (-119), 3) := by decide +kernel
theorem dX7_writeOthers_137 : decode cX7_writeOthers 137 = .ok (.iload_n 3, 1) := by decide +kernel
theorem dX7_writeOthers_138 : decode cX7_writeOthers 138 = .ok (.ifCond .le 22, 3) := by decide +kernel
theorem dX7_writeOthers_141 : decode cX7_writeOthers 141 = .ok (.aload_n 0, 1) := by decide +kernel
theorem dX7_writeOthers_142 : decode cX7_writeOthers 142 = .ok (.getfield 21, 3) := by decide +kernel
theorem dX7_writeOthers_145 : decode cX7_writeOthers 145 = .ok (.invokevirtual 151, 3) := by decide +kernel
theorem dX7_writeOthers_148 : decode cX7_writeOthers 148 = .ok (.ifCond .eq 12, 3) := by decide +kernel
theorem dX7_writeOthers_151 : decode cX7_writeOthers 151 = .ok (.aload_n 0, 1) := by decide +kernel
theorem dX7_writeOthers_152 : decode cX7_writeOthers 152 = .ok (.aload_n 2, 1) := by decide +kernel
theorem dX7_writeOthers_153 : decode cX7_writeOthers 153 = .ok (.iconst 0, 1) := by decide +kernel
theorem dX7_writeOthers_154 : decode cX7_writeOthers 154 = .ok (.invokevirtual 135, 3) := by decide +kernel
theorem dX7_writeOthers_157 : decode cX7_writeOthers 157 = .ok (.goto 11, 3) := by decide +kernel
theorem dX7_writeOthers_160 : decode cX7_writeOthers 160 = .ok (.iload_n 3, 1) := by decide +kernel
theorem dX7_writeOthers_161 : decode cX7_writeOthers 161 = .ok (.ifCond .le 7, 3) := by decide +kernel
theorem dX7_writeOthers_164 : decode cX7_writeOthers 164 = .ok (.aload_n 0, 1) := by decide +kernel
theorem dX7_writeOthers_165 : decode cX7_writeOthers 165 = .ok (.invokevirtual 154, 3) := by decide +kernel
theorem dX7_writeOthers_168 : decode cX7_writeOthers 168 = .ok (.aload_n 0, 1) := by decide +kernel
theorem dX7_writeOthers_169 : decode cX7_writeOthers 169 = .ok (.invokevirtual 157, 3) := by decide +kernel
theorem dX7_writeOthers_172 : decode cX7_writeOthers 172 = .ok (.ifCond .eq 8, 3) := by decide +kernel
theorem dX7_writeOthers_175 : decode cX7_writeOthers 175 = .ok (.aload_n 0, 1) := by decide +kernel
theorem dX7_writeOthers_176 : decode cX7_writeOthers 176 = .ok (.aload_n 2, 1) := by decide +kernel
theorem dX7_writeOthers_177 : decode cX7_writeOthers 177 = .ok (.invokevirtual 100, 3) := by decide +kernel
theorem dX7_writeOthers_180 : decode cX7_writeOthers 180 = .ok (.return_, 1) := by decide +kernel
theorem kcX7_writeOthers_100 : px_cV mX7_writeOthers 100 mX7_sendRun 1 := ⟨⟨mbX7_sendRun, by decide, by decide⟩, Or.inl (tb4 (List.mem_of_getElem? (i := 236) rfl)), vbX7_sendRun⟩
theorem kcX7_writeOthers_131 : px_cS mX7_writeOthers 131 mX11_sizeOf 1 := ⟨⟨mbX11_sizeOf, by decide, by decide⟩, Or.inr ⟨"WavePictures", tT5 (List.mem_of_getElem? (i := 0) rfl)⟩, tb5 (List.mem_of_getElem? (i := 1) rfl)⟩
theorem kcX7_writeOthers_135 : px_cV mX7_writeOthers 135 mX7_putWord 2 := ⟨⟨mbX7_putWord, by decide, by decide⟩, Or.inl (tb5 (List.mem_of_getElem? (i := 8) rfl)), vbX7_putWord⟩
theorem kcX7_writeOthers_139 : px_cV mX7_writeOthers 139 mX7_putNumber 2 := ⟨⟨mbX7_putNumber, by decide, by decide⟩, Or.inl (tb5 (List.mem_of_getElem? (i := 27) rfl)), vbX7_putNumber⟩
theorem mbX5_isWhole : px_mB mX5_isWhole 0 := ⟨tb4 (List.mem_of_getElem? (i := 166) rfl), by decide +kernel, tb1 (List.mem_of_getElem? (i := 7) rfl), by decide +kernel, by decide +kernel⟩
theorem vbX5_isWhole : px_vB mX5_isWhole := ⟨tb4 (List.mem_of_getElem? (i := 164) rfl), tb4 (List.mem_of_getElem? (i := 165) rfl)⟩
theorem kcX7_writeOthers_151 : px_cV mX7_writeOthers 151 mX5_isWhole 0 := ⟨⟨mbX5_isWhole, by decide, by decide⟩, Or.inl (tb5 (List.mem_of_getElem? (i := 57) rfl)), vbX5_isWhole⟩
theorem kcX7_writeOthers_154 : px_cV mX7_writeOthers 154 mX7_lengthenRun 0 := ⟨⟨mbX7_lengthenRun, by decide, by decide⟩, Or.inl (tb5 (List.mem_of_getElem? (i := 44) rfl)), vbX7_lengthenRun⟩
theorem kcX7_writeOthers_157 : px_cV mX7_writeOthers 157 mX7_isRunFull 0 := ⟨⟨mbX7_isRunFull, by decide, by decide⟩, Or.inl (tb5 (List.mem_of_getElem? (i := 48) rfl)), vbX7_isRunFull⟩
set_option maxRecDepth 100000 in
set_option maxHeartbeats 4000000 in
theorem eX7_writeOthers_131 {X : px_X} {k15 : Nat → Int32 → Nat → Int32 → Int32 → px_W → Option (px_W)} (hk15 : ∀ (a0 : Nat) (a1 : Int32) (a2 : Nat) (a3 : Int32) (a4 : Int32) (w : px_W) (q : px_W), k15 a0 a1 a2 a3 a4 w = some q → EV X mX7_writeOthers 15 [(0, .ref a0), (1, .int a1), (2, .ref a2), (3, .int a3), (4, .int a4)] [] w none q) : ∀ (a0 : Nat) (a1 : Int32) (a2 : Nat) (a3 : Int32) (a4 : Int32) (w : px_W) (q : px_W), fX7_writeOthers_131 X k15 a0 a1 a2 a3 a4 w = some q → EV X mX7_writeOthers 131 [(0, .ref a0), (1, .int a1), (2, .ref a2), (3, .int a3), (4, .int a4)] [] w none q := by
  intro a0 a1 a2 a3 a4 w q h
  unfold fX7_writeOthers_131 at h
  refine EV.iinc 4 (a4 + 1) [(4, .int (a4 + 1)), (0, .ref a0), (1, .int a1), (2, .ref a2), (3, .int a3)] dX7_writeOthers_131 rfl rfl (by decide) rfl ?_
  refine EV.goto 15 dX7_writeOthers_134 (by decide) ?_
  refine EV.sub [1, 2, 3, 4, 0] rfl ?_
  exact hk15 _ _ _ _ _ _ _ h
set_option maxRecDepth 100000 in
set_option maxHeartbeats 4000000 in
theorem eX7_writeOthers_121 {X : px_X} {k15 : Nat → Int32 → Nat → Int32 → Int32 → px_W → Option (px_W)} (hk15 : ∀ (a0 : Nat) (a1 : Int32) (a2 : Nat) (a3 : Int32) (a4 : Int32) (w : px_W) (q : px_W), k15 a0 a1 a2 a3 a4 w = some q → EV X mX7_writeOthers 15 [(0, .ref a0), (1, .int a1), (2, .ref a2), (3, .int a3), (4, .int a4)] [] w none q) : ∀ (a0 : Nat) (a1 : Int32) (a2 : Nat) (a4 : Int32) (a6 : Int32) (s0 : Int32) (s1 : Nat) (w : px_W) (q : px_W), fX7_writeOthers_121 X k15 a0 a1 a2 a4 a6 s0 s1 w = some q → EV X mX7_writeOthers 121 [(0, .ref a0), (1, .int a1), (2, .ref a2), (4, .int a4), (6, .int a6)] [.int s0, .ref s1] w none q := by
  intro a0 a1 a2 a4 a6 s0 s1 w q h
  unfold fX7_writeOthers_121 at h
  refine EV.iload 4 dX7_writeOthers_121 rfl ?_
  obtain ⟨q31, gq31, h⟩ := px_bs h
  refine EV.callS (As := [.int a6]) (rest := [.int s0, .ref s1]) dX7_writeOthers_123 kcX7_writeOthers_131 rfl (Nat.le_of_ble_eq_true rfl) (Nat.le_of_ble_eq_true rfl) (eX11_sizeOf gq31) ?_
  obtain ⟨o32, go32, h⟩ := px_bs h
  obtain ⟨q33, gq33, h⟩ := px_bs h
  refine EV.callV (As := [.int s0, .int q31.1]) (rest := []) dX7_writeOthers_126 kcX7_writeOthers_139 (gO_ok go32) rfl rfl rfl (Nat.le_of_ble_eq_true rfl) (Nat.le_of_ble_eq_true rfl) (eX7_putNumber gq33) ?_
  refine EV.iconst (0) dX7_writeOthers_129 (by decide) ?_
  refine EV.istore_n [(3, .int 0), (0, .ref a0), (1, .int a1), (2, .ref a2), (4, .int a4), (6, .int a6)] dX7_writeOthers_130 rfl (by decide) rfl ?_
  refine EV.sub [1, 2, 3, 0, 4] rfl ?_
  exact eX7_writeOthers_131 hk15 _ _ _ _ _ _ _ h
set_option maxRecDepth 100000 in
set_option maxHeartbeats 4000000 in
theorem eX7_writeOthers_92 {X : px_X} {k15 : Nat → Int32 → Nat → Int32 → Int32 → px_W → Option (px_W)} (hk15 : ∀ (a0 : Nat) (a1 : Int32) (a2 : Nat) (a3 : Int32) (a4 : Int32) (w : px_W) (q : px_W), k15 a0 a1 a2 a3 a4 w = some q → EV X mX7_writeOthers 15 [(0, .ref a0), (1, .int a1), (2, .ref a2), (3, .int a3), (4, .int a4)] [] w none q) : ∀ (a0 : Nat) (a1 : Int32) (a2 : Nat) (a3 : Int32) (a4 : Int32) (a5 : Int32) (a6 : Int32) (w : px_W) (q : px_W), fX7_writeOthers_92 X k15 a0 a1 a2 a3 a4 a5 a6 w = some q → EV X mX7_writeOthers 92 [(0, .ref a0), (1, .int a1), (2, .ref a2), (3, .int a3), (4, .int a4), (5, .int a5), (6, .int a6)] [] w none q := by
  intro a0 a1 a2 a3 a4 a5 a6 w q h
  unfold fX7_writeOthers_92 at h
  refine EV.aload_n 0 dX7_writeOthers_92 rfl rfl ?_
  refine EV.aload_n 2 dX7_writeOthers_93 rfl rfl ?_
  refine EV.bipush (16) dX7_writeOthers_94 (by decide) ?_
  refine EV.iload_n 3 dX7_writeOthers_96 rfl rfl ?_
  refine EV.imul dX7_writeOthers_97 ?_
  refine EV.iload 6 dX7_writeOthers_98 rfl ?_
  obtain ⟨q34, gq34, h⟩ := px_bs h
  refine EV.callS (As := [.int a6]) (rest := [.int (16 * a3), .ref a2, .ref a0]) dX7_writeOthers_100 kcX7_writeOthers_131 rfl (Nat.le_of_ble_eq_true rfl) (Nat.le_of_ble_eq_true rfl) (eX11_sizeOf gq34) ?_
  refine EV.iadd dX7_writeOthers_103 ?_
  obtain ⟨o35, go35, h⟩ := px_bs h
  obtain ⟨q36, gq36, h⟩ := px_bs h
  refine EV.callV (As := [.ref a2, .int ((16 * a3) + q34.1)]) (rest := []) dX7_writeOthers_104 kcX7_writeOthers_135 (gO_ok go35) rfl rfl rfl (Nat.le_of_ble_eq_true rfl) (Nat.le_of_ble_eq_true rfl) (eX7_putWord gq36) ?_
  refine EV.aload_n 0 dX7_writeOthers_107 rfl rfl ?_
  refine EV.iload 5 dX7_writeOthers_108 rfl ?_
  refine EV.if_le 118 dX7_writeOthers_110 (by decide) (fun c37 => ?_) (fun c37 => ?_)
  · rw [if_pos c37] at h
    refine EV.iload 6 dX7_writeOthers_118 rfl ?_
    refine EV.ineg dX7_writeOthers_120 ?_
    refine EV.sub [0, 1, 2, 4, 6] rfl ?_
    exact eX7_writeOthers_121 hk15 _ _ _ _ _ _ _ _ _ h
  · rw [if_neg c37] at h
    refine EV.iload 6 dX7_writeOthers_113 rfl ?_
    refine EV.goto 121 dX7_writeOthers_115 (by decide) ?_
    refine EV.sub [0, 1, 2, 4, 6] rfl ?_
    exact eX7_writeOthers_121 hk15 _ _ _ _ _ _ _ _ _ h
set_option maxRecDepth 100000 in
set_option maxHeartbeats 4000000 in
theorem eX7_writeOthers_72 {X : px_X} {k15 : Nat → Int32 → Nat → Int32 → Int32 → px_W → Option (px_W)} (hk15 : ∀ (a0 : Nat) (a1 : Int32) (a2 : Nat) (a3 : Int32) (a4 : Int32) (w : px_W) (q : px_W), k15 a0 a1 a2 a3 a4 w = some q → EV X mX7_writeOthers 15 [(0, .ref a0), (1, .int a1), (2, .ref a2), (3, .int a3), (4, .int a4)] [] w none q) : ∀ (m : Nat) (a0 : Nat) (a1 : Int32) (a2 : Nat) (a3 : Int32) (a4 : Int32) (a5 : Int32) (a6 : Int32) (w : px_W) (q : px_W), fX7_writeOthers_72 X k15 m a0 a1 a2 a3 a4 a5 a6 w = some q → EV X mX7_writeOthers 72 [(0, .ref a0), (1, .int a1), (2, .ref a2), (3, .int a3), (4, .int a4), (5, .int a5), (6, .int a6)] [] w none q := by
  intro m
  induction m with
  | zero => intro a0 a1 a2 a3 a4 a5 a6 w q h; cases h
  | succ m ih =>
    intro a0 a1 a2 a3 a4 a5 a6 w q h
    rw [fX7_writeOthers_72.eq_2] at h
    refine EV.iload_n 3 dX7_writeOthers_72 rfl rfl ?_
    refine EV.bipush (15) dX7_writeOthers_73 (by decide) ?_
    refine EV.icmp_le 92 dX7_writeOthers_75 (by decide) (fun c38 => ?_) (fun c38 => ?_)
    · rw [if_pos c38] at h
      refine EV.sub [0, 1, 2, 3, 4, 5, 6] rfl ?_
      exact eX7_writeOthers_92 hk15 _ _ _ _ _ _ _ _ _ h
    · rw [if_neg c38] at h
      refine EV.aload_n 0 dX7_writeOthers_78 rfl rfl ?_
      refine EV.aload_n 2 dX7_writeOthers_79 rfl rfl ?_
      refine EV.sipush (240) dX7_writeOthers_80 (by decide) ?_
      obtain ⟨o39, go39, h⟩ := px_bs h
      obtain ⟨q40, gq40, h⟩ := px_bs h
      refine EV.callV (As := [.ref a2, .int 240]) (rest := []) dX7_writeOthers_83 kcX7_writeOthers_135 (gO_ok go39) rfl rfl rfl (Nat.le_of_ble_eq_true rfl) (Nat.le_of_ble_eq_true rfl) (eX7_putWord gq40) ?_
      refine EV.iinc 3 (a3 + (-16)) [(3, .int (a3 + (-16))), (0, .ref a0), (1, .int a1), (2, .ref a2), (4, .int a4), (5, .int a5), (6, .int a6)] dX7_writeOthers_86 rfl rfl (by decide) rfl ?_
      refine EV.goto 72 dX7_writeOthers_89 (by decide) ?_
      refine EV.sub [1, 2, 3, 0, 4, 5, 6] rfl ?_
      exact ih _ _ _ _ _ _ _ _ _ h
set_option maxRecDepth 100000 in
set_option maxHeartbeats 4000000 in
theorem eX7_writeOthers_168 {X : px_X}  : ∀ (a0 : Nat) (a2 : Nat) (w : px_W) (q : px_W), fX7_writeOthers_168 X  a0 a2 w = some q → EV X mX7_writeOthers 168 [(0, .ref a0), (2, .ref a2)] [] w none q := by
  intro a0 a2 w q h
  unfold fX7_writeOthers_168 at h
  refine EV.aload_n 0 dX7_writeOthers_168 rfl rfl ?_
  obtain ⟨o41, go41, h⟩ := px_bs h
  obtain ⟨q42, gq42, h⟩ := px_bs h
  refine EV.callV (As := []) (rest := []) dX7_writeOthers_169 kcX7_writeOthers_157 (gO_ok go41) rfl rfl rfl (Nat.le_of_ble_eq_true rfl) (Nat.le_of_ble_eq_true rfl) (eX7_isRunFull gq42) ?_
  refine EV.if_eq 180 dX7_writeOthers_172 (by decide) (fun c43 => ?_) (fun c43 => ?_)
  · rw [if_pos c43] at h
    cases h
    exact EV.ret0 dX7_writeOthers_180 trivial
  · rw [if_neg c43] at h
    refine EV.aload_n 0 dX7_writeOthers_175 rfl rfl ?_
    refine EV.aload_n 1 dX7_writeOthers_176 rfl rfl ?_
    obtain ⟨o44, go44, h⟩ := px_bs h
    obtain ⟨q45, gq45, h⟩ := px_bs h
    refine EV.callV (As := [.ref a2]) (rest := []) dX7_writeOthers_177 kcX7_writeOthers_100 (gO_ok go44) rfl rfl rfl (Nat.le_of_ble_eq_true rfl) (Nat.le_of_ble_eq_true rfl) (eX7_sendRun gq45) ?_
    cases h
    exact EV.ret0 dX7_writeOthers_180 trivial
set_option maxRecDepth 100000 in
set_option maxHeartbeats 4000000 in
theorem eX7_writeOthers_160 {X : px_X}  : ∀ (a0 : Nat) (a2 : Nat) (a3 : Int32) (w : px_W) (q : px_W), fX7_writeOthers_160 X  a0 a2 a3 w = some q → EV X mX7_writeOthers 160 [(0, .ref a0), (2, .ref a2), (3, .int a3)] [] w none q := by
  intro a0 a2 a3 w q h
  unfold fX7_writeOthers_160 at h
  refine EV.iload_n 2 dX7_writeOthers_160 rfl rfl ?_
  refine EV.if_le 168 dX7_writeOthers_161 (by decide) (fun c46 => ?_) (fun c46 => ?_)
  · rw [if_pos c46] at h
    refine EV.sub [0, 1] rfl ?_
    exact eX7_writeOthers_168  _ _ _ _ h
  · rw [if_neg c46] at h
    refine EV.aload_n 0 dX7_writeOthers_164 rfl rfl ?_
    obtain ⟨o47, go47, h⟩ := px_bs h
    obtain ⟨q48, gq48, h⟩ := px_bs h
    refine EV.callV (As := []) (rest := []) dX7_writeOthers_165 kcX7_writeOthers_154 (gO_ok go47) rfl rfl rfl (Nat.le_of_ble_eq_true rfl) (Nat.le_of_ble_eq_true rfl) (eX7_lengthenRun gq48) ?_
    refine EV.sub [0, 1] rfl ?_
    exact eX7_writeOthers_168  _ _ _ _ h
set_option maxRecDepth 100000 in
set_option maxHeartbeats 4000000 in
theorem eX7_writeOthers_137 {X : px_X}  : ∀ (a0 : Nat) (a2 : Nat) (a3 : Int32) (w : px_W) (q : px_W), fX7_writeOthers_137 X  a0 a2 a3 w = some q → EV X mX7_writeOthers 137 [(0, .ref a0), (2, .ref a2), (3, .int a3)] [] w none q := by
  intro a0 a2 a3 w q h
  unfold fX7_writeOthers_137 at h
  refine EV.iload_n 2 dX7_writeOthers_137 rfl rfl ?_
  refine EV.if_le 160 dX7_writeOthers_138 (by decide) (fun c49 => ?_) (fun c49 => ?_)
  · rw [if_pos c49] at h
    refine EV.sub [0, 1, 2] rfl ?_
    exact eX7_writeOthers_160  _ _ _ _ _ h
  · rw [if_neg c49] at h
    refine EV.aload_n 0 dX7_writeOthers_141 rfl rfl ?_
    obtain ⟨v50, gv50, h⟩ := px_bs h
    refine ev_gR dX7_writeOthers_142 flRX7_21 gv50 ?_
    obtain ⟨o51, go51, h⟩ := px_bs h
    obtain ⟨q52, gq52, h⟩ := px_bs h
    refine EV.callV (As := []) (rest := []) dX7_writeOthers_145 kcX7_writeOthers_151 (gO_ok go51) rfl rfl rfl (Nat.le_of_ble_eq_true rfl) (Nat.le_of_ble_eq_true rfl) (eX5_isWhole gq52) ?_
    refine EV.if_eq 160 dX7_writeOthers_148 (by decide) (fun c53 => ?_) (fun c53 => ?_)
    · rw [if_pos c53] at h
      refine EV.sub [0, 1, 2] rfl ?_
      exact eX7_writeOthers_160  _ _ _ _ _ h
    · rw [if_neg c53] at h
      refine EV.aload_n 0 dX7_writeOthers_151 rfl rfl ?_
      refine EV.aload_n 1 dX7_writeOthers_152 rfl rfl ?_
      refine EV.iconst (0) dX7_writeOthers_153 (by decide) ?_
      obtain ⟨o54, go54, h⟩ := px_bs h
      obtain ⟨q55, gq55, h⟩ := px_bs h
      refine EV.callV (As := [.ref a2, .int 0]) (rest := []) dX7_writeOthers_154 kcX7_writeOthers_135 (gO_ok go54) rfl rfl rfl (Nat.le_of_ble_eq_true rfl) (Nat.le_of_ble_eq_true rfl) (eX7_putWord gq55) ?_
      refine EV.goto 168 dX7_writeOthers_157 (by decide) ?_
      refine EV.sub [0, 1] rfl ?_
      exact eX7_writeOthers_168  _ _ _ _ h
set_option maxRecDepth 100000 in
set_option maxHeartbeats 4000000 in
theorem eX7_writeOthers_15 {X : px_X}  : ∀ (m : Nat) (a0 : Nat) (a1 : Int32) (a2 : Nat) (a3 : Int32) (a4 : Int32) (w : px_W) (q : px_W), fX7_writeOthers_15 X  m a0 a1 a2 a3 a4 w = some q → EV X mX7_writeOthers 15 [(0, .ref a0), (1, .int a1), (2, .ref a2), (3, .int a3), (4, .int a4)] [] w none q := by
  intro m
  induction m with
  | zero => intro a0 a1 a2 a3 a4 w q h; cases h
  | succ m ih =>
    intro a0 a1 a2 a3 a4 w q h
    rw [fX7_writeOthers_15.eq_2] at h
    refine EV.iload 4 dX7_writeOthers_15 rfl ?_
    refine EV.aload_n 0 dX7_writeOthers_17 rfl rfl ?_
    obtain ⟨v56, gv56, h⟩ := px_bs h
    refine ev_gR dX7_writeOthers_18 flRX7_21 gv56 ?_
    obtain ⟨v57, gv57, h⟩ := px_bs h
    refine ev_gI dX7_writeOthers_21 flRX7_86 gv57 ?_
    refine EV.icmp_gt 137 dX7_writeOthers_24 (by decide) (fun c58 => ?_) (fun c58 => ?_)
    · rw [if_pos c58] at h
      refine EV.sub [0, 2, 3] rfl ?_
      exact eX7_writeOthers_137  _ _ _ _ _ h
    · rw [if_neg c58] at h
      refine EV.aload_n 0 dX7_writeOthers_27 rfl rfl ?_
      obtain ⟨v59, gv59, h⟩ := px_bs h
      refine ev_gR dX7_writeOthers_28 flRX7_33 gv59 ?_
      obtain ⟨v60, gv60, h⟩ := px_bs h
      refine ev_gR dX7_writeOthers_31 flRX7_123 gv60 ?_
      refine EV.iload_n 1 dX7_writeOthers_34 rfl rfl ?_
      refine EV.iload 4 dX7_writeOthers_35 rfl ?_
      refine EV.iadd dX7_writeOthers_37 ?_
      obtain ⟨v61, gv61, h⟩ := px_bs h
      refine ev_aI dX7_writeOthers_38 gv61 ?_
      refine EV.istore [(5, .int v61), (0, .ref a0), (1, .int a1), (2, .ref a2), (3, .int a3), (4, .int a4)] dX7_writeOthers_39 (by decide) rfl ?_
      refine EV.iload 0 dX7_writeOthers_41 rfl ?_
      refine EV.mabs dX7_writeOthers_43 (tb5 (List.mem_of_getElem? (i := 39) rfl)) (by decide) (by decide) (Nat.le_of_ble_eq_true rfl) ?_
      refine EV.aload_n 1 dX7_writeOthers_46 rfl rfl ?_
      obtain ⟨v62, gv62, h⟩ := px_bs h
      refine ev_gR dX7_writeOthers_47 flRX7_21 gv62 ?_
      obtain ⟨v63, gv63, h⟩ := px_bs h
      refine ev_gI dX7_writeOthers_50 flRX7_128 gv63 ?_
      refine EV.ishr dX7_writeOthers_53 ?_
      refine EV.istore [(6, .int ((mabs v61) >>> (v63 &&& 31))), (5, .int v61), (0, .ref a0), (1, .int a1), (2, .ref a2), (3, .int a3), (4, .int a4)] dX7_writeOthers_54 (by decide) rfl ?_
      refine EV.iload 0 dX7_writeOthers_56 rfl ?_
      refine EV.if_ne 67 dX7_writeOthers_58 (by decide) (fun c64 => ?_) (fun c64 => ?_)
      · rw [if_neg c64] at h
        refine EV.aload_n 2 dX7_writeOthers_67 rfl rfl ?_
        refine EV.aload_n 4 dX7_writeOthers_68 rfl rfl ?_
        obtain ⟨o65, go65, h⟩ := px_bs h
        obtain ⟨q66, gq66, h⟩ := px_bs h
        refine EV.callV (As := [.ref a2]) (rest := []) dX7_writeOthers_69 kcX7_writeOthers_100 (gO_ok go65) rfl rfl rfl (Nat.le_of_ble_eq_true rfl) (Nat.le_of_ble_eq_true rfl) (eX7_sendRun gq66) ?_
        refine EV.sub [2, 3, 4, 5, 6, 1, 0] rfl ?_
        exact eX7_writeOthers_72 ih FU _ _ _ _ _ _ _ _ _ h
      · rw [if_pos c64] at h
        refine EV.iinc 5 (a3 + 1) [(3, .int (a3 + 1)), (6, .int ((mabs v61) >>> (v63 &&& 31))), (5, .int v61), (0, .ref a0), (1, .int a1), (2, .ref a2), (4, .int a4)] dX7_writeOthers_61 rfl rfl (by decide) rfl ?_
        refine EV.goto 131 dX7_writeOthers_64 (by decide) ?_
        refine EV.sub [3, 4, 5, 0, 6] rfl ?_
        exact eX7_writeOthers_131 ih _ _ _ _ _ _ _ h
set_option maxRecDepth 100000 in
set_option maxHeartbeats 4000000 in
theorem eX7_writeOthers {X : px_X} {w : px_W} {a0 : Nat} {a1 : Int32} {a2 : Nat} {q : px_W} (h : fX7_writeOthers X w a0 a1 a2 = some q) : EV X mX7_writeOthers 0 (lv_args 0 [.ref a0, .int a1, .ref a2]) [] w none q := by
  unfold fX7_writeOthers at h
  show EV X mX7_writeOthers 0 [(0, .ref a0), (1, .int a1), (2, .ref a2)] [] w none q
  refine EV.iconst (0) dX7_writeOthers_0 (by decide) ?_
  refine EV.istore_n [(3, .int 0), (0, .ref a0), (1, .int a1), (2, .ref a2)] dX7_writeOthers_1 rfl (by decide) rfl ?_
  refine EV.iconst (1) dX7_writeOthers_2 (by decide) ?_
  refine EV.aload_n 1 dX7_writeOthers_3 rfl rfl ?_
  obtain ⟨v67, gv67, h⟩ := px_bs h
  refine ev_gR dX7_writeOthers_4 flRX7_21 gv67 ?_
  obtain ⟨v68, gv68, h⟩ := px_bs h
  refine ev_gI dX7_writeOthers_7 flRX7_79 gv68 ?_
  refine EV.mmax dX7_writeOthers_10 (tb5 (List.mem_of_getElem? (i := 56) rfl)) (by decide) (by decide) (Nat.le_of_ble_eq_true rfl) ?_
  refine EV.istore [(4, .int (mmax 1 v68)), (3, .int 0), (0, .ref a0), (1, .int a1), (2, .ref a2)] dX7_writeOthers_13 (by decide) rfl ?_
  refine EV.sub [2, 3, 4, 1, 0] rfl ?_
  exact eX7_writeOthers_15  FU _ _ _ _ _ _ _ h
/-! WavePictures$ScanWriter.write(IZ)V -/
theorem dX7_write_0 : decode cX7_write 0 = .ok (.aload_n 0, 1) := by decide +kernel
theorem dX7_write_1 : decode cX7_write 1 = .ok (.iload_n 2, 1) := by decide +kernel
theorem dX7_write_2 : decode cX7_write 2 = .ok (.putfield 37, 3) := by decide +kernel
theorem dX7_write_5 : decode cX7_write 5 = .ok (.aload_n 0, 1) := by decide +kernel
theorem dX7_write_6 : decode cX7_write 6 = .ok (.iconst 0, 1) := by decide +kernel
theorem dX7_write_7 : decode cX7_write 7 = .ok (.putfield 41, 3) := by decide +kernel
theorem dX7_write_10 : decode cX7_write 10 = .ok (.aload_n 0, 1) := by decide +kernel
theorem dX7_write_11 : decode cX7_write 11 = .ok (.iconst 0, 1) := by decide +kernel
theorem dX7_write_12 : decode cX7_write 12 = .ok (.putfield 45, 3) := by decide +kernel
theorem dX7_write_15 : decode cX7_write 15 = .ok (.aload_n 0, 1) := by decide +kernel
theorem dX7_write_16 : decode cX7_write 16 = .ok (.getfield 18, 3) := by decide +kernel
theorem dX7_write_19 : decode cX7_write 19 = .ok (.iconst 0, 1) := by decide +kernel
theorem dX7_write_20 : decode cX7_write 20 = .ok (.invokestatic 48, 3) := by decide +kernel
theorem dX7_write_23 : decode cX7_write 23 = .ok (.iconst 0, 1) := by decide +kernel
theorem dX7_write_24 : decode cX7_write 24 = .ok (.istore_n 3, 1) := by decide +kernel
theorem dX7_write_25 : decode cX7_write 25 = .ok (.iload_n 3, 1) := by decide +kernel
theorem dX7_write_26 : decode cX7_write 26 = .ok (.aload_n 0, 1) := by decide +kernel
theorem dX7_write_27 : decode cX7_write 27 = .ok (.getfield 21, 3) := by decide +kernel
theorem dX7_write_30 : decode cX7_write 30 = .ok (.getfield 54, 3) := by decide +kernel
theorem dX7_write_33 : decode cX7_write 33 = .ok (.if_icmp .ge 184, 3) := by decide +kernel
theorem dX7_write_36 : decode cX7_write 36 = .ok (.iload_n 1, 1) := by decide +kernel
theorem dX7_write_37 : decode cX7_write 37 = .ok (.ifCond .le 33, 3) := by decide +kernel
theorem dX7_write_40 : decode cX7_write 40 = .ok (.iload_n 3, 1) := by decide +kernel
theorem dX7_write_41 : decode cX7_write 41 = .ok (.ifCond .le 29, 3) := by decide +kernel
theorem dX7_write_44 : decode cX7_write 44 = .ok (.iload_n 3, 1) := by decide +kernel
theorem dX7_write_45 : decode cX7_write 45 = .ok (.iload_n 1, 1) := by decide +kernel
theorem dX7_write_46 : decode cX7_write 46 = .ok (.irem, 1) := by decide +kernel
theorem dX7_write_47 : decode cX7_write 47 = .ok (.ifCond .ne 23, 3) := by decide +kernel
theorem dX7_write_50 : decode cX7_write 50 = .ok (.aload_n 0, 1) := by decide +kernel
theorem dX7_write_51 : decode cX7_write 51 = .ok (.invokevirtual 59, 3) := by decide +kernel
theorem dX7_write_54 : decode cX7_write 54 = .ok (.aload_n 0, 1) := by decide +kernel
theorem dX7_write_55 : decode cX7_write 55 = .ok (.sipush 208, 3) := by decide +kernel
theorem dX7_write_58 : decode cX7_write 58 = .ok (.iload_n 3, 1) := by decide +kernel
theorem dX7_write_59 : decode cX7_write 59 = .ok (.iload_n 1, 1) := by decide +kernel
theorem dX7_write_60 : decode cX7_write 60 = .ok (.idiv, 1) := by decide +kernel
theorem dX7_write_61 : decode cX7_write 61 = .ok (.iconst 1, 1) := by decide +kernel
theorem dX7_write_62 : decode cX7_write 62 = .ok (.isub, 1) := by decide +kernel
theorem dX7_write_63 : decode cX7_write 63 = .ok (.bipush 8, 2) := by decide +kernel
theorem dX7_write_65 : decode cX7_write 65 = .ok (.irem, 1) := by decide +kernel
theorem dX7_write_66 : decode cX7_write 66 = .ok (.iadd, 1) := by decide +kernel
theorem dX7_write_67 : decode cX7_write 67 = .ok (.invokevirtual 62, 3) := by decide +kernel
theorem dX7_write_70 : decode cX7_write 70 = .ok (.iconst 0, 1) := by decide +kernel
theorem dX7_write_71 : decode cX7_write 71 = .ok (.istore 4, 2) := by decide +kernel
theorem dX7_write_73 : decode cX7_write 73 = .ok (.iload 4, 2) := by decide +kernel
theorem dX7_write_75 : decode cX7_write 75 = .ok (.aload_n 0, 1) := by decide +kernel
theorem dX7_write_76 : decode cX7_write 76 = .ok (.getfield 21, 3) := by decide +kernel
theorem dX7_write_79 : decode cX7_write 79 = .ok (.getfield 66, 3) := by decide +kernel
theorem dX7_write_82 : decode cX7_write 82 = .ok (.if_icmp .ge 129, 3) := by decide +kernel
theorem dX7_write_85 : decode cX7_write 85 = .ok (.aload_n 0, 1) := by decide +kernel
theorem dX7_write_86 : decode cX7_write 86 = .ok (.getfield 21, 3) := by decide +kernel
theorem dX7_write_89 : decode cX7_write 89 = .ok (.getfield 69, 3) := by decide +kernel
theorem dX7_write_92 : decode cX7_write 92 = .ok (.aload_n 0, 1) := by decide +kernel
theorem dX7_write_93 : decode cX7_write 93 = .ok (.getfield 21, 3) := by decide +kernel
theorem dX7_write_96 : decode cX7_write 96 = .ok (.getfield 72, 3) := by decide +kernel
theorem dX7_write_99 : decode cX7_write 99 = .ok (.iload 4, 2) := by decide +kernel
theorem dX7_write_101 : decode cX7_write 101 = .ok (.iaload, 1) := by decide +kernel
theorem dX7_write_102 : decode cX7_write 102 = .ok (.iaload, 1) := by decide +kernel
theorem dX7_write_103 : decode cX7_write 103 = .ok (.istore 5, 2) := by decide +kernel
theorem dX7_write_105 : decode cX7_write 105 = .ok (.bipush 64, 2) := by decide +kernel
theorem dX7_write_107 : decode cX7_write 107 = .ok (.aload_n 0, 1) := by decide +kernel
theorem dX7_write_108 : decode cX7_write 108 = .ok (.getfield 21, 3) := by decide +kernel
theorem dX7_write_111 : decode cX7_write 111 = .ok (.aload_n 0, 1) := by decide +kernel
theorem dX7_write_112 : decode cX7_write 112 = .ok (.getfield 33, 3) := by decide +kernel
theorem dX7_write_115 : decode cX7_write 115 = .ok (.iload_n 3, 1) := by decide +kernel
theorem dX7_write_116 : decode cX7_write 116 = .ok (.iload 4, 2) := by decide +kernel
theorem dX7_write_118 : decode cX7_write 118 = .ok (.invokevirtual 75, 3) := by decide +kernel
theorem dX7_write_121 : decode cX7_write 121 = .ok (.imul, 1) := by decide +kernel
theorem dX7_write_122 : decode cX7_write 122 = .ok (.istore 6, 2) := by decide +kernel
theorem dX7_write_124 : decode cX7_write 124 = .ok (.aload_n 0, 1) := by decide +kernel
theorem dX7_write_125 : decode cX7_write 125 = .ok (.getfield 21, 3) := by decide +kernel
theorem dX7_write_128 : decode cX7_write 128 = .ok (.getfield 79, 3) := by decide +kernel
theorem dX7_write_131 : decode cX7_write 131 = .ok (.ifCond .ne 11, 3) := by decide +kernel
theorem dX7_write_134 : decode cX7_write 134 = .ok (.aload_n 0, 1) := by decide +kernel
theorem dX7_write_135 : decode cX7_write 135 = .ok (.iload 6, 2) := by decide +kernel
theorem dX7_write_137 : decode cX7_write 137 = .ok (.iload 5, 2) := by decide +kernel
theorem dX7_write_139 : decode cX7_write 139 = .ok (.invokevirtual 82, 3) := by decide +kernel
theorem dX7_write_142 : decode cX7_write 142 = .ok (.aload_n 0, 1) := by decide +kernel
theorem dX7_write_143 : decode cX7_write 143 = .ok (.getfield 21, 3) := by decide +kernel
theorem dX7_write_146 : decode cX7_write 146 = .ok (.getfield 86, 3) := by decide +kernel
theorem dX7_write_149 : decode cX7_write 149 = .ok (.ifCond .le 31, 3) := by decide +kernel
theorem dX7_write_152 : decode cX7_write 152 = .ok (.aload_n 0, 1) := by decide +kernel
theorem dX7_write_153 : decode cX7_write 153 = .ok (.getfield 21, 3) := by decide +kernel
theorem dX7_write_156 : decode cX7_write 156 = .ok (.invokevirtual 89, 3) := by decide +kernel
theorem dX7_write_159 : decode cX7_write 159 = .ok (.ifCond .eq 21, 3) := by decide +kernel
theorem dX7_write_162 : decode cX7_write 162 = .ok (.aload_n 0, 1) := by decide +kernel
theorem dX7_write_163 : decode cX7_write 163 = .ok (.iload 6, 2) := by decide +kernel
theorem dX7_write_165 : decode cX7_write 165 = .ok (.aload_n 0, 1) := by decide +kernel
theorem dX7_write_166 : decode cX7_write 166 = .ok (.getfield 25, 3) := by decide +kernel
theorem dX7_write_169 : decode cX7_write 169 = .ok (.iconst 4, 1) := by decide +kernel
theorem dX7_write_170 : decode cX7_write 170 = .ok (.iload 5, 2) := by decide +kernel
theorem dX7_write_172 : decode cX7_write 172 = .ok (.iadd, 1) := by decide +kernel
theorem dX7_write_173 : decode cX7_write 173 = .ok (.aaload, 1) := by decide +kernel
theorem dX7_write_174 : decode cX7_write 174 = .ok (.invokevirtual 93, 3) := by decide +kernel
theorem dX7_write_177 : decode cX7_write 177 = .ok (.goto 28, 3) := by decide +kernel
theorem dX7_write_180 : decode cX7_write 180 = .ok (.aload_n 0, 1) := by decide +kernel
theorem dX7_write_181 : decode cX7_write 181 = .ok (.getfield 21, 3) := by decide +kernel
theorem dX7_write_184 : decode cX7_write 184 = .ok (.getfield 86, 3) := by decide +kernel
theorem dX7_write_187 : decode cX7_write 187 = .ok (.ifCond .le 18, 3) := by decide +kernel
theorem dX7_write_190 : decode cX7_write 190 = .ok (.aload_n 0, 1) := by decide +kernel
theorem dX7_write_191 : decode cX7_write 191 = .ok (.iload 6, 2) := by decide +kernel
theorem dX7_write_193 : decode cX7_write 193 = .ok (.aload_n 0, 1) := by decide +kernel
theorem dX7_write_194 : decode cX7_write 194 = .ok (.getfield 25, 3) := by decide +kernel
theorem dX7_write_197 : decode cX7_write 197 = .ok (.iconst 4, 1) := by decide +kernel
theorem dX7_write_198 : decode cX7_write 198 = .ok (.iload 5, 2) := by decide +kernel
theorem dX7_write_200 : decode cX7_write 200 = .ok (.iadd, 1) := by decide +kernel
theorem dX7_write_201 : decode cX7_write 201 = .ok (.aaload, 1) := by decide +kernel
theorem dX7_write_202 : decode cX7_write 202 = .ok (.invokevirtual 97, 3) := by decide +kernel
theorem dX7_write_205 : decode cX7_write 205 = .ok (.iinc 4 1, 3) := by decide +kernel
theorem dX7_write_208 : decode cX7_write 208 = .ok (.goto (-135), 3) := by decide +kernel
theorem dX7_write_211 : decode cX7_write 211 = .ok (.iinc 3 1, 3) := by decide +kernel
theorem dX7_write_214 : decode cX7_write 214 = .ok (.goto (-189), 3) := by decide +kernel
theorem dX7_write_217 : decode cX7_write 217 = .ok (.aload_n 0, 1) := by decide +kernel
theorem dX7_write_218 : decode cX7_write 218 = .ok (.invokevirtual 59, 3) := by decide +kernel
theorem dX7_write_221 : decode cX7_write 221 = .ok (.return_, 1) := by decide +kernel
theorem flRX7_54 : px_f RX7 54 5 11 := ⟨_, rfl, by decide, Or.inl (tb1 (List.mem_of_getElem? (i := 222) rfl))⟩
theorem flRX7_66 : px_f RX7 66 5 13 := ⟨_, rfl, by decide, Or.inl (tb1 (List.mem_of_getElem? (i := 226) rfl))⟩
theorem flRX7_72 : px_f RX7 72 5 14 := ⟨_, rfl, by decide, Or.inl (tb1 (List.mem_of_getElem? (i := 230) rfl))⟩
theorem kcX7_write_48 : px_cS mX7_write 48 mJ7_fill_53178 2 := ⟨⟨mbJ7_fill_53178, by decide, by decide⟩, Or.inl (tb4 (List.mem_of_getElem? (i := 231) rfl)), tb3 (List.mem_of_getElem? (i := 141) rfl)⟩
theorem mbX7_endBits : px_mB mX7_endBits 0 := ⟨tb4 (List.mem_of_getElem? (i := 235) rfl), by decide +kernel, tb1 (List.mem_of_getElem? (i := 12) rfl), by decide +kernel, by decide +kernel⟩
theorem vbX7_endBits : px_vB mX7_endBits := ⟨tb4 (List.mem_of_getElem? (i := 234) rfl), List.mem_append_left _ (List.mem_of_getElem? (i := 49) (by decide +kernel))⟩
theorem kcX7_write_59 : px_cV mX7_write 59 mX7_endBits 0 := ⟨⟨mbX7_endBits, by decide, by decide⟩, Or.inl (tb4 (List.mem_of_getElem? (i := 232) rfl)), vbX7_endBits⟩
theorem mbX7_writeRestart : px_mB mX7_writeRestart 1 := ⟨tb5 (List.mem_of_getElem? (i := 20) rfl), by decide +kernel, tb1 (List.mem_of_getElem? (i := 12) rfl), by decide +kernel, by decide +kernel⟩
theorem vbX7_writeRestart : px_vB mX7_writeRestart := ⟨tb5 (List.mem_of_getElem? (i := 19) rfl), List.mem_append_left _ (List.mem_of_getElem? (i := 53) (by decide +kernel))⟩
theorem kcX7_write_62 : px_cV mX7_write 62 mX7_writeRestart 1 := ⟨⟨mbX7_writeRestart, by decide, by decide⟩, Or.inl (tb5 (List.mem_of_getElem? (i := 17) rfl)), vbX7_writeRestart⟩
theorem mbX5_blockAt : px_mB mX5_blockAt 3 := ⟨tb4 (List.mem_of_getElem? (i := 94) rfl), by decide +kernel, tb1 (List.mem_of_getElem? (i := 7) rfl), by decide +kernel, by decide +kernel⟩
theorem vbX5_blockAt : px_vB mX5_blockAt := ⟨tb4 (List.mem_of_getElem? (i := 92) rfl), tb4 (List.mem_of_getElem? (i := 93) rfl)⟩
theorem kcX7_write_75 : px_cV mX7_write 75 mX5_blockAt 3 := ⟨⟨mbX5_blockAt, by decide, by decide⟩, Or.inl (tb5 (List.mem_of_getElem? (i := 21) rfl)), vbX5_blockAt⟩
theorem mbX7_writeDirect : px_mB mX7_writeDirect 2 := ⟨tb5 (List.mem_of_getElem? (i := 25) rfl), by decide +kernel, tb1 (List.mem_of_getElem? (i := 12) rfl), by decide +kernel, by decide +kernel⟩
theorem vbX7_writeDirect : px_vB mX7_writeDirect := ⟨tb5 (List.mem_of_getElem? (i := 24) rfl), List.mem_append_left _ (List.mem_of_getElem? (i := 54) (by decide +kernel))⟩
theorem kcX7_write_82 : px_cV mX7_write 82 mX7_writeDirect 2 := ⟨⟨mbX7_writeDirect, by decide, by decide⟩, Or.inl (tb5 (List.mem_of_getElem? (i := 22) rfl)), vbX7_writeDirect⟩
theorem kcX7_write_89 : px_cV mX7_write 89 mX5_isRefinement 0 := ⟨⟨mbX5_isRefinement, by decide, by decide⟩, Or.inl (tb5 (List.mem_of_getElem? (i := 26) rfl)), vbX5_isRefinement⟩
theorem mbX7_refineOthers : px_mB mX7_refineOthers 2 := ⟨tb5 (List.mem_of_getElem? (i := 34) rfl), by decide +kernel, tb1 (List.mem_of_getElem? (i := 12) rfl), by decide +kernel, by decide +kernel⟩
theorem vbX7_refineOthers : px_vB mX7_refineOthers := ⟨tb5 (List.mem_of_getElem? (i := 33) rfl), List.mem_append_left _ (List.mem_of_getElem? (i := 56) (by decide +kernel))⟩
theorem kcX7_write_93 : px_cV mX7_write 93 mX7_refineOthers 2 := ⟨⟨mbX7_refineOthers, by decide, by decide⟩, Or.inl (tb5 (List.mem_of_getElem? (i := 31) rfl)), vbX7_refineOthers⟩
theorem mbX7_writeOthers : px_mB mX7_writeOthers 2 := ⟨tb5 (List.mem_of_getElem? (i := 55) rfl), by decide +kernel, tb1 (List.mem_of_getElem? (i := 12) rfl), by decide +kernel, by decide +kernel⟩
theorem vbX7_writeOthers : px_vB mX7_writeOthers := ⟨tb5 (List.mem_of_getElem? (i := 54) rfl), List.mem_append_left _ (List.mem_of_getElem? (i := 61) (by decide +kernel))⟩
theorem kcX7_write_97 : px_cV mX7_write 97 mX7_writeOthers 2 := ⟨⟨mbX7_writeOthers, by decide, by decide⟩, Or.inl (tb5 (List.mem_of_getElem? (i := 52) rfl)), vbX7_writeOthers⟩
set_option maxRecDepth 100000 in
set_option maxHeartbeats 4000000 in
theorem eX7_write_217 {X : px_X}  : ∀ (a0 : Nat) (w : px_W) (q : px_W), fX7_write_217 X  a0 w = some q → EV X mX7_write 217 [(0, .ref a0)] [] w none q := by
  intro a0 w q h
  unfold fX7_write_217 at h
  refine EV.aload_n 0 dX7_write_217 rfl rfl ?_
  obtain ⟨o48, go48, h⟩ := px_bs h
  obtain ⟨q49, gq49, h⟩ := px_bs h
  refine EV.callV (As := []) (rest := []) dX7_write_218 kcX7_write_59 (gO_ok go48) rfl rfl rfl (Nat.le_of_ble_eq_true rfl) (Nat.le_of_ble_eq_true rfl) (eX7_endBits gq49) ?_
  cases h
  exact EV.ret0 dX7_write_221 trivial
set_option maxRecDepth 100000 in
set_option maxHeartbeats 4000000 in
theorem eX7_write_211 {X : px_X} {k25 : Nat → Int32 → Int32 → px_W → Option (px_W)} (hk25 : ∀ (a0 : Nat) (a1 : Int32) (a3 : Int32) (w : px_W) (q : px_W), k25 a0 a1 a3 w = some q → EV X mX7_write 25 [(0, .ref a0), (1, .int a1), (3, .int a3)] [] w none q) : ∀ (a0 : Nat) (a1 : Int32) (a3 : Int32) (w : px_W) (q : px_W), fX7_write_211 X k25 a0 a1 a3 w = some q → EV X mX7_write 211 [(0, .ref a0), (1, .int a1), (3, .int a3)] [] w none q := by
  intro a0 a1 a3 w q h
  unfold fX7_write_211 at h
  refine EV.iinc 2 (a3 + 1) [(3, .int (a3 + 1)), (0, .ref a0), (1, .int a1)] dX7_write_211 rfl rfl (by decide) rfl ?_
  refine EV.goto 25 dX7_write_214 (by decide) ?_
  refine EV.sub [1, 2, 0] rfl ?_
  exact hk25 _ _ _ _ _ h
set_option maxRecDepth 100000 in
set_option maxHeartbeats 4000000 in
theorem eX7_write_205 {X : px_X} {k25 : Nat → Int32 → Int32 → px_W → Option (px_W)} (hk25 : ∀ (a0 : Nat) (a1 : Int32) (a3 : Int32) (w : px_W) (q : px_W), k25 a0 a1 a3 w = some q → EV X mX7_write 25 [(0, .ref a0), (1, .int a1), (3, .int a3)] [] w none q) {k73 : Nat → Int32 → Int32 → Int32 → px_W → Option (px_W)} (hk73 : ∀ (a0 : Nat) (a1 : Int32) (a3 : Int32) (a4 : Int32) (w : px_W) (q : px_W), k73 a0 a1 a3 a4 w = some q → EV X mX7_write 73 [(0, .ref a0), (1, .int a1), (3, .int a3), (4, .int a4)] [] w none q) : ∀ (a0 : Nat) (a1 : Int32) (a3 : Int32) (a4 : Int32) (w : px_W) (q : px_W), fX7_write_205 X k25 k73 a0 a1 a3 a4 w = some q → EV X mX7_write 205 [(0, .ref a0), (1, .int a1), (3, .int a3), (4, .int a4)] [] w none q := by
  intro a0 a1 a3 a4 w q h
  unfold fX7_write_205 at h
  refine EV.iinc 3 (a4 + 1) [(4, .int (a4 + 1)), (0, .ref a0), (1, .int a1), (3, .int a3)] dX7_write_205 rfl rfl (by decide) rfl ?_
  refine EV.goto 73 dX7_write_208 (by decide) ?_
  refine EV.sub [1, 2, 3, 0] rfl ?_
  exact hk73 _ _ _ _ _ _ h
set_option maxRecDepth 100000 in
set_option maxHeartbeats 4000000 in
theorem eX7_write_180 {X : px_X} {k25 : Nat → Int32 → Int32 → px_W → Option (px_W)} (hk25 : ∀ (a0 : Nat) (a1 : Int32) (a3 : Int32) (w : px_W) (q : px_W), k25 a0 a1 a3 w = some q → EV X mX7_write 25 [(0, .ref a0), (1, .int a1), (3, .int a3)] [] w none q) {k73 : Nat → Int32 → Int32 → Int32 → px_W → Option (px_W)} (hk73 : ∀ (a0 : Nat) (a1 : Int32) (a3 : Int32) (a4 : Int32) (w : px_W) (q : px_W), k73 a0 a1 a3 a4 w = some q → EV X mX7_write 73 [(0, .ref a0), (1, .int a1), (3, .int a3), (4, .int a4)] [] w none q) : ∀ (a0 : Nat) (a1 : Int32) (a3 : Int32) (a4 : Int32) (a5 : Int32) (a6 : Int32) (w : px_W) (q : px_W), fX7_write_180 X k25 k73 a0 a1 a3 a4 a5 a6 w = some q → EV X mX7_write 180 [(0, .ref a0), (1, .int a1), (3, .int a3), (4, .int a4), (5, .int a5), (6, .int a6)] [] w none q := by
  intro a0 a1 a3 a4 a5 a6 w q h
  unfold fX7_write_180 at h
  refine EV.aload_n 0 dX7_write_180 rfl rfl ?_
  obtain ⟨v50, gv50, h⟩ := px_bs h
  refine ev_gR dX7_write_181 flRX7_21 gv50 ?_
  obtain ⟨v51, gv51, h⟩ := px_bs h
  refine ev_gI dX7_write_184 flRX7_86 gv51 ?_
  refine EV.if_le 205 dX7_write_187 (by decide) (fun c52 => ?_) (fun c52 => ?_)
  · rw [if_pos c52] at h
    refine EV.sub [0, 1, 2, 3] rfl ?_
    exact eX7_write_205 hk25 hk73 _ _ _ _ _ _ h
  · rw [if_neg c52] at h
    refine EV.aload_n 0 dX7_write_190 rfl rfl ?_
    refine EV.iload 5 dX7_write_191 rfl ?_
    refine EV.aload_n 0 dX7_write_193 rfl rfl ?_
    obtain ⟨v53, gv53, h⟩ := px_bs h
    refine ev_gR dX7_write_194 flRX7_25 gv53 ?_
    refine EV.iconst (4) dX7_write_197 (by decide) ?_
    refine EV.iload 4 dX7_write_198 rfl ?_
    refine EV.iadd dX7_write_200 ?_
    obtain ⟨v54, gv54, h⟩ := px_bs h
    refine ev_aQ dX7_write_201 (t := 5) rfl gv54 ?_
    obtain ⟨o55, go55, h⟩ := px_bs h
    obtain ⟨q56, gq56, h⟩ := px_bs h
    refine EV.callV (As := [.int a6, .ref v54]) (rest := []) dX7_write_202 kcX7_write_97 (gO_ok go55) rfl rfl rfl (Nat.le_of_ble_eq_true rfl) (Nat.le_of_ble_eq_true rfl) (eX7_writeOthers gq56) ?_
    refine EV.sub [0, 1, 2, 3] rfl ?_
    exact eX7_write_205 hk25 hk73 _ _ _ _ _ _ h
set_option maxRecDepth 100000 in
set_option maxHeartbeats 4000000 in
theorem eX7_write_142 {X : px_X} {k25 : Nat → Int32 → Int32 → px_W → Option (px_W)} (hk25 : ∀ (a0 : Nat) (a1 : Int32) (a3 : Int32) (w : px_W) (q : px_W), k25 a0 a1 a3 w = some q → EV X mX7_write 25 [(0, .ref a0), (1, .int a1), (3, .int a3)] [] w none q) {k73 : Nat → Int32 → Int32 → Int32 → px_W → Option (px_W)} (hk73 : ∀ (a0 : Nat) (a1 : Int32) (a3 : Int32) (a4 : Int32) (w : px_W) (q : px_W), k73 a0 a1 a3 a4 w = some q → EV X mX7_write 73 [(0, .ref a0), (1, .int a1), (3, .int a3), (4, .int a4)] [] w none q) : ∀ (a0 : Nat) (a1 : Int32) (a3 : Int32) (a4 : Int32) (a5 : Int32) (a6 : Int32) (w : px_W) (q : px_W), fX7_write_142 X k25 k73 a0 a1 a3 a4 a5 a6 w = some q → EV X mX7_write 142 [(0, .ref a0), (1, .int a1), (3, .int a3), (4, .int a4), (5, .int a5), (6, .int a6)] [] w none q := by
  intro a0 a1 a3 a4 a5 a6 w q h
  unfold fX7_write_142 at h
  refine EV.aload_n 0 dX7_write_142 rfl rfl ?_
  obtain ⟨v57, gv57, h⟩ := px_bs h
  refine ev_gR dX7_write_143 flRX7_21 gv57 ?_
  obtain ⟨v58, gv58, h⟩ := px_bs h
  refine ev_gI dX7_write_146 flRX7_86 gv58 ?_
  refine EV.if_le 180 dX7_write_149 (by decide) (fun c59 => ?_) (fun c59 => ?_)
  · rw [if_pos c59] at h
    refine EV.sub [0, 1, 2, 3, 4, 5] rfl ?_
    exact eX7_write_180 hk25 hk73 _ _ _ _ _ _ _ _ h
  · rw [if_neg c59] at h
    refine EV.aload_n 0 dX7_write_152 rfl rfl ?_
    obtain ⟨v60, gv60, h⟩ := px_bs h
    refine ev_gR dX7_write_153 flRX7_21 gv60 ?_
    obtain ⟨o61, go61, h⟩ := px_bs h
    obtain ⟨q62, gq62, h⟩ := px_bs h
    refine EV.callV (As := []) (rest := []) dX7_write_156 kcX7_write_89 (gO_ok go61) rfl rfl rfl (Nat.le_of_ble_eq_true rfl) (Nat.le_of_ble_eq_true rfl) (eX5_isRefinement gq62) ?_
    refine EV.if_eq 180 dX7_write_159 (by decide) (fun c63 => ?_) (fun c63 => ?_)
    · rw [if_pos c63] at h
      refine EV.sub [0, 1, 2, 3, 4, 5] rfl ?_
      exact eX7_write_180 hk25 hk73 _ _ _ _ _ _ _ _ h
    · rw [if_neg c63] at h
      refine EV.aload_n 0 dX7_write_162 rfl rfl ?_
      refine EV.iload 5 dX7_write_163 rfl ?_
      refine EV.aload_n 0 dX7_write_165 rfl rfl ?_
      obtain ⟨v64, gv64, h⟩ := px_bs h
      refine ev_gR dX7_write_166 flRX7_25 gv64 ?_
      refine EV.iconst (4) dX7_write_169 (by decide) ?_
      refine EV.iload 4 dX7_write_170 rfl ?_
      refine EV.iadd dX7_write_172 ?_
      obtain ⟨v65, gv65, h⟩ := px_bs h
      refine ev_aQ dX7_write_173 (t := 5) rfl gv65 ?_
      obtain ⟨o66, go66, h⟩ := px_bs h
      obtain ⟨q67, gq67, h⟩ := px_bs h
      refine EV.callV (As := [.int a6, .ref v65]) (rest := []) dX7_write_174 kcX7_write_93 (gO_ok go66) rfl rfl rfl (Nat.le_of_ble_eq_true rfl) (Nat.le_of_ble_eq_true rfl) (eX7_refineOthers gq67) ?_
      refine EV.goto 205 dX7_write_177 (by decide) ?_
      refine EV.sub [0, 1, 2, 3] rfl ?_
      exact eX7_write_205 hk25 hk73 _ _ _ _ _ _ h
set_option maxRecDepth 100000 in
set_option maxHeartbeats 4000000 in
theorem eX7_write_73 {X : px_X} {k25 : Nat → Int32 → Int32 → px_W → Option (px_W)} (hk25 : ∀ (a0 : Nat) (a1 : Int32) (a3 : Int32) (w : px_W) (q : px_W), k25 a0 a1 a3 w = some q → EV X mX7_write 25 [(0, .ref a0), (1, .int a1), (3, .int a3)] [] w none q) : ∀ (m : Nat) (a0 : Nat) (a1 : Int32) (a3 : Int32) (a4 : Int32) (w : px_W) (q : px_W), fX7_write_73 X k25 m a0 a1 a3 a4 w = some q → EV X mX7_write 73 [(0, .ref a0), (1, .int a1), (3, .int a3), (4, .int a4)] [] w none q := by
  intro m
  induction m with
  | zero => intro a0 a1 a3 a4 w q h; cases h
  | succ m ih =>
    intro a0 a1 a3 a4 w q h
    rw [fX7_write_73.eq_2] at h
    refine EV.iload 3 dX7_write_73 rfl ?_
    refine EV.aload_n 0 dX7_write_75 rfl rfl ?_
    obtain ⟨v68, gv68, h⟩ := px_bs h
    refine ev_gR dX7_write_76 flRX7_21 gv68 ?_
    obtain ⟨v69, gv69, h⟩ := px_bs h
    refine ev_gI dX7_write_79 flRX7_66 gv69 ?_
    refine EV.icmp_ge 211 dX7_write_82 (by decide) (fun c70 => ?_) (fun c70 => ?_)
    · rw [if_pos c70] at h
      refine EV.sub [0, 1, 2] rfl ?_
      exact eX7_write_211 hk25 _ _ _ _ _ h
    · rw [if_neg c70] at h
      refine EV.aload_n 0 dX7_write_85 rfl rfl ?_
      obtain ⟨v71, gv71, h⟩ := px_bs h
      refine ev_gR dX7_write_86 flRX7_21 gv71 ?_
      obtain ⟨v72, gv72, h⟩ := px_bs h
      refine ev_gR dX7_write_89 flRX7_69 gv72 ?_
      refine EV.aload_n 0 dX7_write_92 rfl rfl ?_
      obtain ⟨v73, gv73, h⟩ := px_bs h
      refine ev_gR dX7_write_93 flRX7_21 gv73 ?_
      obtain ⟨v74, gv74, h⟩ := px_bs h
      refine ev_gR dX7_write_96 flRX7_72 gv74 ?_
      refine EV.iload 3 dX7_write_99 rfl ?_
      obtain ⟨v75, gv75, h⟩ := px_bs h
      refine ev_aI dX7_write_101 gv75 ?_
      obtain ⟨v76, gv76, h⟩ := px_bs h
      refine ev_aI dX7_write_102 gv76 ?_
      refine EV.istore [(5, .int v76), (0, .ref a0), (1, .int a1), (3, .int a3), (4, .int a4)] dX7_write_103 (by decide) rfl ?_
      refine EV.bipush (64) dX7_write_105 (by decide) ?_
      refine EV.aload_n 1 dX7_write_107 rfl rfl ?_
      obtain ⟨v77, gv77, h⟩ := px_bs h
      refine ev_gR dX7_write_108 flRX7_21 gv77 ?_
      refine EV.aload_n 1 dX7_write_111 rfl rfl ?_
      obtain ⟨v78, gv78, h⟩ := px_bs h
      refine ev_gR dX7_write_112 flRX7_33 gv78 ?_
      refine EV.iload_n 3 dX7_write_115 rfl rfl ?_
      refine EV.iload 4 dX7_write_116 rfl ?_
      obtain ⟨o79, go79, h⟩ := px_bs h
      obtain ⟨q80, gq80, h⟩ := px_bs h
      refine EV.callV (As := [.ref v78, .int a3, .int a4]) (rest := [.int 64]) dX7_write_118 kcX7_write_75 (gO_ok go79) rfl rfl rfl (Nat.le_of_ble_eq_true rfl) (Nat.le_of_ble_eq_true rfl) (eX5_blockAt gq80) ?_
      refine EV.imul dX7_write_121 ?_
      refine EV.istore [(6, .int (64 * q80.1)), (5, .int v76), (0, .ref a0), (1, .int a1), (3, .int a3), (4, .int a4)] dX7_write_122 (by decide) rfl ?_
      refine EV.aload_n 2 dX7_write_124 rfl rfl ?_
      obtain ⟨v81, gv81, h⟩ := px_bs h
      refine ev_gR dX7_write_125 flRX7_21 gv81 ?_
      obtain ⟨v82, gv82, h⟩ := px_bs h
      refine ev_gI dX7_write_128 flRX7_79 gv82 ?_
      refine EV.if_ne 142 dX7_write_131 (by decide) (fun c83 => ?_) (fun c83 => ?_)
      · rw [if_neg c83] at h
        refine EV.sub [2, 3, 4, 5, 1, 0] rfl ?_
        exact eX7_write_142 hk25 ih _ _ _ _ _ _ _ _ h
      · rw [if_pos c83] at h
        refine EV.aload_n 2 dX7_write_134 rfl rfl ?_
        refine EV.iload 0 dX7_write_135 rfl ?_
        refine EV.iload 1 dX7_write_137 rfl ?_
        obtain ⟨o84, go84, h⟩ := px_bs h
        obtain ⟨q85, gq85, h⟩ := px_bs h
        refine EV.callV (As := [.int (64 * q80.1), .int v76]) (rest := []) dX7_write_139 kcX7_write_82 (gO_ok go84) rfl rfl rfl (Nat.le_of_ble_eq_true rfl) (Nat.le_of_ble_eq_true rfl) (eX7_writeDirect gq85) ?_
        refine EV.sub [2, 3, 4, 5, 1, 0] rfl ?_
        exact eX7_write_142 hk25 ih _ _ _ _ _ _ _ _ h
set_option maxRecDepth 100000 in
set_option maxHeartbeats 4000000 in
theorem eX7_write_70 {X : px_X} {k25 : Nat → Int32 → Int32 → px_W → Option (px_W)} (hk25 : ∀ (a0 : Nat) (a1 : Int32) (a3 : Int32) (w : px_W) (q : px_W), k25 a0 a1 a3 w = some q → EV X mX7_write 25 [(0, .ref a0), (1, .int a1), (3, .int a3)] [] w none q) : ∀ (a0 : Nat) (a1 : Int32) (a3 : Int32) (w : px_W) (q : px_W), fX7_write_70 X k25 a0 a1 a3 w = some q → EV X mX7_write 70 [(0, .ref a0), (1, .int a1), (3, .int a3)] [] w none q := by
  intro a0 a1 a3 w q h
  unfold fX7_write_70 at h
  refine EV.iconst (0) dX7_write_70 (by decide) ?_
  refine EV.istore [(4, .int 0), (0, .ref a0), (1, .int a1), (3, .int a3)] dX7_write_71 (by decide) rfl ?_
  refine EV.sub [1, 2, 3, 0] rfl ?_
  exact eX7_write_73 hk25 FU _ _ _ _ _ _ h
set_option maxRecDepth 100000 in
set_option maxHeartbeats 4000000 in
theorem eX7_write_25 {X : px_X}  : ∀ (m : Nat) (a0 : Nat) (a1 : Int32) (a3 : Int32) (w : px_W) (q : px_W), fX7_write_25 X  m a0 a1 a3 w = some q → EV X mX7_write 25 [(0, .ref a0), (1, .int a1), (3, .int a3)] [] w none q := by
  intro m
  induction m with
  | zero => intro a0 a1 a3 w q h; cases h
  | succ m ih =>
    intro a0 a1 a3 w q h
    rw [fX7_write_25.eq_2] at h
    refine EV.iload_n 2 dX7_write_25 rfl rfl ?_
    refine EV.aload_n 0 dX7_write_26 rfl rfl ?_
    obtain ⟨v86, gv86, h⟩ := px_bs h
    refine ev_gR dX7_write_27 flRX7_21 gv86 ?_
    obtain ⟨v87, gv87, h⟩ := px_bs h
    refine ev_gI dX7_write_30 flRX7_54 gv87 ?_
    refine EV.icmp_ge 217 dX7_write_33 (by decide) (fun c88 => ?_) (fun c88 => ?_)
    · rw [if_pos c88] at h
      refine EV.sub [0] rfl ?_
      exact eX7_write_217  _ _ _ h
    · rw [if_neg c88] at h
      refine EV.iload_n 1 dX7_write_36 rfl rfl ?_
      refine EV.if_le 70 dX7_write_37 (by decide) (fun c89 => ?_) (fun c89 => ?_)
      · rw [if_pos c89] at h
        refine EV.sub [0, 1, 2] rfl ?_
        exact eX7_write_70 ih _ _ _ _ _ h
      · rw [if_neg c89] at h
        refine EV.iload_n 2 dX7_write_40 rfl rfl ?_
        refine EV.if_le 70 dX7_write_41 (by decide) (fun c90 => ?_) (fun c90 => ?_)
        · rw [if_pos c90] at h
          refine EV.sub [0, 1, 2] rfl ?_
          exact eX7_write_70 ih _ _ _ _ _ h
        · rw [if_neg c90] at h
          refine EV.iload_n 2 dX7_write_44 rfl rfl ?_
          refine EV.iload_n 1 dX7_write_45 rfl rfl ?_
          obtain ⟨v91, gv91, h⟩ := px_bs h
          refine ev_rI dX7_write_46 gv91 ?_
          refine EV.if_ne 70 dX7_write_47 (by decide) (fun c92 => ?_) (fun c92 => ?_)
          · rw [if_neg c92] at h
            refine EV.sub [0, 1, 2] rfl ?_
            exact eX7_write_70 ih _ _ _ _ _ h
          · rw [if_pos c92] at h
            refine EV.aload_n 0 dX7_write_50 rfl rfl ?_
            obtain ⟨o93, go93, h⟩ := px_bs h
            obtain ⟨q94, gq94, h⟩ := px_bs h
            refine EV.callV (As := []) (rest := []) dX7_write_51 kcX7_write_59 (gO_ok go93) rfl rfl rfl (Nat.le_of_ble_eq_true rfl) (Nat.le_of_ble_eq_true rfl) (eX7_endBits gq94) ?_
            refine EV.aload_n 0 dX7_write_54 rfl rfl ?_
            refine EV.sipush (208) dX7_write_55 (by decide) ?_
            refine EV.iload_n 2 dX7_write_58 rfl rfl ?_
            refine EV.iload_n 1 dX7_write_59 rfl rfl ?_
            obtain ⟨v95, gv95, h⟩ := px_bs h
            refine ev_dI dX7_write_60 gv95 ?_
            refine EV.iconst (1) dX7_write_61 (by decide) ?_
            refine EV.isub dX7_write_62 ?_
            refine EV.bipush (8) dX7_write_63 (by decide) ?_
            obtain ⟨v96, gv96, h⟩ := px_bs h
            refine ev_rI dX7_write_65 gv96 ?_
            refine EV.iadd dX7_write_66 ?_
            obtain ⟨o97, go97, h⟩ := px_bs h
            obtain ⟨q98, gq98, h⟩ := px_bs h
            refine EV.callV (As := [.int (208 + v96)]) (rest := []) dX7_write_67 kcX7_write_62 (gO_ok go97) rfl rfl rfl (Nat.le_of_ble_eq_true rfl) (Nat.le_of_ble_eq_true rfl) (eX7_writeRestart gq98) ?_
            refine EV.sub [0, 1, 2] rfl ?_
            exact eX7_write_70 ih _ _ _ _ _ h
set_option maxRecDepth 100000 in
set_option maxHeartbeats 4000000 in
theorem eX7_write {X : px_X} {w : px_W} {a0 : Nat} {a1 : Int32} {a2 : Int32} {q : px_W} (h : fX7_write X w a0 a1 a2 = some q) : EV X mX7_write 0 (lv_args 0 [.ref a0, .int a1, .int a2]) [] w none q := by
  unfold fX7_write at h
  show EV X mX7_write 0 [(0, .ref a0), (1, .int a1), (2, .int a2)] [] w none q
  refine EV.aload_n 0 dX7_write_0 rfl rfl ?_
  refine EV.iload_n 2 dX7_write_1 rfl rfl ?_
  obtain ⟨w99, gw99, h⟩ := px_bs h
  refine ev_pZ dX7_write_2 flRX7_37 rfl rfl (by decide +kernel) gw99 ?_
  refine EV.aload_n 0 dX7_write_5 rfl rfl ?_
  refine EV.iconst (0) dX7_write_6 (by decide) ?_
  obtain ⟨w100, gw100, h⟩ := px_bs h
  refine ev_pV dX7_write_7 flRX7_41 rfl rfl rfl rfl gw100 ?_
  refine EV.aload_n 0 dX7_write_10 rfl rfl ?_
  refine EV.iconst (0) dX7_write_11 (by decide) ?_
  obtain ⟨w101, gw101, h⟩ := px_bs h
  refine ev_pV dX7_write_12 flRX7_45 rfl rfl rfl rfl gw101 ?_
  refine EV.aload_n 0 dX7_write_15 rfl rfl ?_
  obtain ⟨v102, gv102, h⟩ := px_bs h
  refine ev_gR dX7_write_16 flRX7_18 gv102 ?_
  refine EV.iconst (0) dX7_write_19 (by decide) ?_
  obtain ⟨q103, gq103, h⟩ := px_bs h
  refine EV.callS (As := [.ref v102, .int 0]) (rest := []) dX7_write_20 kcX7_write_48 rfl (Nat.le_of_ble_eq_true rfl) (Nat.le_of_ble_eq_true rfl) (eJ7_fill_53178 gq103) ?_
  refine EV.iconst (0) dX7_write_23 (by decide) ?_
  refine EV.istore_n [(3, .int 0), (0, .ref a0), (1, .int a1), (2, .int a2)] dX7_write_24 rfl (by decide) rfl ?_
  refine EV.sub [1, 2, 0] rfl ?_
  exact eX7_write_25  FU _ _ _ _ _ h
/-! WavePictures$Saver.sizeOfTable(LWavePictures$BestTable;)I -/
theorem dX4_sizeOfTable_0 : decode cX4_sizeOfTable 0 = .ok (.aload_n 1, 1) := by decide +kernel
theorem dX4_sizeOfTable_1 : decode cX4_sizeOfTable 1 = .ok (.invokevirtual 128, 3) := by decide +kernel
theorem dX4_sizeOfTable_4 : decode cX4_sizeOfTable 4 = .ok (.bipush 17, 2) := by decide +kernel
theorem dX4_sizeOfTable_6 : decode cX4_sizeOfTable 6 = .ok (.aload_n 1, 1) := by decide +kernel
theorem dX4_sizeOfTable_7 : decode cX4_sizeOfTable 7 = .ok (.getfield 131, 3) := by decide +kernel
theorem dX4_sizeOfTable_10 : decode cX4_sizeOfTable 10 = .ok (.iadd, 1) := by decide +kernel
theorem dX4_sizeOfTable_11 : decode cX4_sizeOfTable 11 = .ok (.ireturn, 1) := by decide +kernel
theorem flRX4_131 : px_f RX4 131 0 5 := ⟨_, rfl, by decide, Or.inl (tb2 (List.mem_of_getElem? (i := 187) rfl))⟩
theorem mbX0_settle : px_mB mX0_settle 0 := ⟨tb5 (List.mem_of_getElem? (i := 69) rfl), by decide +kernel, tb1 (List.mem_of_getElem? (i := 11) rfl), by decide +kernel, by decide +kernel⟩
theorem vbX0_settle : px_vB mX0_settle := ⟨tb5 (List.mem_of_getElem? (i := 67) rfl), tb5 (List.mem_of_getElem? (i := 68) rfl)⟩
theorem kcX4_sizeOfTable_128 : px_cV mX4_sizeOfTable 128 mX0_settle 0 := ⟨⟨mbX0_settle, by decide, by decide⟩, Or.inl (tb5 (List.mem_of_getElem? (i := 66) rfl)), vbX0_settle⟩
set_option maxRecDepth 100000 in
set_option maxHeartbeats 4000000 in
theorem eX4_sizeOfTable {X : px_X} {w : px_W} {a0 : Nat} {a1 : Nat} {q : Int32 × px_W} (h : fX4_sizeOfTable X w a0 a1 = some q) : EV X mX4_sizeOfTable 0 (lv_args 0 [.ref a0, .ref a1]) [] w (some (.int q.1)) q.2 := by
  unfold fX4_sizeOfTable at h
  show EV X mX4_sizeOfTable 0 [(0, .ref a0), (1, .ref a1)] [] w (some (.int q.1)) q.2
  refine EV.aload_n 1 dX4_sizeOfTable_0 rfl rfl ?_
  obtain ⟨o4, go4, h⟩ := px_bs h
  obtain ⟨q5, gq5, h⟩ := px_bs h
  refine EV.callV (As := []) (rest := []) dX4_sizeOfTable_1 kcX4_sizeOfTable_128 (gO_ok go4) rfl rfl rfl (Nat.le_of_ble_eq_true rfl) (Nat.le_of_ble_eq_true rfl) (eX0_settle gq5) ?_
  refine EV.bipush (17) dX4_sizeOfTable_4 (by decide) ?_
  refine EV.aload_n 1 dX4_sizeOfTable_6 rfl rfl ?_
  obtain ⟨v6, gv6, h⟩ := px_bs h
  refine ev_gI dX4_sizeOfTable_7 flRX4_131 gv6 ?_
  refine EV.iadd dX4_sizeOfTable_10 ?_
  cases h
  exact EV.reti dX4_sizeOfTable_11 rfl
/-! WavePictures$Saver.tellTable(ILWavePictures$BestTable;)V -/
theorem dX4_tellTable_0 : decode cX4_tellTable 0 = .ok (.aload_n 0, 1) := by decide +kernel
theorem dX4_tellTable_1 : decode cX4_tellTable 1 = .ok (.getfield 24, 3) := by decide +kernel
theorem dX4_tellTable_4 : decode cX4_tellTable 4 = .ok (.iload_n 1, 1) := by decide +kernel
theorem dX4_tellTable_5 : decode cX4_tellTable 5 = .ok (.invokevirtual 59, 3) := by decide +kernel
theorem dX4_tellTable_8 : decode cX4_tellTable 8 = .ok (.iconst 1, 1) := by decide +kernel
theorem dX4_tellTable_9 : decode cX4_tellTable 9 = .ok (.istore_n 3, 1) := by decide +kernel
theorem dX4_tellTable_10 : decode cX4_tellTable 10 = .ok (.iload_n 3, 1) := by decide +kernel
theorem dX4_tellTable_11 : decode cX4_tellTable 11 = .ok (.bipush 16, 2) := by decide +kernel
theorem dX4_tellTable_13 : decode cX4_tellTable 13 = .ok (.if_icmp .gt 22, 3) := by decide +kernel
theorem dX4_tellTable_16 : decode cX4_tellTable 16 = .ok (.aload_n 0, 1) := by decide +kernel
theorem dX4_tellTable_17 : decode cX4_tellTable 17 = .ok (.getfield 24, 3) := by decide +kernel
theorem dX4_tellTable_20 : decode cX4_tellTable 20 = .ok (.aload_n 2, 1) := by decide +kernel
theorem dX4_tellTable_21 : decode cX4_tellTable 21 = .ok (.getfield 132, 3) := by decide +kernel
theorem dX4_tellTable_24 : decode cX4_tellTable 24 = .ok (.iload_n 3, 1) := by decide +kernel
theorem dX4_tellTable_25 : decode cX4_tellTable 25 = .ok (.iaload, 1) := by decide +kernel
theorem dX4_tellTable_26 : decode cX4_tellTable 26 = .ok (.invokevirtual 59, 3) := by decide +kernel
theorem dX4_tellTable_29 : decode cX4_tellTable 29 = .ok (.iinc 3 1, 3) := by decide +kernel
theorem dX4_tellTable_32 : decode cX4_tellTable 32 = .ok (.goto (-22), 3) := by decide +kernel
theorem dX4_tellTable_35 : decode cX4_tellTable 35 = .ok (.iconst 0, 1) := by decide +kernel
theorem dX4_tellTable_36 : decode cX4_tellTable 36 = .ok (.istore_n 3, 1) := by decide +kernel
theorem dX4_tellTable_37 : decode cX4_tellTable 37 = .ok (.iload_n 3, 1) := by decide +kernel
theorem dX4_tellTable_38 : decode cX4_tellTable 38 = .ok (.aload_n 2, 1) := by decide +kernel
theorem dX4_tellTable_39 : decode cX4_tellTable 39 = .ok (.getfield 131, 3) := by decide +kernel
theorem dX4_tellTable_42 : decode cX4_tellTable 42 = .ok (.if_icmp .ge 22, 3) := by decide +kernel
theorem dX4_tellTable_45 : decode cX4_tellTable 45 = .ok (.aload_n 0, 1) := by decide +kernel
theorem dX4_tellTable_46 : decode cX4_tellTable 46 = .ok (.getfield 24, 3) := by decide +kernel
theorem dX4_tellTable_49 : decode cX4_tellTable 49 = .ok (.aload_n 2, 1) := by decide +kernel
theorem dX4_tellTable_50 : decode cX4_tellTable 50 = .ok (.getfield 135, 3) := by decide +kernel
theorem dX4_tellTable_53 : decode cX4_tellTable 53 = .ok (.iload_n 3, 1) := by decide +kernel
theorem dX4_tellTable_54 : decode cX4_tellTable 54 = .ok (.iaload, 1) := by decide +kernel
theorem dX4_tellTable_55 : decode cX4_tellTable 55 = .ok (.invokevirtual 59, 3) := by decide +kernel
theorem dX4_tellTable_58 : decode cX4_tellTable 58 = .ok (.iinc 3 1, 3) := by decide +kernel
theorem dX4_tellTable_61 : decode cX4_tellTable 61 = .ok (.goto (-24), 3) := by decide +kernel
theorem dX4_tellTable_64 : decode cX4_tellTable 64 = .ok (.return_, 1) := by decide +kernel
theorem flRX4_132 : px_f RX4 132 0 3 := ⟨_, rfl, by decide, Or.inl (tb2 (List.mem_of_getElem? (i := 183) rfl))⟩
theorem flRX4_135 : px_f RX4 135 0 4 := ⟨_, rfl, by decide, Or.inl (tb2 (List.mem_of_getElem? (i := 185) rfl))⟩
theorem kcX4_tellTable_59 : px_cV mX4_tellTable 59 mX1_add 1 := ⟨⟨mbX1_add, by decide, by decide⟩, Or.inl (tb4 (List.mem_of_getElem? (i := 195) rfl)), vbX1_add⟩
set_option maxRecDepth 100000 in
set_option maxHeartbeats 4000000 in
theorem eX4_tellTable_37 {X : px_X}  : ∀ (m : Nat) (a0 : Nat) (a2 : Nat) (a3 : Int32) (w : px_W) (q : px_W), fX4_tellTable_37 X  m a0 a2 a3 w = some q → EV X mX4_tellTable 37 [(0, .ref a0), (2, .ref a2), (3, .int a3)] [] w none q := by
  intro m
  induction m with
  | zero => intro a0 a2 a3 w q h; cases h
  | succ m ih =>
    intro a0 a2 a3 w q h
    rw [fX4_tellTable_37.eq_2] at h
    refine EV.iload_n 2 dX4_tellTable_37 rfl rfl ?_
    refine EV.aload_n 1 dX4_tellTable_38 rfl rfl ?_
    obtain ⟨v15, gv15, h⟩ := px_bs h
    refine ev_gI dX4_tellTable_39 flRX4_131 gv15 ?_
    refine EV.icmp_ge 64 dX4_tellTable_42 (by decide) (fun c16 => ?_) (fun c16 => ?_)
    · rw [if_pos c16] at h
      cases h
      exact EV.ret0 dX4_tellTable_64 trivial
    · rw [if_neg c16] at h
      refine EV.aload_n 0 dX4_tellTable_45 rfl rfl ?_
      obtain ⟨v17, gv17, h⟩ := px_bs h
      refine ev_gR dX4_tellTable_46 flRX4_24 gv17 ?_
      refine EV.aload_n 1 dX4_tellTable_49 rfl rfl ?_
      obtain ⟨v18, gv18, h⟩ := px_bs h
      refine ev_gR dX4_tellTable_50 flRX4_135 gv18 ?_
      refine EV.iload_n 2 dX4_tellTable_53 rfl rfl ?_
      obtain ⟨v19, gv19, h⟩ := px_bs h
      refine ev_aI dX4_tellTable_54 gv19 ?_
      obtain ⟨o20, go20, h⟩ := px_bs h
      obtain ⟨q21, gq21, h⟩ := px_bs h
      refine EV.callV (As := [.int v19]) (rest := []) dX4_tellTable_55 kcX4_tellTable_59 (gO_ok go20) rfl rfl rfl (Nat.le_of_ble_eq_true rfl) (Nat.le_of_ble_eq_true rfl) (eX1_add gq21) ?_
      refine EV.iinc 2 (a3 + 1) [(3, .int (a3 + 1)), (0, .ref a0), (2, .ref a2)] dX4_tellTable_58 rfl rfl (by decide) rfl ?_
      refine EV.goto 37 dX4_tellTable_61 (by decide) ?_
      refine EV.sub [1, 2, 0] rfl ?_
      exact ih _ _ _ _ _ h
set_option maxRecDepth 100000 in
set_option maxHeartbeats 4000000 in
theorem eX4_tellTable_35 {X : px_X}  : ∀ (a0 : Nat) (a2 : Nat) (w : px_W) (q : px_W), fX4_tellTable_35 X  a0 a2 w = some q → EV X mX4_tellTable 35 [(0, .ref a0), (2, .ref a2)] [] w none q := by
  intro a0 a2 w q h
  unfold fX4_tellTable_35 at h
  refine EV.iconst (0) dX4_tellTable_35 (by decide) ?_
  refine EV.istore_n [(3, .int 0), (0, .ref a0), (2, .ref a2)] dX4_tellTable_36 rfl (by decide) rfl ?_
  refine EV.sub [1, 2, 0] rfl ?_
  exact eX4_tellTable_37  FU _ _ _ _ _ h
set_option maxRecDepth 100000 in
set_option maxHeartbeats 4000000 in
theorem eX4_tellTable_10 {X : px_X}  : ∀ (m : Nat) (a0 : Nat) (a2 : Nat) (a3 : Int32) (w : px_W) (q : px_W), fX4_tellTable_10 X  m a0 a2 a3 w = some q → EV X mX4_tellTable 10 [(0, .ref a0), (2, .ref a2), (3, .int a3)] [] w none q := by
  intro m
  induction m with
  | zero => intro a0 a2 a3 w q h; cases h
  | succ m ih =>
    intro a0 a2 a3 w q h
    rw [fX4_tellTable_10.eq_2] at h
    refine EV.iload_n 2 dX4_tellTable_10 rfl rfl ?_
    refine EV.bipush (16) dX4_tellTable_11 (by decide) ?_
    refine EV.icmp_gt 35 dX4_tellTable_13 (by decide) (fun c22 => ?_) (fun c22 => ?_)
    · rw [if_pos c22] at h
      refine EV.sub [0, 1] rfl ?_
      exact eX4_tellTable_35  _ _ _ _ h
    · rw [if_neg c22] at h
      refine EV.aload_n 0 dX4_tellTable_16 rfl rfl ?_
      obtain ⟨v23, gv23, h⟩ := px_bs h
      refine ev_gR dX4_tellTable_17 flRX4_24 gv23 ?_
      refine EV.aload_n 1 dX4_tellTable_20 rfl rfl ?_
      obtain ⟨v24, gv24, h⟩ := px_bs h
      refine ev_gR dX4_tellTable_21 flRX4_132 gv24 ?_
      refine EV.iload_n 2 dX4_tellTable_24 rfl rfl ?_
      obtain ⟨v25, gv25, h⟩ := px_bs h
      refine ev_aI dX4_tellTable_25 gv25 ?_
      obtain ⟨o26, go26, h⟩ := px_bs h
      obtain ⟨q27, gq27, h⟩ := px_bs h
      refine EV.callV (As := [.int v25]) (rest := []) dX4_tellTable_26 kcX4_tellTable_59 (gO_ok go26) rfl rfl rfl (Nat.le_of_ble_eq_true rfl) (Nat.le_of_ble_eq_true rfl) (eX1_add gq27) ?_
      refine EV.iinc 2 (a3 + 1) [(3, .int (a3 + 1)), (0, .ref a0), (2, .ref a2)] dX4_tellTable_29 rfl rfl (by decide) rfl ?_
      refine EV.goto 10 dX4_tellTable_32 (by decide) ?_
      refine EV.sub [1, 2, 0] rfl ?_
      exact ih _ _ _ _ _ h
set_option maxRecDepth 100000 in
set_option maxHeartbeats 4000000 in
theorem eX4_tellTable {X : px_X} {w : px_W} {a0 : Nat} {a1 : Int32} {a2 : Nat} {q : px_W} (h : fX4_tellTable X w a0 a1 a2 = some q) : EV X mX4_tellTable 0 (lv_args 0 [.ref a0, .int a1, .ref a2]) [] w none q := by
  unfold fX4_tellTable at h
  show EV X mX4_tellTable 0 [(0, .ref a0), (1, .int a1), (2, .ref a2)] [] w none q
  refine EV.aload_n 0 dX4_tellTable_0 rfl rfl ?_
  obtain ⟨v28, gv28, h⟩ := px_bs h
  refine ev_gR dX4_tellTable_1 flRX4_24 gv28 ?_
  refine EV.iload_n 1 dX4_tellTable_4 rfl rfl ?_
  obtain ⟨o29, go29, h⟩ := px_bs h
  obtain ⟨q30, gq30, h⟩ := px_bs h
  refine EV.callV (As := [.int a1]) (rest := []) dX4_tellTable_5 kcX4_tellTable_59 (gO_ok go29) rfl rfl rfl (Nat.le_of_ble_eq_true rfl) (Nat.le_of_ble_eq_true rfl) (eX1_add gq30) ?_
  refine EV.iconst (1) dX4_tellTable_8 (by decide) ?_
  refine EV.istore_n [(3, .int 1), (0, .ref a0), (1, .int a1), (2, .ref a2)] dX4_tellTable_9 rfl (by decide) rfl ?_
  refine EV.sub [1, 3, 0] rfl ?_
  exact eX4_tellTable_10  FU _ _ _ _ _ h
/-! WavePictures$Saver.tellTables(II)V -/
theorem dX4_tellTables_0 : decode cX4_tellTables 0 = .ok (.aload_n 0, 1) := by decide +kernel
theorem dX4_tellTables_1 : decode cX4_tellTables 1 = .ok (.getfield 12, 3) := by decide +kernel
theorem dX4_tellTables_4 : decode cX4_tellTables 4 = .ok (.getfield 90, 3) := by decide +kernel
theorem dX4_tellTables_7 : decode cX4_tellTables 7 = .ok (.ifCond .ne 17, 3) := by decide +kernel
theorem dX4_tellTables_10 : decode cX4_tellTables 10 = .ok (.aload_n 0, 1) := by decide +kernel
theorem dX4_tellTables_11 : decode cX4_tellTables 11 = .ok (.getfield 12, 3) := by decide +kernel
theorem dX4_tellTables_14 : decode cX4_tellTables 14 = .ok (.getfield 96, 3) := by decide +kernel
theorem dX4_tellTables_17 : decode cX4_tellTables 17 = .ok (.ifCond .ne 7, 3) := by decide +kernel
theorem dX4_tellTables_20 : decode cX4_tellTables 20 = .ok (.iconst 1, 1) := by decide +kernel
theorem dX4_tellTables_21 : decode cX4_tellTables 21 = .ok (.goto 4, 3) := by decide +kernel
theorem dX4_tellTables_24 : decode cX4_tellTables 24 = .ok (.iconst 0, 1) := by decide +kernel
theorem dX4_tellTables_25 : decode cX4_tellTables 25 = .ok (.istore_n 3, 1) := by decide +kernel
theorem dX4_tellTables_26 : decode cX4_tellTables 26 = .ok (.aload_n 0, 1) := by decide +kernel
theorem dX4_tellTables_27 : decode cX4_tellTables 27 = .ok (.getfield 12, 3) := by decide +kernel
theorem dX4_tellTables_30 : decode cX4_tellTables 30 = .ok (.getfield 93, 3) := by decide +kernel
theorem dX4_tellTables_33 : decode cX4_tellTables 33 = .ok (.ifCond .le 7, 3) := by decide +kernel
theorem dX4_tellTables_36 : decode cX4_tellTables 36 = .ok (.iconst 1, 1) := by decide +kernel
theorem dX4_tellTables_37 : decode cX4_tellTables 37 = .ok (.goto 4, 3) := by decide +kernel
theorem dX4_tellTables_40 : decode cX4_tellTables 40 = .ok (.iconst 0, 1) := by decide +kernel
theorem dX4_tellTables_41 : decode cX4_tellTables 41 = .ok (.istore 4, 2) := by decide +kernel
theorem dX4_tellTables_43 : decode cX4_tellTables 43 = .ok (.iconst 0, 1) := by decide +kernel
theorem dX4_tellTables_44 : decode cX4_tellTables 44 = .ok (.istore 5, 2) := by decide +kernel
theorem dX4_tellTables_46 : decode cX4_tellTables 46 = .ok (.iload_n 1, 1) := by decide +kernel
theorem dX4_tellTables_47 : decode cX4_tellTables 47 = .ok (.istore 6, 2) := by decide +kernel
theorem dX4_tellTables_49 : decode cX4_tellTables 49 = .ok (.iload 6, 2) := by decide +kernel
theorem dX4_tellTables_51 : decode cX4_tellTables 51 = .ok (.iload_n 1, 1) := by decide +kernel
theorem dX4_tellTables_52 : decode cX4_tellTables 52 = .ok (.iload_n 2, 1) := by decide +kernel
theorem dX4_tellTables_53 : decode cX4_tellTables 53 = .ok (.iadd, 1) := by decide +kernel
theorem dX4_tellTables_54 : decode cX4_tellTables 54 = .ok (.if_icmp .ge 60, 3) := by decide +kernel
theorem dX4_tellTables_57 : decode cX4_tellTables 57 = .ok (.iload 5, 2) := by decide +kernel
theorem dX4_tellTables_59 : decode cX4_tellTables 59 = .ok (.iload_n 3, 1) := by decide +kernel
theorem dX4_tellTables_60 : decode cX4_tellTables 60 = .ok (.ifCond .eq 17, 3) := by decide +kernel
theorem dX4_tellTables_63 : decode cX4_tellTables 63 = .ok (.aload_n 0, 1) := by decide +kernel
theorem dX4_tellTables_64 : decode cX4_tellTables 64 = .ok (.aload_n 0, 1) := by decide +kernel
theorem dX4_tellTables_65 : decode cX4_tellTables 65 = .ok (.getfield 20, 3) := by decide +kernel
theorem dX4_tellTables_68 : decode cX4_tellTables 68 = .ok (.iload 6, 2) := by decide +kernel
theorem dX4_tellTables_70 : decode cX4_tellTables 70 = .ok (.aaload, 1) := by decide +kernel
theorem dX4_tellTables_71 : decode cX4_tellTables 71 = .ok (.invokevirtual 120, 3) := by decide +kernel
theorem dX4_tellTables_74 : decode cX4_tellTables 74 = .ok (.goto 4, 3) := by decide +kernel
theorem dX4_tellTables_77 : decode cX4_tellTables 77 = .ok (.iconst 0, 1) := by decide +kernel
theorem dX4_tellTables_78 : decode cX4_tellTables 78 = .ok (.iadd, 1) := by decide +kernel
theorem dX4_tellTables_79 : decode cX4_tellTables 79 = .ok (.istore 5, 2) := by decide +kernel
theorem dX4_tellTables_81 : decode cX4_tellTables 81 = .ok (.iload 5, 2) := by decide +kernel
theorem dX4_tellTables_83 : decode cX4_tellTables 83 = .ok (.iload 4, 2) := by decide +kernel
theorem dX4_tellTables_85 : decode cX4_tellTables 85 = .ok (.ifCond .eq 19, 3) := by decide +kernel
theorem dX4_tellTables_88 : decode cX4_tellTables 88 = .ok (.aload_n 0, 1) := by decide +kernel
theorem dX4_tellTables_89 : decode cX4_tellTables 89 = .ok (.aload_n 0, 1) := by decide +kernel
theorem dX4_tellTables_90 : decode cX4_tellTables 90 = .ok (.getfield 20, 3) := by decide +kernel
theorem dX4_tellTables_93 : decode cX4_tellTables 93 = .ok (.iconst 4, 1) := by decide +kernel
theorem dX4_tellTables_94 : decode cX4_tellTables 94 = .ok (.iload 6, 2) := by decide +kernel
theorem dX4_tellTables_96 : decode cX4_tellTables 96 = .ok (.iadd, 1) := by decide +kernel
theorem dX4_tellTables_97 : decode cX4_tellTables 97 = .ok (.aaload, 1) := by decide +kernel
theorem dX4_tellTables_98 : decode cX4_tellTables 98 = .ok (.invokevirtual 120, 3) := by decide +kernel
theorem dX4_tellTables_101 : decode cX4_tellTables 101 = .ok (.goto 4, 3) := by decide +kernel
theorem dX4_tellTables_104 : decode cX4_tellTables 104 = .ok (.iconst 0, 1) := by decide +kernel
theorem dX4_tellTables_105 : decode cX4_tellTables 105 = .ok (.iadd, 1) := by decide +kernel
theorem dX4_tellTables_106 : decode cX4_tellTables 106 = .ok (.istore 5, 2) := by decide +kernel
theorem dX4_tellTables_108 : decode cX4_tellTables 108 = .ok (.iinc 6 1, 3) := by decide +kernel
theorem dX4_tellTables_111 : decode cX4_tellTables 111 = .ok (.goto (-62), 3) := by decide +kernel
theorem dX4_tellTables_114 : decode cX4_tellTables 114 = .ok (.iload 5, 2) := by decide +kernel
theorem dX4_tellTables_116 : decode cX4_tellTables 116 = .ok (.ifCond .ne 4, 3) := by decide +kernel
theorem dX4_tellTables_119 : decode cX4_tellTables 119 = .ok (.return_, 1) := by decide +kernel
theorem dX4_tellTables_120 : decode cX4_tellTables 120 = .ok (.aload_n 0, 1) := by decide +kernel
theorem dX4_tellTables_121 : decode cX4_tellTables 121 = .ok (.sipush 196, 3) := by decide +kernel
theorem dX4_tellTables_124 : decode cX4_tellTables 124 = .ok (.iload 5, 2) := by decide +kernel
theorem dX4_tellTables_126 : decode cX4_tellTables 126 = .ok (.invokevirtual 70, 3) := by decide +kernel
theorem dX4_tellTables_129 : decode cX4_tellTables 129 = .ok (.iload_n 1, 1) := by decide +kernel
theorem dX4_tellTables_130 : decode cX4_tellTables 130 = .ok (.istore 6, 2) := by decide +kernel
theorem dX4_tellTables_132 : decode cX4_tellTables 132 = .ok (.iload 6, 2) := by decide +kernel
theorem dX4_tellTables_134 : decode cX4_tellTables 134 = .ok (.iload_n 1, 1) := by decide +kernel
theorem dX4_tellTables_135 : decode cX4_tellTables 135 = .ok (.iload_n 2, 1) := by decide +kernel
theorem dX4_tellTables_136 : decode cX4_tellTables 136 = .ok (.iadd, 1) := by decide +kernel
theorem dX4_tellTables_137 : decode cX4_tellTables 137 = .ok (.if_icmp .ge 26, 3) := by decide +kernel
theorem dX4_tellTables_140 : decode cX4_tellTables 140 = .ok (.iload_n 3, 1) := by decide +kernel
theorem dX4_tellTables_141 : decode cX4_tellTables 141 = .ok (.ifCond .eq 22, 3) := by decide +kernel
theorem dX4_tellTables_144 : decode cX4_tellTables 144 = .ok (.aload_n 0, 1) := by decide +kernel
theorem dX4_tellTables_145 : decode cX4_tellTables 145 = .ok (.iload 6, 2) := by decide +kernel
theorem dX4_tellTables_147 : decode cX4_tellTables 147 = .ok (.aload_n 0, 1) := by decide +kernel
theorem dX4_tellTables_148 : decode cX4_tellTables 148 = .ok (.getfield 20, 3) := by decide +kernel
theorem dX4_tellTables_151 : decode cX4_tellTables 151 = .ok (.iload 6, 2) := by decide +kernel
theorem dX4_tellTables_153 : decode cX4_tellTables 153 = .ok (.aaload, 1) := by decide +kernel
theorem dX4_tellTables_154 : decode cX4_tellTables 154 = .ok (.invokevirtual 124, 3) := by decide +kernel
theorem dX4_tellTables_157 : decode cX4_tellTables 157 = .ok (.iinc 6 1, 3) := by decide +kernel
theorem dX4_tellTables_160 : decode cX4_tellTables 160 = .ok (.goto (-28), 3) := by decide +kernel
theorem dX4_tellTables_163 : decode cX4_tellTables 163 = .ok (.iload_n 1, 1) := by decide +kernel
theorem dX4_tellTables_164 : decode cX4_tellTables 164 = .ok (.istore 6, 2) := by decide +kernel
theorem dX4_tellTables_166 : decode cX4_tellTables 166 = .ok (.iload 6, 2) := by decide +kernel
theorem dX4_tellTables_168 : decode cX4_tellTables 168 = .ok (.iload_n 1, 1) := by decide +kernel
theorem dX4_tellTables_169 : decode cX4_tellTables 169 = .ok (.iload_n 2, 1) := by decide +kernel
theorem dX4_tellTables_170 : decode cX4_tellTables 170 = .ok (.iadd, 1) := by decide +kernel
theorem dX4_tellTables_171 : decode cX4_tellTables 171 = .ok (.if_icmp .ge 32, 3) := by decide +kernel
theorem dX4_tellTables_174 : decode cX4_tellTables 174 = .ok (.iload 4, 2) := by decide +kernel
theorem dX4_tellTables_176 : decode cX4_tellTables 176 = .ok (.ifCond .eq 27, 3) := by decide +kernel
theorem dX4_tellTables_179 : decode cX4_tellTables 179 = .ok (.aload_n 0, 1) := by decide +kernel
theorem dX4_tellTables_180 : decode cX4_tellTables 180 = .ok (.bipush 16, 2) := by decide +kernel
theorem dX4_tellTables_182 : decode cX4_tellTables 182 = .ok (.iload 6, 2) := by decide +kernel
theorem dX4_tellTables_184 : decode cX4_tellTables 184 = .ok (.iadd, 1) := by decide +kernel
theorem dX4_tellTables_185 : decode cX4_tellTables 185 = .ok (.aload_n 0, 1) := by decide +kernel
theorem dX4_tellTables_186 : decode cX4_tellTables 186 = .ok (.getfield 20, 3) := by decide +kernel
theorem dX4_tellTables_189 : decode cX4_tellTables 189 = .ok (.iconst 4, 1) := by decide +kernel
theorem dX4_tellTables_190 : decode cX4_tellTables 190 = .ok (.iload 6, 2) := by decide +kernel
theorem dX4_tellTables_192 : decode cX4_tellTables 192 = .ok (.iadd, 1) := by decide +kernel
theorem dX4_tellTables_193 : decode cX4_tellTables 193 = .ok (.aaload, 1) := by decide +kernel
theorem dX4_tellTables_194 : decode cX4_tellTables 194 = .ok (.invokevirtual 124, 3) := by decide +kernel
theorem dX4_tellTables_197 : decode cX4_tellTables 197 = .ok (.iinc 6 1, 3) := by decide +kernel
theorem dX4_tellTables_200 : decode cX4_tellTables 200 = .ok (.goto (-34), 3) := by decide +kernel
theorem dX4_tellTables_203 : decode cX4_tellTables 203 = .ok (.return_, 1) := by decide +kernel
theorem kcX4_tellTables_70 : px_cV mX4_tellTables 70 mX4_tellSegment 2 := ⟨⟨mbX4_tellSegment, by decide, by decide⟩, Or.inl (tb4 (List.mem_of_getElem? (i := 200) rfl)), vbX4_tellSegment⟩
theorem mbX4_sizeOfTable : px_mB mX4_sizeOfTable 1 := ⟨tb5 (List.mem_of_getElem? (i := 65) rfl), by decide +kernel, tb1 (List.mem_of_getElem? (i := 10) rfl), by decide +kernel, by decide +kernel⟩
theorem vbX4_sizeOfTable : px_vB mX4_sizeOfTable := ⟨tb5 (List.mem_of_getElem? (i := 64) rfl), List.mem_append_left _ (List.mem_of_getElem? (i := 63) (by decide +kernel))⟩
theorem kcX4_tellTables_120 : px_cV mX4_tellTables 120 mX4_sizeOfTable 1 := ⟨⟨mbX4_sizeOfTable, by decide, by decide⟩, Or.inl (tb5 (List.mem_of_getElem? (i := 62) rfl)), vbX4_sizeOfTable⟩
theorem mbX4_tellTable : px_mB mX4_tellTable 2 := ⟨tb5 (List.mem_of_getElem? (i := 101) rfl), by decide +kernel, tb1 (List.mem_of_getElem? (i := 10) rfl), by decide +kernel, by decide +kernel⟩
theorem vbX4_tellTable : px_vB mX4_tellTable := ⟨tb5 (List.mem_of_getElem? (i := 100) rfl), List.mem_append_left _ (List.mem_of_getElem? (i := 71) (by decide +kernel))⟩
theorem kcX4_tellTables_124 : px_cV mX4_tellTables 124 mX4_tellTable 2 := ⟨⟨mbX4_tellTable, by decide, by decide⟩, Or.inl (tb5 (List.mem_of_getElem? (i := 98) rfl)), vbX4_tellTable⟩
set_option maxRecDepth 100000 in
set_option maxHeartbeats 4000000 in
theorem eX4_tellTables_166 {X : px_X}  : ∀ (m : Nat) (a0 : Nat) (a1 : Int32) (a2 : Int32) (a4 : Int32) (a6 : Int32) (w : px_W) (q : px_W), fX4_tellTables_166 X  m a0 a1 a2 a4 a6 w = some q → EV X mX4_tellTables 166 [(0, .ref a0), (1, .int a1), (2, .int a2), (4, .int a4), (6, .int a6)] [] w none q := by
  intro m
  induction m with
  | zero => intro a0 a1 a2 a4 a6 w q h; cases h
  | succ m ih =>
    intro a0 a1 a2 a4 a6 w q h
    rw [fX4_tellTables_166.eq_2] at h
    refine EV.iload 4 dX4_tellTables_166 rfl ?_
    refine EV.iload_n 1 dX4_tellTables_168 rfl rfl ?_
    refine EV.iload_n 2 dX4_tellTables_169 rfl rfl ?_
    refine EV.iadd dX4_tellTables_170 ?_
    refine EV.icmp_ge 203 dX4_tellTables_171 (by decide) (fun c25 => ?_) (fun c25 => ?_)
    · rw [if_pos c25] at h
      cases h
      exact EV.ret0 dX4_tellTables_203 trivial
    · rw [if_neg c25] at h
      refine EV.iload 3 dX4_tellTables_174 rfl ?_
      refine EV.if_eq 203 dX4_tellTables_176 (by decide) (fun c26 => ?_) (fun c26 => ?_)
      · rw [if_pos c26] at h
        cases h
        exact EV.ret0 dX4_tellTables_203 trivial
      · rw [if_neg c26] at h
        refine EV.aload_n 0 dX4_tellTables_179 rfl rfl ?_
        refine EV.bipush (16) dX4_tellTables_180 (by decide) ?_
        refine EV.iload 4 dX4_tellTables_182 rfl ?_
        refine EV.iadd dX4_tellTables_184 ?_
        refine EV.aload_n 0 dX4_tellTables_185 rfl rfl ?_
        obtain ⟨v27, gv27, h⟩ := px_bs h
        refine ev_gR dX4_tellTables_186 flRX4_20 gv27 ?_
        refine EV.iconst (4) dX4_tellTables_189 (by decide) ?_
        refine EV.iload 4 dX4_tellTables_190 rfl ?_
        refine EV.iadd dX4_tellTables_192 ?_
        obtain ⟨v28, gv28, h⟩ := px_bs h
        refine ev_aQ dX4_tellTables_193 (t := 5) rfl gv28 ?_
        obtain ⟨o29, go29, h⟩ := px_bs h
        obtain ⟨q30, gq30, h⟩ := px_bs h
        refine EV.callV (As := [.int (16 + a6), .ref v28]) (rest := []) dX4_tellTables_194 kcX4_tellTables_124 (gO_ok go29) rfl rfl rfl (Nat.le_of_ble_eq_true rfl) (Nat.le_of_ble_eq_true rfl) (eX4_tellTable gq30) ?_
        refine EV.iinc 4 (a6 + 1) [(6, .int (a6 + 1)), (0, .ref a0), (1, .int a1), (2, .int a2), (4, .int a4)] dX4_tellTables_197 rfl rfl (by decide) rfl ?_
        refine EV.goto 166 dX4_tellTables_200 (by decide) ?_
        refine EV.sub [1, 2, 3, 4, 0] rfl ?_
        exact ih _ _ _ _ _ _ _ h
set_option maxRecDepth 100000 in
set_option maxHeartbeats 4000000 in
theorem eX4_tellTables_163 {X : px_X}  : ∀ (a0 : Nat) (a1 : Int32) (a2 : Int32) (a4 : Int32) (w : px_W) (q : px_W), fX4_tellTables_163 X  a0 a1 a2 a4 w = some q → EV X mX4_tellTables 163 [(0, .ref a0), (1, .int a1), (2, .int a2), (4, .int a4)] [] w none q := by
  intro a0 a1 a2 a4 w q h
  unfold fX4_tellTables_163 at h
  refine EV.iload_n 1 dX4_tellTables_163 rfl rfl ?_
  refine EV.istore [(6, .int a1), (0, .ref a0), (1, .int a1), (2, .int a2), (4, .int a4)] dX4_tellTables_164 (by decide) rfl ?_
  refine EV.sub [1, 2, 3, 4, 0] rfl ?_
  exact eX4_tellTables_166  FU _ _ _ _ _ _ _ h
set_option maxRecDepth 100000 in
set_option maxHeartbeats 4000000 in
theorem eX4_tellTables_132 {X : px_X}  : ∀ (m : Nat) (a0 : Nat) (a1 : Int32) (a2 : Int32) (a3 : Int32) (a4 : Int32) (a6 : Int32) (w : px_W) (q : px_W), fX4_tellTables_132 X  m a0 a1 a2 a3 a4 a6 w = some q → EV X mX4_tellTables 132 [(0, .ref a0), (1, .int a1), (2, .int a2), (3, .int a3), (4, .int a4), (6, .int a6)] [] w none q := by
  intro m
  induction m with
  | zero => intro a0 a1 a2 a3 a4 a6 w q h; cases h
  | succ m ih =>
    intro a0 a1 a2 a3 a4 a6 w q h
    rw [fX4_tellTables_132.eq_2] at h
    refine EV.iload 5 dX4_tellTables_132 rfl ?_
    refine EV.iload_n 1 dX4_tellTables_134 rfl rfl ?_
    refine EV.iload_n 2 dX4_tellTables_135 rfl rfl ?_
    refine EV.iadd dX4_tellTables_136 ?_
    refine EV.icmp_ge 163 dX4_tellTables_137 (by decide) (fun c31 => ?_) (fun c31 => ?_)
    · rw [if_pos c31] at h
      refine EV.sub [0, 1, 2, 4] rfl ?_
      exact eX4_tellTables_163  _ _ _ _ _ _ h
    · rw [if_neg c31] at h
      refine EV.iload_n 3 dX4_tellTables_140 rfl rfl ?_
      refine EV.if_eq 163 dX4_tellTables_141 (by decide) (fun c32 => ?_) (fun c32 => ?_)
      · rw [if_pos c32] at h
        refine EV.sub [0, 1, 2, 4] rfl ?_
        exact eX4_tellTables_163  _ _ _ _ _ _ h
      · rw [if_neg c32] at h
        refine EV.aload_n 0 dX4_tellTables_144 rfl rfl ?_
        refine EV.iload 5 dX4_tellTables_145 rfl ?_
        refine EV.aload_n 0 dX4_tellTables_147 rfl rfl ?_
        obtain ⟨v33, gv33, h⟩ := px_bs h
        refine ev_gR dX4_tellTables_148 flRX4_20 gv33 ?_
        refine EV.iload 5 dX4_tellTables_151 rfl ?_
        obtain ⟨v34, gv34, h⟩ := px_bs h
        refine ev_aQ dX4_tellTables_153 (t := 5) rfl gv34 ?_
        obtain ⟨o35, go35, h⟩ := px_bs h
        obtain ⟨q36, gq36, h⟩ := px_bs h
        refine EV.callV (As := [.int a6, .ref v34]) (rest := []) dX4_tellTables_154 kcX4_tellTables_124 (gO_ok go35) rfl rfl rfl (Nat.le_of_ble_eq_true rfl) (Nat.le_of_ble_eq_true rfl) (eX4_tellTable gq36) ?_
        refine EV.iinc 5 (a6 + 1) [(6, .int (a6 + 1)), (0, .ref a0), (1, .int a1), (2, .int a2), (3, .int a3), (4, .int a4)] dX4_tellTables_157 rfl rfl (by decide) rfl ?_
        refine EV.goto 132 dX4_tellTables_160 (by decide) ?_
        refine EV.sub [1, 2, 3, 4, 5, 0] rfl ?_
        exact ih _ _ _ _ _ _ _ _ h
set_option maxRecDepth 100000 in
set_option maxHeartbeats 4000000 in
theorem eX4_tellTables_114 {X : px_X}  : ∀ (a0 : Nat) (a1 : Int32) (a2 : Int32) (a3 : Int32) (a4 : Int32) (a5 : Int32) (w : px_W) (q : px_W), fX4_tellTables_114 X  a0 a1 a2 a3 a4 a5 w = some q → EV X mX4_tellTables 114 [(0, .ref a0), (1, .int a1), (2, .int a2), (3, .int a3), (4, .int a4), (5, .int a5)] [] w none q := by
  intro a0 a1 a2 a3 a4 a5 w q h
  unfold fX4_tellTables_114 at h
  refine EV.iload 5 dX4_tellTables_114 rfl ?_
  refine EV.if_ne 120 dX4_tellTables_116 (by decide) (fun c37 => ?_) (fun c37 => ?_)
  · rw [if_neg c37] at h
    refine EV.aload_n 0 dX4_tellTables_120 rfl rfl ?_
    refine EV.sipush (196) dX4_tellTables_121 (by decide) ?_
    refine EV.iload 5 dX4_tellTables_124 rfl ?_
    obtain ⟨o38, go38, h⟩ := px_bs h
    obtain ⟨q39, gq39, h⟩ := px_bs h
    refine EV.callV (As := [.int 196, .int a5]) (rest := []) dX4_tellTables_126 kcX4_tellTables_70 (gO_ok go38) rfl rfl rfl (Nat.le_of_ble_eq_true rfl) (Nat.le_of_ble_eq_true rfl) (eX4_tellSegment gq39) ?_
    refine EV.iload_n 1 dX4_tellTables_129 rfl rfl ?_
    refine EV.istore [(6, .int a1), (0, .ref a0), (1, .int a1), (2, .int a2), (3, .int a3), (4, .int a4), (5, .int a5)] dX4_tellTables_130 (by decide) rfl ?_
    refine EV.sub [1, 2, 3, 4, 5, 0] rfl ?_
    exact eX4_tellTables_132  FU _ _ _ _ _ _ _ _ h
  · rw [if_pos c37] at h
    cases h
    exact EV.ret0 dX4_tellTables_119 trivial
set_option maxRecDepth 100000 in
set_option maxHeartbeats 4000000 in
theorem eX4_tellTables_105 {X : px_X} {k49 : Nat → Int32 → Int32 → Int32 → Int32 → Int32 → Int32 → px_W → Option (px_W)} (hk49 : ∀ (a0 : Nat) (a1 : Int32) (a2 : Int32) (a3 : Int32) (a4 : Int32) (a5 : Int32) (a6 : Int32) (w : px_W) (q : px_W), k49 a0 a1 a2 a3 a4 a5 a6 w = some q → EV X mX4_tellTables 49 [(0, .ref a0), (1, .int a1), (2, .int a2), (3, .int a3), (4, .int a4), (5, .int a5), (6, .int a6)] [] w none q) : ∀ (a0 : Nat) (a1 : Int32) (a2 : Int32) (a3 : Int32) (a4 : Int32) (a6 : Int32) (s0 : Int32) (s1 : Int32) (w : px_W) (q : px_W), fX4_tellTables_105 X k49 a0 a1 a2 a3 a4 a6 s0 s1 w = some q → EV X mX4_tellTables 105 [(0, .ref a0), (1, .int a1), (2, .int a2), (3, .int a3), (4, .int a4), (6, .int a6)] [.int s0, .int s1] w none q := by
  intro a0 a1 a2 a3 a4 a6 s0 s1 w q h
  unfold fX4_tellTables_105 at h
  refine EV.iadd dX4_tellTables_105 ?_
  refine EV.istore [(5, .int (s1 + s0)), (0, .ref a0), (1, .int a1), (2, .int a2), (3, .int a3), (4, .int a4), (6, .int a6)] dX4_tellTables_106 (by decide) rfl ?_
  refine EV.iinc 6 (a6 + 1) [(6, .int (a6 + 1)), (5, .int (s1 + s0)), (0, .ref a0), (1, .int a1), (2, .int a2), (3, .int a3), (4, .int a4)] dX4_tellTables_108 rfl rfl (by decide) rfl ?_
  refine EV.goto 49 dX4_tellTables_111 (by decide) ?_
  refine EV.sub [2, 3, 4, 5, 6, 1, 0] rfl ?_
  exact hk49 _ _ _ _ _ _ _ _ _ h
set_option maxRecDepth 100000 in
set_option maxHeartbeats 4000000 in
theorem eX4_tellTables_78 {X : px_X} {k49 : Nat → Int32 → Int32 → Int32 → Int32 → Int32 → Int32 → px_W → Option (px_W)} (hk49 : ∀ (a0 : Nat) (a1 : Int32) (a2 : Int32) (a3 : Int32) (a4 : Int32) (a5 : Int32) (a6 : Int32) (w : px_W) (q : px_W), k49 a0 a1 a2 a3 a4 a5 a6 w = some q → EV X mX4_tellTables 49 [(0, .ref a0), (1, .int a1), (2, .int a2), (3, .int a3), (4, .int a4), (5, .int a5), (6, .int a6)] [] w none q) : ∀ (a0 : Nat) (a1 : Int32) (a2 : Int32) (a3 : Int32) (a4 : Int32) (a6 : Int32) (s0 : Int32) (s1 : Int32) (w : px_W) (q : px_W), fX4_tellTables_78 X k49 a0 a1 a2 a3 a4 a6 s0 s1 w = some q → EV X mX4_tellTables 78 [(0, .ref a0), (1, .int a1), (2, .int a2), (3, .int a3), (4, .int a4), (6, .int a6)] [.int s0, .int s1] w none q := by
  intro a0 a1 a2 a3 a4 a6 s0 s1 w q h
  unfold fX4_tellTables_78 at h
  refine EV.iadd dX4_tellTables_78 ?_
  refine EV.istore [(5, .int (s1 + s0)), (0, .ref a0), (1, .int a1), (2, .int a2), (3, .int a3), (4, .int a4), (6, .int a6)] dX4_tellTables_79 (by decide) rfl ?_
  refine EV.iload 0 dX4_tellTables_81 rfl ?_
  refine EV.iload 5 dX4_tellTables_83 rfl ?_
  refine EV.if_eq 104 dX4_tellTables_85 (by decide) (fun c40 => ?_) (fun c40 => ?_)
  · rw [if_pos c40] at h
    refine EV.iconst (0) dX4_tellTables_104 (by decide) ?_
    refine EV.sub [1, 2, 3, 4, 5, 6] rfl ?_
    exact eX4_tellTables_105 hk49 _ _ _ _ _ _ _ _ _ _ h
  · rw [if_neg c40] at h
    refine EV.aload_n 1 dX4_tellTables_88 rfl rfl ?_
    refine EV.aload_n 1 dX4_tellTables_89 rfl rfl ?_
    obtain ⟨v41, gv41, h⟩ := px_bs h
    refine ev_gR dX4_tellTables_90 flRX4_20 gv41 ?_
    refine EV.iconst (4) dX4_tellTables_93 (by decide) ?_
    refine EV.iload 6 dX4_tellTables_94 rfl ?_
    refine EV.iadd dX4_tellTables_96 ?_
    obtain ⟨v42, gv42, h⟩ := px_bs h
    refine ev_aQ dX4_tellTables_97 (t := 5) rfl gv42 ?_
    obtain ⟨o43, go43, h⟩ := px_bs h
    obtain ⟨q44, gq44, h⟩ := px_bs h
    refine EV.callV (As := [.ref v42]) (rest := [.int (s1 + s0)]) dX4_tellTables_98 kcX4_tellTables_120 (gO_ok go43) rfl rfl rfl (Nat.le_of_ble_eq_true rfl) (Nat.le_of_ble_eq_true rfl) (eX4_sizeOfTable gq44) ?_
    refine EV.goto 105 dX4_tellTables_101 (by decide) ?_
    refine EV.sub [1, 2, 3, 4, 5, 6] rfl ?_
    exact eX4_tellTables_105 hk49 _ _ _ _ _ _ _ _ _ _ h
set_option maxRecDepth 100000 in
set_option maxHeartbeats 4000000 in
theorem eX4_tellTables_49 {X : px_X}  : ∀ (m : Nat) (a0 : Nat) (a1 : Int32) (a2 : Int32) (a3 : Int32) (a4 : Int32) (a5 : Int32) (a6 : Int32) (w : px_W) (q : px_W), fX4_tellTables_49 X  m a0 a1 a2 a3 a4 a5 a6 w = some q → EV X mX4_tellTables 49 [(0, .ref a0), (1, .int a1), (2, .int a2), (3, .int a3), (4, .int a4), (5, .int a5), (6, .int a6)] [] w none q := by
  intro m
  induction m with
  | zero => intro a0 a1 a2 a3 a4 a5 a6 w q h; cases h
  | succ m ih =>
    intro a0 a1 a2 a3 a4 a5 a6 w q h
    rw [fX4_tellTables_49.eq_2] at h
    refine EV.iload 6 dX4_tellTables_49 rfl ?_
    refine EV.iload_n 1 dX4_tellTables_51 rfl rfl ?_
    refine EV.iload_n 2 dX4_tellTables_52 rfl rfl ?_
    refine EV.iadd dX4_tellTables_53 ?_
    refine EV.icmp_ge 114 dX4_tellTables_54 (by decide) (fun c45 => ?_) (fun c45 => ?_)
    · rw [if_pos c45] at h
      refine EV.sub [0, 1, 2, 3, 4, 5] rfl ?_
      exact eX4_tellTables_114  _ _ _ _ _ _ _ _ h
    · rw [if_neg c45] at h
      refine EV.iload 5 dX4_tellTables_57 rfl ?_
      refine EV.iload_n 3 dX4_tellTables_59 rfl rfl ?_
      refine EV.if_eq 77 dX4_tellTables_60 (by decide) (fun c46 => ?_) (fun c46 => ?_)
      · rw [if_pos c46] at h
        refine EV.iconst (0) dX4_tellTables_77 (by decide) ?_
        refine EV.sub [0, 1, 2, 3, 4, 6] rfl ?_
        exact eX4_tellTables_78 ih _ _ _ _ _ _ _ _ _ _ h
      · rw [if_neg c46] at h
        refine EV.aload_n 0 dX4_tellTables_63 rfl rfl ?_
        refine EV.aload_n 0 dX4_tellTables_64 rfl rfl ?_
        obtain ⟨v47, gv47, h⟩ := px_bs h
        refine ev_gR dX4_tellTables_65 flRX4_20 gv47 ?_
        refine EV.iload 6 dX4_tellTables_68 rfl ?_
        obtain ⟨v48, gv48, h⟩ := px_bs h
        refine ev_aQ dX4_tellTables_70 (t := 5) rfl gv48 ?_
        obtain ⟨o49, go49, h⟩ := px_bs h
        obtain ⟨q50, gq50, h⟩ := px_bs h
        refine EV.callV (As := [.ref v48]) (rest := [.int a5]) dX4_tellTables_71 kcX4_tellTables_120 (gO_ok go49) rfl rfl rfl (Nat.le_of_ble_eq_true rfl) (Nat.le_of_ble_eq_true rfl) (eX4_sizeOfTable gq50) ?_
        refine EV.goto 78 dX4_tellTables_74 (by decide) ?_
        refine EV.sub [0, 1, 2, 3, 4, 6] rfl ?_
        exact eX4_tellTables_78 ih _ _ _ _ _ _ _ _ _ _ h
set_option maxRecDepth 100000 in
set_option maxHeartbeats 4000000 in
theorem eX4_tellTables_41 {X : px_X}  : ∀ (a0 : Nat) (a1 : Int32) (a2 : Int32) (a3 : Int32) (s0 : Int32) (w : px_W) (q : px_W), fX4_tellTables_41 X  a0 a1 a2 a3 s0 w = some q → EV X mX4_tellTables 41 [(0, .ref a0), (1, .int a1), (2, .int a2), (3, .int a3)] [.int s0] w none q := by
  intro a0 a1 a2 a3 s0 w q h
  unfold fX4_tellTables_41 at h
  refine EV.istore [(4, .int s0), (0, .ref a0), (1, .int a1), (2, .int a2), (3, .int a3)] dX4_tellTables_41 (by decide) rfl ?_
  refine EV.iconst (0) dX4_tellTables_43 (by decide) ?_
  refine EV.istore [(5, .int 0), (4, .int s0), (0, .ref a0), (1, .int a1), (2, .int a2), (3, .int a3)] dX4_tellTables_44 (by decide) rfl ?_
  refine EV.iload_n 3 dX4_tellTables_46 rfl rfl ?_
  refine EV.istore [(6, .int a1), (5, .int 0), (4, .int s0), (0, .ref a0), (1, .int a1), (2, .int a2), (3, .int a3)] dX4_tellTables_47 (by decide) rfl ?_
  refine EV.sub [3, 4, 5, 6, 2, 1, 0] rfl ?_
  exact eX4_tellTables_49  FU _ _ _ _ _ _ _ _ _ h
set_option maxRecDepth 100000 in
set_option maxHeartbeats 4000000 in
theorem eX4_tellTables_25 {X : px_X}  : ∀ (a0 : Nat) (a1 : Int32) (a2 : Int32) (s0 : Int32) (w : px_W) (q : px_W), fX4_tellTables_25 X  a0 a1 a2 s0 w = some q → EV X mX4_tellTables 25 [(0, .ref a0), (1, .int a1), (2, .int a2)] [.int s0] w none q := by
  intro a0 a1 a2 s0 w q h
  unfold fX4_tellTables_25 at h
  refine EV.istore_n [(3, .int s0), (0, .ref a0), (1, .int a1), (2, .int a2)] dX4_tellTables_25 rfl (by decide) rfl ?_
  refine EV.aload_n 1 dX4_tellTables_26 rfl rfl ?_
  obtain ⟨v51, gv51, h⟩ := px_bs h
  refine ev_gR dX4_tellTables_27 flRX4_12 gv51 ?_
  obtain ⟨v52, gv52, h⟩ := px_bs h
  refine ev_gI dX4_tellTables_30 flRX4_93 gv52 ?_
  refine EV.if_le 40 dX4_tellTables_33 (by decide) (fun c53 => ?_) (fun c53 => ?_)
  · rw [if_pos c53] at h
    refine EV.iconst (0) dX4_tellTables_40 (by decide) ?_
    refine EV.sub [1, 2, 3, 0] rfl ?_
    exact eX4_tellTables_41  _ _ _ _ _ _ _ h
  · rw [if_neg c53] at h
    refine EV.iconst (1) dX4_tellTables_36 (by decide) ?_
    refine EV.goto 41 dX4_tellTables_37 (by decide) ?_
    refine EV.sub [1, 2, 3, 0] rfl ?_
    exact eX4_tellTables_41  _ _ _ _ _ _ _ h
set_option maxRecDepth 100000 in
set_option maxHeartbeats 4000000 in
theorem eX4_tellTables_24 {X : px_X}  : ∀ (a0 : Nat) (a1 : Int32) (a2 : Int32) (w : px_W) (q : px_W), fX4_tellTables_24 X  a0 a1 a2 w = some q → EV X mX4_tellTables 24 [(0, .ref a0), (1, .int a1), (2, .int a2)] [] w none q := by
  intro a0 a1 a2 w q h
  unfold fX4_tellTables_24 at h
  refine EV.iconst (0) dX4_tellTables_24 (by decide) ?_
  refine EV.sub [0, 1, 2] rfl ?_
  exact eX4_tellTables_25  _ _ _ _ _ _ h
set_option maxRecDepth 100000 in
set_option maxHeartbeats 4000000 in
theorem eX4_tellTables {X : px_X} {w : px_W} {a0 : Nat} {a1 : Int32} {a2 : Int32} {q : px_W} (h : fX4_tellTables X w a0 a1 a2 = some q) : EV X mX4_tellTables 0 (lv_args 0 [.ref a0, .int a1, .int a2]) [] w none q := by
  unfold fX4_tellTables at h
  show EV X mX4_tellTables 0 [(0, .ref a0), (1, .int a1), (2, .int a2)] [] w none q
  refine EV.aload_n 0 dX4_tellTables_0 rfl rfl ?_
  obtain ⟨v54, gv54, h⟩ := px_bs h
  refine ev_gR dX4_tellTables_1 flRX4_12 gv54 ?_
  obtain ⟨v55, gv55, h⟩ := px_bs h
  refine ev_gI dX4_tellTables_4 flRX4_90 gv55 ?_
  refine EV.if_ne 24 dX4_tellTables_7 (by decide) (fun c56 => ?_) (fun c56 => ?_)
  · rw [if_neg c56] at h
    refine EV.sub [0, 1, 2] rfl ?_
    exact eX4_tellTables_24  _ _ _ _ _ h
  · rw [if_pos c56] at h
    refine EV.aload_n 0 dX4_tellTables_10 rfl rfl ?_
    obtain ⟨v57, gv57, h⟩ := px_bs h
    refine ev_gR dX4_tellTables_11 flRX4_12 gv57 ?_
    obtain ⟨v58, gv58, h⟩ := px_bs h
    refine ev_gI dX4_tellTables_14 flRX4_96 gv58 ?_
    refine EV.if_ne 24 dX4_tellTables_17 (by decide) (fun c59 => ?_) (fun c59 => ?_)
    · rw [if_neg c59] at h
      refine EV.sub [0, 1, 2] rfl ?_
      exact eX4_tellTables_24  _ _ _ _ _ h
    · rw [if_pos c59] at h
      refine EV.iconst (1) dX4_tellTables_20 (by decide) ?_
      refine EV.goto 25 dX4_tellTables_21 (by decide) ?_
      refine EV.sub [0, 1, 2] rfl ?_
      exact eX4_tellTables_25  _ _ _ _ _ _ h
/-! WavePictures$Saver.tellScan(II)V -/
theorem dX4_tellScan_0 : decode cX4_tellScan 0 = .ok (.aload_n 0, 1) := by decide +kernel
theorem dX4_tellScan_1 : decode cX4_tellScan 1 = .ok (.getfield 12, 3) := by decide +kernel
theorem dX4_tellScan_4 : decode cX4_tellScan 4 = .ok (.iload_n 2, 1) := by decide +kernel
theorem dX4_tellScan_5 : decode cX4_tellScan 5 = .ok (.putfield 102, 3) := by decide +kernel
theorem dX4_tellScan_8 : decode cX4_tellScan 8 = .ok (.iconst 0, 1) := by decide +kernel
theorem dX4_tellScan_9 : decode cX4_tellScan 9 = .ok (.istore_n 3, 1) := by decide +kernel
theorem dX4_tellScan_10 : decode cX4_tellScan 10 = .ok (.iload_n 3, 1) := by decide +kernel
theorem dX4_tellScan_11 : decode cX4_tellScan 11 = .ok (.iload_n 2, 1) := by decide +kernel
theorem dX4_tellScan_12 : decode cX4_tellScan 12 = .ok (.if_icmp .ge 45, 3) := by decide +kernel
theorem dX4_tellScan_15 : decode cX4_tellScan 15 = .ok (.aload_n 0, 1) := by decide +kernel
theorem dX4_tellScan_16 : decode cX4_tellScan 16 = .ok (.getfield 12, 3) := by decide +kernel
theorem dX4_tellScan_19 : decode cX4_tellScan 19 = .ok (.getfield 103, 3) := by decide +kernel
theorem dX4_tellScan_22 : decode cX4_tellScan 22 = .ok (.iload_n 3, 1) := by decide +kernel
theorem dX4_tellScan_23 : decode cX4_tellScan 23 = .ok (.iload_n 1, 1) := by decide +kernel
theorem dX4_tellScan_24 : decode cX4_tellScan 24 = .ok (.iload_n 3, 1) := by decide +kernel
theorem dX4_tellScan_25 : decode cX4_tellScan 25 = .ok (.iadd, 1) := by decide +kernel
theorem dX4_tellScan_26 : decode cX4_tellScan 26 = .ok (.iastore, 1) := by decide +kernel
theorem dX4_tellScan_27 : decode cX4_tellScan 27 = .ok (.aload_n 0, 1) := by decide +kernel
theorem dX4_tellScan_28 : decode cX4_tellScan 28 = .ok (.getfield 20, 3) := by decide +kernel
theorem dX4_tellScan_31 : decode cX4_tellScan 31 = .ok (.iload_n 1, 1) := by decide +kernel
theorem dX4_tellScan_32 : decode cX4_tellScan 32 = .ok (.iload_n 3, 1) := by decide +kernel
theorem dX4_tellScan_33 : decode cX4_tellScan 33 = .ok (.iadd, 1) := by decide +kernel
theorem dX4_tellScan_34 : decode cX4_tellScan 34 = .ok (.aaload, 1) := by decide +kernel
theorem dX4_tellScan_35 : decode cX4_tellScan 35 = .ok (.invokevirtual 106, 3) := by decide +kernel
theorem dX4_tellScan_38 : decode cX4_tellScan 38 = .ok (.aload_n 0, 1) := by decide +kernel
theorem dX4_tellScan_39 : decode cX4_tellScan 39 = .ok (.getfield 20, 3) := by decide +kernel
theorem dX4_tellScan_42 : decode cX4_tellScan 42 = .ok (.iconst 4, 1) := by decide +kernel
theorem dX4_tellScan_43 : decode cX4_tellScan 43 = .ok (.iload_n 1, 1) := by decide +kernel
theorem dX4_tellScan_44 : decode cX4_tellScan 44 = .ok (.iadd, 1) := by decide +kernel
theorem dX4_tellScan_45 : decode cX4_tellScan 45 = .ok (.iload_n 3, 1) := by decide +kernel
theorem dX4_tellScan_46 : decode cX4_tellScan 46 = .ok (.iadd, 1) := by decide +kernel
theorem dX4_tellScan_47 : decode cX4_tellScan 47 = .ok (.aaload, 1) := by decide +kernel
theorem dX4_tellScan_48 : decode cX4_tellScan 48 = .ok (.invokevirtual 106, 3) := by decide +kernel
theorem dX4_tellScan_51 : decode cX4_tellScan 51 = .ok (.iinc 3 1, 3) := by decide +kernel
theorem dX4_tellScan_54 : decode cX4_tellScan 54 = .ok (.goto (-44), 3) := by decide +kernel
theorem dX4_tellScan_57 : decode cX4_tellScan 57 = .ok (.aload_n 0, 1) := by decide +kernel
theorem dX4_tellScan_58 : decode cX4_tellScan 58 = .ok (.getfield 12, 3) := by decide +kernel
theorem dX4_tellScan_61 : decode cX4_tellScan 61 = .ok (.aload_n 0, 1) := by decide +kernel
theorem dX4_tellScan_62 : decode cX4_tellScan 62 = .ok (.getfield 28, 3) := by decide +kernel
theorem dX4_tellScan_65 : decode cX4_tellScan 65 = .ok (.invokevirtual 109, 3) := by decide +kernel
theorem dX4_tellScan_68 : decode cX4_tellScan 68 = .ok (.aload_n 0, 1) := by decide +kernel
theorem dX4_tellScan_69 : decode cX4_tellScan 69 = .ok (.getfield 38, 3) := by decide +kernel
theorem dX4_tellScan_72 : decode cX4_tellScan 72 = .ok (.aload_n 0, 1) := by decide +kernel
theorem dX4_tellScan_73 : decode cX4_tellScan 73 = .ok (.getfield 42, 3) := by decide +kernel
theorem dX4_tellScan_76 : decode cX4_tellScan 76 = .ok (.iconst 1, 1) := by decide +kernel
theorem dX4_tellScan_77 : decode cX4_tellScan 77 = .ok (.invokevirtual 113, 3) := by decide +kernel
theorem dX4_tellScan_80 : decode cX4_tellScan 80 = .ok (.aload_n 0, 1) := by decide +kernel
theorem dX4_tellScan_81 : decode cX4_tellScan 81 = .ok (.iload_n 1, 1) := by decide +kernel
theorem dX4_tellScan_82 : decode cX4_tellScan 82 = .ok (.iload_n 2, 1) := by decide +kernel
theorem dX4_tellScan_83 : decode cX4_tellScan 83 = .ok (.invokevirtual 117, 3) := by decide +kernel
theorem dX4_tellScan_86 : decode cX4_tellScan 86 = .ok (.aload_n 0, 1) := by decide +kernel
theorem dX4_tellScan_87 : decode cX4_tellScan 87 = .ok (.sipush 218, 3) := by decide +kernel
theorem dX4_tellScan_90 : decode cX4_tellScan 90 = .ok (.iconst 4, 1) := by decide +kernel
theorem dX4_tellScan_91 : decode cX4_tellScan 91 = .ok (.iconst 2, 1) := by decide +kernel
theorem dX4_tellScan_92 : decode cX4_tellScan 92 = .ok (.iload_n 2, 1) := by decide +kernel
theorem dX4_tellScan_93 : decode cX4_tellScan 93 = .ok (.imul, 1) := by decide +kernel
theorem dX4_tellScan_94 : decode cX4_tellScan 94 = .ok (.iadd, 1) := by decide +kernel
theorem dX4_tellScan_95 : decode cX4_tellScan 95 = .ok (.invokevirtual 70, 3) := by decide +kernel
theorem dX4_tellScan_98 : decode cX4_tellScan 98 = .ok (.aload_n 0, 1) := by decide +kernel
theorem dX4_tellScan_99 : decode cX4_tellScan 99 = .ok (.getfield 24, 3) := by decide +kernel
theorem dX4_tellScan_102 : decode cX4_tellScan 102 = .ok (.iload_n 2, 1) := by decide +kernel
theorem dX4_tellScan_103 : decode cX4_tellScan 103 = .ok (.invokevirtual 59, 3) := by decide +kernel
theorem dX4_tellScan_106 : decode cX4_tellScan 106 = .ok (.iload_n 1, 1) := by decide +kernel
theorem dX4_tellScan_107 : decode cX4_tellScan 107 = .ok (.istore_n 3, 1) := by decide +kernel
theorem dX4_tellScan_108 : decode cX4_tellScan 108 = .ok (.iload_n 3, 1) := by decide +kernel
theorem dX4_tellScan_109 : decode cX4_tellScan 109 = .ok (.iload_n 1, 1) := by decide +kernel
theorem dX4_tellScan_110 : decode cX4_tellScan 110 = .ok (.iload_n 2, 1) := by decide +kernel
theorem dX4_tellScan_111 : decode cX4_tellScan 111 = .ok (.iadd, 1) := by decide +kernel
theorem dX4_tellScan_112 : decode cX4_tellScan 112 = .ok (.if_icmp .ge 30, 3) := by decide +kernel
theorem dX4_tellScan_115 : decode cX4_tellScan 115 = .ok (.aload_n 0, 1) := by decide +kernel
theorem dX4_tellScan_116 : decode cX4_tellScan 116 = .ok (.getfield 24, 3) := by decide +kernel
theorem dX4_tellScan_119 : decode cX4_tellScan 119 = .ok (.iload_n 3, 1) := by decide +kernel
theorem dX4_tellScan_120 : decode cX4_tellScan 120 = .ok (.iconst 1, 1) := by decide +kernel
theorem dX4_tellScan_121 : decode cX4_tellScan 121 = .ok (.iadd, 1) := by decide +kernel
theorem dX4_tellScan_122 : decode cX4_tellScan 122 = .ok (.invokevirtual 59, 3) := by decide +kernel
theorem dX4_tellScan_125 : decode cX4_tellScan 125 = .ok (.aload_n 0, 1) := by decide +kernel
theorem dX4_tellScan_126 : decode cX4_tellScan 126 = .ok (.getfield 24, 3) := by decide +kernel
theorem dX4_tellScan_129 : decode cX4_tellScan 129 = .ok (.bipush 17, 2) := by decide +kernel
theorem dX4_tellScan_131 : decode cX4_tellScan 131 = .ok (.iload_n 3, 1) := by decide +kernel
theorem dX4_tellScan_132 : decode cX4_tellScan 132 = .ok (.imul, 1) := by decide +kernel
theorem dX4_tellScan_133 : decode cX4_tellScan 133 = .ok (.invokevirtual 59, 3) := by decide +kernel
theorem dX4_tellScan_136 : decode cX4_tellScan 136 = .ok (.iinc 3 1, 3) := by decide +kernel
theorem dX4_tellScan_139 : decode cX4_tellScan 139 = .ok (.goto (-31), 3) := by decide +kernel
theorem dX4_tellScan_142 : decode cX4_tellScan 142 = .ok (.aload_n 0, 1) := by decide +kernel
theorem dX4_tellScan_143 : decode cX4_tellScan 143 = .ok (.getfield 24, 3) := by decide +kernel
theorem dX4_tellScan_146 : decode cX4_tellScan 146 = .ok (.aload_n 0, 1) := by decide +kernel
theorem dX4_tellScan_147 : decode cX4_tellScan 147 = .ok (.getfield 12, 3) := by decide +kernel
theorem dX4_tellScan_150 : decode cX4_tellScan 150 = .ok (.getfield 90, 3) := by decide +kernel
theorem dX4_tellScan_153 : decode cX4_tellScan 153 = .ok (.invokevirtual 59, 3) := by decide +kernel
theorem dX4_tellScan_156 : decode cX4_tellScan 156 = .ok (.aload_n 0, 1) := by decide +kernel
theorem dX4_tellScan_157 : decode cX4_tellScan 157 = .ok (.getfield 24, 3) := by decide +kernel
theorem dX4_tellScan_160 : decode cX4_tellScan 160 = .ok (.aload_n 0, 1) := by decide +kernel
theorem dX4_tellScan_161 : decode cX4_tellScan 161 = .ok (.getfield 12, 3) := by decide +kernel
theorem dX4_tellScan_164 : decode cX4_tellScan 164 = .ok (.getfield 93, 3) := by decide +kernel
theorem dX4_tellScan_167 : decode cX4_tellScan 167 = .ok (.invokevirtual 59, 3) := by decide +kernel
theorem dX4_tellScan_170 : decode cX4_tellScan 170 = .ok (.aload_n 0, 1) := by decide +kernel
theorem dX4_tellScan_171 : decode cX4_tellScan 171 = .ok (.getfield 24, 3) := by decide +kernel
theorem dX4_tellScan_174 : decode cX4_tellScan 174 = .ok (.bipush 16, 2) := by decide +kernel
theorem dX4_tellScan_176 : decode cX4_tellScan 176 = .ok (.aload_n 0, 1) := by decide +kernel
theorem dX4_tellScan_177 : decode cX4_tellScan 177 = .ok (.getfield 12, 3) := by decide +kernel
theorem dX4_tellScan_180 : decode cX4_tellScan 180 = .ok (.getfield 96, 3) := by decide +kernel
theorem dX4_tellScan_183 : decode cX4_tellScan 183 = .ok (.imul, 1) := by decide +kernel
theorem dX4_tellScan_184 : decode cX4_tellScan 184 = .ok (.aload_n 0, 1) := by decide +kernel
theorem dX4_tellScan_185 : decode cX4_tellScan 185 = .ok (.getfield 12, 3) := by decide +kernel
theorem dX4_tellScan_188 : decode cX4_tellScan 188 = .ok (.getfield 99, 3) := by decide +kernel
theorem dX4_tellScan_191 : decode cX4_tellScan 191 = .ok (.iadd, 1) := by decide +kernel
theorem dX4_tellScan_192 : decode cX4_tellScan 192 = .ok (.invokevirtual 59, 3) := by decide +kernel
theorem dX4_tellScan_195 : decode cX4_tellScan 195 = .ok (.aload_n 0, 1) := by decide +kernel
theorem dX4_tellScan_196 : decode cX4_tellScan 196 = .ok (.getfield 38, 3) := by decide +kernel
theorem dX4_tellScan_199 : decode cX4_tellScan 199 = .ok (.aload_n 0, 1) := by decide +kernel
theorem dX4_tellScan_200 : decode cX4_tellScan 200 = .ok (.getfield 42, 3) := by decide +kernel
theorem dX4_tellScan_203 : decode cX4_tellScan 203 = .ok (.iconst 0, 1) := by decide +kernel
theorem dX4_tellScan_204 : decode cX4_tellScan 204 = .ok (.invokevirtual 113, 3) := by decide +kernel
theorem dX4_tellScan_207 : decode cX4_tellScan 207 = .ok (.return_, 1) := by decide +kernel
theorem flRX4_102 : px_f RX4 102 5 0 := ⟨_, rfl, by decide, Or.inl (tb1 (List.mem_of_getElem? (i := 185) rfl))⟩
theorem flRX4_103 : px_f RX4 103 5 5 := ⟨_, rfl, by decide, Or.inl (tb1 (List.mem_of_getElem? (i := 207) rfl))⟩
theorem kcX4_tellScan_59 : px_cV mX4_tellScan 59 mX1_add 1 := ⟨⟨mbX1_add, by decide, by decide⟩, Or.inl (tb4 (List.mem_of_getElem? (i := 195) rfl)), vbX1_add⟩
theorem kcX4_tellScan_70 : px_cV mX4_tellScan 70 mX4_tellSegment 2 := ⟨⟨mbX4_tellSegment, by decide, by decide⟩, Or.inl (tb4 (List.mem_of_getElem? (i := 200) rfl)), vbX4_tellSegment⟩
theorem mbX0_forget : px_mB mX0_forget 0 := ⟨tb4 (List.mem_of_getElem? (i := 224) rfl), by decide +kernel, tb1 (List.mem_of_getElem? (i := 11) rfl), by decide +kernel, by decide +kernel⟩
theorem vbX0_forget : px_vB mX0_forget := ⟨tb4 (List.mem_of_getElem? (i := 222) rfl), tb4 (List.mem_of_getElem? (i := 223) rfl)⟩
theorem kcX4_tellScan_106 : px_cV mX4_tellScan 106 mX0_forget 0 := ⟨⟨mbX0_forget, by decide, by decide⟩, Or.inl (tb4 (List.mem_of_getElem? (i := 221) rfl)), vbX0_forget⟩
theorem mbX5_layOut : px_mB mX5_layOut 1 := ⟨tb4 (List.mem_of_getElem? (i := 61) rfl), by decide +kernel, tb1 (List.mem_of_getElem? (i := 7) rfl), by decide +kernel, by decide +kernel⟩
theorem vbX5_layOut : px_vB mX5_layOut := ⟨tb4 (List.mem_of_getElem? (i := 59) rfl), tb4 (List.mem_of_getElem? (i := 60) rfl)⟩
theorem kcX4_tellScan_109 : px_cV mX4_tellScan 109 mX5_layOut 1 := ⟨⟨mbX5_layOut, by decide, by decide⟩, Or.inl (tb4 (List.mem_of_getElem? (i := 226) rfl)), vbX5_layOut⟩
theorem mbX7_write : px_mB mX7_write 2 := ⟨tb4 (List.mem_of_getElem? (i := 230) rfl), by decide +kernel, tb1 (List.mem_of_getElem? (i := 12) rfl), by decide +kernel, by decide +kernel⟩
theorem vbX7_write : px_vB mX7_write := ⟨tb4 (List.mem_of_getElem? (i := 228) rfl), tb4 (List.mem_of_getElem? (i := 229) rfl)⟩
theorem kcX4_tellScan_113 : px_cV mX4_tellScan 113 mX7_write 2 := ⟨⟨mbX7_write, by decide, by decide⟩, Or.inl (tb4 (List.mem_of_getElem? (i := 227) rfl)), vbX7_write⟩
theorem mbX4_tellTables : px_mB mX4_tellTables 2 := ⟨tb5 (List.mem_of_getElem? (i := 61) rfl), by decide +kernel, tb1 (List.mem_of_getElem? (i := 10) rfl), by decide +kernel, by decide +kernel⟩
theorem vbX4_tellTables : px_vB mX4_tellTables := ⟨tb5 (List.mem_of_getElem? (i := 60) rfl), List.mem_append_left _ (List.mem_of_getElem? (i := 62) (by decide +kernel))⟩
theorem kcX4_tellScan_117 : px_cV mX4_tellScan 117 mX4_tellTables 2 := ⟨⟨mbX4_tellTables, by decide, by decide⟩, Or.inl (tb5 (List.mem_of_getElem? (i := 58) rfl)), vbX4_tellTables⟩
set_option maxRecDepth 100000 in
set_option maxHeartbeats 4000000 in
theorem eX4_tellScan_142 {X : px_X}  : ∀ (a0 : Nat) (w : px_W) (q : px_W), fX4_tellScan_142 X  a0 w = some q → EV X mX4_tellScan 142 [(0, .ref a0)] [] w none q := by
  intro a0 w q h
  unfold fX4_tellScan_142 at h
  refine EV.aload_n 0 dX4_tellScan_142 rfl rfl ?_
  obtain ⟨v56, gv56, h⟩ := px_bs h
  refine ev_gR dX4_tellScan_143 flRX4_24 gv56 ?_
  refine EV.aload_n 0 dX4_tellScan_146 rfl rfl ?_
  obtain ⟨v57, gv57, h⟩ := px_bs h
  refine ev_gR dX4_tellScan_147 flRX4_12 gv57 ?_
  obtain ⟨v58, gv58, h⟩ := px_bs h
  refine ev_gI dX4_tellScan_150 flRX4_90 gv58 ?_
  obtain ⟨o59, go59, h⟩ := px_bs h
  obtain ⟨q60, gq60, h⟩ := px_bs h
  refine EV.callV (As := [.int v58]) (rest := []) dX4_tellScan_153 kcX4_tellScan_59 (gO_ok go59) rfl rfl rfl (Nat.le_of_ble_eq_true rfl) (Nat.le_of_ble_eq_true rfl) (eX1_add gq60) ?_
  refine EV.aload_n 0 dX4_tellScan_156 rfl rfl ?_
  obtain ⟨v61, gv61, h⟩ := px_bs h
  refine ev_gR dX4_tellScan_157 flRX4_24 gv61 ?_
  refine EV.aload_n 0 dX4_tellScan_160 rfl rfl ?_
  obtain ⟨v62, gv62, h⟩ := px_bs h
  refine ev_gR dX4_tellScan_161 flRX4_12 gv62 ?_
  obtain ⟨v63, gv63, h⟩ := px_bs h
  refine ev_gI dX4_tellScan_164 flRX4_93 gv63 ?_
  obtain ⟨o64, go64, h⟩ := px_bs h
  obtain ⟨q65, gq65, h⟩ := px_bs h
  refine EV.callV (As := [.int v63]) (rest := []) dX4_tellScan_167 kcX4_tellScan_59 (gO_ok go64) rfl rfl rfl (Nat.le_of_ble_eq_true rfl) (Nat.le_of_ble_eq_true rfl) (eX1_add gq65) ?_
  refine EV.aload_n 0 dX4_tellScan_170 rfl rfl ?_
  obtain ⟨v66, gv66, h⟩ := px_bs h
  refine ev_gR dX4_tellScan_171 flRX4_24 gv66 ?_
  refine EV.bipush (16) dX4_tellScan_174 (by decide) ?_
  refine EV.aload_n 0 dX4_tellScan_176 rfl rfl ?_
  obtain ⟨v67, gv67, h⟩ := px_bs h
  refine ev_gR dX4_tellScan_177 flRX4_12 gv67 ?_
  obtain ⟨v68, gv68, h⟩ := px_bs h
  refine ev_gI dX4_tellScan_180 flRX4_96 gv68 ?_
  refine EV.imul dX4_tellScan_183 ?_
  refine EV.aload_n 0 dX4_tellScan_184 rfl rfl ?_
  obtain ⟨v69, gv69, h⟩ := px_bs h
  refine ev_gR dX4_tellScan_185 flRX4_12 gv69 ?_
  obtain ⟨v70, gv70, h⟩ := px_bs h
  refine ev_gI dX4_tellScan_188 flRX4_99 gv70 ?_
  refine EV.iadd dX4_tellScan_191 ?_
  obtain ⟨o71, go71, h⟩ := px_bs h
  obtain ⟨q72, gq72, h⟩ := px_bs h
  refine EV.callV (As := [.int ((16 * v68) + v70)]) (rest := []) dX4_tellScan_192 kcX4_tellScan_59 (gO_ok go71) rfl rfl rfl (Nat.le_of_ble_eq_true rfl) (Nat.le_of_ble_eq_true rfl) (eX1_add gq72) ?_
  refine EV.aload_n 0 dX4_tellScan_195 rfl rfl ?_
  obtain ⟨v73, gv73, h⟩ := px_bs h
  refine ev_gR dX4_tellScan_196 flRX4_38 gv73 ?_
  refine EV.aload_n 0 dX4_tellScan_199 rfl rfl ?_
  obtain ⟨v74, gv74, h⟩ := px_bs h
  refine ev_gI dX4_tellScan_200 flRX4_42 gv74 ?_
  refine EV.iconst (0) dX4_tellScan_203 (by decide) ?_
  obtain ⟨o75, go75, h⟩ := px_bs h
  obtain ⟨q76, gq76, h⟩ := px_bs h
  refine EV.callV (As := [.int v74, .int 0]) (rest := []) dX4_tellScan_204 kcX4_tellScan_113 (gO_ok go75) rfl rfl rfl (Nat.le_of_ble_eq_true rfl) (Nat.le_of_ble_eq_true rfl) (eX7_write gq76) ?_
  cases h
  exact EV.ret0 dX4_tellScan_207 trivial
set_option maxRecDepth 100000 in
set_option maxHeartbeats 4000000 in
theorem eX4_tellScan_108 {X : px_X}  : ∀ (m : Nat) (a0 : Nat) (a1 : Int32) (a2 : Int32) (a3 : Int32) (w : px_W) (q : px_W), fX4_tellScan_108 X  m a0 a1 a2 a3 w = some q → EV X mX4_tellScan 108 [(0, .ref a0), (1, .int a1), (2, .int a2), (3, .int a3)] [] w none q := by
  intro m
  induction m with
  | zero => intro a0 a1 a2 a3 w q h; cases h
  | succ m ih =>
    intro a0 a1 a2 a3 w q h
    rw [fX4_tellScan_108.eq_2] at h
    refine EV.iload_n 3 dX4_tellScan_108 rfl rfl ?_
    refine EV.iload_n 1 dX4_tellScan_109 rfl rfl ?_
    refine EV.iload_n 2 dX4_tellScan_110 rfl rfl ?_
    refine EV.iadd dX4_tellScan_111 ?_
    refine EV.icmp_ge 142 dX4_tellScan_112 (by decide) (fun c77 => ?_) (fun c77 => ?_)
    · rw [if_pos c77] at h
      refine EV.sub [0] rfl ?_
      exact eX4_tellScan_142  _ _ _ h
    · rw [if_neg c77] at h
      refine EV.aload_n 0 dX4_tellScan_115 rfl rfl ?_
      obtain ⟨v78, gv78, h⟩ := px_bs h
      refine ev_gR dX4_tellScan_116 flRX4_24 gv78 ?_
      refine EV.iload_n 3 dX4_tellScan_119 rfl rfl ?_
      refine EV.iconst (1) dX4_tellScan_120 (by decide) ?_
      refine EV.iadd dX4_tellScan_121 ?_
      obtain ⟨o79, go79, h⟩ := px_bs h
      obtain ⟨q80, gq80, h⟩ := px_bs h
      refine EV.callV (As := [.int (a3 + 1)]) (rest := []) dX4_tellScan_122 kcX4_tellScan_59 (gO_ok go79) rfl rfl rfl (Nat.le_of_ble_eq_true rfl) (Nat.le_of_ble_eq_true rfl) (eX1_add gq80) ?_
      refine EV.aload_n 0 dX4_tellScan_125 rfl rfl ?_
      obtain ⟨v81, gv81, h⟩ := px_bs h
      refine ev_gR dX4_tellScan_126 flRX4_24 gv81 ?_
      refine EV.bipush (17) dX4_tellScan_129 (by decide) ?_
      refine EV.iload_n 3 dX4_tellScan_131 rfl rfl ?_
      refine EV.imul dX4_tellScan_132 ?_
      obtain ⟨o82, go82, h⟩ := px_bs h
      obtain ⟨q83, gq83, h⟩ := px_bs h
      refine EV.callV (As := [.int (17 * a3)]) (rest := []) dX4_tellScan_133 kcX4_tellScan_59 (gO_ok go82) rfl rfl rfl (Nat.le_of_ble_eq_true rfl) (Nat.le_of_ble_eq_true rfl) (eX1_add gq83) ?_
      refine EV.iinc 3 (a3 + 1) [(3, .int (a3 + 1)), (0, .ref a0), (1, .int a1), (2, .int a2)] dX4_tellScan_136 rfl rfl (by decide) rfl ?_
      refine EV.goto 108 dX4_tellScan_139 (by decide) ?_
      refine EV.sub [1, 2, 3, 0] rfl ?_
      exact ih _ _ _ _ _ _ h
set_option maxRecDepth 100000 in
set_option maxHeartbeats 4000000 in
theorem eX4_tellScan_57 {X : px_X}  : ∀ (a0 : Nat) (a1 : Int32) (a2 : Int32) (w : px_W) (q : px_W), fX4_tellScan_57 X  a0 a1 a2 w = some q → EV X mX4_tellScan 57 [(0, .ref a0), (1, .int a1), (2, .int a2)] [] w none q := by
  intro a0 a1 a2 w q h
  unfold fX4_tellScan_57 at h
  refine EV.aload_n 0 dX4_tellScan_57 rfl rfl ?_
  obtain ⟨v84, gv84, h⟩ := px_bs h
  refine ev_gR dX4_tellScan_58 flRX4_12 gv84 ?_
  refine EV.aload_n 0 dX4_tellScan_61 rfl rfl ?_
  obtain ⟨v85, gv85, h⟩ := px_bs h
  refine ev_gR dX4_tellScan_62 flRX4_28 gv85 ?_
  obtain ⟨o86, go86, h⟩ := px_bs h
  obtain ⟨q87, gq87, h⟩ := px_bs h
  refine EV.callV (As := [.ref v85]) (rest := []) dX4_tellScan_65 kcX4_tellScan_109 (gO_ok go86) rfl rfl rfl (Nat.le_of_ble_eq_true rfl) (Nat.le_of_ble_eq_true rfl) (eX5_layOut gq87) ?_
  refine EV.aload_n 0 dX4_tellScan_68 rfl rfl ?_
  obtain ⟨v88, gv88, h⟩ := px_bs h
  refine ev_gR dX4_tellScan_69 flRX4_38 gv88 ?_
  refine EV.aload_n 0 dX4_tellScan_72 rfl rfl ?_
  obtain ⟨v89, gv89, h⟩ := px_bs h
  refine ev_gI dX4_tellScan_73 flRX4_42 gv89 ?_
  refine EV.iconst (1) dX4_tellScan_76 (by decide) ?_
  obtain ⟨o90, go90, h⟩ := px_bs h
  obtain ⟨q91, gq91, h⟩ := px_bs h
  refine EV.callV (As := [.int v89, .int 1]) (rest := []) dX4_tellScan_77 kcX4_tellScan_113 (gO_ok go90) rfl rfl rfl (Nat.le_of_ble_eq_true rfl) (Nat.le_of_ble_eq_true rfl) (eX7_write gq91) ?_
  refine EV.aload_n 0 dX4_tellScan_80 rfl rfl ?_
  refine EV.iload_n 1 dX4_tellScan_81 rfl rfl ?_
  refine EV.iload_n 2 dX4_tellScan_82 rfl rfl ?_
  obtain ⟨o92, go92, h⟩ := px_bs h
  obtain ⟨q93, gq93, h⟩ := px_bs h
  refine EV.callV (As := [.int a1, .int a2]) (rest := []) dX4_tellScan_83 kcX4_tellScan_117 (gO_ok go92) rfl rfl rfl (Nat.le_of_ble_eq_true rfl) (Nat.le_of_ble_eq_true rfl) (eX4_tellTables gq93) ?_
  refine EV.aload_n 0 dX4_tellScan_86 rfl rfl ?_
  refine EV.sipush (218) dX4_tellScan_87 (by decide) ?_
  refine EV.iconst (4) dX4_tellScan_90 (by decide) ?_
  refine EV.iconst (2) dX4_tellScan_91 (by decide) ?_
  refine EV.iload_n 2 dX4_tellScan_92 rfl rfl ?_
  refine EV.imul dX4_tellScan_93 ?_
  refine EV.iadd dX4_tellScan_94 ?_
  obtain ⟨o94, go94, h⟩ := px_bs h
  obtain ⟨q95, gq95, h⟩ := px_bs h
  refine EV.callV (As := [.int 218, .int (4 + (2 * a2))]) (rest := []) dX4_tellScan_95 kcX4_tellScan_70 (gO_ok go94) rfl rfl rfl (Nat.le_of_ble_eq_true rfl) (Nat.le_of_ble_eq_true rfl) (eX4_tellSegment gq95) ?_
  refine EV.aload_n 0 dX4_tellScan_98 rfl rfl ?_
  obtain ⟨v96, gv96, h⟩ := px_bs h
  refine ev_gR dX4_tellScan_99 flRX4_24 gv96 ?_
  refine EV.iload_n 2 dX4_tellScan_102 rfl rfl ?_
  obtain ⟨o97, go97, h⟩ := px_bs h
  obtain ⟨q98, gq98, h⟩ := px_bs h
  refine EV.callV (As := [.int a2]) (rest := []) dX4_tellScan_103 kcX4_tellScan_59 (gO_ok go97) rfl rfl rfl (Nat.le_of_ble_eq_true rfl) (Nat.le_of_ble_eq_true rfl) (eX1_add gq98) ?_
  refine EV.iload_n 1 dX4_tellScan_106 rfl rfl ?_
  refine EV.istore_n [(3, .int a1), (0, .ref a0), (1, .int a1), (2, .int a2)] dX4_tellScan_107 rfl (by decide) rfl ?_
  refine EV.sub [1, 2, 3, 0] rfl ?_
  exact eX4_tellScan_108  FU _ _ _ _ _ _ h
set_option maxRecDepth 100000 in
set_option maxHeartbeats 4000000 in
theorem eX4_tellScan_10 {X : px_X}  : ∀ (m : Nat) (a0 : Nat) (a1 : Int32) (a2 : Int32) (a3 : Int32) (w : px_W) (q : px_W), fX4_tellScan_10 X  m a0 a1 a2 a3 w = some q → EV X mX4_tellScan 10 [(0, .ref a0), (1, .int a1), (2, .int a2), (3, .int a3)] [] w none q := by
  intro m
  induction m with
  | zero => intro a0 a1 a2 a3 w q h; cases h
  | succ m ih =>
    intro a0 a1 a2 a3 w q h
    rw [fX4_tellScan_10.eq_2] at h
    refine EV.iload_n 3 dX4_tellScan_10 rfl rfl ?_
    refine EV.iload_n 2 dX4_tellScan_11 rfl rfl ?_
    refine EV.icmp_ge 57 dX4_tellScan_12 (by decide) (fun c99 => ?_) (fun c99 => ?_)
    · rw [if_pos c99] at h
      refine EV.sub [0, 1, 2] rfl ?_
      exact eX4_tellScan_57  _ _ _ _ _ h
    · rw [if_neg c99] at h
      refine EV.aload_n 0 dX4_tellScan_15 rfl rfl ?_
      obtain ⟨v100, gv100, h⟩ := px_bs h
      refine ev_gR dX4_tellScan_16 flRX4_12 gv100 ?_
      obtain ⟨v101, gv101, h⟩ := px_bs h
      refine ev_gR dX4_tellScan_19 flRX4_103 gv101 ?_
      refine EV.iload_n 3 dX4_tellScan_22 rfl rfl ?_
      refine EV.iload_n 1 dX4_tellScan_23 rfl rfl ?_
      refine EV.iload_n 3 dX4_tellScan_24 rfl rfl ?_
      refine EV.iadd dX4_tellScan_25 ?_
      obtain ⟨w102, gw102, h⟩ := px_bs h
      refine ev_sI dX4_tellScan_26 gw102 ?_
      refine EV.aload_n 0 dX4_tellScan_27 rfl rfl ?_
      obtain ⟨v103, gv103, h⟩ := px_bs h
      refine ev_gR dX4_tellScan_28 flRX4_20 gv103 ?_
      refine EV.iload_n 1 dX4_tellScan_31 rfl rfl ?_
      refine EV.iload_n 3 dX4_tellScan_32 rfl rfl ?_
      refine EV.iadd dX4_tellScan_33 ?_
      obtain ⟨v104, gv104, h⟩ := px_bs h
      refine ev_aQ dX4_tellScan_34 (t := 5) rfl gv104 ?_
      obtain ⟨o105, go105, h⟩ := px_bs h
      obtain ⟨q106, gq106, h⟩ := px_bs h
      refine EV.callV (As := []) (rest := []) dX4_tellScan_35 kcX4_tellScan_106 (gO_ok go105) rfl rfl rfl (Nat.le_of_ble_eq_true rfl) (Nat.le_of_ble_eq_true rfl) (eX0_forget gq106) ?_
      refine EV.aload_n 0 dX4_tellScan_38 rfl rfl ?_
      obtain ⟨v107, gv107, h⟩ := px_bs h
      refine ev_gR dX4_tellScan_39 flRX4_20 gv107 ?_
      refine EV.iconst (4) dX4_tellScan_42 (by decide) ?_
      refine EV.iload_n 1 dX4_tellScan_43 rfl rfl ?_
      refine EV.iadd dX4_tellScan_44 ?_
      refine EV.iload_n 3 dX4_tellScan_45 rfl rfl ?_
      refine EV.iadd dX4_tellScan_46 ?_
      obtain ⟨v108, gv108, h⟩ := px_bs h
      refine ev_aQ dX4_tellScan_47 (t := 5) rfl gv108 ?_
      obtain ⟨o109, go109, h⟩ := px_bs h
      obtain ⟨q110, gq110, h⟩ := px_bs h
      refine EV.callV (As := []) (rest := []) dX4_tellScan_48 kcX4_tellScan_106 (gO_ok go109) rfl rfl rfl (Nat.le_of_ble_eq_true rfl) (Nat.le_of_ble_eq_true rfl) (eX0_forget gq110) ?_
      refine EV.iinc 3 (a3 + 1) [(3, .int (a3 + 1)), (0, .ref a0), (1, .int a1), (2, .int a2)] dX4_tellScan_51 rfl rfl (by decide) rfl ?_
      refine EV.goto 10 dX4_tellScan_54 (by decide) ?_
      refine EV.sub [1, 2, 3, 0] rfl ?_
      exact ih _ _ _ _ _ _ h
set_option maxRecDepth 100000 in
set_option maxHeartbeats 4000000 in
theorem eX4_tellScan {X : px_X} {w : px_W} {a0 : Nat} {a1 : Int32} {a2 : Int32} {q : px_W} (h : fX4_tellScan X w a0 a1 a2 = some q) : EV X mX4_tellScan 0 (lv_args 0 [.ref a0, .int a1, .int a2]) [] w none q := by
  unfold fX4_tellScan at h
  show EV X mX4_tellScan 0 [(0, .ref a0), (1, .int a1), (2, .int a2)] [] w none q
  refine EV.aload_n 0 dX4_tellScan_0 rfl rfl ?_
  obtain ⟨v111, gv111, h⟩ := px_bs h
  refine ev_gR dX4_tellScan_1 flRX4_12 gv111 ?_
  refine EV.iload_n 2 dX4_tellScan_4 rfl rfl ?_
  obtain ⟨w112, gw112, h⟩ := px_bs h
  refine ev_pV dX4_tellScan_5 flRX4_102 rfl rfl rfl rfl gw112 ?_
  refine EV.iconst (0) dX4_tellScan_8 (by decide) ?_
  refine EV.istore_n [(3, .int 0), (0, .ref a0), (1, .int a1), (2, .int a2)] dX4_tellScan_9 rfl (by decide) rfl ?_
  refine EV.sub [1, 2, 3, 0] rfl ?_
  exact eX4_tellScan_10  FU _ _ _ _ _ _ h
/-! WavePictures$ScanReader.<init>(LWavePictures$Bytes;LWavePictures$Picture;)V -/
theorem dX6_init_0 : decode cX6_init 0 = .ok (.aload_n 0, 1) := by decide +kernel
theorem dX6_init_1 : decode cX6_init 1 = .ok (.invokespecial 3, 3) := by decide +kernel
theorem dX6_init_4 : decode cX6_init 4 = .ok (.aload_n 0, 1) := by decide +kernel
theorem dX6_init_5 : decode cX6_init 5 = .ok (.new 9, 3) := by decide +kernel
theorem dX6_init_8 : decode cX6_init 8 = .ok (.dup, 1) := by decide +kernel
theorem dX6_init_9 : decode cX6_init 9 = .ok (.invokespecial 11, 3) := by decide +kernel
theorem dX6_init_12 : decode cX6_init 12 = .ok (.putfield 12, 3) := by decide +kernel
theorem dX6_init_15 : decode cX6_init 15 = .ok (.aload_n 0, 1) := by decide +kernel
theorem dX6_init_16 : decode cX6_init 16 = .ok (.iconst 4, 1) := by decide +kernel
theorem dX6_init_17 : decode cX6_init 17 = .ok (.newarray .int, 2) := by decide +kernel
theorem dX6_init_19 : decode cX6_init 19 = .ok (.putfield 18, 3) := by decide +kernel
theorem dX6_init_22 : decode cX6_init 22 = .ok (.aload_n 0, 1) := by decide +kernel
theorem dX6_init_23 : decode cX6_init 23 = .ok (.aload_n 1, 1) := by decide +kernel
theorem dX6_init_24 : decode cX6_init 24 = .ok (.putfield 22, 3) := by decide +kernel
theorem dX6_init_27 : decode cX6_init 27 = .ok (.aload_n 0, 1) := by decide +kernel
theorem dX6_init_28 : decode cX6_init 28 = .ok (.aload_n 2, 1) := by decide +kernel
theorem dX6_init_29 : decode cX6_init 29 = .ok (.putfield 26, 3) := by decide +kernel
theorem dX6_init_32 : decode cX6_init 32 = .ok (.return_, 1) := by decide +kernel
theorem flRX6_12 : px_f RX6 12 6 2 := ⟨_, rfl, by decide, Or.inl (tb2 (List.mem_of_getElem? (i := 135) rfl))⟩
theorem flRX6_26 : px_f RX6 26 6 1 := ⟨_, rfl, by decide, Or.inl (tb2 (List.mem_of_getElem? (i := 134) rfl))⟩
theorem kcX6_init_11 : px_cI mX6_init 11 mX5_init 0 := ⟨⟨mbX5_init, by decide, by decide⟩, Or.inr ⟨"WavePictures", tT2 (List.mem_of_getElem? (i := 132) rfl)⟩, rfl, tb1 (List.mem_of_getElem? (i := 181) rfl), rfl⟩
set_option maxRecDepth 100000 in
set_option maxHeartbeats 4000000 in
theorem eX6_init {X : px_X} {w : px_W} {a0 : Nat} {a1 : Nat} {a2 : Nat} {q : px_W} (h : fX6_init X w a0 a1 a2 = some q) : EV X mX6_init 0 (lv_args 0 [.ref a0, .ref a1, .ref a2]) [] w none q := by
  unfold fX6_init at h
  show EV X mX6_init 0 [(0, .ref a0), (1, .ref a1), (2, .ref a2)] [] w none q
  refine EV.aload_n 0 dX6_init_0 rfl rfl ?_
  refine EV.objI dX6_init_1 (tb2 (List.mem_of_getElem? (i := 130) rfl)) (by decide) (by decide) (Nat.le_of_ble_eq_true rfl) ?_
  refine EV.aload_n 0 dX6_init_4 rfl rfl ?_
  obtain ⟨q8, gq8, h⟩ := px_bs h
  refine ev_nO (q := (RX5, TX5, 17)) dX6_init_5 rfl rfl (tb2 (List.mem_of_getElem? (i := 131) rfl)) (tb1 (List.mem_of_getElem? (i := 179) rfl)) (tb1 (List.mem_of_getElem? (i := 7) rfl)) nd5 gq8 ?_
  refine EV.dup dX6_init_8 rfl ?_
  obtain ⟨q9, gq9, h⟩ := px_bs h
  refine EV.callI (As := []) (rest := [.ref q8.1, .ref a0]) dX6_init_9 kcX6_init_11 rfl (Nat.le_of_ble_eq_true rfl) (Nat.le_of_ble_eq_true rfl) (eX5_init gq9) ?_
  obtain ⟨w10, gw10, h⟩ := px_bs h
  refine ev_pV dX6_init_12 flRX6_12 rfl rfl rfl rfl gw10 ?_
  refine EV.aload_n 0 dX6_init_15 rfl rfl ?_
  refine EV.iconst (4) dX6_init_16 (by decide) ?_
  obtain ⟨q11, gq11, h⟩ := px_bs h
  refine ev_nI dX6_init_17 gq11 ?_
  obtain ⟨w12, gw12, h⟩ := px_bs h
  refine ev_pF dX6_init_19 (ci := 6) (k := 8) rfl (by decide) (tb2 (List.mem_of_getElem? (i := 141) rfl)) rfl rfl rfl rfl rfl gw12 ?_
  refine EV.aload_n 0 dX6_init_22 rfl rfl ?_
  refine EV.aload_n 1 dX6_init_23 rfl rfl ?_
  obtain ⟨w13, gw13, h⟩ := px_bs h
  refine ev_pF dX6_init_24 (ci := 6) (k := 0) rfl (by decide) (tb2 (List.mem_of_getElem? (i := 133) rfl)) rfl rfl rfl rfl rfl gw13 ?_
  refine EV.aload_n 0 dX6_init_27 rfl rfl ?_
  refine EV.aload_n 2 dX6_init_28 rfl rfl ?_
  obtain ⟨w14, gw14, h⟩ := px_bs h
  refine ev_pV dX6_init_29 flRX6_26 rfl rfl rfl rfl gw14 ?_
  cases h
  exact EV.ret0 dX6_init_32 trivial
/-! WavePictures$ScanReader.begin()V -/
theorem dX6_begin_0 : decode cX6_begin 0 = .ok (.aload_n 0, 1) := by decide +kernel
theorem dX6_begin_1 : decode cX6_begin 1 = .ok (.iconst 0, 1) := by decide +kernel
theorem dX6_begin_2 : decode cX6_begin 2 = .ok (.putfield 100, 3) := by decide +kernel
theorem dX6_begin_5 : decode cX6_begin 5 = .ok (.aload_n 0, 1) := by decide +kernel
theorem dX6_begin_6 : decode cX6_begin 6 = .ok (.getfield 18, 3) := by decide +kernel
theorem dX6_begin_9 : decode cX6_begin 9 = .ok (.iconst 0, 1) := by decide +kernel
theorem dX6_begin_10 : decode cX6_begin 10 = .ok (.invokestatic 103, 3) := by decide +kernel
theorem dX6_begin_13 : decode cX6_begin 13 = .ok (.return_, 1) := by decide +kernel
theorem flRX6_18 : px_f RX6 18 6 8 := ⟨_, rfl, by decide, Or.inl (tb2 (List.mem_of_getElem? (i := 141) rfl))⟩
theorem flRX6_100 : px_f RX6 100 6 7 := ⟨_, rfl, by decide, Or.inl (tb2 (List.mem_of_getElem? (i := 140) rfl))⟩
theorem kcX6_begin_103 : px_cS mX6_begin 103 mJ7_fill_53178 2 := ⟨⟨mbJ7_fill_53178, by decide, by decide⟩, Or.inl (tb4 (List.mem_of_getElem? (i := 81) rfl)), tb3 (List.mem_of_getElem? (i := 141) rfl)⟩
set_option maxRecDepth 100000 in
set_option maxHeartbeats 4000000 in
theorem eX6_begin {X : px_X} {w : px_W} {a0 : Nat} {q : px_W} (h : fX6_begin X w a0 = some q) : EV X mX6_begin 0 (lv_args 0 [.ref a0]) [] w none q := by
  unfold fX6_begin at h
  show EV X mX6_begin 0 [(0, .ref a0)] [] w none q
  refine EV.aload_n 0 dX6_begin_0 rfl rfl ?_
  refine EV.iconst (0) dX6_begin_1 (by decide) ?_
  obtain ⟨w4, gw4, h⟩ := px_bs h
  refine ev_pV dX6_begin_2 flRX6_100 rfl rfl rfl rfl gw4 ?_
  refine EV.aload_n 0 dX6_begin_5 rfl rfl ?_
  obtain ⟨v5, gv5, h⟩ := px_bs h
  refine ev_gR dX6_begin_6 flRX6_18 gv5 ?_
  refine EV.iconst (0) dX6_begin_9 (by decide) ?_
  obtain ⟨q6, gq6, h⟩ := px_bs h
  refine EV.callS (As := [.ref v5, .int 0]) (rest := []) dX6_begin_10 kcX6_begin_103 rfl (Nat.le_of_ble_eq_true rfl) (Nat.le_of_ble_eq_true rfl) (eJ7_fill_53178 gq6) ?_
  cases h
  exact EV.ret0 dX6_begin_13 trivial
/-! WavePictures$ScanReader.endBits()V -/
theorem dX6_endBits_0 : decode cX6_endBits 0 = .ok (.iconst 1, 1) := by decide +kernel
theorem dX6_endBits_1 : decode cX6_endBits 1 = .ok (.aload_n 0, 1) := by decide +kernel
theorem dX6_endBits_2 : decode cX6_endBits 2 = .ok (.getfield 44, 3) := by decide +kernel
theorem dX6_endBits_5 : decode cX6_endBits 5 = .ok (.ishl, 1) := by decide +kernel
theorem dX6_endBits_6 : decode cX6_endBits 6 = .ok (.iconst 1, 1) := by decide +kernel
theorem dX6_endBits_7 : decode cX6_endBits 7 = .ok (.isub, 1) := by decide +kernel
theorem dX6_endBits_8 : decode cX6_endBits 8 = .ok (.istore_n 1, 1) := by decide +kernel
theorem dX6_endBits_9 : decode cX6_endBits 9 = .ok (.aload_n 0, 1) := by decide +kernel
theorem dX6_endBits_10 : decode cX6_endBits 10 = .ok (.getfield 100, 3) := by decide +kernel
theorem dX6_endBits_13 : decode cX6_endBits 13 = .ok (.ifCond .gt 13, 3) := by decide +kernel
theorem dX6_endBits_16 : decode cX6_endBits 16 = .ok (.aload_n 0, 1) := by decide +kernel
theorem dX6_endBits_17 : decode cX6_endBits 17 = .ok (.getfield 109, 3) := by decide +kernel
theorem dX6_endBits_20 : decode cX6_endBits 20 = .ok (.iload_n 1, 1) := by decide +kernel
theorem dX6_endBits_21 : decode cX6_endBits 21 = .ok (.iand, 1) := by decide +kernel
theorem dX6_endBits_22 : decode cX6_endBits 22 = .ok (.iload_n 1, 1) := by decide +kernel
theorem dX6_endBits_23 : decode cX6_endBits 23 = .ok (.if_icmp .eq 8, 3) := by decide +kernel
theorem dX6_endBits_26 : decode cX6_endBits 26 = .ok (.aload_n 0, 1) := by decide +kernel
theorem dX6_endBits_27 : decode cX6_endBits 27 = .ok (.iconst 5, 1) := by decide +kernel
theorem dX6_endBits_28 : decode cX6_endBits 28 = .ok (.putfield 41, 3) := by decide +kernel
theorem dX6_endBits_31 : decode cX6_endBits 31 = .ok (.aload_n 0, 1) := by decide +kernel
theorem dX6_endBits_32 : decode cX6_endBits 32 = .ok (.iconst 0, 1) := by decide +kernel
theorem dX6_endBits_33 : decode cX6_endBits 33 = .ok (.putfield 44, 3) := by decide +kernel
theorem dX6_endBits_36 : decode cX6_endBits 36 = .ok (.return_, 1) := by decide +kernel
theorem flRX6_41 : px_f RX6 41 6 6 := ⟨_, rfl, by decide, Or.inl (tb2 (List.mem_of_getElem? (i := 139) rfl))⟩
theorem flRX6_44 : px_f RX6 44 6 5 := ⟨_, rfl, by decide, Or.inl (tb2 (List.mem_of_getElem? (i := 138) rfl))⟩
theorem flRX6_109 : px_f RX6 109 6 4 := ⟨_, rfl, by decide, Or.inl (tb2 (List.mem_of_getElem? (i := 137) rfl))⟩
set_option maxRecDepth 100000 in
set_option maxHeartbeats 4000000 in
theorem eX6_endBits_31 {X : px_X}  : ∀ (a0 : Nat) (w : px_W) (q : px_W), fX6_endBits_31 X  a0 w = some q → EV X mX6_endBits 31 [(0, .ref a0)] [] w none q := by
  intro a0 w q h
  unfold fX6_endBits_31 at h
  refine EV.aload_n 0 dX6_endBits_31 rfl rfl ?_
  refine EV.iconst (0) dX6_endBits_32 (by decide) ?_
  obtain ⟨w6, gw6, h⟩ := px_bs h
  refine ev_pV dX6_endBits_33 flRX6_44 rfl rfl rfl rfl gw6 ?_
  cases h
  exact EV.ret0 dX6_endBits_36 trivial
set_option maxRecDepth 100000 in
set_option maxHeartbeats 4000000 in
theorem eX6_endBits_26 {X : px_X}  : ∀ (a0 : Nat) (w : px_W) (q : px_W), fX6_endBits_26 X  a0 w = some q → EV X mX6_endBits 26 [(0, .ref a0)] [] w none q := by
  intro a0 w q h
  unfold fX6_endBits_26 at h
  refine EV.aload_n 0 dX6_endBits_26 rfl rfl ?_
  refine EV.iconst (5) dX6_endBits_27 (by decide) ?_
  obtain ⟨w7, gw7, h⟩ := px_bs h
  refine ev_pV dX6_endBits_28 flRX6_41 rfl rfl rfl rfl gw7 ?_
  refine EV.sub [0] rfl ?_
  exact eX6_endBits_31  _ _ _ h
set_option maxRecDepth 100000 in
set_option maxHeartbeats 4000000 in
theorem eX6_endBits {X : px_X} {w : px_W} {a0 : Nat} {q : px_W} (h : fX6_endBits X w a0 = some q) : EV X mX6_endBits 0 (lv_args 0 [.ref a0]) [] w none q := by
  unfold fX6_endBits at h
  show EV X mX6_endBits 0 [(0, .ref a0)] [] w none q
  refine EV.iconst (1) dX6_endBits_0 (by decide) ?_
  refine EV.aload_n 0 dX6_endBits_1 rfl rfl ?_
  obtain ⟨v8, gv8, h⟩ := px_bs h
  refine ev_gI dX6_endBits_2 flRX6_44 gv8 ?_
  refine EV.ishl dX6_endBits_5 ?_
  refine EV.iconst (1) dX6_endBits_6 (by decide) ?_
  refine EV.isub dX6_endBits_7 ?_
  refine EV.istore_n [(1, .int (((1 : Int32) <<< (v8 &&& 31)) - 1)), (0, .ref a0)] dX6_endBits_8 rfl (by decide) rfl ?_
  refine EV.aload_n 1 dX6_endBits_9 rfl rfl ?_
  obtain ⟨v9, gv9, h⟩ := px_bs h
  refine ev_gI dX6_endBits_10 flRX6_100 gv9 ?_
  refine EV.if_gt 26 dX6_endBits_13 (by decide) (fun c10 => ?_) (fun c10 => ?_)
  · rw [if_pos c10] at h
    refine EV.sub [1] rfl ?_
    exact eX6_endBits_26  _ _ _ h
  · rw [if_neg c10] at h
    refine EV.aload_n 1 dX6_endBits_16 rfl rfl ?_
    obtain ⟨v11, gv11, h⟩ := px_bs h
    refine ev_gI dX6_endBits_17 flRX6_109 gv11 ?_
    refine EV.iload_n 0 dX6_endBits_20 rfl rfl ?_
    refine EV.iand dX6_endBits_21 ?_
    refine EV.iload_n 0 dX6_endBits_22 rfl rfl ?_
    refine EV.icmp_eq 31 dX6_endBits_23 (by decide) (fun c12 => ?_) (fun c12 => ?_)
    · rw [if_pos c12] at h
      refine EV.sub [1] rfl ?_
      exact eX6_endBits_31  _ _ _ h
    · rw [if_neg c12] at h
      refine EV.sub [1] rfl ?_
      exact eX6_endBits_26  _ _ _ h
/-! WavePictures$ScanReader.passRestart(I)V -/
theorem dX6_passRestart_0 : decode cX6_passRestart 0 = .ok (.aload_n 0, 1) := by decide +kernel
theorem dX6_passRestart_1 : decode cX6_passRestart 1 = .ok (.invokevirtual 94, 3) := by decide +kernel
theorem dX6_passRestart_4 : decode cX6_passRestart 4 = .ok (.aload_n 0, 1) := by decide +kernel
theorem dX6_passRestart_5 : decode cX6_passRestart 5 = .ok (.getfield 38, 3) := by decide +kernel
theorem dX6_passRestart_8 : decode cX6_passRestart 8 = .ok (.iconst 2, 1) := by decide +kernel
theorem dX6_passRestart_9 : decode cX6_passRestart 9 = .ok (.iadd, 1) := by decide +kernel
theorem dX6_passRestart_10 : decode cX6_passRestart 10 = .ok (.aload_n 0, 1) := by decide +kernel
theorem dX6_passRestart_11 : decode cX6_passRestart 11 = .ok (.getfield 12, 3) := by decide +kernel
theorem dX6_passRestart_14 : decode cX6_passRestart 14 = .ok (.getfield 97, 3) := by decide +kernel
theorem dX6_passRestart_17 : decode cX6_passRestart 17 = .ok (.if_icmp .gt 37, 3) := by decide +kernel
theorem dX6_passRestart_20 : decode cX6_passRestart 20 = .ok (.aload_n 0, 1) := by decide +kernel
theorem dX6_passRestart_21 : decode cX6_passRestart 21 = .ok (.getfield 22, 3) := by decide +kernel
theorem dX6_passRestart_24 : decode cX6_passRestart 24 = .ok (.aload_n 0, 1) := by decide +kernel
theorem dX6_passRestart_25 : decode cX6_passRestart 25 = .ok (.getfield 38, 3) := by decide +kernel
theorem dX6_passRestart_28 : decode cX6_passRestart 28 = .ok (.invokevirtual 112, 3) := by decide +kernel
theorem dX6_passRestart_31 : decode cX6_passRestart 31 = .ok (.sipush 255, 3) := by decide +kernel
theorem dX6_passRestart_34 : decode cX6_passRestart 34 = .ok (.if_icmp .ne 20, 3) := by decide +kernel
theorem dX6_passRestart_37 : decode cX6_passRestart 37 = .ok (.aload_n 0, 1) := by decide +kernel
theorem dX6_passRestart_38 : decode cX6_passRestart 38 = .ok (.getfield 22, 3) := by decide +kernel
theorem dX6_passRestart_41 : decode cX6_passRestart 41 = .ok (.aload_n 0, 1) := by decide +kernel
theorem dX6_passRestart_42 : decode cX6_passRestart 42 = .ok (.getfield 38, 3) := by decide +kernel
theorem dX6_passRestart_45 : decode cX6_passRestart 45 = .ok (.iconst 1, 1) := by decide +kernel
theorem dX6_passRestart_46 : decode cX6_passRestart 46 = .ok (.iadd, 1) := by decide +kernel
theorem dX6_passRestart_47 : decode cX6_passRestart 47 = .ok (.invokevirtual 112, 3) := by decide +kernel
theorem dX6_passRestart_50 : decode cX6_passRestart 50 = .ok (.iload_n 1, 1) := by decide +kernel
theorem dX6_passRestart_51 : decode cX6_passRestart 51 = .ok (.if_icmp .eq 8, 3) := by decide +kernel
theorem dX6_passRestart_54 : decode cX6_passRestart 54 = .ok (.aload_n 0, 1) := by decide +kernel
theorem dX6_passRestart_55 : decode cX6_passRestart 55 = .ok (.iconst 5, 1) := by decide +kernel
theorem dX6_passRestart_56 : decode cX6_passRestart 56 = .ok (.putfield 41, 3) := by decide +kernel
theorem dX6_passRestart_59 : decode cX6_passRestart 59 = .ok (.aload_n 0, 1) := by decide +kernel
theorem dX6_passRestart_60 : decode cX6_passRestart 60 = .ok (.dup, 1) := by decide +kernel
theorem dX6_passRestart_61 : decode cX6_passRestart 61 = .ok (.getfield 38, 3) := by decide +kernel
theorem dX6_passRestart_64 : decode cX6_passRestart 64 = .ok (.iconst 2, 1) := by decide +kernel
theorem dX6_passRestart_65 : decode cX6_passRestart 65 = .ok (.iadd, 1) := by decide +kernel
theorem dX6_passRestart_66 : decode cX6_passRestart 66 = .ok (.putfield 38, 3) := by decide +kernel
theorem dX6_passRestart_69 : decode cX6_passRestart 69 = .ok (.aload_n 0, 1) := by decide +kernel
theorem dX6_passRestart_70 : decode cX6_passRestart 70 = .ok (.invokevirtual 47, 3) := by decide +kernel
theorem dX6_passRestart_73 : decode cX6_passRestart 73 = .ok (.return_, 1) := by decide +kernel
theorem flRX6_22 : px_f RX6 22 6 0 := ⟨_, rfl, by decide, Or.inl (tb2 (List.mem_of_getElem? (i := 133) rfl))⟩
theorem flRX6_38 : px_f RX6 38 6 3 := ⟨_, rfl, by decide, Or.inl (tb2 (List.mem_of_getElem? (i := 136) rfl))⟩
theorem flRX6_97 : px_f RX6 97 5 10 := ⟨_, rfl, by decide, Or.inl (tb1 (List.mem_of_getElem? (i := 219) rfl))⟩
theorem mbX6_begin : px_mB mX6_begin 0 := ⟨tb4 (List.mem_of_getElem? (i := 80) rfl), by decide +kernel, tb1 (List.mem_of_getElem? (i := 9) rfl), by decide +kernel, by decide +kernel⟩
theorem vbX6_begin : px_vB mX6_begin := ⟨tb4 (List.mem_of_getElem? (i := 79) rfl), List.mem_append_left _ (List.mem_of_getElem? (i := 31) (by decide +kernel))⟩
theorem kcX6_passRestart_47 : px_cV mX6_passRestart 47 mX6_begin 0 := ⟨⟨mbX6_begin, by decide, by decide⟩, Or.inl (tb4 (List.mem_of_getElem? (i := 77) rfl)), vbX6_begin⟩
theorem mbX6_endBits : px_mB mX6_endBits 0 := ⟨tb4 (List.mem_of_getElem? (i := 89) rfl), by decide +kernel, tb1 (List.mem_of_getElem? (i := 9) rfl), by decide +kernel, by decide +kernel⟩
theorem vbX6_endBits : px_vB mX6_endBits := ⟨tb4 (List.mem_of_getElem? (i := 88) rfl), List.mem_append_left _ (List.mem_of_getElem? (i := 33) (by decide +kernel))⟩
theorem kcX6_passRestart_94 : px_cV mX6_passRestart 94 mX6_endBits 0 := ⟨⟨mbX6_endBits, by decide, by decide⟩, Or.inl (tb4 (List.mem_of_getElem? (i := 86) rfl)), vbX6_endBits⟩
theorem mbX1_at : px_mB mX1_at 1 := ⟨tb3 (List.mem_of_getElem? (i := 127) rfl), by decide +kernel, tb1 (List.mem_of_getElem? (i := 2) rfl), by decide +kernel, by decide +kernel⟩
theorem vbX1_at : px_vB mX1_at := ⟨tb3 (List.mem_of_getElem? (i := 125) rfl), tb3 (List.mem_of_getElem? (i := 126) rfl)⟩
theorem kcX6_passRestart_112 : px_cV mX6_passRestart 112 mX1_at 1 := ⟨⟨mbX1_at, by decide, by decide⟩, Or.inl (tb4 (List.mem_of_getElem? (i := 90) rfl)), vbX1_at⟩
set_option maxRecDepth 100000 in
set_option maxHeartbeats 4000000 in
theorem eX6_passRestart_59 {X : px_X}  : ∀ (a0 : Nat) (w : px_W) (q : px_W), fX6_passRestart_59 X  a0 w = some q → EV X mX6_passRestart 59 [(0, .ref a0)] [] w none q := by
  intro a0 w q h
  unfold fX6_passRestart_59 at h
  refine EV.aload_n 0 dX6_passRestart_59 rfl rfl ?_
  refine EV.dup dX6_passRestart_60 rfl ?_
  obtain ⟨v19, gv19, h⟩ := px_bs h
  refine ev_gI dX6_passRestart_61 flRX6_38 gv19 ?_
  refine EV.iconst (2) dX6_passRestart_64 (by decide) ?_
  refine EV.iadd dX6_passRestart_65 ?_
  obtain ⟨w20, gw20, h⟩ := px_bs h
  refine ev_pV dX6_passRestart_66 flRX6_38 rfl rfl rfl rfl gw20 ?_
  refine EV.aload_n 0 dX6_passRestart_69 rfl rfl ?_
  obtain ⟨o21, go21, h⟩ := px_bs h
  obtain ⟨q22, gq22, h⟩ := px_bs h
  refine EV.callV (As := []) (rest := []) dX6_passRestart_70 kcX6_passRestart_47 (gO_ok go21) rfl rfl rfl (Nat.le_of_ble_eq_true rfl) (Nat.le_of_ble_eq_true rfl) (eX6_begin gq22) ?_
  cases h
  exact EV.ret0 dX6_passRestart_73 trivial
set_option maxRecDepth 100000 in
set_option maxHeartbeats 4000000 in
theorem eX6_passRestart_54 {X : px_X}  : ∀ (a0 : Nat) (w : px_W) (q : px_W), fX6_passRestart_54 X  a0 w = some q → EV X mX6_passRestart 54 [(0, .ref a0)] [] w none q := by
  intro a0 w q h
  unfold fX6_passRestart_54 at h
  refine EV.aload_n 0 dX6_passRestart_54 rfl rfl ?_
  refine EV.iconst (5) dX6_passRestart_55 (by decide) ?_
  obtain ⟨w23, gw23, h⟩ := px_bs h
  refine ev_pV dX6_passRestart_56 flRX6_41 rfl rfl rfl rfl gw23 ?_
  refine EV.sub [0] rfl ?_
  exact eX6_passRestart_59  _ _ _ h
set_option maxRecDepth 100000 in
set_option maxHeartbeats 4000000 in
theorem eX6_passRestart {X : px_X} {w : px_W} {a0 : Nat} {a1 : Int32} {q : px_W} (h : fX6_passRestart X w a0 a1 = some q) : EV X mX6_passRestart 0 (lv_args 0 [.ref a0, .int a1]) [] w none q := by
  unfold fX6_passRestart at h
  show EV X mX6_passRestart 0 [(0, .ref a0), (1, .int a1)] [] w none q
  refine EV.aload_n 0 dX6_passRestart_0 rfl rfl ?_
  obtain ⟨o24, go24, h⟩ := px_bs h
  obtain ⟨q25, gq25, h⟩ := px_bs h
  refine EV.callV (As := []) (rest := []) dX6_passRestart_1 kcX6_passRestart_94 (gO_ok go24) rfl rfl rfl (Nat.le_of_ble_eq_true rfl) (Nat.le_of_ble_eq_true rfl) (eX6_endBits gq25) ?_
  refine EV.aload_n 0 dX6_passRestart_4 rfl rfl ?_
  obtain ⟨v26, gv26, h⟩ := px_bs h
  refine ev_gI dX6_passRestart_5 flRX6_38 gv26 ?_
  refine EV.iconst (2) dX6_passRestart_8 (by decide) ?_
  refine EV.iadd dX6_passRestart_9 ?_
  refine EV.aload_n 0 dX6_passRestart_10 rfl rfl ?_
  obtain ⟨v27, gv27, h⟩ := px_bs h
  refine ev_gR dX6_passRestart_11 flRX6_12 gv27 ?_
  obtain ⟨v28, gv28, h⟩ := px_bs h
  refine ev_gI dX6_passRestart_14 flRX6_97 gv28 ?_
  refine EV.icmp_gt 54 dX6_passRestart_17 (by decide) (fun c29 => ?_) (fun c29 => ?_)
  · rw [if_pos c29] at h
    refine EV.sub [0] rfl ?_
    exact eX6_passRestart_54  _ _ _ h
  · rw [if_neg c29] at h
    refine EV.aload_n 0 dX6_passRestart_20 rfl rfl ?_
    obtain ⟨v30, gv30, h⟩ := px_bs h
    refine ev_gR dX6_passRestart_21 flRX6_22 gv30 ?_
    refine EV.aload_n 0 dX6_passRestart_24 rfl rfl ?_
    obtain ⟨v31, gv31, h⟩ := px_bs h
    refine ev_gI dX6_passRestart_25 flRX6_38 gv31 ?_
    obtain ⟨o32, go32, h⟩ := px_bs h
    obtain ⟨q33, gq33, h⟩ := px_bs h
    refine EV.callV (As := [.int v31]) (rest := []) dX6_passRestart_28 kcX6_passRestart_112 (gO_ok go32) rfl rfl rfl (Nat.le_of_ble_eq_true rfl) (Nat.le_of_ble_eq_true rfl) (eX1_at gq33) ?_
    refine EV.sipush (255) dX6_passRestart_31 (by decide) ?_
    refine EV.icmp_ne 54 dX6_passRestart_34 (by decide) (fun c34 => ?_) (fun c34 => ?_)
    · rw [if_neg c34] at h
      refine EV.sub [0] rfl ?_
      exact eX6_passRestart_54  _ _ _ h
    · rw [if_pos c34] at h
      refine EV.aload_n 0 dX6_passRestart_37 rfl rfl ?_
      obtain ⟨v35, gv35, h⟩ := px_bs h
      refine ev_gR dX6_passRestart_38 flRX6_22 gv35 ?_
      refine EV.aload_n 0 dX6_passRestart_41 rfl rfl ?_
      obtain ⟨v36, gv36, h⟩ := px_bs h
      refine ev_gI dX6_passRestart_42 flRX6_38 gv36 ?_
      refine EV.iconst (1) dX6_passRestart_45 (by decide) ?_
      refine EV.iadd dX6_passRestart_46 ?_
      obtain ⟨o37, go37, h⟩ := px_bs h
      obtain ⟨q38, gq38, h⟩ := px_bs h
      refine EV.callV (As := [.int (v36 + 1)]) (rest := []) dX6_passRestart_47 kcX6_passRestart_112 (gO_ok go37) rfl rfl rfl (Nat.le_of_ble_eq_true rfl) (Nat.le_of_ble_eq_true rfl) (eX1_at gq38) ?_
      refine EV.iload_n 1 dX6_passRestart_50 rfl rfl ?_
      refine EV.icmp_eq 59 dX6_passRestart_51 (by decide) (fun c39 => ?_) (fun c39 => ?_)
      · rw [if_pos c39] at h
        refine EV.sub [0] rfl ?_
        exact eX6_passRestart_59  _ _ _ h
      · rw [if_neg c39] at h
        refine EV.sub [0] rfl ?_
        exact eX6_passRestart_54  _ _ _ h
/-! WavePictures$ScanReader.takeByte()V -/
theorem dX6_takeByte_0 : decode cX6_takeByte 0 = .ok (.aload_n 0, 1) := by decide +kernel
theorem dX6_takeByte_1 : decode cX6_takeByte 1 = .ok (.getfield 38, 3) := by decide +kernel
theorem dX6_takeByte_4 : decode cX6_takeByte 4 = .ok (.aload_n 0, 1) := by decide +kernel
theorem dX6_takeByte_5 : decode cX6_takeByte 5 = .ok (.getfield 12, 3) := by decide +kernel
theorem dX6_takeByte_8 : decode cX6_takeByte 8 = .ok (.getfield 97, 3) := by decide +kernel
theorem dX6_takeByte_11 : decode cX6_takeByte 11 = .ok (.if_icmp .lt 9, 3) := by decide +kernel
theorem dX6_takeByte_14 : decode cX6_takeByte 14 = .ok (.aload_n 0, 1) := by decide +kernel
theorem dX6_takeByte_15 : decode cX6_takeByte 15 = .ok (.iconst 1, 1) := by decide +kernel
theorem dX6_takeByte_16 : decode cX6_takeByte 16 = .ok (.putfield 41, 3) := by decide +kernel
theorem dX6_takeByte_19 : decode cX6_takeByte 19 = .ok (.return_, 1) := by decide +kernel
theorem dX6_takeByte_20 : decode cX6_takeByte 20 = .ok (.aload_n 0, 1) := by decide +kernel
theorem dX6_takeByte_21 : decode cX6_takeByte 21 = .ok (.aload_n 0, 1) := by decide +kernel
theorem dX6_takeByte_22 : decode cX6_takeByte 22 = .ok (.getfield 22, 3) := by decide +kernel
theorem dX6_takeByte_25 : decode cX6_takeByte 25 = .ok (.getfield 121, 3) := by decide +kernel
theorem dX6_takeByte_28 : decode cX6_takeByte 28 = .ok (.aload_n 0, 1) := by decide +kernel
theorem dX6_takeByte_29 : decode cX6_takeByte 29 = .ok (.getfield 38, 3) := by decide +kernel
theorem dX6_takeByte_32 : decode cX6_takeByte 32 = .ok (.baload, 1) := by decide +kernel
theorem dX6_takeByte_33 : decode cX6_takeByte 33 = .ok (.sipush 255, 3) := by decide +kernel
theorem dX6_takeByte_36 : decode cX6_takeByte 36 = .ok (.iand, 1) := by decide +kernel
theorem dX6_takeByte_37 : decode cX6_takeByte 37 = .ok (.putfield 109, 3) := by decide +kernel
theorem dX6_takeByte_40 : decode cX6_takeByte 40 = .ok (.aload_n 0, 1) := by decide +kernel
theorem dX6_takeByte_41 : decode cX6_takeByte 41 = .ok (.getfield 109, 3) := by decide +kernel
theorem dX6_takeByte_44 : decode cX6_takeByte 44 = .ok (.sipush 255, 3) := by decide +kernel
theorem dX6_takeByte_47 : decode cX6_takeByte 47 = .ok (.if_icmp .ne 42, 3) := by decide +kernel
theorem dX6_takeByte_50 : decode cX6_takeByte 50 = .ok (.aload_n 0, 1) := by decide +kernel
theorem dX6_takeByte_51 : decode cX6_takeByte 51 = .ok (.getfield 38, 3) := by decide +kernel
theorem dX6_takeByte_54 : decode cX6_takeByte 54 = .ok (.iconst 1, 1) := by decide +kernel
theorem dX6_takeByte_55 : decode cX6_takeByte 55 = .ok (.iadd, 1) := by decide +kernel
theorem dX6_takeByte_56 : decode cX6_takeByte 56 = .ok (.aload_n 0, 1) := by decide +kernel
theorem dX6_takeByte_57 : decode cX6_takeByte 57 = .ok (.getfield 12, 3) := by decide +kernel
theorem dX6_takeByte_60 : decode cX6_takeByte 60 = .ok (.getfield 97, 3) := by decide +kernel
theorem dX6_takeByte_63 : decode cX6_takeByte 63 = .ok (.if_icmp .ge 20, 3) := by decide +kernel
theorem dX6_takeByte_66 : decode cX6_takeByte 66 = .ok (.aload_n 0, 1) := by decide +kernel
theorem dX6_takeByte_67 : decode cX6_takeByte 67 = .ok (.getfield 22, 3) := by decide +kernel
theorem dX6_takeByte_70 : decode cX6_takeByte 70 = .ok (.getfield 121, 3) := by decide +kernel
theorem dX6_takeByte_73 : decode cX6_takeByte 73 = .ok (.aload_n 0, 1) := by decide +kernel
theorem dX6_takeByte_74 : decode cX6_takeByte 74 = .ok (.getfield 38, 3) := by decide +kernel
theorem dX6_takeByte_77 : decode cX6_takeByte 77 = .ok (.iconst 1, 1) := by decide +kernel
theorem dX6_takeByte_78 : decode cX6_takeByte 78 = .ok (.iadd, 1) := by decide +kernel
theorem dX6_takeByte_79 : decode cX6_takeByte 79 = .ok (.baload, 1) := by decide +kernel
theorem dX6_takeByte_80 : decode cX6_takeByte 80 = .ok (.ifCond .eq 9, 3) := by decide +kernel
theorem dX6_takeByte_83 : decode cX6_takeByte 83 = .ok (.aload_n 0, 1) := by decide +kernel
theorem dX6_takeByte_84 : decode cX6_takeByte 84 = .ok (.iconst 1, 1) := by decide +kernel
theorem dX6_takeByte_85 : decode cX6_takeByte 85 = .ok (.putfield 41, 3) := by decide +kernel
theorem dX6_takeByte_88 : decode cX6_takeByte 88 = .ok (.return_, 1) := by decide +kernel
theorem dX6_takeByte_89 : decode cX6_takeByte 89 = .ok (.aload_n 0, 1) := by decide +kernel
theorem dX6_takeByte_90 : decode cX6_takeByte 90 = .ok (.dup, 1) := by decide +kernel
theorem dX6_takeByte_91 : decode cX6_takeByte 91 = .ok (.getfield 38, 3) := by decide +kernel
theorem dX6_takeByte_94 : decode cX6_takeByte 94 = .ok (.aload_n 0, 1) := by decide +kernel
theorem dX6_takeByte_95 : decode cX6_takeByte 95 = .ok (.getfield 109, 3) := by decide +kernel
theorem dX6_takeByte_98 : decode cX6_takeByte 98 = .ok (.sipush 255, 3) := by decide +kernel
theorem dX6_takeByte_101 : decode cX6_takeByte 101 = .ok (.if_icmp .ne 7, 3) := by decide +kernel
theorem dX6_takeByte_104 : decode cX6_takeByte 104 = .ok (.iconst 2, 1) := by decide +kernel
theorem dX6_takeByte_105 : decode cX6_takeByte 105 = .ok (.goto 4, 3) := by decide +kernel
theorem dX6_takeByte_108 : decode cX6_takeByte 108 = .ok (.iconst 1, 1) := by decide +kernel
theorem dX6_takeByte_109 : decode cX6_takeByte 109 = .ok (.iadd, 1) := by decide +kernel
theorem dX6_takeByte_110 : decode cX6_takeByte 110 = .ok (.putfield 38, 3) := by decide +kernel
theorem dX6_takeByte_113 : decode cX6_takeByte 113 = .ok (.aload_n 0, 1) := by decide +kernel
theorem dX6_takeByte_114 : decode cX6_takeByte 114 = .ok (.bipush 8, 2) := by decide +kernel
theorem dX6_takeByte_116 : decode cX6_takeByte 116 = .ok (.putfield 44, 3) := by decide +kernel
theorem dX6_takeByte_119 : decode cX6_takeByte 119 = .ok (.return_, 1) := by decide +kernel
theorem flRX6_121 : px_f RX6 121 1 0 := ⟨_, rfl, by decide, Or.inl (tb1 (List.mem_of_getElem? (i := 36) rfl))⟩
set_option maxRecDepth 100000 in
set_option maxHeartbeats 4000000 in
theorem eX6_takeByte_83 {X : px_X}  : ∀ (a0 : Nat) (w : px_W) (q : px_W), fX6_takeByte_83 X  a0 w = some q → EV X mX6_takeByte 83 [(0, .ref a0)] [] w none q := by
  intro a0 w q h
  unfold fX6_takeByte_83 at h
  refine EV.aload_n 0 dX6_takeByte_83 rfl rfl ?_
  refine EV.iconst (1) dX6_takeByte_84 (by decide) ?_
  obtain ⟨w23, gw23, h⟩ := px_bs h
  refine ev_pV dX6_takeByte_85 flRX6_41 rfl rfl rfl rfl gw23 ?_
  cases h
  exact EV.ret0 dX6_takeByte_88 trivial
set_option maxRecDepth 100000 in
set_option maxHeartbeats 4000000 in
theorem eX6_takeByte_109 {X : px_X}  : ∀ (a0 : Nat) (s0 : Int32) (s1 : Int32) (s2 : Nat) (w : px_W) (q : px_W), fX6_takeByte_109 X  a0 s0 s1 s2 w = some q → EV X mX6_takeByte 109 [(0, .ref a0)] [.int s0, .int s1, .ref s2] w none q := by
  intro a0 s0 s1 s2 w q h
  unfold fX6_takeByte_109 at h
  refine EV.iadd dX6_takeByte_109 ?_
  obtain ⟨w24, gw24, h⟩ := px_bs h
  refine ev_pV dX6_takeByte_110 flRX6_38 rfl rfl rfl rfl gw24 ?_
  refine EV.aload_n 0 dX6_takeByte_113 rfl rfl ?_
  refine EV.bipush (8) dX6_takeByte_114 (by decide) ?_
  obtain ⟨w25, gw25, h⟩ := px_bs h
  refine ev_pV dX6_takeByte_116 flRX6_44 rfl rfl rfl rfl gw25 ?_
  cases h
  exact EV.ret0 dX6_takeByte_119 trivial
set_option maxRecDepth 100000 in
set_option maxHeartbeats 4000000 in
theorem eX6_takeByte_89 {X : px_X}  : ∀ (a0 : Nat) (w : px_W) (q : px_W), fX6_takeByte_89 X  a0 w = some q → EV X mX6_takeByte 89 [(0, .ref a0)] [] w none q := by
  intro a0 w q h
  unfold fX6_takeByte_89 at h
  refine EV.aload_n 0 dX6_takeByte_89 rfl rfl ?_
  refine EV.dup dX6_takeByte_90 rfl ?_
  obtain ⟨v26, gv26, h⟩ := px_bs h
  refine ev_gI dX6_takeByte_91 flRX6_38 gv26 ?_
  refine EV.aload_n 0 dX6_takeByte_94 rfl rfl ?_
  obtain ⟨v27, gv27, h⟩ := px_bs h
  refine ev_gI dX6_takeByte_95 flRX6_109 gv27 ?_
  refine EV.sipush (255) dX6_takeByte_98 (by decide) ?_
  refine EV.icmp_ne 108 dX6_takeByte_101 (by decide) (fun c28 => ?_) (fun c28 => ?_)
  · rw [if_neg c28] at h
    refine EV.iconst (1) dX6_takeByte_108 (by decide) ?_
    refine EV.sub [0] rfl ?_
    exact eX6_takeByte_109  _ _ _ _ _ _ h
  · rw [if_pos c28] at h
    refine EV.iconst (2) dX6_takeByte_104 (by decide) ?_
    refine EV.goto 109 dX6_takeByte_105 (by decide) ?_
    refine EV.sub [0] rfl ?_
    exact eX6_takeByte_109  _ _ _ _ _ _ h
set_option maxRecDepth 100000 in
set_option maxHeartbeats 4000000 in
theorem eX6_takeByte {X : px_X} {w : px_W} {a0 : Nat} {q : px_W} (h : fX6_takeByte X w a0 = some q) : EV X mX6_takeByte 0 (lv_args 0 [.ref a0]) [] w none q := by
  unfold fX6_takeByte at h
  show EV X mX6_takeByte 0 [(0, .ref a0)] [] w none q
  refine EV.aload_n 0 dX6_takeByte_0 rfl rfl ?_
  obtain ⟨v29, gv29, h⟩ := px_bs h
  refine ev_gI dX6_takeByte_1 flRX6_38 gv29 ?_
  refine EV.aload_n 0 dX6_takeByte_4 rfl rfl ?_
  obtain ⟨v30, gv30, h⟩ := px_bs h
  refine ev_gR dX6_takeByte_5 flRX6_12 gv30 ?_
  obtain ⟨v31, gv31, h⟩ := px_bs h
  refine ev_gI dX6_takeByte_8 flRX6_97 gv31 ?_
  refine EV.icmp_lt 20 dX6_takeByte_11 (by decide) (fun c32 => ?_) (fun c32 => ?_)
  · rw [if_pos c32] at h
    refine EV.aload_n 0 dX6_takeByte_20 rfl rfl ?_
    refine EV.aload_n 0 dX6_takeByte_21 rfl rfl ?_
    obtain ⟨v33, gv33, h⟩ := px_bs h
    refine ev_gR dX6_takeByte_22 flRX6_22 gv33 ?_
    obtain ⟨v34, gv34, h⟩ := px_bs h
    refine ev_gR dX6_takeByte_25 flRX6_121 gv34 ?_
    refine EV.aload_n 0 dX6_takeByte_28 rfl rfl ?_
    obtain ⟨v35, gv35, h⟩ := px_bs h
    refine ev_gI dX6_takeByte_29 flRX6_38 gv35 ?_
    obtain ⟨v36, gv36, h⟩ := px_bs h
    refine ev_aB dX6_takeByte_32 gv36 ?_
    refine EV.sipush (255) dX6_takeByte_33 (by decide) ?_
    refine EV.iand dX6_takeByte_36 ?_
    obtain ⟨w37, gw37, h⟩ := px_bs h
    refine ev_pV dX6_takeByte_37 flRX6_109 rfl rfl rfl rfl gw37 ?_
    refine EV.aload_n 0 dX6_takeByte_40 rfl rfl ?_
    obtain ⟨v38, gv38, h⟩ := px_bs h
    refine ev_gI dX6_takeByte_41 flRX6_109 gv38 ?_
    refine EV.sipush (255) dX6_takeByte_44 (by decide) ?_
    refine EV.icmp_ne 89 dX6_takeByte_47 (by decide) (fun c39 => ?_) (fun c39 => ?_)
    · rw [if_neg c39] at h
      refine EV.sub [0] rfl ?_
      exact eX6_takeByte_89  _ _ _ h
    · rw [if_pos c39] at h
      refine EV.aload_n 0 dX6_takeByte_50 rfl rfl ?_
      obtain ⟨v40, gv40, h⟩ := px_bs h
      refine ev_gI dX6_takeByte_51 flRX6_38 gv40 ?_
      refine EV.iconst (1) dX6_takeByte_54 (by decide) ?_
      refine EV.iadd dX6_takeByte_55 ?_
      refine EV.aload_n 0 dX6_takeByte_56 rfl rfl ?_
      obtain ⟨v41, gv41, h⟩ := px_bs h
      refine ev_gR dX6_takeByte_57 flRX6_12 gv41 ?_
      obtain ⟨v42, gv42, h⟩ := px_bs h
      refine ev_gI dX6_takeByte_60 flRX6_97 gv42 ?_
      refine EV.icmp_ge 83 dX6_takeByte_63 (by decide) (fun c43 => ?_) (fun c43 => ?_)
      · rw [if_pos c43] at h
        refine EV.sub [0] rfl ?_
        exact eX6_takeByte_83  _ _ _ h
      · rw [if_neg c43] at h
        refine EV.aload_n 0 dX6_takeByte_66 rfl rfl ?_
        obtain ⟨v44, gv44, h⟩ := px_bs h
        refine ev_gR dX6_takeByte_67 flRX6_22 gv44 ?_
        obtain ⟨v45, gv45, h⟩ := px_bs h
        refine ev_gR dX6_takeByte_70 flRX6_121 gv45 ?_
        refine EV.aload_n 0 dX6_takeByte_73 rfl rfl ?_
        obtain ⟨v46, gv46, h⟩ := px_bs h
        refine ev_gI dX6_takeByte_74 flRX6_38 gv46 ?_
        refine EV.iconst (1) dX6_takeByte_77 (by decide) ?_
        refine EV.iadd dX6_takeByte_78 ?_
        obtain ⟨v47, gv47, h⟩ := px_bs h
        refine ev_aB dX6_takeByte_79 gv47 ?_
        refine EV.if_eq 89 dX6_takeByte_80 (by decide) (fun c48 => ?_) (fun c48 => ?_)
        · rw [if_pos c48] at h
          refine EV.sub [0] rfl ?_
          exact eX6_takeByte_89  _ _ _ h
        · rw [if_neg c48] at h
          refine EV.sub [0] rfl ?_
          exact eX6_takeByte_83  _ _ _ h
  · rw [if_neg c32] at h
    refine EV.aload_n 0 dX6_takeByte_14 rfl rfl ?_
    refine EV.iconst (1) dX6_takeByte_15 (by decide) ?_
    obtain ⟨w49, gw49, h⟩ := px_bs h
    refine ev_pV dX6_takeByte_16 flRX6_41 rfl rfl rfl rfl gw49 ?_
    cases h
    exact EV.ret0 dX6_takeByte_19 trivial
/-! WavePictures$ScanReader.takeBit()I -/
theorem dX6_takeBit_0 : decode cX6_takeBit 0 = .ok (.aload_n 0, 1) := by decide +kernel
theorem dX6_takeBit_1 : decode cX6_takeBit 1 = .ok (.getfield 44, 3) := by decide +kernel
theorem dX6_takeBit_4 : decode cX6_takeBit 4 = .ok (.ifCond .ne 7, 3) := by decide +kernel
theorem dX6_takeBit_7 : decode cX6_takeBit 7 = .ok (.aload_n 0, 1) := by decide +kernel
theorem dX6_takeBit_8 : decode cX6_takeBit 8 = .ok (.invokevirtual 118, 3) := by decide +kernel
theorem dX6_takeBit_11 : decode cX6_takeBit 11 = .ok (.aload_n 0, 1) := by decide +kernel
theorem dX6_takeBit_12 : decode cX6_takeBit 12 = .ok (.getfield 41, 3) := by decide +kernel
theorem dX6_takeBit_15 : decode cX6_takeBit 15 = .ok (.ifCond .eq 5, 3) := by decide +kernel
theorem dX6_takeBit_18 : decode cX6_takeBit 18 = .ok (.iconst (-1), 1) := by decide +kernel
theorem dX6_takeBit_19 : decode cX6_takeBit 19 = .ok (.ireturn, 1) := by decide +kernel
theorem dX6_takeBit_20 : decode cX6_takeBit 20 = .ok (.aload_n 0, 1) := by decide +kernel
theorem dX6_takeBit_21 : decode cX6_takeBit 21 = .ok (.dup, 1) := by decide +kernel
theorem dX6_takeBit_22 : decode cX6_takeBit 22 = .ok (.getfield 44, 3) := by decide +kernel
theorem dX6_takeBit_25 : decode cX6_takeBit 25 = .ok (.iconst 1, 1) := by decide +kernel
theorem dX6_takeBit_26 : decode cX6_takeBit 26 = .ok (.isub, 1) := by decide +kernel
theorem dX6_takeBit_27 : decode cX6_takeBit 27 = .ok (.putfield 44, 3) := by decide +kernel
theorem dX6_takeBit_30 : decode cX6_takeBit 30 = .ok (.aload_n 0, 1) := by decide +kernel
theorem dX6_takeBit_31 : decode cX6_takeBit 31 = .ok (.getfield 109, 3) := by decide +kernel
theorem dX6_takeBit_34 : decode cX6_takeBit 34 = .ok (.aload_n 0, 1) := by decide +kernel
theorem dX6_takeBit_35 : decode cX6_takeBit 35 = .ok (.getfield 44, 3) := by decide +kernel
theorem dX6_takeBit_38 : decode cX6_takeBit 38 = .ok (.ishr, 1) := by decide +kernel
theorem dX6_takeBit_39 : decode cX6_takeBit 39 = .ok (.iconst 1, 1) := by decide +kernel
theorem dX6_takeBit_40 : decode cX6_takeBit 40 = .ok (.iand, 1) := by decide +kernel
theorem dX6_takeBit_41 : decode cX6_takeBit 41 = .ok (.ireturn, 1) := by decide +kernel
theorem mbX6_takeByte : px_mB mX6_takeByte 0 := ⟨tb4 (List.mem_of_getElem? (i := 110) rfl), by decide +kernel, tb1 (List.mem_of_getElem? (i := 9) rfl), by decide +kernel, by decide +kernel⟩
theorem vbX6_takeByte : px_vB mX6_takeByte := ⟨tb4 (List.mem_of_getElem? (i := 109) rfl), List.mem_append_left _ (List.mem_of_getElem? (i := 36) (by decide +kernel))⟩
theorem kcX6_takeBit_118 : px_cV mX6_takeBit 118 mX6_takeByte 0 := ⟨⟨mbX6_takeByte, by decide, by decide⟩, Or.inl (tb4 (List.mem_of_getElem? (i := 107) rfl)), vbX6_takeByte⟩
set_option maxRecDepth 100000 in
set_option maxHeartbeats 4000000 in
theorem eX6_takeBit_11 {X : px_X}  : ∀ (a0 : Nat) (w : px_W) (q : Int32 × px_W), fX6_takeBit_11 X  a0 w = some q → EV X mX6_takeBit 11 [(0, .ref a0)] [] w (some (.int q.1)) q.2 := by
  intro a0 w q h
  unfold fX6_takeBit_11 at h
  refine EV.aload_n 0 dX6_takeBit_11 rfl rfl ?_
  obtain ⟨v9, gv9, h⟩ := px_bs h
  refine ev_gI dX6_takeBit_12 flRX6_41 gv9 ?_
  refine EV.if_eq 20 dX6_takeBit_15 (by decide) (fun c10 => ?_) (fun c10 => ?_)
  · rw [if_pos c10] at h
    refine EV.aload_n 0 dX6_takeBit_20 rfl rfl ?_
    refine EV.dup dX6_takeBit_21 rfl ?_
    obtain ⟨v11, gv11, h⟩ := px_bs h
    refine ev_gI dX6_takeBit_22 flRX6_44 gv11 ?_
    refine EV.iconst (1) dX6_takeBit_25 (by decide) ?_
    refine EV.isub dX6_takeBit_26 ?_
    obtain ⟨w12, gw12, h⟩ := px_bs h
    refine ev_pV dX6_takeBit_27 flRX6_44 rfl rfl rfl rfl gw12 ?_
    refine EV.aload_n 0 dX6_takeBit_30 rfl rfl ?_
    obtain ⟨v13, gv13, h⟩ := px_bs h
    refine ev_gI dX6_takeBit_31 flRX6_109 gv13 ?_
    refine EV.aload_n 0 dX6_takeBit_34 rfl rfl ?_
    obtain ⟨v14, gv14, h⟩ := px_bs h
    refine ev_gI dX6_takeBit_35 flRX6_44 gv14 ?_
    refine EV.ishr dX6_takeBit_38 ?_
    refine EV.iconst (1) dX6_takeBit_39 (by decide) ?_
    refine EV.iand dX6_takeBit_40 ?_
    cases h
    exact EV.reti dX6_takeBit_41 rfl
  · rw [if_neg c10] at h
    refine EV.iconst ((-1)) dX6_takeBit_18 (by decide) ?_
    cases h
    exact EV.reti dX6_takeBit_19 rfl
set_option maxRecDepth 100000 in
set_option maxHeartbeats 4000000 in
theorem eX6_takeBit {X : px_X} {w : px_W} {a0 : Nat} {q : Int32 × px_W} (h : fX6_takeBit X w a0 = some q) : EV X mX6_takeBit 0 (lv_args 0 [.ref a0]) [] w (some (.int q.1)) q.2 := by
  unfold fX6_takeBit at h
  show EV X mX6_takeBit 0 [(0, .ref a0)] [] w (some (.int q.1)) q.2
  refine EV.aload_n 0 dX6_takeBit_0 rfl rfl ?_
  obtain ⟨v15, gv15, h⟩ := px_bs h
  refine ev_gI dX6_takeBit_1 flRX6_44 gv15 ?_
  refine EV.if_ne 11 dX6_takeBit_4 (by decide) (fun c16 => ?_) (fun c16 => ?_)
  · rw [if_neg c16] at h
    refine EV.sub [0] rfl ?_
    exact eX6_takeBit_11  _ _ _ h
  · rw [if_pos c16] at h
    refine EV.aload_n 0 dX6_takeBit_7 rfl rfl ?_
    obtain ⟨o17, go17, h⟩ := px_bs h
    obtain ⟨q18, gq18, h⟩ := px_bs h
    refine EV.callV (As := []) (rest := []) dX6_takeBit_8 kcX6_takeBit_118 (gO_ok go17) rfl rfl rfl (Nat.le_of_ble_eq_true rfl) (Nat.le_of_ble_eq_true rfl) (eX6_takeByte gq18) ?_
    refine EV.sub [0] rfl ?_
    exact eX6_takeBit_11  _ _ _ h
/-! WavePictures$Words.begins(II)Z -/
theorem dX10_begins_0 : decode cX10_begins 0 = .ok (.aload_n 0, 1) := by decide +kernel
theorem dX10_begins_1 : decode cX10_begins 1 = .ok (.getfield 24, 3) := by decide +kernel
theorem dX10_begins_4 : decode cX10_begins 4 = .ok (.ifCond .le 30, 3) := by decide +kernel
theorem dX10_begins_7 : decode cX10_begins 7 = .ok (.iload_n 2, 1) := by decide +kernel
theorem dX10_begins_8 : decode cX10_begins 8 = .ok (.aload_n 0, 1) := by decide +kernel
theorem dX10_begins_9 : decode cX10_begins 9 = .ok (.getfield 24, 3) := by decide +kernel
theorem dX10_begins_12 : decode cX10_begins 12 = .ok (.if_icmp .gt 22, 3) := by decide +kernel
theorem dX10_begins_15 : decode cX10_begins 15 = .ok (.iload_n 1, 1) := by decide +kernel
theorem dX10_begins_16 : decode cX10_begins 16 = .ok (.aload_n 0, 1) := by decide +kernel
theorem dX10_begins_17 : decode cX10_begins 17 = .ok (.getfield 28, 3) := by decide +kernel
theorem dX10_begins_20 : decode cX10_begins 20 = .ok (.aload_n 0, 1) := by decide +kernel
theorem dX10_begins_21 : decode cX10_begins 21 = .ok (.getfield 24, 3) := by decide +kernel
theorem dX10_begins_24 : decode cX10_begins 24 = .ok (.iload_n 2, 1) := by decide +kernel
theorem dX10_begins_25 : decode cX10_begins 25 = .ok (.isub, 1) := by decide +kernel
theorem dX10_begins_26 : decode cX10_begins 26 = .ok (.ishr, 1) := by decide +kernel
theorem dX10_begins_27 : decode cX10_begins 27 = .ok (.if_icmp .gt 7, 3) := by decide +kernel
theorem dX10_begins_30 : decode cX10_begins 30 = .ok (.iconst 1, 1) := by decide +kernel
theorem dX10_begins_31 : decode cX10_begins 31 = .ok (.goto 4, 3) := by decide +kernel
theorem dX10_begins_34 : decode cX10_begins 34 = .ok (.iconst 0, 1) := by decide +kernel
theorem dX10_begins_35 : decode cX10_begins 35 = .ok (.ireturn, 1) := by decide +kernel
theorem flRX10_24 : px_f RX10 24 10 4 := ⟨_, rfl, by decide, Or.inl (tb2 (List.mem_of_getElem? (i := 42) rfl))⟩
theorem flRX10_28 : px_f RX10 28 10 5 := ⟨_, rfl, by decide, Or.inl (tb2 (List.mem_of_getElem? (i := 44) rfl))⟩
set_option maxRecDepth 100000 in
set_option maxHeartbeats 4000000 in
theorem eX10_begins {X : px_X} {w : px_W} {a0 : Nat} {a1 : Int32} {a2 : Int32} {q : Int32 × px_W} (h : fX10_begins X w a0 a1 a2 = some q) : EV X mX10_begins 0 (lv_args 0 [.ref a0, .int a1, .int a2]) [] w (some (.int q.1)) q.2 := by
  unfold fX10_begins at h
  show EV X mX10_begins 0 [(0, .ref a0), (1, .int a1), (2, .int a2)] [] w (some (.int q.1)) q.2
  refine EV.aload_n 0 dX10_begins_0 rfl rfl ?_
  obtain ⟨v5, gv5, h⟩ := px_bs h
  refine ev_gI dX10_begins_1 flRX10_24 gv5 ?_
  refine EV.if_le 34 dX10_begins_4 (by decide) (fun c6 => ?_) (fun c6 => ?_)
  · rw [if_pos c6] at h
    refine EV.iconst (0) dX10_begins_34 (by decide) ?_
    cases h
    exact EV.reti dX10_begins_35 rfl
  · rw [if_neg c6] at h
    refine EV.iload_n 2 dX10_begins_7 rfl rfl ?_
    refine EV.aload_n 0 dX10_begins_8 rfl rfl ?_
    obtain ⟨v7, gv7, h⟩ := px_bs h
    refine ev_gI dX10_begins_9 flRX10_24 gv7 ?_
    refine EV.icmp_gt 34 dX10_begins_12 (by decide) (fun c8 => ?_) (fun c8 => ?_)
    · rw [if_pos c8] at h
      refine EV.iconst (0) dX10_begins_34 (by decide) ?_
      cases h
      exact EV.reti dX10_begins_35 rfl
    · rw [if_neg c8] at h
      refine EV.iload_n 1 dX10_begins_15 rfl rfl ?_
      refine EV.aload_n 0 dX10_begins_16 rfl rfl ?_
      obtain ⟨v9, gv9, h⟩ := px_bs h
      refine ev_gI dX10_begins_17 flRX10_28 gv9 ?_
      refine EV.aload_n 0 dX10_begins_20 rfl rfl ?_
      obtain ⟨v10, gv10, h⟩ := px_bs h
      refine ev_gI dX10_begins_21 flRX10_24 gv10 ?_
      refine EV.iload_n 2 dX10_begins_24 rfl rfl ?_
      refine EV.isub dX10_begins_25 ?_
      refine EV.ishr dX10_begins_26 ?_
      refine EV.icmp_gt 34 dX10_begins_27 (by decide) (fun c11 => ?_) (fun c11 => ?_)
      · rw [if_pos c11] at h
        refine EV.iconst (0) dX10_begins_34 (by decide) ?_
        cases h
        exact EV.reti dX10_begins_35 rfl
      · rw [if_neg c11] at h
        refine EV.iconst (1) dX10_begins_30 (by decide) ?_
        refine EV.goto 35 dX10_begins_31 (by decide) ?_
        cases h
        exact EV.reti dX10_begins_35 rfl
/-! WavePictures$Words.symbolOf(II)I -/
theorem dX10_symbolOf_0 : decode cX10_symbolOf 0 = .ok (.iload_n 1, 1) := by decide +kernel
theorem dX10_symbolOf_1 : decode cX10_symbolOf 1 = .ok (.aload_n 0, 1) := by decide +kernel
theorem dX10_symbolOf_2 : decode cX10_symbolOf 2 = .ok (.getfield 15, 3) := by decide +kernel
theorem dX10_symbolOf_5 : decode cX10_symbolOf 5 = .ok (.iload_n 2, 1) := by decide +kernel
theorem dX10_symbolOf_6 : decode cX10_symbolOf 6 = .ok (.iaload, 1) := by decide +kernel
theorem dX10_symbolOf_7 : decode cX10_symbolOf 7 = .ok (.isub, 1) := by decide +kernel
theorem dX10_symbolOf_8 : decode cX10_symbolOf 8 = .ok (.istore_n 3, 1) := by decide +kernel
theorem dX10_symbolOf_9 : decode cX10_symbolOf 9 = .ok (.iload_n 3, 1) := by decide +kernel
theorem dX10_symbolOf_10 : decode cX10_symbolOf 10 = .ok (.ifCond .lt 13, 3) := by decide +kernel
theorem dX10_symbolOf_13 : decode cX10_symbolOf 13 = .ok (.iload_n 3, 1) := by decide +kernel
theorem dX10_symbolOf_14 : decode cX10_symbolOf 14 = .ok (.aload_n 0, 1) := by decide +kernel
theorem dX10_symbolOf_15 : decode cX10_symbolOf 15 = .ok (.getfield 9, 3) := by decide +kernel
theorem dX10_symbolOf_18 : decode cX10_symbolOf 18 = .ok (.iload_n 2, 1) := by decide +kernel
theorem dX10_symbolOf_19 : decode cX10_symbolOf 19 = .ok (.iaload, 1) := by decide +kernel
theorem dX10_symbolOf_20 : decode cX10_symbolOf 20 = .ok (.if_icmp .lt 7, 3) := by decide +kernel
theorem dX10_symbolOf_23 : decode cX10_symbolOf 23 = .ok (.iconst (-1), 1) := by decide +kernel
theorem dX10_symbolOf_24 : decode cX10_symbolOf 24 = .ok (.goto 16, 3) := by decide +kernel
theorem dX10_symbolOf_27 : decode cX10_symbolOf 27 = .ok (.aload_n 0, 1) := by decide +kernel
theorem dX10_symbolOf_28 : decode cX10_symbolOf 28 = .ok (.getfield 21, 3) := by decide +kernel
theorem dX10_symbolOf_31 : decode cX10_symbolOf 31 = .ok (.aload_n 0, 1) := by decide +kernel
theorem dX10_symbolOf_32 : decode cX10_symbolOf 32 = .ok (.getfield 18, 3) := by decide +kernel
theorem dX10_symbolOf_35 : decode cX10_symbolOf 35 = .ok (.iload_n 2, 1) := by decide +kernel
theorem dX10_symbolOf_36 : decode cX10_symbolOf 36 = .ok (.iaload, 1) := by decide +kernel
theorem dX10_symbolOf_37 : decode cX10_symbolOf 37 = .ok (.iload_n 3, 1) := by decide +kernel
theorem dX10_symbolOf_38 : decode cX10_symbolOf 38 = .ok (.iadd, 1) := by decide +kernel
theorem dX10_symbolOf_39 : decode cX10_symbolOf 39 = .ok (.iaload, 1) := by decide +kernel
theorem dX10_symbolOf_40 : decode cX10_symbolOf 40 = .ok (.ireturn, 1) := by decide +kernel
theorem flRX10_9 : px_f RX10 9 10 0 := ⟨_, rfl, by decide, Or.inl (tb2 (List.mem_of_getElem? (i := 35) rfl))⟩
theorem flRX10_15 : px_f RX10 15 10 1 := ⟨_, rfl, by decide, Or.inl (tb2 (List.mem_of_getElem? (i := 37) rfl))⟩
theorem flRX10_18 : px_f RX10 18 10 2 := ⟨_, rfl, by decide, Or.inl (tb2 (List.mem_of_getElem? (i := 38) rfl))⟩
theorem flRX10_21 : px_f RX10 21 10 3 := ⟨_, rfl, by decide, Or.inl (tb2 (List.mem_of_getElem? (i := 40) rfl))⟩
set_option maxRecDepth 100000 in
set_option maxHeartbeats 4000000 in
theorem eX10_symbolOf {X : px_X} {w : px_W} {a0 : Nat} {a1 : Int32} {a2 : Int32} {q : Int32 × px_W} (h : fX10_symbolOf X w a0 a1 a2 = some q) : EV X mX10_symbolOf 0 (lv_args 0 [.ref a0, .int a1, .int a2]) [] w (some (.int q.1)) q.2 := by
  unfold fX10_symbolOf at h
  show EV X mX10_symbolOf 0 [(0, .ref a0), (1, .int a1), (2, .int a2)] [] w (some (.int q.1)) q.2
  refine EV.iload_n 1 dX10_symbolOf_0 rfl rfl ?_
  refine EV.aload_n 0 dX10_symbolOf_1 rfl rfl ?_
  obtain ⟨v9, gv9, h⟩ := px_bs h
  refine ev_gR dX10_symbolOf_2 flRX10_15 gv9 ?_
  refine EV.iload_n 2 dX10_symbolOf_5 rfl rfl ?_
  obtain ⟨v10, gv10, h⟩ := px_bs h
  refine ev_aI dX10_symbolOf_6 gv10 ?_
  refine EV.isub dX10_symbolOf_7 ?_
  refine EV.istore_n [(3, .int (a1 - v10)), (0, .ref a0), (1, .int a1), (2, .int a2)] dX10_symbolOf_8 rfl (by decide) rfl ?_
  refine EV.iload_n 0 dX10_symbolOf_9 rfl rfl ?_
  refine EV.if_lt 23 dX10_symbolOf_10 (by decide) (fun c11 => ?_) (fun c11 => ?_)
  · rw [if_pos c11] at h
    refine EV.iconst ((-1)) dX10_symbolOf_23 (by decide) ?_
    refine EV.goto 40 dX10_symbolOf_24 (by decide) ?_
    cases h
    exact EV.reti dX10_symbolOf_40 rfl
  · rw [if_neg c11] at h
    refine EV.iload_n 0 dX10_symbolOf_13 rfl rfl ?_
    refine EV.aload_n 1 dX10_symbolOf_14 rfl rfl ?_
    obtain ⟨v12, gv12, h⟩ := px_bs h
    refine ev_gR dX10_symbolOf_15 flRX10_9 gv12 ?_
    refine EV.iload_n 3 dX10_symbolOf_18 rfl rfl ?_
    obtain ⟨v13, gv13, h⟩ := px_bs h
    refine ev_aI dX10_symbolOf_19 gv13 ?_
    refine EV.icmp_lt 27 dX10_symbolOf_20 (by decide) (fun c14 => ?_) (fun c14 => ?_)
    · rw [if_pos c14] at h
      refine EV.aload_n 1 dX10_symbolOf_27 rfl rfl ?_
      obtain ⟨v15, gv15, h⟩ := px_bs h
      refine ev_gR dX10_symbolOf_28 flRX10_21 gv15 ?_
      refine EV.aload_n 1 dX10_symbolOf_31 rfl rfl ?_
      obtain ⟨v16, gv16, h⟩ := px_bs h
      refine ev_gR dX10_symbolOf_32 flRX10_18 gv16 ?_
      refine EV.iload_n 3 dX10_symbolOf_35 rfl rfl ?_
      obtain ⟨v17, gv17, h⟩ := px_bs h
      refine ev_aI dX10_symbolOf_36 gv17 ?_
      refine EV.iload_n 0 dX10_symbolOf_37 rfl rfl ?_
      refine EV.iadd dX10_symbolOf_38 ?_
      obtain ⟨v18, gv18, h⟩ := px_bs h
      refine ev_aI dX10_symbolOf_39 gv18 ?_
      cases h
      exact EV.reti dX10_symbolOf_40 rfl
    · rw [if_neg c14] at h
      refine EV.iconst ((-1)) dX10_symbolOf_23 (by decide) ?_
      refine EV.goto 40 dX10_symbolOf_24 (by decide) ?_
      cases h
      exact EV.reti dX10_symbolOf_40 rfl
