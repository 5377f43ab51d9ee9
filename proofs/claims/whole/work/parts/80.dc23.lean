/-! WavePicturesModel.saveTables()V -/
theorem dX15_saveTables_0 : decode cX15_saveTables 0 = .ok (.aload_n 0, 1) := by decide +kernel
theorem dX15_saveTables_1 : decode cX15_saveTables 1 = .ok (.sipush 219, 3) := by decide +kernel
theorem dX15_saveTables_4 : decode cX15_saveTables 4 = .ok (.bipush 65, 2) := by decide +kernel
theorem dX15_saveTables_6 : decode cX15_saveTables 6 = .ok (.aload_n 0, 1) := by decide +kernel
theorem dX15_saveTables_7 : decode cX15_saveTables 7 = .ok (.getfield 126, 3) := by decide +kernel
theorem dX15_saveTables_10 : decode cX15_saveTables 10 = .ok (.imul, 1) := by decide +kernel
theorem dX15_saveTables_11 : decode cX15_saveTables 11 = .ok (.invokevirtual 291, 3) := by decide +kernel
theorem dX15_saveTables_14 : decode cX15_saveTables 14 = .ok (.iconst 0, 1) := by decide +kernel
theorem dX15_saveTables_15 : decode cX15_saveTables 15 = .ok (.istore_n 1, 1) := by decide +kernel
theorem dX15_saveTables_16 : decode cX15_saveTables 16 = .ok (.iload_n 1, 1) := by decide +kernel
theorem dX15_saveTables_17 : decode cX15_saveTables 17 = .ok (.aload_n 0, 1) := by decide +kernel
theorem dX15_saveTables_18 : decode cX15_saveTables 18 = .ok (.getfield 126, 3) := by decide +kernel
theorem dX15_saveTables_21 : decode cX15_saveTables 21 = .ok (.if_icmp .ge 43, 3) := by decide +kernel
theorem dX15_saveTables_24 : decode cX15_saveTables 24 = .ok (.aload_n 0, 1) := by decide +kernel
theorem dX15_saveTables_25 : decode cX15_saveTables 25 = .ok (.iload_n 1, 1) := by decide +kernel
theorem dX15_saveTables_26 : decode cX15_saveTables 26 = .ok (.invokevirtual 258, 3) := by decide +kernel
theorem dX15_saveTables_29 : decode cX15_saveTables 29 = .ok (.iconst 0, 1) := by decide +kernel
theorem dX15_saveTables_30 : decode cX15_saveTables 30 = .ok (.istore_n 2, 1) := by decide +kernel
theorem dX15_saveTables_31 : decode cX15_saveTables 31 = .ok (.iload_n 2, 1) := by decide +kernel
theorem dX15_saveTables_32 : decode cX15_saveTables 32 = .ok (.bipush 64, 2) := by decide +kernel
theorem dX15_saveTables_34 : decode cX15_saveTables 34 = .ok (.if_icmp .ge 24, 3) := by decide +kernel
theorem dX15_saveTables_37 : decode cX15_saveTables 37 = .ok (.aload_n 0, 1) := by decide +kernel
theorem dX15_saveTables_38 : decode cX15_saveTables 38 = .ok (.aload_n 0, 1) := by decide +kernel
theorem dX15_saveTables_39 : decode cX15_saveTables 39 = .ok (.getfield 67, 3) := by decide +kernel
theorem dX15_saveTables_42 : decode cX15_saveTables 42 = .ok (.bipush 64, 2) := by decide +kernel
theorem dX15_saveTables_44 : decode cX15_saveTables 44 = .ok (.iload_n 1, 1) := by decide +kernel
theorem dX15_saveTables_45 : decode cX15_saveTables 45 = .ok (.imul, 1) := by decide +kernel
theorem dX15_saveTables_46 : decode cX15_saveTables 46 = .ok (.iload_n 2, 1) := by decide +kernel
theorem dX15_saveTables_47 : decode cX15_saveTables 47 = .ok (.iadd, 1) := by decide +kernel
theorem dX15_saveTables_48 : decode cX15_saveTables 48 = .ok (.iaload, 1) := by decide +kernel
theorem dX15_saveTables_49 : decode cX15_saveTables 49 = .ok (.invokevirtual 258, 3) := by decide +kernel
theorem dX15_saveTables_52 : decode cX15_saveTables 52 = .ok (.iinc 2 1, 3) := by decide +kernel
theorem dX15_saveTables_55 : decode cX15_saveTables 55 = .ok (.goto (-24), 3) := by decide +kernel
theorem dX15_saveTables_58 : decode cX15_saveTables 58 = .ok (.iinc 1 1, 3) := by decide +kernel
theorem dX15_saveTables_61 : decode cX15_saveTables 61 = .ok (.goto (-45), 3) := by decide +kernel
theorem dX15_saveTables_64 : decode cX15_saveTables 64 = .ok (.return_, 1) := by decide +kernel
theorem kcX15_saveTables_258 : px_cV mX15_saveTables 258 mX15_put 1 := ⟨⟨mbX15_put, by decide, by decide⟩, Or.inl (tb9 (List.mem_of_getElem? (i := 127) rfl)), vbX15_put⟩
theorem kcX15_saveTables_291 : px_cV mX15_saveTables 291 mX15_begin 2 := ⟨⟨mbX15_begin, by decide, by decide⟩, Or.inl (tb9 (List.mem_of_getElem? (i := 135) rfl)), vbX15_begin⟩
set_option maxRecDepth 100000 in
set_option maxHeartbeats 4000000 in
theorem eX15_saveTables_58 {X : px_X} {k16 : Nat → Int32 → px_W → Option (px_W)} (hk16 : ∀ (a0 : Nat) (a1 : Int32) (w : px_W) (q : px_W), k16 a0 a1 w = some q → EV X mX15_saveTables 16 [(0, .ref a0), (1, .int a1)] [] w none q) : ∀ (a0 : Nat) (a1 : Int32) (w : px_W) (q : px_W), fX15_saveTables_58 X k16 a0 a1 w = some q → EV X mX15_saveTables 58 [(0, .ref a0), (1, .int a1)] [] w none q := by
  intro a0 a1 w q h
  unfold fX15_saveTables_58 at h
  refine EV.iinc 1 (a1 + 1) [(1, .int (a1 + 1)), (0, .ref a0)] dX15_saveTables_58 rfl rfl (by decide) rfl ?_
  refine EV.goto 16 dX15_saveTables_61 (by decide) ?_
  refine EV.sub [1, 0] rfl ?_
  exact hk16 _ _ _ _ h
set_option maxRecDepth 100000 in
set_option maxHeartbeats 4000000 in
theorem eX15_saveTables_31 {X : px_X} {k16 : Nat → Int32 → px_W → Option (px_W)} (hk16 : ∀ (a0 : Nat) (a1 : Int32) (w : px_W) (q : px_W), k16 a0 a1 w = some q → EV X mX15_saveTables 16 [(0, .ref a0), (1, .int a1)] [] w none q) : ∀ (m : Nat) (a0 : Nat) (a1 : Int32) (a2 : Int32) (w : px_W) (q : px_W), fX15_saveTables_31 X k16 m a0 a1 a2 w = some q → EV X mX15_saveTables 31 [(0, .ref a0), (1, .int a1), (2, .int a2)] [] w none q := by
  intro m
  induction m with
  | zero => intro a0 a1 a2 w q h; cases h
  | succ m ih =>
    intro a0 a1 a2 w q h
    rw [fX15_saveTables_31.eq_2] at h
    refine EV.iload_n 2 dX15_saveTables_31 rfl rfl ?_
    refine EV.bipush (64) dX15_saveTables_32 (by decide) ?_
    refine EV.icmp_ge 58 dX15_saveTables_34 (by decide) (fun c11 => ?_) (fun c11 => ?_)
    · rw [if_pos c11] at h
      refine EV.sub [0, 1] rfl ?_
      exact eX15_saveTables_58 hk16 _ _ _ _ h
    · rw [if_neg c11] at h
      refine EV.aload_n 0 dX15_saveTables_37 rfl rfl ?_
      refine EV.aload_n 0 dX15_saveTables_38 rfl rfl ?_
      obtain ⟨v12, gv12, h⟩ := px_bs h
      refine ev_gR dX15_saveTables_39 flRX15_67 gv12 ?_
      refine EV.bipush (64) dX15_saveTables_42 (by decide) ?_
      refine EV.iload_n 1 dX15_saveTables_44 rfl rfl ?_
      refine EV.imul dX15_saveTables_45 ?_
      refine EV.iload_n 2 dX15_saveTables_46 rfl rfl ?_
      refine EV.iadd dX15_saveTables_47 ?_
      obtain ⟨v13, gv13, h⟩ := px_bs h
      refine ev_aI dX15_saveTables_48 gv13 ?_
      obtain ⟨o14, go14, h⟩ := px_bs h
      obtain ⟨q15, gq15, h⟩ := px_bs h
      refine EV.callV (As := [.int v13]) (rest := []) dX15_saveTables_49 kcX15_saveTables_258 (gO_ok go14) rfl rfl rfl (Nat.le_of_ble_eq_true rfl) (Nat.le_of_ble_eq_true rfl) (eX15_put gq15) ?_
      refine EV.iinc 2 (a2 + 1) [(2, .int (a2 + 1)), (0, .ref a0), (1, .int a1)] dX15_saveTables_52 rfl rfl (by decide) rfl ?_
      refine EV.goto 31 dX15_saveTables_55 (by decide) ?_
      refine EV.sub [1, 2, 0] rfl ?_
      exact ih _ _ _ _ _ h
set_option maxRecDepth 100000 in
set_option maxHeartbeats 4000000 in
theorem eX15_saveTables_16 {X : px_X}  : ∀ (m : Nat) (a0 : Nat) (a1 : Int32) (w : px_W) (q : px_W), fX15_saveTables_16 X  m a0 a1 w = some q → EV X mX15_saveTables 16 [(0, .ref a0), (1, .int a1)] [] w none q := by
  intro m
  induction m with
  | zero => intro a0 a1 w q h; cases h
  | succ m ih =>
    intro a0 a1 w q h
    rw [fX15_saveTables_16.eq_2] at h
    refine EV.iload_n 1 dX15_saveTables_16 rfl rfl ?_
    refine EV.aload_n 0 dX15_saveTables_17 rfl rfl ?_
    obtain ⟨v16, gv16, h⟩ := px_bs h
    refine ev_gI dX15_saveTables_18 flRX15_126 gv16 ?_
    refine EV.icmp_ge 64 dX15_saveTables_21 (by decide) (fun c17 => ?_) (fun c17 => ?_)
    · rw [if_pos c17] at h
      cases h
      exact EV.ret0 dX15_saveTables_64 trivial
    · rw [if_neg c17] at h
      refine EV.aload_n 0 dX15_saveTables_24 rfl rfl ?_
      refine EV.iload_n 1 dX15_saveTables_25 rfl rfl ?_
      obtain ⟨o18, go18, h⟩ := px_bs h
      obtain ⟨q19, gq19, h⟩ := px_bs h
      refine EV.callV (As := [.int a1]) (rest := []) dX15_saveTables_26 kcX15_saveTables_258 (gO_ok go18) rfl rfl rfl (Nat.le_of_ble_eq_true rfl) (Nat.le_of_ble_eq_true rfl) (eX15_put gq19) ?_
      refine EV.iconst (0) dX15_saveTables_29 (by decide) ?_
      refine EV.istore_n [(2, .int 0), (0, .ref a0), (1, .int a1)] dX15_saveTables_30 rfl (by decide) rfl ?_
      refine EV.sub [1, 2, 0] rfl ?_
      exact eX15_saveTables_31 ih FU _ _ _ _ _ h
set_option maxRecDepth 100000 in
set_option maxHeartbeats 4000000 in
theorem eX15_saveTables {X : px_X} {w : px_W} {a0 : Nat} {q : px_W} (h : fX15_saveTables X w a0 = some q) : EV X mX15_saveTables 0 (lv_args 0 [.ref a0]) [] w none q := by
  unfold fX15_saveTables at h
  show EV X mX15_saveTables 0 [(0, .ref a0)] [] w none q
  refine EV.aload_n 0 dX15_saveTables_0 rfl rfl ?_
  refine EV.sipush (219) dX15_saveTables_1 (by decide) ?_
  refine EV.bipush (65) dX15_saveTables_4 (by decide) ?_
  refine EV.aload_n 0 dX15_saveTables_6 rfl rfl ?_
  obtain ⟨v20, gv20, h⟩ := px_bs h
  refine ev_gI dX15_saveTables_7 flRX15_126 gv20 ?_
  refine EV.imul dX15_saveTables_10 ?_
  obtain ⟨o21, go21, h⟩ := px_bs h
  obtain ⟨q22, gq22, h⟩ := px_bs h
  refine EV.callV (As := [.int 219, .int (65 * v20)]) (rest := []) dX15_saveTables_11 kcX15_saveTables_291 (gO_ok go21) rfl rfl rfl (Nat.le_of_ble_eq_true rfl) (Nat.le_of_ble_eq_true rfl) (eX15_begin gq22) ?_
  refine EV.iconst (0) dX15_saveTables_14 (by decide) ?_
  refine EV.istore_n [(1, .int 0), (0, .ref a0)] dX15_saveTables_15 rfl (by decide) rfl ?_
  refine EV.sub [1, 0] rfl ?_
  exact eX15_saveTables_16  FU _ _ _ _ h
/-! WavePicturesModel.saveAs(II)I -/
theorem dX15_saveAs_0 : decode cX15_saveAs 0 = .ok (.aload_n 0, 1) := by decide +kernel
theorem dX15_saveAs_1 : decode cX15_saveAs 1 = .ok (.getfield 235, 3) := by decide +kernel
theorem dX15_saveAs_4 : decode cX15_saveAs 4 = .ok (.ifCond .eq 23, 3) := by decide +kernel
theorem dX15_saveAs_7 : decode cX15_saveAs 7 = .ok (.iload_n 1, 1) := by decide +kernel
theorem dX15_saveAs_8 : decode cX15_saveAs 8 = .ok (.ifCond .lt 19, 3) := by decide +kernel
theorem dX15_saveAs_11 : decode cX15_saveAs 11 = .ok (.iload_n 1, 1) := by decide +kernel
theorem dX15_saveAs_12 : decode cX15_saveAs 12 = .ok (.iconst 2, 1) := by decide +kernel
theorem dX15_saveAs_13 : decode cX15_saveAs 13 = .ok (.if_icmp .gt 14, 3) := by decide +kernel
theorem dX15_saveAs_16 : decode cX15_saveAs 16 = .ok (.iload_n 2, 1) := by decide +kernel
theorem dX15_saveAs_17 : decode cX15_saveAs 17 = .ok (.ifCond .lt 10, 3) := by decide +kernel
theorem dX15_saveAs_20 : decode cX15_saveAs 20 = .ok (.iload_n 2, 1) := by decide +kernel
theorem dX15_saveAs_21 : decode cX15_saveAs 21 = .ok (.ldc_w 309, 3) := by decide +kernel
theorem dX15_saveAs_24 : decode cX15_saveAs 24 = .ok (.if_icmp .le 5, 3) := by decide +kernel
theorem dX15_saveAs_27 : decode cX15_saveAs 27 = .ok (.iconst (-1), 1) := by decide +kernel
theorem dX15_saveAs_28 : decode cX15_saveAs 28 = .ok (.ireturn, 1) := by decide +kernel
theorem dX15_saveAs_29 : decode cX15_saveAs 29 = .ok (.aload_n 0, 1) := by decide +kernel
theorem dX15_saveAs_30 : decode cX15_saveAs 30 = .ok (.getfield 33, 3) := by decide +kernel
theorem dX15_saveAs_33 : decode cX15_saveAs 33 = .ok (.aload_n 0, 1) := by decide +kernel
theorem dX15_saveAs_34 : decode cX15_saveAs 34 = .ok (.getfield 129, 3) := by decide +kernel
theorem dX15_saveAs_37 : decode cX15_saveAs 37 = .ok (.aload_n 0, 1) := by decide +kernel
theorem dX15_saveAs_38 : decode cX15_saveAs 38 = .ok (.getfield 139, 3) := by decide +kernel
theorem dX15_saveAs_41 : decode cX15_saveAs 41 = .ok (.aload_n 0, 1) := by decide +kernel
theorem dX15_saveAs_42 : decode cX15_saveAs 42 = .ok (.getfield 126, 3) := by decide +kernel
theorem dX15_saveAs_45 : decode cX15_saveAs 45 = .ok (.aload_n 0, 1) := by decide +kernel
theorem dX15_saveAs_46 : decode cX15_saveAs 46 = .ok (.invokevirtual 310, 3) := by decide +kernel
theorem dX15_saveAs_49 : decode cX15_saveAs 49 = .ok (.invokevirtual 228, 3) := by decide +kernel
theorem dX15_saveAs_52 : decode cX15_saveAs 52 = .ok (.ifCond .eq 18, 3) := by decide +kernel
theorem dX15_saveAs_55 : decode cX15_saveAs 55 = .ok (.aload_n 0, 1) := by decide +kernel
theorem dX15_saveAs_56 : decode cX15_saveAs 56 = .ok (.getfield 33, 3) := by decide +kernel
theorem dX15_saveAs_59 : decode cX15_saveAs 59 = .ok (.iload_n 2, 1) := by decide +kernel
theorem dX15_saveAs_60 : decode cX15_saveAs 60 = .ok (.invokevirtual 170, 3) := by decide +kernel
theorem dX15_saveAs_63 : decode cX15_saveAs 63 = .ok (.ifCond .eq 7, 3) := by decide +kernel
theorem dX15_saveAs_66 : decode cX15_saveAs 66 = .ok (.iconst 1, 1) := by decide +kernel
theorem dX15_saveAs_67 : decode cX15_saveAs 67 = .ok (.goto 4, 3) := by decide +kernel
theorem dX15_saveAs_70 : decode cX15_saveAs 70 = .ok (.iconst 0, 1) := by decide +kernel
theorem dX15_saveAs_71 : decode cX15_saveAs 71 = .ok (.istore_n 3, 1) := by decide +kernel
theorem dX15_saveAs_72 : decode cX15_saveAs 72 = .ok (.iconst 0, 1) := by decide +kernel
theorem dX15_saveAs_73 : decode cX15_saveAs 73 = .ok (.istore 4, 2) := by decide +kernel
theorem dX15_saveAs_75 : decode cX15_saveAs 75 = .ok (.iload 4, 2) := by decide +kernel
theorem dX15_saveAs_77 : decode cX15_saveAs 77 = .ok (.sipush 12288, 3) := by decide +kernel
theorem dX15_saveAs_80 : decode cX15_saveAs 80 = .ok (.if_icmp .ge 26, 3) := by decide +kernel
theorem dX15_saveAs_83 : decode cX15_saveAs 83 = .ok (.aload_n 0, 1) := by decide +kernel
theorem dX15_saveAs_84 : decode cX15_saveAs 84 = .ok (.getfield 33, 3) := by decide +kernel
theorem dX15_saveAs_87 : decode cX15_saveAs 87 = .ok (.getfield 242, 3) := by decide +kernel
theorem dX15_saveAs_90 : decode cX15_saveAs 90 = .ok (.iload 4, 2) := by decide +kernel
theorem dX15_saveAs_92 : decode cX15_saveAs 92 = .ok (.aload_n 0, 1) := by decide +kernel
theorem dX15_saveAs_93 : decode cX15_saveAs 93 = .ok (.getfield 70, 3) := by decide +kernel
theorem dX15_saveAs_96 : decode cX15_saveAs 96 = .ok (.iload 4, 2) := by decide +kernel
theorem dX15_saveAs_98 : decode cX15_saveAs 98 = .ok (.saload, 1) := by decide +kernel
theorem dX15_saveAs_99 : decode cX15_saveAs 99 = .ok (.sastore, 1) := by decide +kernel
theorem dX15_saveAs_100 : decode cX15_saveAs 100 = .ok (.iinc 4 1, 3) := by decide +kernel
theorem dX15_saveAs_103 : decode cX15_saveAs 103 = .ok (.goto (-28), 3) := by decide +kernel
theorem dX15_saveAs_106 : decode cX15_saveAs 106 = .ok (.iconst 0, 1) := by decide +kernel
theorem dX15_saveAs_107 : decode cX15_saveAs 107 = .ok (.istore 4, 2) := by decide +kernel
theorem dX15_saveAs_109 : decode cX15_saveAs 109 = .ok (.iload 4, 2) := by decide +kernel
theorem dX15_saveAs_111 : decode cX15_saveAs 111 = .ok (.aload_n 0, 1) := by decide +kernel
theorem dX15_saveAs_112 : decode cX15_saveAs 112 = .ok (.getfield 126, 3) := by decide +kernel
theorem dX15_saveAs_115 : decode cX15_saveAs 115 = .ok (.if_icmp .ge 25, 3) := by decide +kernel
theorem dX15_saveAs_118 : decode cX15_saveAs 118 = .ok (.aload_n 0, 1) := by decide +kernel
theorem dX15_saveAs_119 : decode cX15_saveAs 119 = .ok (.getfield 33, 3) := by decide +kernel
theorem dX15_saveAs_122 : decode cX15_saveAs 122 = .ok (.iload 4, 2) := by decide +kernel
theorem dX15_saveAs_124 : decode cX15_saveAs 124 = .ok (.iload 4, 2) := by decide +kernel
theorem dX15_saveAs_126 : decode cX15_saveAs 126 = .ok (.iconst 4, 1) := by decide +kernel
theorem dX15_saveAs_127 : decode cX15_saveAs 127 = .ok (.iload 4, 2) := by decide +kernel
theorem dX15_saveAs_129 : decode cX15_saveAs 129 = .ok (.iadd, 1) := by decide +kernel
theorem dX15_saveAs_130 : decode cX15_saveAs 130 = .ok (.invokevirtual 157, 3) := by decide +kernel
theorem dX15_saveAs_133 : decode cX15_saveAs 133 = .ok (.istore_n 3, 1) := by decide +kernel
theorem dX15_saveAs_134 : decode cX15_saveAs 134 = .ok (.iinc 4 1, 3) := by decide +kernel
theorem dX15_saveAs_137 : decode cX15_saveAs 137 = .ok (.goto (-28), 3) := by decide +kernel
theorem dX15_saveAs_140 : decode cX15_saveAs 140 = .ok (.aload_n 0, 1) := by decide +kernel
theorem dX15_saveAs_141 : decode cX15_saveAs 141 = .ok (.iconst 0, 1) := by decide +kernel
theorem dX15_saveAs_142 : decode cX15_saveAs 142 = .ok (.putfield 252, 3) := by decide +kernel
theorem dX15_saveAs_145 : decode cX15_saveAs 145 = .ok (.aload_n 0, 1) := by decide +kernel
theorem dX15_saveAs_146 : decode cX15_saveAs 146 = .ok (.iconst 0, 1) := by decide +kernel
theorem dX15_saveAs_147 : decode cX15_saveAs 147 = .ok (.putfield 255, 3) := by decide +kernel
theorem dX15_saveAs_150 : decode cX15_saveAs 150 = .ok (.aload_n 0, 1) := by decide +kernel
theorem dX15_saveAs_151 : decode cX15_saveAs 151 = .ok (.sipush 255, 3) := by decide +kernel
theorem dX15_saveAs_154 : decode cX15_saveAs 154 = .ok (.invokevirtual 258, 3) := by decide +kernel
theorem dX15_saveAs_157 : decode cX15_saveAs 157 = .ok (.aload_n 0, 1) := by decide +kernel
theorem dX15_saveAs_158 : decode cX15_saveAs 158 = .ok (.sipush 216, 3) := by decide +kernel
theorem dX15_saveAs_161 : decode cX15_saveAs 161 = .ok (.invokevirtual 258, 3) := by decide +kernel
theorem dX15_saveAs_164 : decode cX15_saveAs 164 = .ok (.aload_n 0, 1) := by decide +kernel
theorem dX15_saveAs_165 : decode cX15_saveAs 165 = .ok (.invokevirtual 313, 3) := by decide +kernel
theorem dX15_saveAs_168 : decode cX15_saveAs 168 = .ok (.aload_n 0, 1) := by decide +kernel
theorem dX15_saveAs_169 : decode cX15_saveAs 169 = .ok (.iload_n 1, 1) := by decide +kernel
theorem dX15_saveAs_170 : decode cX15_saveAs 170 = .ok (.iconst 2, 1) := by decide +kernel
theorem dX15_saveAs_171 : decode cX15_saveAs 171 = .ok (.if_icmp .ne 9, 3) := by decide +kernel
theorem dX15_saveAs_174 : decode cX15_saveAs 174 = .ok (.sipush 194, 3) := by decide +kernel
theorem dX15_saveAs_177 : decode cX15_saveAs 177 = .ok (.goto 6, 3) := by decide +kernel
theorem dX15_saveAs_180 : decode cX15_saveAs 180 = .ok (.sipush 192, 3) := by decide +kernel
theorem dX15_saveAs_183 : decode cX15_saveAs 183 = .ok (.bipush 6, 2) := by decide +kernel
theorem dX15_saveAs_185 : decode cX15_saveAs 185 = .ok (.iconst 3, 1) := by decide +kernel
theorem dX15_saveAs_186 : decode cX15_saveAs 186 = .ok (.aload_n 0, 1) := by decide +kernel
theorem dX15_saveAs_187 : decode cX15_saveAs 187 = .ok (.getfield 126, 3) := by decide +kernel
theorem dX15_saveAs_190 : decode cX15_saveAs 190 = .ok (.imul, 1) := by decide +kernel
theorem dX15_saveAs_191 : decode cX15_saveAs 191 = .ok (.iadd, 1) := by decide +kernel
theorem dX15_saveAs_192 : decode cX15_saveAs 192 = .ok (.invokevirtual 291, 3) := by decide +kernel
theorem dX15_saveAs_195 : decode cX15_saveAs 195 = .ok (.aload_n 0, 1) := by decide +kernel
theorem dX15_saveAs_196 : decode cX15_saveAs 196 = .ok (.bipush 8, 2) := by decide +kernel
theorem dX15_saveAs_198 : decode cX15_saveAs 198 = .ok (.invokevirtual 258, 3) := by decide +kernel
theorem dX15_saveAs_201 : decode cX15_saveAs 201 = .ok (.aload_n 0, 1) := by decide +kernel
theorem dX15_saveAs_202 : decode cX15_saveAs 202 = .ok (.aload_n 0, 1) := by decide +kernel
theorem dX15_saveAs_203 : decode cX15_saveAs 203 = .ok (.getfield 139, 3) := by decide +kernel
theorem dX15_saveAs_206 : decode cX15_saveAs 206 = .ok (.invokevirtual 262, 3) := by decide +kernel
theorem dX15_saveAs_209 : decode cX15_saveAs 209 = .ok (.aload_n 0, 1) := by decide +kernel
theorem dX15_saveAs_210 : decode cX15_saveAs 210 = .ok (.aload_n 0, 1) := by decide +kernel
theorem dX15_saveAs_211 : decode cX15_saveAs 211 = .ok (.getfield 129, 3) := by decide +kernel
theorem dX15_saveAs_214 : decode cX15_saveAs 214 = .ok (.invokevirtual 262, 3) := by decide +kernel
theorem dX15_saveAs_217 : decode cX15_saveAs 217 = .ok (.aload_n 0, 1) := by decide +kernel
theorem dX15_saveAs_218 : decode cX15_saveAs 218 = .ok (.aload_n 0, 1) := by decide +kernel
theorem dX15_saveAs_219 : decode cX15_saveAs 219 = .ok (.getfield 126, 3) := by decide +kernel
theorem dX15_saveAs_222 : decode cX15_saveAs 222 = .ok (.invokevirtual 258, 3) := by decide +kernel
theorem dX15_saveAs_225 : decode cX15_saveAs 225 = .ok (.iconst 0, 1) := by decide +kernel
theorem dX15_saveAs_226 : decode cX15_saveAs 226 = .ok (.istore 4, 2) := by decide +kernel
theorem dX15_saveAs_228 : decode cX15_saveAs 228 = .ok (.iload 4, 2) := by decide +kernel
theorem dX15_saveAs_230 : decode cX15_saveAs 230 = .ok (.aload_n 0, 1) := by decide +kernel
theorem dX15_saveAs_231 : decode cX15_saveAs 231 = .ok (.getfield 126, 3) := by decide +kernel
theorem dX15_saveAs_234 : decode cX15_saveAs 234 = .ok (.if_icmp .ge 45, 3) := by decide +kernel
theorem dX15_saveAs_237 : decode cX15_saveAs 237 = .ok (.aload_n 0, 1) := by decide +kernel
theorem dX15_saveAs_238 : decode cX15_saveAs 238 = .ok (.iload 4, 2) := by decide +kernel
theorem dX15_saveAs_240 : decode cX15_saveAs 240 = .ok (.iconst 1, 1) := by decide +kernel
theorem dX15_saveAs_241 : decode cX15_saveAs 241 = .ok (.iadd, 1) := by decide +kernel
theorem dX15_saveAs_242 : decode cX15_saveAs 242 = .ok (.invokevirtual 258, 3) := by decide +kernel
theorem dX15_saveAs_245 : decode cX15_saveAs 245 = .ok (.aload_n 0, 1) := by decide +kernel
theorem dX15_saveAs_246 : decode cX15_saveAs 246 = .ok (.bipush 16, 2) := by decide +kernel
theorem dX15_saveAs_248 : decode cX15_saveAs 248 = .ok (.aload_n 0, 1) := by decide +kernel
theorem dX15_saveAs_249 : decode cX15_saveAs 249 = .ok (.getfield 52, 3) := by decide +kernel
theorem dX15_saveAs_252 : decode cX15_saveAs 252 = .ok (.iload 4, 2) := by decide +kernel
theorem dX15_saveAs_254 : decode cX15_saveAs 254 = .ok (.iaload, 1) := by decide +kernel
theorem dX15_saveAs_255 : decode cX15_saveAs 255 = .ok (.imul, 1) := by decide +kernel
theorem dX15_saveAs_256 : decode cX15_saveAs 256 = .ok (.aload_n 0, 1) := by decide +kernel
theorem dX15_saveAs_257 : decode cX15_saveAs 257 = .ok (.getfield 55, 3) := by decide +kernel
theorem dX15_saveAs_260 : decode cX15_saveAs 260 = .ok (.iload 4, 2) := by decide +kernel
theorem dX15_saveAs_262 : decode cX15_saveAs 262 = .ok (.iaload, 1) := by decide +kernel
theorem dX15_saveAs_263 : decode cX15_saveAs 263 = .ok (.iadd, 1) := by decide +kernel
theorem dX15_saveAs_264 : decode cX15_saveAs 264 = .ok (.invokevirtual 258, 3) := by decide +kernel
theorem dX15_saveAs_267 : decode cX15_saveAs 267 = .ok (.aload_n 0, 1) := by decide +kernel
theorem dX15_saveAs_268 : decode cX15_saveAs 268 = .ok (.iload 4, 2) := by decide +kernel
theorem dX15_saveAs_270 : decode cX15_saveAs 270 = .ok (.invokevirtual 258, 3) := by decide +kernel
theorem dX15_saveAs_273 : decode cX15_saveAs 273 = .ok (.iinc 4 1, 3) := by decide +kernel
theorem dX15_saveAs_276 : decode cX15_saveAs 276 = .ok (.goto (-48), 3) := by decide +kernel
theorem dX15_saveAs_279 : decode cX15_saveAs 279 = .ok (.iload_n 2, 1) := by decide +kernel
theorem dX15_saveAs_280 : decode cX15_saveAs 280 = .ok (.ifCond .le 16, 3) := by decide +kernel
theorem dX15_saveAs_283 : decode cX15_saveAs 283 = .ok (.aload_n 0, 1) := by decide +kernel
theorem dX15_saveAs_284 : decode cX15_saveAs 284 = .ok (.sipush 221, 3) := by decide +kernel
theorem dX15_saveAs_287 : decode cX15_saveAs 287 = .ok (.iconst 2, 1) := by decide +kernel
theorem dX15_saveAs_288 : decode cX15_saveAs 288 = .ok (.invokevirtual 291, 3) := by decide +kernel
theorem dX15_saveAs_291 : decode cX15_saveAs 291 = .ok (.aload_n 0, 1) := by decide +kernel
theorem dX15_saveAs_292 : decode cX15_saveAs 292 = .ok (.iload_n 2, 1) := by decide +kernel
theorem dX15_saveAs_293 : decode cX15_saveAs 293 = .ok (.invokevirtual 262, 3) := by decide +kernel
theorem dX15_saveAs_296 : decode cX15_saveAs 296 = .ok (.iload_n 1, 1) := by decide +kernel
theorem dX15_saveAs_297 : decode cX15_saveAs 297 = .ok (.ifCond .ne 14, 3) := by decide +kernel
theorem dX15_saveAs_300 : decode cX15_saveAs 300 = .ok (.aload_n 0, 1) := by decide +kernel
theorem dX15_saveAs_301 : decode cX15_saveAs 301 = .ok (.bipush 63, 2) := by decide +kernel
theorem dX15_saveAs_303 : decode cX15_saveAs 303 = .ok (.iconst 0, 1) := by decide +kernel
theorem dX15_saveAs_304 : decode cX15_saveAs 304 = .ok (.iconst 0, 1) := by decide +kernel
theorem dX15_saveAs_305 : decode cX15_saveAs 305 = .ok (.invokevirtual 316, 3) := by decide +kernel
theorem dX15_saveAs_308 : decode cX15_saveAs 308 = .ok (.goto 70, 3) := by decide +kernel
theorem dX15_saveAs_311 : decode cX15_saveAs 311 = .ok (.iload_n 1, 1) := by decide +kernel
theorem dX15_saveAs_312 : decode cX15_saveAs 312 = .ok (.iconst 1, 1) := by decide +kernel
theorem dX15_saveAs_313 : decode cX15_saveAs 313 = .ok (.if_icmp .ne 15, 3) := by decide +kernel
theorem dX15_saveAs_316 : decode cX15_saveAs 316 = .ok (.aload_n 0, 1) := by decide +kernel
theorem dX15_saveAs_317 : decode cX15_saveAs 317 = .ok (.iconst 0, 1) := by decide +kernel
theorem dX15_saveAs_318 : decode cX15_saveAs 318 = .ok (.bipush 63, 2) := by decide +kernel
theorem dX15_saveAs_320 : decode cX15_saveAs 320 = .ok (.iconst 0, 1) := by decide +kernel
theorem dX15_saveAs_321 : decode cX15_saveAs 321 = .ok (.iconst 0, 1) := by decide +kernel
theorem dX15_saveAs_322 : decode cX15_saveAs 322 = .ok (.invokevirtual 305, 3) := by decide +kernel
theorem dX15_saveAs_325 : decode cX15_saveAs 325 = .ok (.goto 53, 3) := by decide +kernel
theorem dX15_saveAs_328 : decode cX15_saveAs 328 = .ok (.aload_n 0, 1) := by decide +kernel
theorem dX15_saveAs_329 : decode cX15_saveAs 329 = .ok (.iconst 0, 1) := by decide +kernel
theorem dX15_saveAs_330 : decode cX15_saveAs 330 = .ok (.iconst 0, 1) := by decide +kernel
theorem dX15_saveAs_331 : decode cX15_saveAs 331 = .ok (.iconst 1, 1) := by decide +kernel
theorem dX15_saveAs_332 : decode cX15_saveAs 332 = .ok (.invokevirtual 316, 3) := by decide +kernel
theorem dX15_saveAs_335 : decode cX15_saveAs 335 = .ok (.aload_n 0, 1) := by decide +kernel
theorem dX15_saveAs_336 : decode cX15_saveAs 336 = .ok (.iconst 1, 1) := by decide +kernel
theorem dX15_saveAs_337 : decode cX15_saveAs 337 = .ok (.iconst 5, 1) := by decide +kernel
theorem dX15_saveAs_338 : decode cX15_saveAs 338 = .ok (.iconst 0, 1) := by decide +kernel
theorem dX15_saveAs_339 : decode cX15_saveAs 339 = .ok (.iconst 2, 1) := by decide +kernel
theorem dX15_saveAs_340 : decode cX15_saveAs 340 = .ok (.invokevirtual 305, 3) := by decide +kernel
theorem dX15_saveAs_343 : decode cX15_saveAs 343 = .ok (.aload_n 0, 1) := by decide +kernel
theorem dX15_saveAs_344 : decode cX15_saveAs 344 = .ok (.bipush 6, 2) := by decide +kernel
theorem dX15_saveAs_346 : decode cX15_saveAs 346 = .ok (.bipush 63, 2) := by decide +kernel
theorem dX15_saveAs_348 : decode cX15_saveAs 348 = .ok (.iconst 0, 1) := by decide +kernel
theorem dX15_saveAs_349 : decode cX15_saveAs 349 = .ok (.iconst 2, 1) := by decide +kernel
theorem dX15_saveAs_350 : decode cX15_saveAs 350 = .ok (.invokevirtual 305, 3) := by decide +kernel
theorem dX15_saveAs_353 : decode cX15_saveAs 353 = .ok (.aload_n 0, 1) := by decide +kernel
theorem dX15_saveAs_354 : decode cX15_saveAs 354 = .ok (.iconst 1, 1) := by decide +kernel
theorem dX15_saveAs_355 : decode cX15_saveAs 355 = .ok (.bipush 63, 2) := by decide +kernel
theorem dX15_saveAs_357 : decode cX15_saveAs 357 = .ok (.iconst 2, 1) := by decide +kernel
theorem dX15_saveAs_358 : decode cX15_saveAs 358 = .ok (.iconst 1, 1) := by decide +kernel
theorem dX15_saveAs_359 : decode cX15_saveAs 359 = .ok (.invokevirtual 305, 3) := by decide +kernel
theorem dX15_saveAs_362 : decode cX15_saveAs 362 = .ok (.aload_n 0, 1) := by decide +kernel
theorem dX15_saveAs_363 : decode cX15_saveAs 363 = .ok (.iconst 0, 1) := by decide +kernel
theorem dX15_saveAs_364 : decode cX15_saveAs 364 = .ok (.iconst 1, 1) := by decide +kernel
theorem dX15_saveAs_365 : decode cX15_saveAs 365 = .ok (.iconst 0, 1) := by decide +kernel
theorem dX15_saveAs_366 : decode cX15_saveAs 366 = .ok (.invokevirtual 316, 3) := by decide +kernel
theorem dX15_saveAs_369 : decode cX15_saveAs 369 = .ok (.aload_n 0, 1) := by decide +kernel
theorem dX15_saveAs_370 : decode cX15_saveAs 370 = .ok (.iconst 1, 1) := by decide +kernel
theorem dX15_saveAs_371 : decode cX15_saveAs 371 = .ok (.bipush 63, 2) := by decide +kernel
theorem dX15_saveAs_373 : decode cX15_saveAs 373 = .ok (.iconst 1, 1) := by decide +kernel
theorem dX15_saveAs_374 : decode cX15_saveAs 374 = .ok (.iconst 0, 1) := by decide +kernel
theorem dX15_saveAs_375 : decode cX15_saveAs 375 = .ok (.invokevirtual 305, 3) := by decide +kernel
theorem dX15_saveAs_378 : decode cX15_saveAs 378 = .ok (.aload_n 0, 1) := by decide +kernel
theorem dX15_saveAs_379 : decode cX15_saveAs 379 = .ok (.sipush 255, 3) := by decide +kernel
theorem dX15_saveAs_382 : decode cX15_saveAs 382 = .ok (.invokevirtual 258, 3) := by decide +kernel
theorem dX15_saveAs_385 : decode cX15_saveAs 385 = .ok (.aload_n 0, 1) := by decide +kernel
theorem dX15_saveAs_386 : decode cX15_saveAs 386 = .ok (.sipush 217, 3) := by decide +kernel
theorem dX15_saveAs_389 : decode cX15_saveAs 389 = .ok (.invokevirtual 258, 3) := by decide +kernel
theorem dX15_saveAs_392 : decode cX15_saveAs 392 = .ok (.aload_n 0, 1) := by decide +kernel
theorem dX15_saveAs_393 : decode cX15_saveAs 393 = .ok (.getfield 255, 3) := by decide +kernel
theorem dX15_saveAs_396 : decode cX15_saveAs 396 = .ok (.ifCond .eq 5, 3) := by decide +kernel
theorem dX15_saveAs_399 : decode cX15_saveAs 399 = .ok (.iconst (-1), 1) := by decide +kernel
theorem dX15_saveAs_400 : decode cX15_saveAs 400 = .ok (.ireturn, 1) := by decide +kernel
theorem dX15_saveAs_401 : decode cX15_saveAs 401 = .ok (.aload_n 0, 1) := by decide +kernel
theorem dX15_saveAs_402 : decode cX15_saveAs 402 = .ok (.aload_n 0, 1) := by decide +kernel
theorem dX15_saveAs_403 : decode cX15_saveAs 403 = .ok (.getfield 252, 3) := by decide +kernel
theorem dX15_saveAs_406 : decode cX15_saveAs 406 = .ok (.putfield 117, 3) := by decide +kernel
theorem dX15_saveAs_409 : decode cX15_saveAs 409 = .ok (.iconst 0, 1) := by decide +kernel
theorem dX15_saveAs_410 : decode cX15_saveAs 410 = .ok (.istore 4, 2) := by decide +kernel
theorem dX15_saveAs_412 : decode cX15_saveAs 412 = .ok (.iload 4, 2) := by decide +kernel
theorem dX15_saveAs_414 : decode cX15_saveAs 414 = .ok (.aload_n 0, 1) := by decide +kernel
theorem dX15_saveAs_415 : decode cX15_saveAs 415 = .ok (.getfield 252, 3) := by decide +kernel
theorem dX15_saveAs_418 : decode cX15_saveAs 418 = .ok (.if_icmp .ge 23, 3) := by decide +kernel
theorem dX15_saveAs_421 : decode cX15_saveAs 421 = .ok (.aload_n 0, 1) := by decide +kernel
theorem dX15_saveAs_422 : decode cX15_saveAs 422 = .ok (.getfield 13, 3) := by decide +kernel
theorem dX15_saveAs_425 : decode cX15_saveAs 425 = .ok (.iload 4, 2) := by decide +kernel
theorem dX15_saveAs_427 : decode cX15_saveAs 427 = .ok (.aload_n 0, 1) := by decide +kernel
theorem dX15_saveAs_428 : decode cX15_saveAs 428 = .ok (.getfield 16, 3) := by decide +kernel
theorem dX15_saveAs_431 : decode cX15_saveAs 431 = .ok (.iload 4, 2) := by decide +kernel
theorem dX15_saveAs_433 : decode cX15_saveAs 433 = .ok (.baload, 1) := by decide +kernel
theorem dX15_saveAs_434 : decode cX15_saveAs 434 = .ok (.bastore, 1) := by decide +kernel
theorem dX15_saveAs_435 : decode cX15_saveAs 435 = .ok (.iinc 4 1, 3) := by decide +kernel
theorem dX15_saveAs_438 : decode cX15_saveAs 438 = .ok (.goto (-26), 3) := by decide +kernel
theorem dX15_saveAs_441 : decode cX15_saveAs 441 = .ok (.aload_n 0, 1) := by decide +kernel
theorem dX15_saveAs_442 : decode cX15_saveAs 442 = .ok (.getfield 117, 3) := by decide +kernel
theorem dX15_saveAs_445 : decode cX15_saveAs 445 = .ok (.ireturn, 1) := by decide +kernel
theorem kcX15_saveAs_157 : px_cV mX15_saveAs 157 mX13_tables 3 := ⟨⟨mbX13_tables, by decide, by decide⟩, Or.inl (tb8 (List.mem_of_getElem? (i := 237) rfl)), vbX13_tables⟩
theorem kcX15_saveAs_170 : px_cV mX15_saveAs 170 mX13_restart 1 := ⟨⟨mbX13_restart, by decide, by decide⟩, Or.inl (tb9 (List.mem_of_getElem? (i := 8) rfl)), vbX13_restart⟩
theorem kcX15_saveAs_228 : px_cV mX15_saveAs 228 mX13_frame 4 := ⟨⟨mbX13_frame, by decide, by decide⟩, Or.inl (tb9 (List.mem_of_getElem? (i := 96) rfl)), vbX13_frame⟩
theorem kcX15_saveAs_258 : px_cV mX15_saveAs 258 mX15_put 1 := ⟨⟨mbX15_put, by decide, by decide⟩, Or.inl (tb9 (List.mem_of_getElem? (i := 127) rfl)), vbX15_put⟩
theorem kcX15_saveAs_262 : px_cV mX15_saveAs 262 mX15_two 1 := ⟨⟨mbX15_two, by decide, by decide⟩, Or.inl (tb9 (List.mem_of_getElem? (i := 139) rfl)), vbX15_two⟩
theorem kcX15_saveAs_291 : px_cV mX15_saveAs 291 mX15_begin 2 := ⟨⟨mbX15_begin, by decide, by decide⟩, Or.inl (tb9 (List.mem_of_getElem? (i := 135) rfl)), vbX15_begin⟩
theorem kcX15_saveAs_305 : px_cV mX15_saveAs 305 mX15_saveEach 4 := ⟨⟨mbX15_saveEach, by decide, by decide⟩, Or.inl (tb10 (List.mem_of_getElem? (i := 9) rfl)), vbX15_saveEach⟩
theorem mbX15_shape : px_mB mX15_shape 0 := ⟨tb9 (List.mem_of_getElem? (i := 126) rfl), by decide +kernel, tb1 (List.mem_of_getElem? (i := 13) rfl), by decide +kernel, by decide +kernel⟩
theorem vbX15_shape : px_vB mX15_shape := ⟨tb9 (List.mem_of_getElem? (i := 125) rfl), List.mem_append_left _ (List.mem_of_getElem? (i := 134) (by decide +kernel))⟩
theorem kcX15_saveAs_310 : px_cV mX15_saveAs 310 mX15_shape 0 := ⟨⟨mbX15_shape, by decide, by decide⟩, Or.inl (tb9 (List.mem_of_getElem? (i := 123) rfl)), vbX15_shape⟩
theorem mbX15_saveTables : px_mB mX15_saveTables 0 := ⟨tb9 (List.mem_of_getElem? (i := 134) rfl), by decide +kernel, tb1 (List.mem_of_getElem? (i := 13) rfl), by decide +kernel, by decide +kernel⟩
theorem vbX15_saveTables : px_vB mX15_saveTables := ⟨tb9 (List.mem_of_getElem? (i := 133) rfl), List.mem_append_left _ (List.mem_of_getElem? (i := 136) (by decide +kernel))⟩
theorem kcX15_saveAs_313 : px_cV mX15_saveAs 313 mX15_saveTables 0 := ⟨⟨mbX15_saveTables, by decide, by decide⟩, Or.inl (tb9 (List.mem_of_getElem? (i := 131) rfl)), vbX15_saveTables⟩
theorem mbX15_saveAll : px_mB mX15_saveAll 3 := ⟨tb9 (List.mem_of_getElem? (i := 146) rfl), by decide +kernel, tb1 (List.mem_of_getElem? (i := 13) rfl), by decide +kernel, by decide +kernel⟩
theorem vbX15_saveAll : px_vB mX15_saveAll := ⟨tb9 (List.mem_of_getElem? (i := 145) rfl), List.mem_append_left _ (List.mem_of_getElem? (i := 139) (by decide +kernel))⟩
theorem kcX15_saveAs_316 : px_cV mX15_saveAs 316 mX15_saveAll 3 := ⟨⟨mbX15_saveAll, by decide, by decide⟩, Or.inl (tb9 (List.mem_of_getElem? (i := 143) rfl)), vbX15_saveAll⟩
set_option maxRecDepth 100000 in
set_option maxHeartbeats 4000000 in
theorem eX15_saveAs_441 {X : px_X}  : ∀ (a0 : Nat) (w : px_W) (q : Int32 × px_W), fX15_saveAs_441 X  a0 w = some q → EV X mX15_saveAs 441 [(0, .ref a0)] [] w (some (.int q.1)) q.2 := by
  intro a0 w q h
  unfold fX15_saveAs_441 at h
  refine EV.aload_n 0 dX15_saveAs_441 rfl rfl ?_
  obtain ⟨v88, gv88, h⟩ := px_bs h
  refine ev_gI dX15_saveAs_442 flRX15_117 gv88 ?_
  cases h
  exact EV.reti dX15_saveAs_445 rfl
set_option maxRecDepth 100000 in
set_option maxHeartbeats 4000000 in
theorem eX15_saveAs_412 {X : px_X}  : ∀ (m : Nat) (a0 : Nat) (a4 : Int32) (w : px_W) (q : Int32 × px_W), fX15_saveAs_412 X  m a0 a4 w = some q → EV X mX15_saveAs 412 [(0, .ref a0), (4, .int a4)] [] w (some (.int q.1)) q.2 := by
  intro m
  induction m with
  | zero => intro a0 a4 w q h; cases h
  | succ m ih =>
    intro a0 a4 w q h
    rw [fX15_saveAs_412.eq_2] at h
    refine EV.iload 1 dX15_saveAs_412 rfl ?_
    refine EV.aload_n 0 dX15_saveAs_414 rfl rfl ?_
    obtain ⟨v89, gv89, h⟩ := px_bs h
    refine ev_gI dX15_saveAs_415 flRX15_252 gv89 ?_
    refine EV.icmp_ge 441 dX15_saveAs_418 (by decide) (fun c90 => ?_) (fun c90 => ?_)
    · rw [if_pos c90] at h
      refine EV.sub [0] rfl ?_
      exact eX15_saveAs_441  _ _ _ h
    · rw [if_neg c90] at h
      refine EV.aload_n 0 dX15_saveAs_421 rfl rfl ?_
      obtain ⟨v91, gv91, h⟩ := px_bs h
      refine ev_gR dX15_saveAs_422 flRX15_13 gv91 ?_
      refine EV.iload 1 dX15_saveAs_425 rfl ?_
      refine EV.aload_n 0 dX15_saveAs_427 rfl rfl ?_
      obtain ⟨v92, gv92, h⟩ := px_bs h
      refine ev_gR dX15_saveAs_428 flRX15_16 gv92 ?_
      refine EV.iload 1 dX15_saveAs_431 rfl ?_
      obtain ⟨v93, gv93, h⟩ := px_bs h
      refine ev_aB dX15_saveAs_433 gv93 ?_
      obtain ⟨w94, gw94, h⟩ := px_bs h
      refine ev_sB dX15_saveAs_434 gw94 ?_
      refine EV.iinc 1 (a4 + 1) [(4, .int (a4 + 1)), (0, .ref a0)] dX15_saveAs_435 rfl rfl (by decide) rfl ?_
      refine EV.goto 412 dX15_saveAs_438 (by decide) ?_
      refine EV.sub [1, 0] rfl ?_
      exact ih _ _ _ _ h
set_option maxRecDepth 100000 in
set_option maxHeartbeats 4000000 in
theorem eX15_saveAs_378 {X : px_X}  : ∀ (a0 : Nat) (w : px_W) (q : Int32 × px_W), fX15_saveAs_378 X  a0 w = some q → EV X mX15_saveAs 378 [(0, .ref a0)] [] w (some (.int q.1)) q.2 := by
  intro a0 w q h
  unfold fX15_saveAs_378 at h
  refine EV.aload_n 0 dX15_saveAs_378 rfl rfl ?_
  refine EV.sipush (255) dX15_saveAs_379 (by decide) ?_
  obtain ⟨o95, go95, h⟩ := px_bs h
  obtain ⟨q96, gq96, h⟩ := px_bs h
  refine EV.callV (As := [.int 255]) (rest := []) dX15_saveAs_382 kcX15_saveAs_258 (gO_ok go95) rfl rfl rfl (Nat.le_of_ble_eq_true rfl) (Nat.le_of_ble_eq_true rfl) (eX15_put gq96) ?_
  refine EV.aload_n 0 dX15_saveAs_385 rfl rfl ?_
  refine EV.sipush (217) dX15_saveAs_386 (by decide) ?_
  obtain ⟨o97, go97, h⟩ := px_bs h
  obtain ⟨q98, gq98, h⟩ := px_bs h
  refine EV.callV (As := [.int 217]) (rest := []) dX15_saveAs_389 kcX15_saveAs_258 (gO_ok go97) rfl rfl rfl (Nat.le_of_ble_eq_true rfl) (Nat.le_of_ble_eq_true rfl) (eX15_put gq98) ?_
  refine EV.aload_n 0 dX15_saveAs_392 rfl rfl ?_
  obtain ⟨v99, gv99, h⟩ := px_bs h
  refine ev_gI dX15_saveAs_393 flRX15_255 gv99 ?_
  refine EV.if_eq 401 dX15_saveAs_396 (by decide) (fun c100 => ?_) (fun c100 => ?_)
  · rw [if_pos c100] at h
    refine EV.aload_n 0 dX15_saveAs_401 rfl rfl ?_
    refine EV.aload_n 0 dX15_saveAs_402 rfl rfl ?_
    obtain ⟨v101, gv101, h⟩ := px_bs h
    refine ev_gI dX15_saveAs_403 flRX15_252 gv101 ?_
    obtain ⟨w102, gw102, h⟩ := px_bs h
    refine ev_pV dX15_saveAs_406 flRX15_117 rfl rfl rfl rfl gw102 ?_
    refine EV.iconst (0) dX15_saveAs_409 (by decide) ?_
    refine EV.istore [(4, .int 0), (0, .ref a0)] dX15_saveAs_410 (by decide) rfl ?_
    refine EV.sub [1, 0] rfl ?_
    exact eX15_saveAs_412  FU _ _ _ _ h
  · rw [if_neg c100] at h
    refine EV.iconst ((-1)) dX15_saveAs_399 (by decide) ?_
    cases h
    exact EV.reti dX15_saveAs_400 rfl
set_option maxRecDepth 100000 in
set_option maxHeartbeats 4000000 in
theorem eX15_saveAs_296 {X : px_X}  : ∀ (a0 : Nat) (a1 : Int32) (w : px_W) (q : Int32 × px_W), fX15_saveAs_296 X  a0 a1 w = some q → EV X mX15_saveAs 296 [(0, .ref a0), (1, .int a1)] [] w (some (.int q.1)) q.2 := by
  intro a0 a1 w q h
  unfold fX15_saveAs_296 at h
  refine EV.iload_n 1 dX15_saveAs_296 rfl rfl ?_
  refine EV.if_ne 311 dX15_saveAs_297 (by decide) (fun c103 => ?_) (fun c103 => ?_)
  · rw [if_neg c103] at h
    refine EV.iload_n 1 dX15_saveAs_311 rfl rfl ?_
    refine EV.iconst (1) dX15_saveAs_312 (by decide) ?_
    refine EV.icmp_ne 328 dX15_saveAs_313 (by decide) (fun c104 => ?_) (fun c104 => ?_)
    · rw [if_neg c104] at h
      refine EV.aload_n 0 dX15_saveAs_328 rfl rfl ?_
      refine EV.iconst (0) dX15_saveAs_329 (by decide) ?_
      refine EV.iconst (0) dX15_saveAs_330 (by decide) ?_
      refine EV.iconst (1) dX15_saveAs_331 (by decide) ?_
      obtain ⟨o105, go105, h⟩ := px_bs h
      obtain ⟨q106, gq106, h⟩ := px_bs h
      refine EV.callV (As := [.int 0, .int 0, .int 1]) (rest := []) dX15_saveAs_332 kcX15_saveAs_316 (gO_ok go105) rfl rfl rfl (Nat.le_of_ble_eq_true rfl) (Nat.le_of_ble_eq_true rfl) (eX15_saveAll gq106) ?_
      refine EV.aload_n 0 dX15_saveAs_335 rfl rfl ?_
      refine EV.iconst (1) dX15_saveAs_336 (by decide) ?_
      refine EV.iconst (5) dX15_saveAs_337 (by decide) ?_
      refine EV.iconst (0) dX15_saveAs_338 (by decide) ?_
      refine EV.iconst (2) dX15_saveAs_339 (by decide) ?_
      obtain ⟨o107, go107, h⟩ := px_bs h
      obtain ⟨q108, gq108, h⟩ := px_bs h
      refine EV.callV (As := [.int 1, .int 5, .int 0, .int 2]) (rest := []) dX15_saveAs_340 kcX15_saveAs_305 (gO_ok go107) rfl rfl rfl (Nat.le_of_ble_eq_true rfl) (Nat.le_of_ble_eq_true rfl) (eX15_saveEach gq108) ?_
      refine EV.aload_n 0 dX15_saveAs_343 rfl rfl ?_
      refine EV.bipush (6) dX15_saveAs_344 (by decide) ?_
      refine EV.bipush (63) dX15_saveAs_346 (by decide) ?_
      refine EV.iconst (0) dX15_saveAs_348 (by decide) ?_
      refine EV.iconst (2) dX15_saveAs_349 (by decide) ?_
      obtain ⟨o109, go109, h⟩ := px_bs h
      obtain ⟨q110, gq110, h⟩ := px_bs h
      refine EV.callV (As := [.int 6, .int 63, .int 0, .int 2]) (rest := []) dX15_saveAs_350 kcX15_saveAs_305 (gO_ok go109) rfl rfl rfl (Nat.le_of_ble_eq_true rfl) (Nat.le_of_ble_eq_true rfl) (eX15_saveEach gq110) ?_
      refine EV.aload_n 0 dX15_saveAs_353 rfl rfl ?_
      refine EV.iconst (1) dX15_saveAs_354 (by decide) ?_
      refine EV.bipush (63) dX15_saveAs_355 (by decide) ?_
      refine EV.iconst (2) dX15_saveAs_357 (by decide) ?_
      refine EV.iconst (1) dX15_saveAs_358 (by decide) ?_
      obtain ⟨o111, go111, h⟩ := px_bs h
      obtain ⟨q112, gq112, h⟩ := px_bs h
      refine EV.callV (As := [.int 1, .int 63, .int 2, .int 1]) (rest := []) dX15_saveAs_359 kcX15_saveAs_305 (gO_ok go111) rfl rfl rfl (Nat.le_of_ble_eq_true rfl) (Nat.le_of_ble_eq_true rfl) (eX15_saveEach gq112) ?_
      refine EV.aload_n 0 dX15_saveAs_362 rfl rfl ?_
      refine EV.iconst (0) dX15_saveAs_363 (by decide) ?_
      refine EV.iconst (1) dX15_saveAs_364 (by decide) ?_
      refine EV.iconst (0) dX15_saveAs_365 (by decide) ?_
      obtain ⟨o113, go113, h⟩ := px_bs h
      obtain ⟨q114, gq114, h⟩ := px_bs h
      refine EV.callV (As := [.int 0, .int 1, .int 0]) (rest := []) dX15_saveAs_366 kcX15_saveAs_316 (gO_ok go113) rfl rfl rfl (Nat.le_of_ble_eq_true rfl) (Nat.le_of_ble_eq_true rfl) (eX15_saveAll gq114) ?_
      refine EV.aload_n 0 dX15_saveAs_369 rfl rfl ?_
      refine EV.iconst (1) dX15_saveAs_370 (by decide) ?_
      refine EV.bipush (63) dX15_saveAs_371 (by decide) ?_
      refine EV.iconst (1) dX15_saveAs_373 (by decide) ?_
      refine EV.iconst (0) dX15_saveAs_374 (by decide) ?_
      obtain ⟨o115, go115, h⟩ := px_bs h
      obtain ⟨q116, gq116, h⟩ := px_bs h
      refine EV.callV (As := [.int 1, .int 63, .int 1, .int 0]) (rest := []) dX15_saveAs_375 kcX15_saveAs_305 (gO_ok go115) rfl rfl rfl (Nat.le_of_ble_eq_true rfl) (Nat.le_of_ble_eq_true rfl) (eX15_saveEach gq116) ?_
      refine EV.sub [0] rfl ?_
      exact eX15_saveAs_378  _ _ _ h
    · rw [if_pos c104] at h
      refine EV.aload_n 0 dX15_saveAs_316 rfl rfl ?_
      refine EV.iconst (0) dX15_saveAs_317 (by decide) ?_
      refine EV.bipush (63) dX15_saveAs_318 (by decide) ?_
      refine EV.iconst (0) dX15_saveAs_320 (by decide) ?_
      refine EV.iconst (0) dX15_saveAs_321 (by decide) ?_
      obtain ⟨o117, go117, h⟩ := px_bs h
      obtain ⟨q118, gq118, h⟩ := px_bs h
      refine EV.callV (As := [.int 0, .int 63, .int 0, .int 0]) (rest := []) dX15_saveAs_322 kcX15_saveAs_305 (gO_ok go117) rfl rfl rfl (Nat.le_of_ble_eq_true rfl) (Nat.le_of_ble_eq_true rfl) (eX15_saveEach gq118) ?_
      refine EV.goto 378 dX15_saveAs_325 (by decide) ?_
      refine EV.sub [0] rfl ?_
      exact eX15_saveAs_378  _ _ _ h
  · rw [if_pos c103] at h
    refine EV.aload_n 0 dX15_saveAs_300 rfl rfl ?_
    refine EV.bipush (63) dX15_saveAs_301 (by decide) ?_
    refine EV.iconst (0) dX15_saveAs_303 (by decide) ?_
    refine EV.iconst (0) dX15_saveAs_304 (by decide) ?_
    obtain ⟨o119, go119, h⟩ := px_bs h
    obtain ⟨q120, gq120, h⟩ := px_bs h
    refine EV.callV (As := [.int 63, .int 0, .int 0]) (rest := []) dX15_saveAs_305 kcX15_saveAs_316 (gO_ok go119) rfl rfl rfl (Nat.le_of_ble_eq_true rfl) (Nat.le_of_ble_eq_true rfl) (eX15_saveAll gq120) ?_
    refine EV.goto 378 dX15_saveAs_308 (by decide) ?_
    refine EV.sub [0] rfl ?_
    exact eX15_saveAs_378  _ _ _ h
set_option maxRecDepth 100000 in
set_option maxHeartbeats 4000000 in
theorem eX15_saveAs_279 {X : px_X}  : ∀ (a0 : Nat) (a1 : Int32) (a2 : Int32) (w : px_W) (q : Int32 × px_W), fX15_saveAs_279 X  a0 a1 a2 w = some q → EV X mX15_saveAs 279 [(0, .ref a0), (1, .int a1), (2, .int a2)] [] w (some (.int q.1)) q.2 := by
  intro a0 a1 a2 w q h
  unfold fX15_saveAs_279 at h
  refine EV.iload_n 2 dX15_saveAs_279 rfl rfl ?_
  refine EV.if_le 296 dX15_saveAs_280 (by decide) (fun c121 => ?_) (fun c121 => ?_)
  · rw [if_pos c121] at h
    refine EV.sub [0, 1] rfl ?_
    exact eX15_saveAs_296  _ _ _ _ h
  · rw [if_neg c121] at h
    refine EV.aload_n 0 dX15_saveAs_283 rfl rfl ?_
    refine EV.sipush (221) dX15_saveAs_284 (by decide) ?_
    refine EV.iconst (2) dX15_saveAs_287 (by decide) ?_
    obtain ⟨o122, go122, h⟩ := px_bs h
    obtain ⟨q123, gq123, h⟩ := px_bs h
    refine EV.callV (As := [.int 221, .int 2]) (rest := []) dX15_saveAs_288 kcX15_saveAs_291 (gO_ok go122) rfl rfl rfl (Nat.le_of_ble_eq_true rfl) (Nat.le_of_ble_eq_true rfl) (eX15_begin gq123) ?_
    refine EV.aload_n 0 dX15_saveAs_291 rfl rfl ?_
    refine EV.iload_n 2 dX15_saveAs_292 rfl rfl ?_
    obtain ⟨o124, go124, h⟩ := px_bs h
    obtain ⟨q125, gq125, h⟩ := px_bs h
    refine EV.callV (As := [.int a2]) (rest := []) dX15_saveAs_293 kcX15_saveAs_262 (gO_ok go124) rfl rfl rfl (Nat.le_of_ble_eq_true rfl) (Nat.le_of_ble_eq_true rfl) (eX15_two gq125) ?_
    refine EV.sub [0, 1] rfl ?_
    exact eX15_saveAs_296  _ _ _ _ h
set_option maxRecDepth 100000 in
set_option maxHeartbeats 4000000 in
theorem eX15_saveAs_228 {X : px_X}  : ∀ (m : Nat) (a0 : Nat) (a1 : Int32) (a2 : Int32) (a4 : Int32) (w : px_W) (q : Int32 × px_W), fX15_saveAs_228 X  m a0 a1 a2 a4 w = some q → EV X mX15_saveAs 228 [(0, .ref a0), (1, .int a1), (2, .int a2), (4, .int a4)] [] w (some (.int q.1)) q.2 := by
  intro m
  induction m with
  | zero => intro a0 a1 a2 a4 w q h; cases h
  | succ m ih =>
    intro a0 a1 a2 a4 w q h
    rw [fX15_saveAs_228.eq_2] at h
    refine EV.iload 3 dX15_saveAs_228 rfl ?_
    refine EV.aload_n 0 dX15_saveAs_230 rfl rfl ?_
    obtain ⟨v126, gv126, h⟩ := px_bs h
    refine ev_gI dX15_saveAs_231 flRX15_126 gv126 ?_
    refine EV.icmp_ge 279 dX15_saveAs_234 (by decide) (fun c127 => ?_) (fun c127 => ?_)
    · rw [if_pos c127] at h
      refine EV.sub [0, 1, 2] rfl ?_
      exact eX15_saveAs_279  _ _ _ _ _ h
    · rw [if_neg c127] at h
      refine EV.aload_n 0 dX15_saveAs_237 rfl rfl ?_
      refine EV.iload 3 dX15_saveAs_238 rfl ?_
      refine EV.iconst (1) dX15_saveAs_240 (by decide) ?_
      refine EV.iadd dX15_saveAs_241 ?_
      obtain ⟨o128, go128, h⟩ := px_bs h
      obtain ⟨q129, gq129, h⟩ := px_bs h
      refine EV.callV (As := [.int (a4 + 1)]) (rest := []) dX15_saveAs_242 kcX15_saveAs_258 (gO_ok go128) rfl rfl rfl (Nat.le_of_ble_eq_true rfl) (Nat.le_of_ble_eq_true rfl) (eX15_put gq129) ?_
      refine EV.aload_n 0 dX15_saveAs_245 rfl rfl ?_
      refine EV.bipush (16) dX15_saveAs_246 (by decide) ?_
      refine EV.aload_n 0 dX15_saveAs_248 rfl rfl ?_
      obtain ⟨v130, gv130, h⟩ := px_bs h
      refine ev_gR dX15_saveAs_249 flRX15_52 gv130 ?_
      refine EV.iload 3 dX15_saveAs_252 rfl ?_
      obtain ⟨v131, gv131, h⟩ := px_bs h
      refine ev_aI dX15_saveAs_254 gv131 ?_
      refine EV.imul dX15_saveAs_255 ?_
      refine EV.aload_n 0 dX15_saveAs_256 rfl rfl ?_
      obtain ⟨v132, gv132, h⟩ := px_bs h
      refine ev_gR dX15_saveAs_257 flRX15_55 gv132 ?_
      refine EV.iload 3 dX15_saveAs_260 rfl ?_
      obtain ⟨v133, gv133, h⟩ := px_bs h
      refine ev_aI dX15_saveAs_262 gv133 ?_
      refine EV.iadd dX15_saveAs_263 ?_
      obtain ⟨o134, go134, h⟩ := px_bs h
      obtain ⟨q135, gq135, h⟩ := px_bs h
      refine EV.callV (As := [.int ((16 * v131) + v133)]) (rest := []) dX15_saveAs_264 kcX15_saveAs_258 (gO_ok go134) rfl rfl rfl (Nat.le_of_ble_eq_true rfl) (Nat.le_of_ble_eq_true rfl) (eX15_put gq135) ?_
      refine EV.aload_n 0 dX15_saveAs_267 rfl rfl ?_
      refine EV.iload 3 dX15_saveAs_268 rfl ?_
      obtain ⟨o136, go136, h⟩ := px_bs h
      obtain ⟨q137, gq137, h⟩ := px_bs h
      refine EV.callV (As := [.int a4]) (rest := []) dX15_saveAs_270 kcX15_saveAs_258 (gO_ok go136) rfl rfl rfl (Nat.le_of_ble_eq_true rfl) (Nat.le_of_ble_eq_true rfl) (eX15_put gq137) ?_
      refine EV.iinc 3 (a4 + 1) [(4, .int (a4 + 1)), (0, .ref a0), (1, .int a1), (2, .int a2)] dX15_saveAs_273 rfl rfl (by decide) rfl ?_
      refine EV.goto 228 dX15_saveAs_276 (by decide) ?_
      refine EV.sub [1, 2, 3, 0] rfl ?_
      exact ih _ _ _ _ _ _ h
set_option maxRecDepth 100000 in
set_option maxHeartbeats 4000000 in
theorem eX15_saveAs_183 {X : px_X}  : ∀ (a0 : Nat) (a1 : Int32) (a2 : Int32) (s0 : Int32) (s1 : Nat) (w : px_W) (q : Int32 × px_W), fX15_saveAs_183 X  a0 a1 a2 s0 s1 w = some q → EV X mX15_saveAs 183 [(0, .ref a0), (1, .int a1), (2, .int a2)] [.int s0, .ref s1] w (some (.int q.1)) q.2 := by
  intro a0 a1 a2 s0 s1 w q h
  unfold fX15_saveAs_183 at h
  refine EV.bipush (6) dX15_saveAs_183 (by decide) ?_
  refine EV.iconst (3) dX15_saveAs_185 (by decide) ?_
  refine EV.aload_n 0 dX15_saveAs_186 rfl rfl ?_
  obtain ⟨v138, gv138, h⟩ := px_bs h
  refine ev_gI dX15_saveAs_187 flRX15_126 gv138 ?_
  refine EV.imul dX15_saveAs_190 ?_
  refine EV.iadd dX15_saveAs_191 ?_
  obtain ⟨o139, go139, h⟩ := px_bs h
  obtain ⟨q140, gq140, h⟩ := px_bs h
  refine EV.callV (As := [.int s0, .int (6 + (3 * v138))]) (rest := []) dX15_saveAs_192 kcX15_saveAs_291 (gO_ok go139) rfl rfl rfl (Nat.le_of_ble_eq_true rfl) (Nat.le_of_ble_eq_true rfl) (eX15_begin gq140) ?_
  refine EV.aload_n 0 dX15_saveAs_195 rfl rfl ?_
  refine EV.bipush (8) dX15_saveAs_196 (by decide) ?_
  obtain ⟨o141, go141, h⟩ := px_bs h
  obtain ⟨q142, gq142, h⟩ := px_bs h
  refine EV.callV (As := [.int 8]) (rest := []) dX15_saveAs_198 kcX15_saveAs_258 (gO_ok go141) rfl rfl rfl (Nat.le_of_ble_eq_true rfl) (Nat.le_of_ble_eq_true rfl) (eX15_put gq142) ?_
  refine EV.aload_n 0 dX15_saveAs_201 rfl rfl ?_
  refine EV.aload_n 0 dX15_saveAs_202 rfl rfl ?_
  obtain ⟨v143, gv143, h⟩ := px_bs h
  refine ev_gI dX15_saveAs_203 flRX15_139 gv143 ?_
  obtain ⟨o144, go144, h⟩ := px_bs h
  obtain ⟨q145, gq145, h⟩ := px_bs h
  refine EV.callV (As := [.int v143]) (rest := []) dX15_saveAs_206 kcX15_saveAs_262 (gO_ok go144) rfl rfl rfl (Nat.le_of_ble_eq_true rfl) (Nat.le_of_ble_eq_true rfl) (eX15_two gq145) ?_
  refine EV.aload_n 0 dX15_saveAs_209 rfl rfl ?_
  refine EV.aload_n 0 dX15_saveAs_210 rfl rfl ?_
  obtain ⟨v146, gv146, h⟩ := px_bs h
  refine ev_gI dX15_saveAs_211 flRX15_129 gv146 ?_
  obtain ⟨o147, go147, h⟩ := px_bs h
  obtain ⟨q148, gq148, h⟩ := px_bs h
  refine EV.callV (As := [.int v146]) (rest := []) dX15_saveAs_214 kcX15_saveAs_262 (gO_ok go147) rfl rfl rfl (Nat.le_of_ble_eq_true rfl) (Nat.le_of_ble_eq_true rfl) (eX15_two gq148) ?_
  refine EV.aload_n 0 dX15_saveAs_217 rfl rfl ?_
  refine EV.aload_n 0 dX15_saveAs_218 rfl rfl ?_
  obtain ⟨v149, gv149, h⟩ := px_bs h
  refine ev_gI dX15_saveAs_219 flRX15_126 gv149 ?_
  obtain ⟨o150, go150, h⟩ := px_bs h
  obtain ⟨q151, gq151, h⟩ := px_bs h
  refine EV.callV (As := [.int v149]) (rest := []) dX15_saveAs_222 kcX15_saveAs_258 (gO_ok go150) rfl rfl rfl (Nat.le_of_ble_eq_true rfl) (Nat.le_of_ble_eq_true rfl) (eX15_put gq151) ?_
  refine EV.iconst (0) dX15_saveAs_225 (by decide) ?_
  refine EV.istore [(4, .int 0), (0, .ref a0), (1, .int a1), (2, .int a2)] dX15_saveAs_226 (by decide) rfl ?_
  refine EV.sub [1, 2, 3, 0] rfl ?_
  exact eX15_saveAs_228  FU _ _ _ _ _ _ h
set_option maxRecDepth 100000 in
set_option maxHeartbeats 4000000 in
theorem eX15_saveAs_140 {X : px_X}  : ∀ (a0 : Nat) (a1 : Int32) (a2 : Int32) (w : px_W) (q : Int32 × px_W), fX15_saveAs_140 X  a0 a1 a2 w = some q → EV X mX15_saveAs 140 [(0, .ref a0), (1, .int a1), (2, .int a2)] [] w (some (.int q.1)) q.2 := by
  intro a0 a1 a2 w q h
  unfold fX15_saveAs_140 at h
  refine EV.aload_n 0 dX15_saveAs_140 rfl rfl ?_
  refine EV.iconst (0) dX15_saveAs_141 (by decide) ?_
  obtain ⟨w152, gw152, h⟩ := px_bs h
  refine ev_pV dX15_saveAs_142 flRX15_252 rfl rfl rfl rfl gw152 ?_
  refine EV.aload_n 0 dX15_saveAs_145 rfl rfl ?_
  refine EV.iconst (0) dX15_saveAs_146 (by decide) ?_
  obtain ⟨w153, gw153, h⟩ := px_bs h
  refine ev_pZ dX15_saveAs_147 flRX15_255 rfl rfl (by decide +kernel) gw153 ?_
  refine EV.aload_n 0 dX15_saveAs_150 rfl rfl ?_
  refine EV.sipush (255) dX15_saveAs_151 (by decide) ?_
  obtain ⟨o154, go154, h⟩ := px_bs h
  obtain ⟨q155, gq155, h⟩ := px_bs h
  refine EV.callV (As := [.int 255]) (rest := []) dX15_saveAs_154 kcX15_saveAs_258 (gO_ok go154) rfl rfl rfl (Nat.le_of_ble_eq_true rfl) (Nat.le_of_ble_eq_true rfl) (eX15_put gq155) ?_
  refine EV.aload_n 0 dX15_saveAs_157 rfl rfl ?_
  refine EV.sipush (216) dX15_saveAs_158 (by decide) ?_
  obtain ⟨o156, go156, h⟩ := px_bs h
  obtain ⟨q157, gq157, h⟩ := px_bs h
  refine EV.callV (As := [.int 216]) (rest := []) dX15_saveAs_161 kcX15_saveAs_258 (gO_ok go156) rfl rfl rfl (Nat.le_of_ble_eq_true rfl) (Nat.le_of_ble_eq_true rfl) (eX15_put gq157) ?_
  refine EV.aload_n 0 dX15_saveAs_164 rfl rfl ?_
  obtain ⟨o158, go158, h⟩ := px_bs h
  obtain ⟨q159, gq159, h⟩ := px_bs h
  refine EV.callV (As := []) (rest := []) dX15_saveAs_165 kcX15_saveAs_313 (gO_ok go158) rfl rfl rfl (Nat.le_of_ble_eq_true rfl) (Nat.le_of_ble_eq_true rfl) (eX15_saveTables gq159) ?_
  refine EV.aload_n 0 dX15_saveAs_168 rfl rfl ?_
  refine EV.iload_n 1 dX15_saveAs_169 rfl rfl ?_
  refine EV.iconst (2) dX15_saveAs_170 (by decide) ?_
  refine EV.icmp_ne 180 dX15_saveAs_171 (by decide) (fun c160 => ?_) (fun c160 => ?_)
  · rw [if_neg c160] at h
    refine EV.sipush (192) dX15_saveAs_180 (by decide) ?_
    refine EV.sub [0, 1, 2] rfl ?_
    exact eX15_saveAs_183  _ _ _ _ _ _ _ h
  · rw [if_pos c160] at h
    refine EV.sipush (194) dX15_saveAs_174 (by decide) ?_
    refine EV.goto 183 dX15_saveAs_177 (by decide) ?_
    refine EV.sub [0, 1, 2] rfl ?_
    exact eX15_saveAs_183  _ _ _ _ _ _ _ h
set_option maxRecDepth 100000 in
set_option maxHeartbeats 4000000 in
theorem eX15_saveAs_109 {X : px_X}  : ∀ (m : Nat) (a0 : Nat) (a1 : Int32) (a2 : Int32) (a4 : Int32) (w : px_W) (q : Int32 × px_W), fX15_saveAs_109 X  m a0 a1 a2 a4 w = some q → EV X mX15_saveAs 109 [(0, .ref a0), (1, .int a1), (2, .int a2), (4, .int a4)] [] w (some (.int q.1)) q.2 := by
  intro m
  induction m with
  | zero => intro a0 a1 a2 a4 w q h; cases h
  | succ m ih =>
    intro a0 a1 a2 a4 w q h
    rw [fX15_saveAs_109.eq_2] at h
    refine EV.iload 3 dX15_saveAs_109 rfl ?_
    refine EV.aload_n 0 dX15_saveAs_111 rfl rfl ?_
    obtain ⟨v161, gv161, h⟩ := px_bs h
    refine ev_gI dX15_saveAs_112 flRX15_126 gv161 ?_
    refine EV.icmp_ge 140 dX15_saveAs_115 (by decide) (fun c162 => ?_) (fun c162 => ?_)
    · rw [if_pos c162] at h
      refine EV.sub [0, 1, 2] rfl ?_
      exact eX15_saveAs_140  _ _ _ _ _ h
    · rw [if_neg c162] at h
      refine EV.aload_n 0 dX15_saveAs_118 rfl rfl ?_
      obtain ⟨v163, gv163, h⟩ := px_bs h
      refine ev_gR dX15_saveAs_119 flRX15_33 gv163 ?_
      refine EV.iload 3 dX15_saveAs_122 rfl ?_
      refine EV.iload 3 dX15_saveAs_124 rfl ?_
      refine EV.iconst (4) dX15_saveAs_126 (by decide) ?_
      refine EV.iload 3 dX15_saveAs_127 rfl ?_
      refine EV.iadd dX15_saveAs_129 ?_
      obtain ⟨o164, go164, h⟩ := px_bs h
      obtain ⟨q165, gq165, h⟩ := px_bs h
      refine EV.callV (As := [.int a4, .int a4, .int (4 + a4)]) (rest := []) dX15_saveAs_130 kcX15_saveAs_157 (gO_ok go164) rfl rfl rfl (Nat.le_of_ble_eq_true rfl) (Nat.le_of_ble_eq_true rfl) (eX13_tables gq165) ?_
      refine EV.istore_n [(3, .int q165.1), (0, .ref a0), (1, .int a1), (2, .int a2), (4, .int a4)] dX15_saveAs_133 rfl (by decide) rfl ?_
      refine EV.iinc 4 (a4 + 1) [(4, .int (a4 + 1)), (3, .int q165.1), (0, .ref a0), (1, .int a1), (2, .int a2)] dX15_saveAs_134 rfl rfl (by decide) rfl ?_
      refine EV.goto 109 dX15_saveAs_137 (by decide) ?_
      refine EV.sub [2, 3, 4, 0] rfl ?_
      exact ih _ _ _ _ _ _ h
set_option maxRecDepth 100000 in
set_option maxHeartbeats 4000000 in
theorem eX15_saveAs_106 {X : px_X}  : ∀ (a0 : Nat) (a1 : Int32) (a2 : Int32) (w : px_W) (q : Int32 × px_W), fX15_saveAs_106 X  a0 a1 a2 w = some q → EV X mX15_saveAs 106 [(0, .ref a0), (1, .int a1), (2, .int a2)] [] w (some (.int q.1)) q.2 := by
  intro a0 a1 a2 w q h
  unfold fX15_saveAs_106 at h
  refine EV.iconst (0) dX15_saveAs_106 (by decide) ?_
  refine EV.istore [(4, .int 0), (0, .ref a0), (1, .int a1), (2, .int a2)] dX15_saveAs_107 (by decide) rfl ?_
  refine EV.sub [1, 2, 3, 0] rfl ?_
  exact eX15_saveAs_109  FU _ _ _ _ _ _ h
set_option maxRecDepth 100000 in
set_option maxHeartbeats 4000000 in
theorem eX15_saveAs_75 {X : px_X}  : ∀ (m : Nat) (a0 : Nat) (a1 : Int32) (a2 : Int32) (a4 : Int32) (w : px_W) (q : Int32 × px_W), fX15_saveAs_75 X  m a0 a1 a2 a4 w = some q → EV X mX15_saveAs 75 [(0, .ref a0), (1, .int a1), (2, .int a2), (4, .int a4)] [] w (some (.int q.1)) q.2 := by
  intro m
  induction m with
  | zero => intro a0 a1 a2 a4 w q h; cases h
  | succ m ih =>
    intro a0 a1 a2 a4 w q h
    rw [fX15_saveAs_75.eq_2] at h
    refine EV.iload 3 dX15_saveAs_75 rfl ?_
    refine EV.sipush (12288) dX15_saveAs_77 (by decide) ?_
    refine EV.icmp_ge 106 dX15_saveAs_80 (by decide) (fun c166 => ?_) (fun c166 => ?_)
    · rw [if_pos c166] at h
      refine EV.sub [0, 1, 2] rfl ?_
      exact eX15_saveAs_106  _ _ _ _ _ h
    · rw [if_neg c166] at h
      refine EV.aload_n 0 dX15_saveAs_83 rfl rfl ?_
      obtain ⟨v167, gv167, h⟩ := px_bs h
      refine ev_gR dX15_saveAs_84 flRX15_33 gv167 ?_
      obtain ⟨v168, gv168, h⟩ := px_bs h
      refine ev_gR dX15_saveAs_87 flRX15_242 gv168 ?_
      refine EV.iload 3 dX15_saveAs_90 rfl ?_
      refine EV.aload_n 0 dX15_saveAs_92 rfl rfl ?_
      obtain ⟨v169, gv169, h⟩ := px_bs h
      refine ev_gR dX15_saveAs_93 flRX15_70 gv169 ?_
      refine EV.iload 3 dX15_saveAs_96 rfl ?_
      obtain ⟨v170, gv170, h⟩ := px_bs h
      refine ev_aS dX15_saveAs_98 gv170 ?_
      obtain ⟨w171, gw171, h⟩ := px_bs h
      refine ev_sS dX15_saveAs_99 gw171 ?_
      refine EV.iinc 3 (a4 + 1) [(4, .int (a4 + 1)), (0, .ref a0), (1, .int a1), (2, .int a2)] dX15_saveAs_100 rfl rfl (by decide) rfl ?_
      refine EV.goto 75 dX15_saveAs_103 (by decide) ?_
      refine EV.sub [1, 2, 3, 0] rfl ?_
      exact ih _ _ _ _ _ _ h
set_option maxRecDepth 100000 in
set_option maxHeartbeats 4000000 in
theorem eX15_saveAs_71 {X : px_X}  : ∀ (a0 : Nat) (a1 : Int32) (a2 : Int32) (s0 : Int32) (w : px_W) (q : Int32 × px_W), fX15_saveAs_71 X  a0 a1 a2 s0 w = some q → EV X mX15_saveAs 71 [(0, .ref a0), (1, .int a1), (2, .int a2)] [.int s0] w (some (.int q.1)) q.2 := by
  intro a0 a1 a2 s0 w q h
  unfold fX15_saveAs_71 at h
  refine EV.istore_n [(3, .int s0), (0, .ref a0), (1, .int a1), (2, .int a2)] dX15_saveAs_71 rfl (by decide) rfl ?_
  refine EV.iconst (0) dX15_saveAs_72 (by decide) ?_
  refine EV.istore [(4, .int 0), (3, .int s0), (0, .ref a0), (1, .int a1), (2, .int a2)] dX15_saveAs_73 (by decide) rfl ?_
  refine EV.sub [2, 3, 4, 0] rfl ?_
  exact eX15_saveAs_75  FU _ _ _ _ _ _ h
set_option maxRecDepth 100000 in
set_option maxHeartbeats 4000000 in
theorem eX15_saveAs_70 {X : px_X}  : ∀ (a0 : Nat) (a1 : Int32) (a2 : Int32) (w : px_W) (q : Int32 × px_W), fX15_saveAs_70 X  a0 a1 a2 w = some q → EV X mX15_saveAs 70 [(0, .ref a0), (1, .int a1), (2, .int a2)] [] w (some (.int q.1)) q.2 := by
  intro a0 a1 a2 w q h
  unfold fX15_saveAs_70 at h
  refine EV.iconst (0) dX15_saveAs_70 (by decide) ?_
  refine EV.sub [0, 1, 2] rfl ?_
  exact eX15_saveAs_71  _ _ _ _ _ _ h
set_option maxRecDepth 100000 in
set_option maxHeartbeats 4000000 in
theorem eX15_saveAs {X : px_X} {w : px_W} {a0 : Nat} {a1 : Int32} {a2 : Int32} {q : Int32 × px_W} (h : fX15_saveAs X w a0 a1 a2 = some q) : EV X mX15_saveAs 0 (lv_args 0 [.ref a0, .int a1, .int a2]) [] w (some (.int q.1)) q.2 := by
  unfold fX15_saveAs at h
  show EV X mX15_saveAs 0 [(0, .ref a0), (1, .int a1), (2, .int a2)] [] w (some (.int q.1)) q.2
  refine EV.aload_n 0 dX15_saveAs_0 rfl rfl ?_
  obtain ⟨v172, gv172, h⟩ := px_bs h
  refine ev_gI dX15_saveAs_1 flRX15_235 gv172 ?_
  refine EV.if_eq 27 dX15_saveAs_4 (by decide) (fun c173 => ?_) (fun c173 => ?_)
  · rw [if_pos c173] at h
    refine EV.iconst ((-1)) dX15_saveAs_27 (by decide) ?_
    cases h
    exact EV.reti dX15_saveAs_28 rfl
  · rw [if_neg c173] at h
    refine EV.iload_n 1 dX15_saveAs_7 rfl rfl ?_
    refine EV.if_lt 27 dX15_saveAs_8 (by decide) (fun c174 => ?_) (fun c174 => ?_)
    · rw [if_pos c174] at h
      refine EV.iconst ((-1)) dX15_saveAs_27 (by decide) ?_
      cases h
      exact EV.reti dX15_saveAs_28 rfl
    · rw [if_neg c174] at h
      refine EV.iload_n 1 dX15_saveAs_11 rfl rfl ?_
      refine EV.iconst (2) dX15_saveAs_12 (by decide) ?_
      refine EV.icmp_gt 27 dX15_saveAs_13 (by decide) (fun c175 => ?_) (fun c175 => ?_)
      · rw [if_pos c175] at h
        refine EV.iconst ((-1)) dX15_saveAs_27 (by decide) ?_
        cases h
        exact EV.reti dX15_saveAs_28 rfl
      · rw [if_neg c175] at h
        refine EV.iload_n 2 dX15_saveAs_16 rfl rfl ?_
        refine EV.if_lt 27 dX15_saveAs_17 (by decide) (fun c176 => ?_) (fun c176 => ?_)
        · rw [if_pos c176] at h
          refine EV.iconst ((-1)) dX15_saveAs_27 (by decide) ?_
          cases h
          exact EV.reti dX15_saveAs_28 rfl
        · rw [if_neg c176] at h
          refine EV.iload_n 2 dX15_saveAs_20 rfl rfl ?_
          refine EV.ldcw (v := 65535) dX15_saveAs_21 (tb9 (List.mem_of_getElem? (i := 122) rfl)) ?_
          refine EV.icmp_le 29 dX15_saveAs_24 (by decide) (fun c177 => ?_) (fun c177 => ?_)
          · rw [if_pos c177] at h
            refine EV.aload_n 0 dX15_saveAs_29 rfl rfl ?_
            obtain ⟨v178, gv178, h⟩ := px_bs h
            refine ev_gR dX15_saveAs_30 flRX15_33 gv178 ?_
            refine EV.aload_n 0 dX15_saveAs_33 rfl rfl ?_
            obtain ⟨v179, gv179, h⟩ := px_bs h
            refine ev_gI dX15_saveAs_34 flRX15_129 gv179 ?_
            refine EV.aload_n 0 dX15_saveAs_37 rfl rfl ?_
            obtain ⟨v180, gv180, h⟩ := px_bs h
            refine ev_gI dX15_saveAs_38 flRX15_139 gv180 ?_
            refine EV.aload_n 0 dX15_saveAs_41 rfl rfl ?_
            obtain ⟨v181, gv181, h⟩ := px_bs h
            refine ev_gI dX15_saveAs_42 flRX15_126 gv181 ?_
            refine EV.aload_n 0 dX15_saveAs_45 rfl rfl ?_
            obtain ⟨o182, go182, h⟩ := px_bs h
            obtain ⟨q183, gq183, h⟩ := px_bs h
            refine EV.callV (As := []) (rest := [.int v181, .int v180, .int v179, .ref v178]) dX15_saveAs_46 kcX15_saveAs_310 (gO_ok go182) rfl rfl rfl (Nat.le_of_ble_eq_true rfl) (Nat.le_of_ble_eq_true rfl) (eX15_shape gq183) ?_
            obtain ⟨o184, go184, h⟩ := px_bs h
            obtain ⟨q185, gq185, h⟩ := px_bs h
            refine EV.callV (As := [.int v179, .int v180, .int v181, .int q183.1]) (rest := []) dX15_saveAs_49 kcX15_saveAs_228 (gO_ok go184) rfl rfl rfl (Nat.le_of_ble_eq_true rfl) (Nat.le_of_ble_eq_true rfl) (eX13_frame gq185) ?_
            refine EV.if_eq 70 dX15_saveAs_52 (by decide) (fun c186 => ?_) (fun c186 => ?_)
            · rw [if_pos c186] at h
              refine EV.sub [0, 1, 2] rfl ?_
              exact eX15_saveAs_70  _ _ _ _ _ h
            · rw [if_neg c186] at h
              refine EV.aload_n 0 dX15_saveAs_55 rfl rfl ?_
              obtain ⟨v187, gv187, h⟩ := px_bs h
              refine ev_gR dX15_saveAs_56 flRX15_33 gv187 ?_
              refine EV.iload_n 2 dX15_saveAs_59 rfl rfl ?_
              obtain ⟨o188, go188, h⟩ := px_bs h
              obtain ⟨q189, gq189, h⟩ := px_bs h
              refine EV.callV (As := [.int a2]) (rest := []) dX15_saveAs_60 kcX15_saveAs_170 (gO_ok go188) rfl rfl rfl (Nat.le_of_ble_eq_true rfl) (Nat.le_of_ble_eq_true rfl) (eX13_restart gq189) ?_
              refine EV.if_eq 70 dX15_saveAs_63 (by decide) (fun c190 => ?_) (fun c190 => ?_)
              · rw [if_pos c190] at h
                refine EV.sub [0, 1, 2] rfl ?_
                exact eX15_saveAs_70  _ _ _ _ _ h
              · rw [if_neg c190] at h
                refine EV.iconst (1) dX15_saveAs_66 (by decide) ?_
                refine EV.goto 71 dX15_saveAs_67 (by decide) ?_
                refine EV.sub [0, 1, 2] rfl ?_
                exact eX15_saveAs_71  _ _ _ _ _ _ h
          · rw [if_neg c177] at h
            refine EV.iconst ((-1)) dX15_saveAs_27 (by decide) ?_
            cases h
            exact EV.reti dX15_saveAs_28 rfl
/-! WavePicturesModel.k(I)I -/
theorem dX15_k_0 : decode cX15_k 0 = .ok (.iload_n 0, 1) := by decide +kernel
theorem dX15_k_1 : decode cX15_k 1 = .ok (.tableswitch 79 0 7 #[47, 51, 55, 59, 63, 67, 71, 75], 47) := by decide +kernel
theorem dX15_k_48 : decode cX15_k 48 = .ok (.sipush 8192, 3) := by decide +kernel
theorem dX15_k_51 : decode cX15_k 51 = .ok (.ireturn, 1) := by decide +kernel
theorem dX15_k_52 : decode cX15_k 52 = .ok (.sipush 8035, 3) := by decide +kernel
theorem dX15_k_55 : decode cX15_k 55 = .ok (.ireturn, 1) := by decide +kernel
theorem dX15_k_56 : decode cX15_k 56 = .ok (.sipush 7568, 3) := by decide +kernel
theorem dX15_k_59 : decode cX15_k 59 = .ok (.ireturn, 1) := by decide +kernel
theorem dX15_k_60 : decode cX15_k 60 = .ok (.sipush 6811, 3) := by decide +kernel
theorem dX15_k_63 : decode cX15_k 63 = .ok (.ireturn, 1) := by decide +kernel
theorem dX15_k_64 : decode cX15_k 64 = .ok (.sipush 5793, 3) := by decide +kernel
theorem dX15_k_67 : decode cX15_k 67 = .ok (.ireturn, 1) := by decide +kernel
theorem dX15_k_68 : decode cX15_k 68 = .ok (.sipush 4551, 3) := by decide +kernel
theorem dX15_k_71 : decode cX15_k 71 = .ok (.ireturn, 1) := by decide +kernel
theorem dX15_k_72 : decode cX15_k 72 = .ok (.sipush 3135, 3) := by decide +kernel
theorem dX15_k_75 : decode cX15_k 75 = .ok (.ireturn, 1) := by decide +kernel
theorem dX15_k_76 : decode cX15_k 76 = .ok (.sipush 1598, 3) := by decide +kernel
theorem dX15_k_79 : decode cX15_k 79 = .ok (.ireturn, 1) := by decide +kernel
theorem dX15_k_80 : decode cX15_k 80 = .ok (.iconst 0, 1) := by decide +kernel
theorem dX15_k_81 : decode cX15_k 81 = .ok (.ireturn, 1) := by decide +kernel
set_option maxRecDepth 100000 in
set_option maxHeartbeats 4000000 in
theorem eX15_k {X : px_X} {w : px_W} {a0 : Int32} {q : Int32 × px_W} (h : fX15_k X w a0 = some q) : EV X mX15_k 0 (lv_args 0 [.int a0]) [] w (some (.int q.1)) q.2 := by
  unfold fX15_k at h
  show EV X mX15_k 0 [(0, .int a0)] [] w (some (.int q.1)) q.2
  refine EV.iload_n 0 dX15_k_0 rfl rfl ?_
  by_cases c1 : a0 = 0
  · rw [if_pos c1] at h
    refine EV.tableIn 48 dX15_k_1 (by rw [c1]; decide) (by rw [c1]; decide) (by rw [c1]; rfl) (by decide) ?_
    refine EV.sipush (8192) dX15_k_48 (by decide) ?_
    cases h
    exact EV.reti dX15_k_51 rfl
  rw [if_neg c1] at h
  by_cases c2 : a0 = 1
  · rw [if_pos c2] at h
    refine EV.tableIn 52 dX15_k_1 (by rw [c2]; decide) (by rw [c2]; decide) (by rw [c2]; rfl) (by decide) ?_
    refine EV.sipush (8035) dX15_k_52 (by decide) ?_
    cases h
    exact EV.reti dX15_k_55 rfl
  rw [if_neg c2] at h
  by_cases c3 : a0 = 2
  · rw [if_pos c3] at h
    refine EV.tableIn 56 dX15_k_1 (by rw [c3]; decide) (by rw [c3]; decide) (by rw [c3]; rfl) (by decide) ?_
    refine EV.sipush (7568) dX15_k_56 (by decide) ?_
    cases h
    exact EV.reti dX15_k_59 rfl
  rw [if_neg c3] at h
  by_cases c4 : a0 = 3
  · rw [if_pos c4] at h
    refine EV.tableIn 60 dX15_k_1 (by rw [c4]; decide) (by rw [c4]; decide) (by rw [c4]; rfl) (by decide) ?_
    refine EV.sipush (6811) dX15_k_60 (by decide) ?_
    cases h
    exact EV.reti dX15_k_63 rfl
  rw [if_neg c4] at h
  by_cases c5 : a0 = 4
  · rw [if_pos c5] at h
    refine EV.tableIn 64 dX15_k_1 (by rw [c5]; decide) (by rw [c5]; decide) (by rw [c5]; rfl) (by decide) ?_
    refine EV.sipush (5793) dX15_k_64 (by decide) ?_
    cases h
    exact EV.reti dX15_k_67 rfl
  rw [if_neg c5] at h
  by_cases c6 : a0 = 5
  · rw [if_pos c6] at h
    refine EV.tableIn 68 dX15_k_1 (by rw [c6]; decide) (by rw [c6]; decide) (by rw [c6]; rfl) (by decide) ?_
    refine EV.sipush (4551) dX15_k_68 (by decide) ?_
    cases h
    exact EV.reti dX15_k_71 rfl
  rw [if_neg c6] at h
  by_cases c7 : a0 = 6
  · rw [if_pos c7] at h
    refine EV.tableIn 72 dX15_k_1 (by rw [c7]; decide) (by rw [c7]; decide) (by rw [c7]; rfl) (by decide) ?_
    refine EV.sipush (3135) dX15_k_72 (by decide) ?_
    cases h
    exact EV.reti dX15_k_75 rfl
  rw [if_neg c7] at h
  by_cases c8 : a0 = 7
  · rw [if_pos c8] at h
    refine EV.tableIn 76 dX15_k_1 (by rw [c8]; decide) (by rw [c8]; decide) (by rw [c8]; rfl) (by decide) ?_
    refine EV.sipush (1598) dX15_k_76 (by decide) ?_
    cases h
    exact EV.reti dX15_k_79 rfl
  rw [if_neg c8] at h
  have nc1 : (a0).toInt ≠ 0 := fun z => c1 (Int32.toInt_inj.mp (z.trans (by decide)))
  have nc2 : (a0).toInt ≠ 1 := fun z => c2 (Int32.toInt_inj.mp (z.trans (by decide)))
  have nc3 : (a0).toInt ≠ 2 := fun z => c3 (Int32.toInt_inj.mp (z.trans (by decide)))
  have nc4 : (a0).toInt ≠ 3 := fun z => c4 (Int32.toInt_inj.mp (z.trans (by decide)))
  have nc5 : (a0).toInt ≠ 4 := fun z => c5 (Int32.toInt_inj.mp (z.trans (by decide)))
  have nc6 : (a0).toInt ≠ 5 := fun z => c6 (Int32.toInt_inj.mp (z.trans (by decide)))
  have nc7 : (a0).toInt ≠ 6 := fun z => c7 (Int32.toInt_inj.mp (z.trans (by decide)))
  have nc8 : (a0).toInt ≠ 7 := fun z => c8 (Int32.toInt_inj.mp (z.trans (by decide)))
  refine EV.tableOut 80 dX15_k_1 (by omega) (by decide) ?_
  refine EV.iconst (0) dX15_k_80 (by decide) ?_
  cases h
  exact EV.reti dX15_k_81 rfl
/-! WavePicturesModel.wave(III)I -/
theorem dX15_wave_0 : decode cX15_wave 0 = .ok (.iload_n 1, 1) := by decide +kernel
theorem dX15_wave_1 : decode cX15_wave 1 = .ok (.ifCond .ne 8, 3) := by decide +kernel
theorem dX15_wave_4 : decode cX15_wave 4 = .ok (.iconst 4, 1) := by decide +kernel
theorem dX15_wave_5 : decode cX15_wave 5 = .ok (.invokestatic 320, 3) := by decide +kernel
theorem dX15_wave_8 : decode cX15_wave 8 = .ok (.ireturn, 1) := by decide +kernel
theorem dX15_wave_9 : decode cX15_wave 9 = .ok (.iconst 2, 1) := by decide +kernel
theorem dX15_wave_10 : decode cX15_wave 10 = .ok (.iload_n 2, 1) := by decide +kernel
theorem dX15_wave_11 : decode cX15_wave 11 = .ok (.imul, 1) := by decide +kernel
theorem dX15_wave_12 : decode cX15_wave 12 = .ok (.iconst 1, 1) := by decide +kernel
theorem dX15_wave_13 : decode cX15_wave 13 = .ok (.iadd, 1) := by decide +kernel
theorem dX15_wave_14 : decode cX15_wave 14 = .ok (.iload_n 1, 1) := by decide +kernel
theorem dX15_wave_15 : decode cX15_wave 15 = .ok (.imul, 1) := by decide +kernel
theorem dX15_wave_16 : decode cX15_wave 16 = .ok (.bipush 8, 2) := by decide +kernel
theorem dX15_wave_18 : decode cX15_wave 18 = .ok (.iload_n 0, 1) := by decide +kernel
theorem dX15_wave_19 : decode cX15_wave 19 = .ok (.idiv, 1) := by decide +kernel
theorem dX15_wave_20 : decode cX15_wave 20 = .ok (.imul, 1) := by decide +kernel
theorem dX15_wave_21 : decode cX15_wave 21 = .ok (.bipush 32, 2) := by decide +kernel
theorem dX15_wave_23 : decode cX15_wave 23 = .ok (.irem, 1) := by decide +kernel
theorem dX15_wave_24 : decode cX15_wave 24 = .ok (.istore_n 3, 1) := by decide +kernel
theorem dX15_wave_25 : decode cX15_wave 25 = .ok (.iload_n 3, 1) := by decide +kernel
theorem dX15_wave_26 : decode cX15_wave 26 = .ok (.bipush 9, 2) := by decide +kernel
theorem dX15_wave_28 : decode cX15_wave 28 = .ok (.if_icmp .ge 10, 3) := by decide +kernel
theorem dX15_wave_31 : decode cX15_wave 31 = .ok (.iload_n 3, 1) := by decide +kernel
theorem dX15_wave_32 : decode cX15_wave 32 = .ok (.invokestatic 320, 3) := by decide +kernel
theorem dX15_wave_35 : decode cX15_wave 35 = .ok (.goto 44, 3) := by decide +kernel
theorem dX15_wave_38 : decode cX15_wave 38 = .ok (.iload_n 3, 1) := by decide +kernel
theorem dX15_wave_39 : decode cX15_wave 39 = .ok (.bipush 17, 2) := by decide +kernel
theorem dX15_wave_41 : decode cX15_wave 41 = .ok (.if_icmp .ge 14, 3) := by decide +kernel
theorem dX15_wave_44 : decode cX15_wave 44 = .ok (.bipush 16, 2) := by decide +kernel
theorem dX15_wave_46 : decode cX15_wave 46 = .ok (.iload_n 3, 1) := by decide +kernel
theorem dX15_wave_47 : decode cX15_wave 47 = .ok (.isub, 1) := by decide +kernel
theorem dX15_wave_48 : decode cX15_wave 48 = .ok (.invokestatic 320, 3) := by decide +kernel
theorem dX15_wave_51 : decode cX15_wave 51 = .ok (.ineg, 1) := by decide +kernel
theorem dX15_wave_52 : decode cX15_wave 52 = .ok (.goto 27, 3) := by decide +kernel
theorem dX15_wave_55 : decode cX15_wave 55 = .ok (.iload_n 3, 1) := by decide +kernel
theorem dX15_wave_56 : decode cX15_wave 56 = .ok (.bipush 25, 2) := by decide +kernel
theorem dX15_wave_58 : decode cX15_wave 58 = .ok (.if_icmp .ge 14, 3) := by decide +kernel
theorem dX15_wave_61 : decode cX15_wave 61 = .ok (.iload_n 3, 1) := by decide +kernel
theorem dX15_wave_62 : decode cX15_wave 62 = .ok (.bipush 16, 2) := by decide +kernel
theorem dX15_wave_64 : decode cX15_wave 64 = .ok (.isub, 1) := by decide +kernel
theorem dX15_wave_65 : decode cX15_wave 65 = .ok (.invokestatic 320, 3) := by decide +kernel
theorem dX15_wave_68 : decode cX15_wave 68 = .ok (.ineg, 1) := by decide +kernel
theorem dX15_wave_69 : decode cX15_wave 69 = .ok (.goto 10, 3) := by decide +kernel
theorem dX15_wave_72 : decode cX15_wave 72 = .ok (.bipush 32, 2) := by decide +kernel
theorem dX15_wave_74 : decode cX15_wave 74 = .ok (.iload_n 3, 1) := by decide +kernel
theorem dX15_wave_75 : decode cX15_wave 75 = .ok (.isub, 1) := by decide +kernel
theorem dX15_wave_76 : decode cX15_wave 76 = .ok (.invokestatic 320, 3) := by decide +kernel
theorem dX15_wave_79 : decode cX15_wave 79 = .ok (.ireturn, 1) := by decide +kernel
theorem mbX15_k : px_mB mX15_k 1 := ⟨tb10 (List.mem_of_getElem? (i := 46) rfl), by decide +kernel, tb1 (List.mem_of_getElem? (i := 13) rfl), by decide +kernel, by decide +kernel⟩
theorem kcX15_wave_320 : px_cS mX15_wave 320 mX15_k 1 := ⟨⟨mbX15_k, by decide, by decide⟩, Or.inl (tb10 (List.mem_of_getElem? (i := 44) rfl)), tb10 (List.mem_of_getElem? (i := 45) rfl)⟩
set_option maxRecDepth 100000 in
set_option maxHeartbeats 4000000 in
theorem eX15_wave {X : px_X} {w : px_W} {a0 : Int32} {a1 : Int32} {a2 : Int32} {q : Int32 × px_W} (h : fX15_wave X w a0 a1 a2 = some q) : EV X mX15_wave 0 (lv_args 0 [.int a0, .int a1, .int a2]) [] w (some (.int q.1)) q.2 := by
  unfold fX15_wave at h
  show EV X mX15_wave 0 [(0, .int a0), (1, .int a1), (2, .int a2)] [] w (some (.int q.1)) q.2
  refine EV.iload_n 1 dX15_wave_0 rfl rfl ?_
  refine EV.if_ne 9 dX15_wave_1 (by decide) (fun c8 => ?_) (fun c8 => ?_)
  · rw [if_neg c8] at h
    refine EV.iconst (2) dX15_wave_9 (by decide) ?_
    refine EV.iload_n 2 dX15_wave_10 rfl rfl ?_
    refine EV.imul dX15_wave_11 ?_
    refine EV.iconst (1) dX15_wave_12 (by decide) ?_
    refine EV.iadd dX15_wave_13 ?_
    refine EV.iload_n 1 dX15_wave_14 rfl rfl ?_
    refine EV.imul dX15_wave_15 ?_
    refine EV.bipush (8) dX15_wave_16 (by decide) ?_
    refine EV.iload_n 0 dX15_wave_18 rfl rfl ?_
    obtain ⟨v9, gv9, h⟩ := px_bs h
    refine ev_dI dX15_wave_19 gv9 ?_
    refine EV.imul dX15_wave_20 ?_
    refine EV.bipush (32) dX15_wave_21 (by decide) ?_
    obtain ⟨v10, gv10, h⟩ := px_bs h
    refine ev_rI dX15_wave_23 gv10 ?_
    refine EV.istore_n [(3, .int v10), (0, .int a0), (1, .int a1), (2, .int a2)] dX15_wave_24 rfl (by decide) rfl ?_
    refine EV.iload_n 0 dX15_wave_25 rfl rfl ?_
    refine EV.bipush (9) dX15_wave_26 (by decide) ?_
    refine EV.icmp_ge 38 dX15_wave_28 (by decide) (fun c11 => ?_) (fun c11 => ?_)
    · rw [if_pos c11] at h
      refine EV.iload_n 0 dX15_wave_38 rfl rfl ?_
      refine EV.bipush (17) dX15_wave_39 (by decide) ?_
      refine EV.icmp_ge 55 dX15_wave_41 (by decide) (fun c12 => ?_) (fun c12 => ?_)
      · rw [if_pos c12] at h
        refine EV.iload_n 0 dX15_wave_55 rfl rfl ?_
        refine EV.bipush (25) dX15_wave_56 (by decide) ?_
        refine EV.icmp_ge 72 dX15_wave_58 (by decide) (fun c13 => ?_) (fun c13 => ?_)
        · rw [if_pos c13] at h
          refine EV.bipush (32) dX15_wave_72 (by decide) ?_
          refine EV.iload_n 0 dX15_wave_74 rfl rfl ?_
          refine EV.isub dX15_wave_75 ?_
          obtain ⟨q14, gq14, h⟩ := px_bs h
          refine EV.callS (As := [.int (32 - v10)]) (rest := []) dX15_wave_76 kcX15_wave_320 rfl (Nat.le_of_ble_eq_true rfl) (Nat.le_of_ble_eq_true rfl) (eX15_k gq14) ?_
          cases h
          exact EV.reti dX15_wave_79 rfl
        · rw [if_neg c13] at h
          refine EV.iload_n 0 dX15_wave_61 rfl rfl ?_
          refine EV.bipush (16) dX15_wave_62 (by decide) ?_
          refine EV.isub dX15_wave_64 ?_
          obtain ⟨q15, gq15, h⟩ := px_bs h
          refine EV.callS (As := [.int (v10 - 16)]) (rest := []) dX15_wave_65 kcX15_wave_320 rfl (Nat.le_of_ble_eq_true rfl) (Nat.le_of_ble_eq_true rfl) (eX15_k gq15) ?_
          refine EV.ineg dX15_wave_68 ?_
          refine EV.goto 79 dX15_wave_69 (by decide) ?_
          cases h
          exact EV.reti dX15_wave_79 rfl
      · rw [if_neg c12] at h
        refine EV.bipush (16) dX15_wave_44 (by decide) ?_
        refine EV.iload_n 0 dX15_wave_46 rfl rfl ?_
        refine EV.isub dX15_wave_47 ?_
        obtain ⟨q16, gq16, h⟩ := px_bs h
        refine EV.callS (As := [.int (16 - v10)]) (rest := []) dX15_wave_48 kcX15_wave_320 rfl (Nat.le_of_ble_eq_true rfl) (Nat.le_of_ble_eq_true rfl) (eX15_k gq16) ?_
        refine EV.ineg dX15_wave_51 ?_
        refine EV.goto 79 dX15_wave_52 (by decide) ?_
        cases h
        exact EV.reti dX15_wave_79 rfl
    · rw [if_neg c11] at h
      refine EV.iload_n 0 dX15_wave_31 rfl rfl ?_
      obtain ⟨q17, gq17, h⟩ := px_bs h
      refine EV.callS (As := [.int v10]) (rest := []) dX15_wave_32 kcX15_wave_320 rfl (Nat.le_of_ble_eq_true rfl) (Nat.le_of_ble_eq_true rfl) (eX15_k gq17) ?_
      refine EV.goto 79 dX15_wave_35 (by decide) ?_
      cases h
      exact EV.reti dX15_wave_79 rfl
  · rw [if_pos c8] at h
    refine EV.iconst (4) dX15_wave_4 (by decide) ?_
    obtain ⟨q18, gq18, h⟩ := px_bs h
    refine EV.callS (As := [.int 4]) (rest := []) dX15_wave_5 kcX15_wave_320 rfl (Nat.le_of_ble_eq_true rfl) (Nat.le_of_ble_eq_true rfl) (eX15_k gq18) ?_
    cases h
    exact EV.reti dX15_wave_8 rfl
/-! WavePicturesModel.round(JI)J -/
theorem dX15_round_0 : decode cX15_round 0 = .ok (.lload_n 0, 1) := by decide +kernel
theorem dX15_round_1 : decode cX15_round 1 = .ok (.lconst 1, 1) := by decide +kernel
theorem dX15_round_2 : decode cX15_round 2 = .ok (.iload_n 2, 1) := by decide +kernel
theorem dX15_round_3 : decode cX15_round 3 = .ok (.iconst 1, 1) := by decide +kernel
theorem dX15_round_4 : decode cX15_round 4 = .ok (.isub, 1) := by decide +kernel
theorem dX15_round_5 : decode cX15_round 5 = .ok (.lshl, 1) := by decide +kernel
theorem dX15_round_6 : decode cX15_round 6 = .ok (.ladd, 1) := by decide +kernel
theorem dX15_round_7 : decode cX15_round 7 = .ok (.iload_n 2, 1) := by decide +kernel
theorem dX15_round_8 : decode cX15_round 8 = .ok (.lshr, 1) := by decide +kernel
theorem dX15_round_9 : decode cX15_round 9 = .ok (.lreturn, 1) := by decide +kernel
set_option maxRecDepth 100000 in
set_option maxHeartbeats 4000000 in
theorem eX15_round {X : px_X} {w : px_W} {a0 : Int64} {a2 : Int32} {q : Int64 × px_W} (h : fX15_round X w a0 a2 = some q) : EV X mX15_round 0 (lv_args 0 [.long a0, .int a2]) [] w (some (.long q.1)) q.2 := by
  unfold fX15_round at h
  show EV X mX15_round 0 [(0, .long a0), (2, .int a2)] [] w (some (.long q.1)) q.2
  refine EV.lload_n 0 dX15_round_0 rfl rfl ?_
  refine EV.lconst (1) dX15_round_1 (by decide) ?_
  refine EV.iload_n 1 dX15_round_2 rfl rfl ?_
  refine EV.iconst (1) dX15_round_3 (by decide) ?_
  refine EV.isub dX15_round_4 ?_
  refine EV.lshl dX15_round_5 ?_
  refine EV.ladd dX15_round_6 ?_
  refine EV.iload_n 1 dX15_round_7 rfl rfl ?_
  refine EV.lshr dX15_round_8 ?_
  cases h
  exact EV.retl dX15_round_9 trivial
/-! WavePicturesModel.limit(J)I -/
theorem dX15_limit_0 : decode cX15_limit 0 = .ok (.lload_n 0, 1) := by decide +kernel
theorem dX15_limit_1 : decode cX15_limit 1 = .ok (.lconst 0, 1) := by decide +kernel
theorem dX15_limit_2 : decode cX15_limit 2 = .ok (.lcmp, 1) := by decide +kernel
theorem dX15_limit_3 : decode cX15_limit 3 = .ok (.ifCond .ge 7, 3) := by decide +kernel
theorem dX15_limit_6 : decode cX15_limit 6 = .ok (.iconst 0, 1) := by decide +kernel
theorem dX15_limit_7 : decode cX15_limit 7 = .ok (.goto 19, 3) := by decide +kernel
theorem dX15_limit_10 : decode cX15_limit 10 = .ok (.lload_n 0, 1) := by decide +kernel
theorem dX15_limit_11 : decode cX15_limit 11 = .ok (.ldc2_w 323, 3) := by decide +kernel
theorem dX15_limit_14 : decode cX15_limit 14 = .ok (.lcmp, 1) := by decide +kernel
theorem dX15_limit_15 : decode cX15_limit 15 = .ok (.ifCond .le 9, 3) := by decide +kernel
theorem dX15_limit_18 : decode cX15_limit 18 = .ok (.sipush 255, 3) := by decide +kernel
theorem dX15_limit_21 : decode cX15_limit 21 = .ok (.goto 5, 3) := by decide +kernel
theorem dX15_limit_24 : decode cX15_limit 24 = .ok (.lload_n 0, 1) := by decide +kernel
theorem dX15_limit_25 : decode cX15_limit 25 = .ok (.l2i, 1) := by decide +kernel
theorem dX15_limit_26 : decode cX15_limit 26 = .ok (.ireturn, 1) := by decide +kernel
set_option maxRecDepth 100000 in
set_option maxHeartbeats 4000000 in
theorem eX15_limit {X : px_X} {w : px_W} {a0 : Int64} {q : Int32 × px_W} (h : fX15_limit X w a0 = some q) : EV X mX15_limit 0 (lv_args 0 [.long a0]) [] w (some (.int q.1)) q.2 := by
  unfold fX15_limit at h
  show EV X mX15_limit 0 [(0, .long a0)] [] w (some (.int q.1)) q.2
  refine EV.lload_n 0 dX15_limit_0 rfl rfl ?_
  refine EV.lconst (0) dX15_limit_1 (by decide) ?_
  refine EV.lcmp dX15_limit_2 ?_
  refine EV.if_ge 10 dX15_limit_3 (by decide) (fun c1 => ?_) (fun c1 => ?_)
  · rw [if_pos c1] at h
    refine EV.lload_n 0 dX15_limit_10 rfl rfl ?_
    refine EV.ldc2 (v := 255) dX15_limit_11 (tb10 (List.mem_of_getElem? (i := 66) rfl)) ?_
    refine EV.lcmp dX15_limit_14 ?_
    refine EV.if_le 24 dX15_limit_15 (by decide) (fun c2 => ?_) (fun c2 => ?_)
    · rw [if_pos c2] at h
      refine EV.lload_n 0 dX15_limit_24 rfl rfl ?_
      refine EV.l2i dX15_limit_25 ?_
      cases h
      exact EV.reti dX15_limit_26 rfl
    · rw [if_neg c2] at h
      refine EV.sipush (255) dX15_limit_18 (by decide) ?_
      refine EV.goto 26 dX15_limit_21 (by decide) ?_
      cases h
      exact EV.reti dX15_limit_26 rfl
  · rw [if_neg c1] at h
    refine EV.iconst (0) dX15_limit_6 (by decide) ?_
    refine EV.goto 26 dX15_limit_7 (by decide) ?_
    cases h
    exact EV.reti dX15_limit_26 rfl
/-! WavePicturesModel.back(IIIII)V -/
theorem dX15_back_0 : decode cX15_back 0 = .ok (.iconst 0, 1) := by decide +kernel
theorem dX15_back_1 : decode cX15_back 1 = .ok (.istore 6, 2) := by decide +kernel
theorem dX15_back_3 : decode cX15_back 3 = .ok (.iload 6, 2) := by decide +kernel
theorem dX15_back_5 : decode cX15_back 5 = .ok (.iload_n 3, 1) := by decide +kernel
theorem dX15_back_6 : decode cX15_back 6 = .ok (.if_icmp .ge 126, 3) := by decide +kernel
theorem dX15_back_9 : decode cX15_back 9 = .ok (.iconst 0, 1) := by decide +kernel
theorem dX15_back_10 : decode cX15_back 10 = .ok (.istore 7, 2) := by decide +kernel
theorem dX15_back_12 : decode cX15_back 12 = .ok (.iload 7, 2) := by decide +kernel
theorem dX15_back_14 : decode cX15_back 14 = .ok (.iload_n 3, 1) := by decide +kernel
theorem dX15_back_15 : decode cX15_back 15 = .ok (.if_icmp .ge 111, 3) := by decide +kernel
theorem dX15_back_18 : decode cX15_back 18 = .ok (.lconst 0, 1) := by decide +kernel
theorem dX15_back_19 : decode cX15_back 19 = .ok (.lstore 8, 2) := by decide +kernel
theorem dX15_back_21 : decode cX15_back 21 = .ok (.iconst 0, 1) := by decide +kernel
theorem dX15_back_22 : decode cX15_back 22 = .ok (.istore 10, 2) := by decide +kernel
theorem dX15_back_24 : decode cX15_back 24 = .ok (.iload 10, 2) := by decide +kernel
theorem dX15_back_26 : decode cX15_back 26 = .ok (.iload_n 3, 1) := by decide +kernel
theorem dX15_back_27 : decode cX15_back 27 = .ok (.if_icmp .ge 73, 3) := by decide +kernel
theorem dX15_back_30 : decode cX15_back 30 = .ok (.aload_n 0, 1) := by decide +kernel
theorem dX15_back_31 : decode cX15_back 31 = .ok (.getfield 92, 3) := by decide +kernel
theorem dX15_back_34 : decode cX15_back 34 = .ok (.bipush 8, 2) := by decide +kernel
theorem dX15_back_36 : decode cX15_back 36 = .ok (.iload 10, 2) := by decide +kernel
theorem dX15_back_38 : decode cX15_back 38 = .ok (.imul, 1) := by decide +kernel
theorem dX15_back_39 : decode cX15_back 39 = .ok (.iload 7, 2) := by decide +kernel
theorem dX15_back_41 : decode cX15_back 41 = .ok (.iadd, 1) := by decide +kernel
theorem dX15_back_42 : decode cX15_back 42 = .ok (.iaload, 1) := by decide +kernel
theorem dX15_back_43 : decode cX15_back 43 = .ok (.istore 11, 2) := by decide +kernel
theorem dX15_back_45 : decode cX15_back 45 = .ok (.lload 8, 2) := by decide +kernel
theorem dX15_back_47 : decode cX15_back 47 = .ok (.iload_n 3, 1) := by decide +kernel
theorem dX15_back_48 : decode cX15_back 48 = .ok (.iload 10, 2) := by decide +kernel
theorem dX15_back_50 : decode cX15_back 50 = .ok (.iload 6, 2) := by decide +kernel
theorem dX15_back_52 : decode cX15_back 52 = .ok (.invokestatic 325, 3) := by decide +kernel
theorem dX15_back_55 : decode cX15_back 55 = .ok (.i2l, 1) := by decide +kernel
theorem dX15_back_56 : decode cX15_back 56 = .ok (.aload_n 0, 1) := by decide +kernel
theorem dX15_back_57 : decode cX15_back 57 = .ok (.getfield 70, 3) := by decide +kernel
theorem dX15_back_60 : decode cX15_back 60 = .ok (.bipush 64, 2) := by decide +kernel
theorem dX15_back_62 : decode cX15_back 62 = .ok (.aload_n 0, 1) := by decide +kernel
theorem dX15_back_63 : decode cX15_back 63 = .ok (.getfield 64, 3) := by decide +kernel
theorem dX15_back_66 : decode cX15_back 66 = .ok (.iload_n 1, 1) := by decide +kernel
theorem dX15_back_67 : decode cX15_back 67 = .ok (.iaload, 1) := by decide +kernel
theorem dX15_back_68 : decode cX15_back 68 = .ok (.iload_n 2, 1) := by decide +kernel
theorem dX15_back_69 : decode cX15_back 69 = .ok (.iadd, 1) := by decide +kernel
theorem dX15_back_70 : decode cX15_back 70 = .ok (.imul, 1) := by decide +kernel
theorem dX15_back_71 : decode cX15_back 71 = .ok (.iload 11, 2) := by decide +kernel
theorem dX15_back_73 : decode cX15_back 73 = .ok (.iadd, 1) := by decide +kernel
theorem dX15_back_74 : decode cX15_back 74 = .ok (.saload, 1) := by decide +kernel
theorem dX15_back_75 : decode cX15_back 75 = .ok (.i2l, 1) := by decide +kernel
theorem dX15_back_76 : decode cX15_back 76 = .ok (.lmul, 1) := by decide +kernel
theorem dX15_back_77 : decode cX15_back 77 = .ok (.aload_n 0, 1) := by decide +kernel
theorem dX15_back_78 : decode cX15_back 78 = .ok (.getfield 67, 3) := by decide +kernel
theorem dX15_back_81 : decode cX15_back 81 = .ok (.bipush 64, 2) := by decide +kernel
theorem dX15_back_83 : decode cX15_back 83 = .ok (.iload_n 1, 1) := by decide +kernel
theorem dX15_back_84 : decode cX15_back 84 = .ok (.imul, 1) := by decide +kernel
theorem dX15_back_85 : decode cX15_back 85 = .ok (.iload 11, 2) := by decide +kernel
theorem dX15_back_87 : decode cX15_back 87 = .ok (.iadd, 1) := by decide +kernel
theorem dX15_back_88 : decode cX15_back 88 = .ok (.iaload, 1) := by decide +kernel
theorem dX15_back_89 : decode cX15_back 89 = .ok (.i2l, 1) := by decide +kernel
theorem dX15_back_90 : decode cX15_back 90 = .ok (.lmul, 1) := by decide +kernel
theorem dX15_back_91 : decode cX15_back 91 = .ok (.ladd, 1) := by decide +kernel
theorem dX15_back_92 : decode cX15_back 92 = .ok (.lstore 8, 2) := by decide +kernel
theorem dX15_back_94 : decode cX15_back 94 = .ok (.iinc 10 1, 3) := by decide +kernel
theorem dX15_back_97 : decode cX15_back 97 = .ok (.goto (-73), 3) := by decide +kernel
theorem dX15_back_100 : decode cX15_back 100 = .ok (.aload_n 0, 1) := by decide +kernel
theorem dX15_back_101 : decode cX15_back 101 = .ok (.getfield 110, 3) := by decide +kernel
theorem dX15_back_104 : decode cX15_back 104 = .ok (.bipush 8, 2) := by decide +kernel
theorem dX15_back_106 : decode cX15_back 106 = .ok (.iload 6, 2) := by decide +kernel
theorem dX15_back_108 : decode cX15_back 108 = .ok (.imul, 1) := by decide +kernel
theorem dX15_back_109 : decode cX15_back 109 = .ok (.iload 7, 2) := by decide +kernel
theorem dX15_back_111 : decode cX15_back 111 = .ok (.iadd, 1) := by decide +kernel
theorem dX15_back_112 : decode cX15_back 112 = .ok (.lload 8, 2) := by decide +kernel
theorem dX15_back_114 : decode cX15_back 114 = .ok (.bipush 11, 2) := by decide +kernel
theorem dX15_back_116 : decode cX15_back 116 = .ok (.invokestatic 329, 3) := by decide +kernel
theorem dX15_back_119 : decode cX15_back 119 = .ok (.lastore, 1) := by decide +kernel
theorem dX15_back_120 : decode cX15_back 120 = .ok (.iinc 7 1, 3) := by decide +kernel
theorem dX15_back_123 : decode cX15_back 123 = .ok (.goto (-111), 3) := by decide +kernel
theorem dX15_back_126 : decode cX15_back 126 = .ok (.iinc 6 1, 3) := by decide +kernel
theorem dX15_back_129 : decode cX15_back 129 = .ok (.goto (-126), 3) := by decide +kernel
theorem dX15_back_132 : decode cX15_back 132 = .ok (.iconst 0, 1) := by decide +kernel
theorem dX15_back_133 : decode cX15_back 133 = .ok (.istore 6, 2) := by decide +kernel
theorem dX15_back_135 : decode cX15_back 135 = .ok (.iload 6, 2) := by decide +kernel
theorem dX15_back_137 : decode cX15_back 137 = .ok (.iload_n 3, 1) := by decide +kernel
theorem dX15_back_138 : decode cX15_back 138 = .ok (.if_icmp .ge 105, 3) := by decide +kernel
theorem dX15_back_141 : decode cX15_back 141 = .ok (.iconst 0, 1) := by decide +kernel
theorem dX15_back_142 : decode cX15_back 142 = .ok (.istore 7, 2) := by decide +kernel
theorem dX15_back_144 : decode cX15_back 144 = .ok (.iload 7, 2) := by decide +kernel
theorem dX15_back_146 : decode cX15_back 146 = .ok (.iload_n 3, 1) := by decide +kernel
theorem dX15_back_147 : decode cX15_back 147 = .ok (.if_icmp .ge 90, 3) := by decide +kernel
theorem dX15_back_150 : decode cX15_back 150 = .ok (.lconst 0, 1) := by decide +kernel
theorem dX15_back_151 : decode cX15_back 151 = .ok (.lstore 8, 2) := by decide +kernel
theorem dX15_back_153 : decode cX15_back 153 = .ok (.iconst 0, 1) := by decide +kernel
theorem dX15_back_154 : decode cX15_back 154 = .ok (.istore 10, 2) := by decide +kernel
theorem dX15_back_156 : decode cX15_back 156 = .ok (.iload 10, 2) := by decide +kernel
theorem dX15_back_158 : decode cX15_back 158 = .ok (.iload_n 3, 1) := by decide +kernel
theorem dX15_back_159 : decode cX15_back 159 = .ok (.if_icmp .ge 37, 3) := by decide +kernel
theorem dX15_back_162 : decode cX15_back 162 = .ok (.lload 8, 2) := by decide +kernel
theorem dX15_back_164 : decode cX15_back 164 = .ok (.iload_n 3, 1) := by decide +kernel
theorem dX15_back_165 : decode cX15_back 165 = .ok (.iload 10, 2) := by decide +kernel
theorem dX15_back_167 : decode cX15_back 167 = .ok (.iload 7, 2) := by decide +kernel
theorem dX15_back_169 : decode cX15_back 169 = .ok (.invokestatic 325, 3) := by decide +kernel
theorem dX15_back_172 : decode cX15_back 172 = .ok (.i2l, 1) := by decide +kernel
theorem dX15_back_173 : decode cX15_back 173 = .ok (.aload_n 0, 1) := by decide +kernel
theorem dX15_back_174 : decode cX15_back 174 = .ok (.getfield 110, 3) := by decide +kernel
theorem dX15_back_177 : decode cX15_back 177 = .ok (.bipush 8, 2) := by decide +kernel
theorem dX15_back_179 : decode cX15_back 179 = .ok (.iload 6, 2) := by decide +kernel
theorem dX15_back_181 : decode cX15_back 181 = .ok (.imul, 1) := by decide +kernel
theorem dX15_back_182 : decode cX15_back 182 = .ok (.iload 10, 2) := by decide +kernel
theorem dX15_back_184 : decode cX15_back 184 = .ok (.iadd, 1) := by decide +kernel
theorem dX15_back_185 : decode cX15_back 185 = .ok (.laload, 1) := by decide +kernel
theorem dX15_back_186 : decode cX15_back 186 = .ok (.lmul, 1) := by decide +kernel
theorem dX15_back_187 : decode cX15_back 187 = .ok (.ladd, 1) := by decide +kernel
theorem dX15_back_188 : decode cX15_back 188 = .ok (.lstore 8, 2) := by decide +kernel
theorem dX15_back_190 : decode cX15_back 190 = .ok (.iinc 10 1, 3) := by decide +kernel
theorem dX15_back_193 : decode cX15_back 193 = .ok (.goto (-37), 3) := by decide +kernel
theorem dX15_back_196 : decode cX15_back 196 = .ok (.aload_n 0, 1) := by decide +kernel
theorem dX15_back_197 : decode cX15_back 197 = .ok (.getfield 104, 3) := by decide +kernel
theorem dX15_back_200 : decode cX15_back 200 = .ok (.aload_n 0, 1) := by decide +kernel
theorem dX15_back_201 : decode cX15_back 201 = .ok (.getfield 333, 3) := by decide +kernel
theorem dX15_back_204 : decode cX15_back 204 = .ok (.iload 5, 2) := by decide +kernel
theorem dX15_back_206 : decode cX15_back 206 = .ok (.iload 6, 2) := by decide +kernel
theorem dX15_back_208 : decode cX15_back 208 = .ok (.iadd, 1) := by decide +kernel
theorem dX15_back_209 : decode cX15_back 209 = .ok (.imul, 1) := by decide +kernel
theorem dX15_back_210 : decode cX15_back 210 = .ok (.iload 4, 2) := by decide +kernel
theorem dX15_back_212 : decode cX15_back 212 = .ok (.iadd, 1) := by decide +kernel
theorem dX15_back_213 : decode cX15_back 213 = .ok (.iload 7, 2) := by decide +kernel
theorem dX15_back_215 : decode cX15_back 215 = .ok (.iadd, 1) := by decide +kernel
theorem dX15_back_216 : decode cX15_back 216 = .ok (.lload 8, 2) := by decide +kernel
theorem dX15_back_218 : decode cX15_back 218 = .ok (.bipush 17, 2) := by decide +kernel
theorem dX15_back_220 : decode cX15_back 220 = .ok (.invokestatic 329, 3) := by decide +kernel
theorem dX15_back_223 : decode cX15_back 223 = .ok (.ldc2_w 336, 3) := by decide +kernel
theorem dX15_back_226 : decode cX15_back 226 = .ok (.ladd, 1) := by decide +kernel
theorem dX15_back_227 : decode cX15_back 227 = .ok (.invokestatic 338, 3) := by decide +kernel
theorem dX15_back_230 : decode cX15_back 230 = .ok (.iastore, 1) := by decide +kernel
theorem dX15_back_231 : decode cX15_back 231 = .ok (.iinc 7 1, 3) := by decide +kernel
theorem dX15_back_234 : decode cX15_back 234 = .ok (.goto (-90), 3) := by decide +kernel
theorem dX15_back_237 : decode cX15_back 237 = .ok (.iinc 6 1, 3) := by decide +kernel
theorem dX15_back_240 : decode cX15_back 240 = .ok (.goto (-105), 3) := by decide +kernel
theorem dX15_back_243 : decode cX15_back 243 = .ok (.return_, 1) := by decide +kernel
theorem flRX15_104 : px_f RX15 104 15 42 := ⟨_, rfl, by decide, Or.inl (tb8 (List.mem_of_getElem? (i := 3) rfl))⟩
theorem flRX15_110 : px_f RX15 110 15 46 := ⟨_, rfl, by decide, Or.inl (tb8 (List.mem_of_getElem? (i := 7) rfl))⟩
theorem flRX15_333 : px_f RX15 333 15 44 := ⟨_, rfl, by decide, Or.inl (tb8 (List.mem_of_getElem? (i := 5) rfl))⟩
theorem mbX15_wave : px_mB mX15_wave 3 := ⟨tb10 (List.mem_of_getElem? (i := 43) rfl), by decide +kernel, tb1 (List.mem_of_getElem? (i := 13) rfl), by decide +kernel, by decide +kernel⟩
theorem kcX15_back_325 : px_cS mX15_back 325 mX15_wave 3 := ⟨⟨mbX15_wave, by decide, by decide⟩, Or.inl (tb10 (List.mem_of_getElem? (i := 41) rfl)), tb10 (List.mem_of_getElem? (i := 42) rfl)⟩
theorem mbX15_round : px_mB mX15_round 2 := ⟨tb10 (List.mem_of_getElem? (i := 49) rfl), by decide +kernel, tb1 (List.mem_of_getElem? (i := 13) rfl), by decide +kernel, by decide +kernel⟩
theorem kcX15_back_329 : px_cS mX15_back 329 mX15_round 2 := ⟨⟨mbX15_round, by decide, by decide⟩, Or.inl (tb10 (List.mem_of_getElem? (i := 47) rfl)), tb10 (List.mem_of_getElem? (i := 48) rfl)⟩
theorem mbX15_limit : px_mB mX15_limit 1 := ⟨tb10 (List.mem_of_getElem? (i := 65) rfl), by decide +kernel, tb1 (List.mem_of_getElem? (i := 13) rfl), by decide +kernel, by decide +kernel⟩
theorem kcX15_back_338 : px_cS mX15_back 338 mX15_limit 1 := ⟨⟨mbX15_limit, by decide, by decide⟩, Or.inl (tb10 (List.mem_of_getElem? (i := 63) rfl)), tb10 (List.mem_of_getElem? (i := 64) rfl)⟩
set_option maxRecDepth 100000 in
set_option maxHeartbeats 4000000 in
theorem eX15_back_196 {X : px_X} {k135 : Nat → Int32 → Int32 → Int32 → Int32 → px_W → Option (px_W)} (hk135 : ∀ (a0 : Nat) (a3 : Int32) (a4 : Int32) (a5 : Int32) (a6 : Int32) (w : px_W) (q : px_W), k135 a0 a3 a4 a5 a6 w = some q → EV X mX15_back 135 [(0, .ref a0), (3, .int a3), (4, .int a4), (5, .int a5), (6, .int a6)] [] w none q) {k144 : Nat → Int32 → Int32 → Int32 → Int32 → Int32 → px_W → Option (px_W)} (hk144 : ∀ (a0 : Nat) (a3 : Int32) (a4 : Int32) (a5 : Int32) (a6 : Int32) (a7 : Int32) (w : px_W) (q : px_W), k144 a0 a3 a4 a5 a6 a7 w = some q → EV X mX15_back 144 [(0, .ref a0), (3, .int a3), (4, .int a4), (5, .int a5), (6, .int a6), (7, .int a7)] [] w none q) : ∀ (a0 : Nat) (a3 : Int32) (a4 : Int32) (a5 : Int32) (a6 : Int32) (a7 : Int32) (a8 : Int64) (w : px_W) (q : px_W), fX15_back_196 X k135 k144 a0 a3 a4 a5 a6 a7 a8 w = some q → EV X mX15_back 196 [(0, .ref a0), (3, .int a3), (4, .int a4), (5, .int a5), (6, .int a6), (7, .int a7), (8, .long a8)] [] w none q := by
  intro a0 a3 a4 a5 a6 a7 a8 w q h
  unfold fX15_back_196 at h
  refine EV.aload_n 0 dX15_back_196 rfl rfl ?_
  obtain ⟨v21, gv21, h⟩ := px_bs h
  refine ev_gR dX15_back_197 flRX15_104 gv21 ?_
  refine EV.aload_n 0 dX15_back_200 rfl rfl ?_
  obtain ⟨v22, gv22, h⟩ := px_bs h
  refine ev_gI dX15_back_201 flRX15_333 gv22 ?_
  refine EV.iload 3 dX15_back_204 rfl ?_
  refine EV.iload 4 dX15_back_206 rfl ?_
  refine EV.iadd dX15_back_208 ?_
  refine EV.imul dX15_back_209 ?_
  refine EV.iload 2 dX15_back_210 rfl ?_
  refine EV.iadd dX15_back_212 ?_
  refine EV.iload 5 dX15_back_213 rfl ?_
  refine EV.iadd dX15_back_215 ?_
  refine EV.lload 6 dX15_back_216 rfl ?_
  refine EV.bipush (17) dX15_back_218 (by decide) ?_
  obtain ⟨q23, gq23, h⟩ := px_bs h
  refine EV.callS (As := [.long a8, .int 17]) (rest := [.int (((v22 * (a5 + a6)) + a4) + a7), .ref v21]) dX15_back_220 kcX15_back_329 rfl (Nat.le_of_ble_eq_true rfl) (Nat.le_of_ble_eq_true rfl) (eX15_round gq23) ?_
  refine EV.ldc2 (v := 128) dX15_back_223 (tb10 (List.mem_of_getElem? (i := 62) rfl)) ?_
  refine EV.ladd dX15_back_226 ?_
  obtain ⟨q24, gq24, h⟩ := px_bs h
  refine EV.callS (As := [.long (q23.1 + 128)]) (rest := [.int (((v22 * (a5 + a6)) + a4) + a7), .ref v21]) dX15_back_227 kcX15_back_338 rfl (Nat.le_of_ble_eq_true rfl) (Nat.le_of_ble_eq_true rfl) (eX15_limit gq24) ?_
  obtain ⟨w25, gw25, h⟩ := px_bs h
  refine ev_sI dX15_back_230 gw25 ?_
  refine EV.iinc 5 (a7 + 1) [(7, .int (a7 + 1)), (0, .ref a0), (3, .int a3), (4, .int a4), (5, .int a5), (6, .int a6), (8, .long a8)] dX15_back_231 rfl rfl (by decide) rfl ?_
  refine EV.goto 144 dX15_back_234 (by decide) ?_
  refine EV.sub [1, 2, 3, 4, 5, 0] rfl ?_
  exact hk144 _ _ _ _ _ _ _ _ h
set_option maxRecDepth 100000 in
set_option maxHeartbeats 4000000 in
theorem eX15_back_156 {X : px_X} {k135 : Nat → Int32 → Int32 → Int32 → Int32 → px_W → Option (px_W)} (hk135 : ∀ (a0 : Nat) (a3 : Int32) (a4 : Int32) (a5 : Int32) (a6 : Int32) (w : px_W) (q : px_W), k135 a0 a3 a4 a5 a6 w = some q → EV X mX15_back 135 [(0, .ref a0), (3, .int a3), (4, .int a4), (5, .int a5), (6, .int a6)] [] w none q) {k144 : Nat → Int32 → Int32 → Int32 → Int32 → Int32 → px_W → Option (px_W)} (hk144 : ∀ (a0 : Nat) (a3 : Int32) (a4 : Int32) (a5 : Int32) (a6 : Int32) (a7 : Int32) (w : px_W) (q : px_W), k144 a0 a3 a4 a5 a6 a7 w = some q → EV X mX15_back 144 [(0, .ref a0), (3, .int a3), (4, .int a4), (5, .int a5), (6, .int a6), (7, .int a7)] [] w none q) : ∀ (m : Nat) (a0 : Nat) (a3 : Int32) (a4 : Int32) (a5 : Int32) (a6 : Int32) (a7 : Int32) (a8 : Int64) (a10 : Int32) (w : px_W) (q : px_W), fX15_back_156 X k135 k144 m a0 a3 a4 a5 a6 a7 a8 a10 w = some q → EV X mX15_back 156 [(0, .ref a0), (3, .int a3), (4, .int a4), (5, .int a5), (6, .int a6), (7, .int a7), (8, .long a8), (10, .int a10)] [] w none q := by
  intro m
  induction m with
  | zero => intro a0 a3 a4 a5 a6 a7 a8 a10 w q h; cases h
  | succ m ih =>
    intro a0 a3 a4 a5 a6 a7 a8 a10 w q h
    rw [fX15_back_156.eq_2] at h
    refine EV.iload 7 dX15_back_156 rfl ?_
    refine EV.iload_n 1 dX15_back_158 rfl rfl ?_
    refine EV.icmp_ge 196 dX15_back_159 (by decide) (fun c26 => ?_) (fun c26 => ?_)
    · rw [if_pos c26] at h
      refine EV.sub [0, 1, 2, 3, 4, 5, 6] rfl ?_
      exact eX15_back_196 hk135 hk144 _ _ _ _ _ _ _ _ _ h
    · rw [if_neg c26] at h
      refine EV.lload 6 dX15_back_162 rfl ?_
      refine EV.iload_n 1 dX15_back_164 rfl rfl ?_
      refine EV.iload 7 dX15_back_165 rfl ?_
      refine EV.iload 5 dX15_back_167 rfl ?_
      obtain ⟨q27, gq27, h⟩ := px_bs h
      refine EV.callS (As := [.int a3, .int a10, .int a7]) (rest := [.long a8]) dX15_back_169 kcX15_back_325 rfl (Nat.le_of_ble_eq_true rfl) (Nat.le_of_ble_eq_true rfl) (eX15_wave gq27) ?_
      refine EV.i2l dX15_back_172 ?_
      refine EV.aload_n 0 dX15_back_173 rfl rfl ?_
      obtain ⟨v28, gv28, h⟩ := px_bs h
      refine ev_gR dX15_back_174 flRX15_110 gv28 ?_
      refine EV.bipush (8) dX15_back_177 (by decide) ?_
      refine EV.iload 4 dX15_back_179 rfl ?_
      refine EV.imul dX15_back_181 ?_
      refine EV.iload 7 dX15_back_182 rfl ?_
      refine EV.iadd dX15_back_184 ?_
      obtain ⟨v29, gv29, h⟩ := px_bs h
      refine ev_aJ dX15_back_185 gv29 ?_
      refine EV.lmul dX15_back_186 ?_
      refine EV.ladd dX15_back_187 ?_
      refine EV.lstore [(8, .long (a8 + (q27.1.toInt64 * v29))), (0, .ref a0), (3, .int a3), (4, .int a4), (5, .int a5), (6, .int a6), (7, .int a7), (10, .int a10)] dX15_back_188 (by decide) rfl ?_
      refine EV.iinc 7 (a10 + 1) [(10, .int (a10 + 1)), (8, .long (a8 + (q27.1.toInt64 * v29))), (0, .ref a0), (3, .int a3), (4, .int a4), (5, .int a5), (6, .int a6), (7, .int a7)] dX15_back_190 rfl rfl (by decide) rfl ?_
      refine EV.goto 156 dX15_back_193 (by decide) ?_
      refine EV.sub [2, 3, 4, 5, 6, 7, 1, 0] rfl ?_
      exact ih _ _ _ _ _ _ _ _ _ _ h
set_option maxRecDepth 100000 in
set_option maxHeartbeats 4000000 in
theorem eX15_back_237 {X : px_X} {k135 : Nat → Int32 → Int32 → Int32 → Int32 → px_W → Option (px_W)} (hk135 : ∀ (a0 : Nat) (a3 : Int32) (a4 : Int32) (a5 : Int32) (a6 : Int32) (w : px_W) (q : px_W), k135 a0 a3 a4 a5 a6 w = some q → EV X mX15_back 135 [(0, .ref a0), (3, .int a3), (4, .int a4), (5, .int a5), (6, .int a6)] [] w none q) : ∀ (a0 : Nat) (a3 : Int32) (a4 : Int32) (a5 : Int32) (a6 : Int32) (w : px_W) (q : px_W), fX15_back_237 X k135 a0 a3 a4 a5 a6 w = some q → EV X mX15_back 237 [(0, .ref a0), (3, .int a3), (4, .int a4), (5, .int a5), (6, .int a6)] [] w none q := by
  intro a0 a3 a4 a5 a6 w q h
  unfold fX15_back_237 at h
  refine EV.iinc 4 (a6 + 1) [(6, .int (a6 + 1)), (0, .ref a0), (3, .int a3), (4, .int a4), (5, .int a5)] dX15_back_237 rfl rfl (by decide) rfl ?_
  refine EV.goto 135 dX15_back_240 (by decide) ?_
  refine EV.sub [1, 2, 3, 4, 0] rfl ?_
  exact hk135 _ _ _ _ _ _ _ h
set_option maxRecDepth 100000 in
set_option maxHeartbeats 4000000 in
theorem eX15_back_144 {X : px_X} {k135 : Nat → Int32 → Int32 → Int32 → Int32 → px_W → Option (px_W)} (hk135 : ∀ (a0 : Nat) (a3 : Int32) (a4 : Int32) (a5 : Int32) (a6 : Int32) (w : px_W) (q : px_W), k135 a0 a3 a4 a5 a6 w = some q → EV X mX15_back 135 [(0, .ref a0), (3, .int a3), (4, .int a4), (5, .int a5), (6, .int a6)] [] w none q) : ∀ (m : Nat) (a0 : Nat) (a3 : Int32) (a4 : Int32) (a5 : Int32) (a6 : Int32) (a7 : Int32) (w : px_W) (q : px_W), fX15_back_144 X k135 m a0 a3 a4 a5 a6 a7 w = some q → EV X mX15_back 144 [(0, .ref a0), (3, .int a3), (4, .int a4), (5, .int a5), (6, .int a6), (7, .int a7)] [] w none q := by
  intro m
  induction m with
  | zero => intro a0 a3 a4 a5 a6 a7 w q h; cases h
  | succ m ih =>
    intro a0 a3 a4 a5 a6 a7 w q h
    rw [fX15_back_144.eq_2] at h
    refine EV.iload 5 dX15_back_144 rfl ?_
    refine EV.iload_n 1 dX15_back_146 rfl rfl ?_
    refine EV.icmp_ge 237 dX15_back_147 (by decide) (fun c30 => ?_) (fun c30 => ?_)
    · rw [if_pos c30] at h
      refine EV.sub [0, 1, 2, 3, 4] rfl ?_
      exact eX15_back_237 hk135 _ _ _ _ _ _ _ h
    · rw [if_neg c30] at h
      refine EV.lconst (0) dX15_back_150 (by decide) ?_
      refine EV.lstore [(8, .long 0), (0, .ref a0), (3, .int a3), (4, .int a4), (5, .int a5), (6, .int a6), (7, .int a7)] dX15_back_151 (by decide) rfl ?_
      refine EV.iconst (0) dX15_back_153 (by decide) ?_
      refine EV.istore [(10, .int 0), (8, .long 0), (0, .ref a0), (3, .int a3), (4, .int a4), (5, .int a5), (6, .int a6), (7, .int a7)] dX15_back_154 (by decide) rfl ?_
      refine EV.sub [2, 3, 4, 5, 6, 7, 1, 0] rfl ?_
      exact eX15_back_156 hk135 ih FU _ _ _ _ _ _ _ _ _ _ h
set_option maxRecDepth 100000 in
set_option maxHeartbeats 4000000 in
theorem eX15_back_135 {X : px_X}  : ∀ (m : Nat) (a0 : Nat) (a3 : Int32) (a4 : Int32) (a5 : Int32) (a6 : Int32) (w : px_W) (q : px_W), fX15_back_135 X  m a0 a3 a4 a5 a6 w = some q → EV X mX15_back 135 [(0, .ref a0), (3, .int a3), (4, .int a4), (5, .int a5), (6, .int a6)] [] w none q := by
  intro m
  induction m with
  | zero => intro a0 a3 a4 a5 a6 w q h; cases h
  | succ m ih =>
    intro a0 a3 a4 a5 a6 w q h
    rw [fX15_back_135.eq_2] at h
    refine EV.iload 4 dX15_back_135 rfl ?_
    refine EV.iload_n 1 dX15_back_137 rfl rfl ?_
    refine EV.icmp_ge 243 dX15_back_138 (by decide) (fun c31 => ?_) (fun c31 => ?_)
    · rw [if_pos c31] at h
      cases h
      exact EV.ret0 dX15_back_243 trivial
    · rw [if_neg c31] at h
      refine EV.iconst (0) dX15_back_141 (by decide) ?_
      refine EV.istore [(7, .int 0), (0, .ref a0), (3, .int a3), (4, .int a4), (5, .int a5), (6, .int a6)] dX15_back_142 (by decide) rfl ?_
      refine EV.sub [1, 2, 3, 4, 5, 0] rfl ?_
      exact eX15_back_144 ih FU _ _ _ _ _ _ _ _ h
set_option maxRecDepth 100000 in
set_option maxHeartbeats 4000000 in
theorem eX15_back_132 {X : px_X}  : ∀ (a0 : Nat) (a3 : Int32) (a4 : Int32) (a5 : Int32) (w : px_W) (q : px_W), fX15_back_132 X  a0 a3 a4 a5 w = some q → EV X mX15_back 132 [(0, .ref a0), (3, .int a3), (4, .int a4), (5, .int a5)] [] w none q := by
  intro a0 a3 a4 a5 w q h
  unfold fX15_back_132 at h
  refine EV.iconst (0) dX15_back_132 (by decide) ?_
  refine EV.istore [(6, .int 0), (0, .ref a0), (3, .int a3), (4, .int a4), (5, .int a5)] dX15_back_133 (by decide) rfl ?_
  refine EV.sub [1, 2, 3, 4, 0] rfl ?_
  exact eX15_back_135  FU _ _ _ _ _ _ _ h
set_option maxRecDepth 100000 in
set_option maxHeartbeats 4000000 in
theorem eX15_back_100 {X : px_X} {k3 : Nat → Int32 → Int32 → Int32 → Int32 → Int32 → Int32 → px_W → Option (px_W)} (hk3 : ∀ (a0 : Nat) (a1 : Int32) (a2 : Int32) (a3 : Int32) (a4 : Int32) (a5 : Int32) (a6 : Int32) (w : px_W) (q : px_W), k3 a0 a1 a2 a3 a4 a5 a6 w = some q → EV X mX15_back 3 [(0, .ref a0), (1, .int a1), (2, .int a2), (3, .int a3), (4, .int a4), (5, .int a5), (6, .int a6)] [] w none q) {k12 : Nat → Int32 → Int32 → Int32 → Int32 → Int32 → Int32 → Int32 → px_W → Option (px_W)} (hk12 : ∀ (a0 : Nat) (a1 : Int32) (a2 : Int32) (a3 : Int32) (a4 : Int32) (a5 : Int32) (a6 : Int32) (a7 : Int32) (w : px_W) (q : px_W), k12 a0 a1 a2 a3 a4 a5 a6 a7 w = some q → EV X mX15_back 12 [(0, .ref a0), (1, .int a1), (2, .int a2), (3, .int a3), (4, .int a4), (5, .int a5), (6, .int a6), (7, .int a7)] [] w none q) : ∀ (a0 : Nat) (a1 : Int32) (a2 : Int32) (a3 : Int32) (a4 : Int32) (a5 : Int32) (a6 : Int32) (a7 : Int32) (a8 : Int64) (w : px_W) (q : px_W), fX15_back_100 X k3 k12 a0 a1 a2 a3 a4 a5 a6 a7 a8 w = some q → EV X mX15_back 100 [(0, .ref a0), (1, .int a1), (2, .int a2), (3, .int a3), (4, .int a4), (5, .int a5), (6, .int a6), (7, .int a7), (8, .long a8)] [] w none q := by
  intro a0 a1 a2 a3 a4 a5 a6 a7 a8 w q h
  unfold fX15_back_100 at h
  refine EV.aload_n 0 dX15_back_100 rfl rfl ?_
  obtain ⟨v32, gv32, h⟩ := px_bs h
  refine ev_gR dX15_back_101 flRX15_110 gv32 ?_
  refine EV.bipush (8) dX15_back_104 (by decide) ?_
  refine EV.iload 6 dX15_back_106 rfl ?_
  refine EV.imul dX15_back_108 ?_
  refine EV.iload 7 dX15_back_109 rfl ?_
  refine EV.iadd dX15_back_111 ?_
  refine EV.lload 8 dX15_back_112 rfl ?_
  refine EV.bipush (11) dX15_back_114 (by decide) ?_
  obtain ⟨q33, gq33, h⟩ := px_bs h
  refine EV.callS (As := [.long a8, .int 11]) (rest := [.int ((8 * a6) + a7), .ref v32]) dX15_back_116 kcX15_back_329 rfl (Nat.le_of_ble_eq_true rfl) (Nat.le_of_ble_eq_true rfl) (eX15_round gq33) ?_
  obtain ⟨w34, gw34, h⟩ := px_bs h
  refine ev_sJ dX15_back_119 gw34 ?_
  refine EV.iinc 7 (a7 + 1) [(7, .int (a7 + 1)), (0, .ref a0), (1, .int a1), (2, .int a2), (3, .int a3), (4, .int a4), (5, .int a5), (6, .int a6), (8, .long a8)] dX15_back_120 rfl rfl (by decide) rfl ?_
  refine EV.goto 12 dX15_back_123 (by decide) ?_
  refine EV.sub [1, 2, 3, 4, 5, 6, 7, 0] rfl ?_
  exact hk12 _ _ _ _ _ _ _ _ _ _ h
set_option maxRecDepth 100000 in
set_option maxHeartbeats 4000000 in
theorem eX15_back_24 {X : px_X} {k3 : Nat → Int32 → Int32 → Int32 → Int32 → Int32 → Int32 → px_W → Option (px_W)} (hk3 : ∀ (a0 : Nat) (a1 : Int32) (a2 : Int32) (a3 : Int32) (a4 : Int32) (a5 : Int32) (a6 : Int32) (w : px_W) (q : px_W), k3 a0 a1 a2 a3 a4 a5 a6 w = some q → EV X mX15_back 3 [(0, .ref a0), (1, .int a1), (2, .int a2), (3, .int a3), (4, .int a4), (5, .int a5), (6, .int a6)] [] w none q) {k12 : Nat → Int32 → Int32 → Int32 → Int32 → Int32 → Int32 → Int32 → px_W → Option (px_W)} (hk12 : ∀ (a0 : Nat) (a1 : Int32) (a2 : Int32) (a3 : Int32) (a4 : Int32) (a5 : Int32) (a6 : Int32) (a7 : Int32) (w : px_W) (q : px_W), k12 a0 a1 a2 a3 a4 a5 a6 a7 w = some q → EV X mX15_back 12 [(0, .ref a0), (1, .int a1), (2, .int a2), (3, .int a3), (4, .int a4), (5, .int a5), (6, .int a6), (7, .int a7)] [] w none q) : ∀ (m : Nat) (a0 : Nat) (a1 : Int32) (a2 : Int32) (a3 : Int32) (a4 : Int32) (a5 : Int32) (a6 : Int32) (a7 : Int32) (a8 : Int64) (a10 : Int32) (w : px_W) (q : px_W), fX15_back_24 X k3 k12 m a0 a1 a2 a3 a4 a5 a6 a7 a8 a10 w = some q → EV X mX15_back 24 [(0, .ref a0), (1, .int a1), (2, .int a2), (3, .int a3), (4, .int a4), (5, .int a5), (6, .int a6), (7, .int a7), (8, .long a8), (10, .int a10)] [] w none q := by
  intro m
  induction m with
  | zero => intro a0 a1 a2 a3 a4 a5 a6 a7 a8 a10 w q h; cases h
  | succ m ih =>
    intro a0 a1 a2 a3 a4 a5 a6 a7 a8 a10 w q h
    rw [fX15_back_24.eq_2] at h
    refine EV.iload 9 dX15_back_24 rfl ?_
    refine EV.iload_n 3 dX15_back_26 rfl rfl ?_
    refine EV.icmp_ge 100 dX15_back_27 (by decide) (fun c35 => ?_) (fun c35 => ?_)
    · rw [if_pos c35] at h
      refine EV.sub [0, 1, 2, 3, 4, 5, 6, 7, 8] rfl ?_
      exact eX15_back_100 hk3 hk12 _ _ _ _ _ _ _ _ _ _ _ h
    · rw [if_neg c35] at h
      refine EV.aload_n 0 dX15_back_30 rfl rfl ?_
      obtain ⟨v36, gv36, h⟩ := px_bs h
      refine ev_gR dX15_back_31 flRX15_92 gv36 ?_
      refine EV.bipush (8) dX15_back_34 (by decide) ?_
      refine EV.iload 9 dX15_back_36 rfl ?_
      refine EV.imul dX15_back_38 ?_
      refine EV.iload 7 dX15_back_39 rfl ?_
      refine EV.iadd dX15_back_41 ?_
      obtain ⟨v37, gv37, h⟩ := px_bs h
      refine ev_aI dX15_back_42 gv37 ?_
      refine EV.istore [(11, .int v37), (0, .ref a0), (1, .int a1), (2, .int a2), (3, .int a3), (4, .int a4), (5, .int a5), (6, .int a6), (7, .int a7), (8, .long a8), (10, .int a10)] dX15_back_43 (by decide) rfl ?_
      refine EV.lload 9 dX15_back_45 rfl ?_
      refine EV.iload_n 4 dX15_back_47 rfl rfl ?_
      refine EV.iload 10 dX15_back_48 rfl ?_
      refine EV.iload 7 dX15_back_50 rfl ?_
      obtain ⟨q38, gq38, h⟩ := px_bs h
      refine EV.callS (As := [.int a3, .int a10, .int a6]) (rest := [.long a8]) dX15_back_52 kcX15_back_325 rfl (Nat.le_of_ble_eq_true rfl) (Nat.le_of_ble_eq_true rfl) (eX15_wave gq38) ?_
      refine EV.i2l dX15_back_55 ?_
      refine EV.aload_n 1 dX15_back_56 rfl rfl ?_
      obtain ⟨v39, gv39, h⟩ := px_bs h
      refine ev_gR dX15_back_57 flRX15_70 gv39 ?_
      refine EV.bipush (64) dX15_back_60 (by decide) ?_
      refine EV.aload_n 1 dX15_back_62 rfl rfl ?_
      obtain ⟨v40, gv40, h⟩ := px_bs h
      refine ev_gR dX15_back_63 flRX15_64 gv40 ?_
      refine EV.iload_n 2 dX15_back_66 rfl rfl ?_
      obtain ⟨v41, gv41, h⟩ := px_bs h
      refine ev_aI dX15_back_67 gv41 ?_
      refine EV.iload_n 3 dX15_back_68 rfl rfl ?_
      refine EV.iadd dX15_back_69 ?_
      refine EV.imul dX15_back_70 ?_
      refine EV.iload 0 dX15_back_71 rfl ?_
      refine EV.iadd dX15_back_73 ?_
      obtain ⟨v42, gv42, h⟩ := px_bs h
      refine ev_aS dX15_back_74 gv42 ?_
      refine EV.i2l dX15_back_75 ?_
      refine EV.lmul dX15_back_76 ?_
      refine EV.aload_n 1 dX15_back_77 rfl rfl ?_
      obtain ⟨v43, gv43, h⟩ := px_bs h
      refine ev_gR dX15_back_78 flRX15_67 gv43 ?_
      refine EV.bipush (64) dX15_back_81 (by decide) ?_
      refine EV.iload_n 2 dX15_back_83 rfl rfl ?_
      refine EV.imul dX15_back_84 ?_
      refine EV.iload 0 dX15_back_85 rfl ?_
      refine EV.iadd dX15_back_87 ?_
      obtain ⟨v44, gv44, h⟩ := px_bs h
      refine ev_aI dX15_back_88 gv44 ?_
      refine EV.i2l dX15_back_89 ?_
      refine EV.lmul dX15_back_90 ?_
      refine EV.ladd dX15_back_91 ?_
      refine EV.lstore [(8, .long (a8 + ((q38.1.toInt64 * v42.toInt64) * v44.toInt64))), (11, .int v37), (0, .ref a0), (1, .int a1), (2, .int a2), (3, .int a3), (4, .int a4), (5, .int a5), (6, .int a6), (7, .int a7), (10, .int a10)] dX15_back_92 (by decide) rfl ?_
      refine EV.iinc 10 (a10 + 1) [(10, .int (a10 + 1)), (8, .long (a8 + ((q38.1.toInt64 * v42.toInt64) * v44.toInt64))), (11, .int v37), (0, .ref a0), (1, .int a1), (2, .int a2), (3, .int a3), (4, .int a4), (5, .int a5), (6, .int a6), (7, .int a7)] dX15_back_94 rfl rfl (by decide) rfl ?_
      refine EV.goto 24 dX15_back_97 (by decide) ?_
      refine EV.sub [3, 4, 5, 6, 7, 8, 9, 10, 1, 0] rfl ?_
      exact ih _ _ _ _ _ _ _ _ _ _ _ _ h
set_option maxRecDepth 100000 in
set_option maxHeartbeats 4000000 in
theorem eX15_back_126 {X : px_X} {k3 : Nat → Int32 → Int32 → Int32 → Int32 → Int32 → Int32 → px_W → Option (px_W)} (hk3 : ∀ (a0 : Nat) (a1 : Int32) (a2 : Int32) (a3 : Int32) (a4 : Int32) (a5 : Int32) (a6 : Int32) (w : px_W) (q : px_W), k3 a0 a1 a2 a3 a4 a5 a6 w = some q → EV X mX15_back 3 [(0, .ref a0), (1, .int a1), (2, .int a2), (3, .int a3), (4, .int a4), (5, .int a5), (6, .int a6)] [] w none q) : ∀ (a0 : Nat) (a1 : Int32) (a2 : Int32) (a3 : Int32) (a4 : Int32) (a5 : Int32) (a6 : Int32) (w : px_W) (q : px_W), fX15_back_126 X k3 a0 a1 a2 a3 a4 a5 a6 w = some q → EV X mX15_back 126 [(0, .ref a0), (1, .int a1), (2, .int a2), (3, .int a3), (4, .int a4), (5, .int a5), (6, .int a6)] [] w none q := by
  intro a0 a1 a2 a3 a4 a5 a6 w q h
  unfold fX15_back_126 at h
  refine EV.iinc 6 (a6 + 1) [(6, .int (a6 + 1)), (0, .ref a0), (1, .int a1), (2, .int a2), (3, .int a3), (4, .int a4), (5, .int a5)] dX15_back_126 rfl rfl (by decide) rfl ?_
  refine EV.goto 3 dX15_back_129 (by decide) ?_
  refine EV.sub [1, 2, 3, 4, 5, 6, 0] rfl ?_
  exact hk3 _ _ _ _ _ _ _ _ _ h
set_option maxRecDepth 100000 in
set_option maxHeartbeats 4000000 in
theorem eX15_back_12 {X : px_X} {k3 : Nat → Int32 → Int32 → Int32 → Int32 → Int32 → Int32 → px_W → Option (px_W)} (hk3 : ∀ (a0 : Nat) (a1 : Int32) (a2 : Int32) (a3 : Int32) (a4 : Int32) (a5 : Int32) (a6 : Int32) (w : px_W) (q : px_W), k3 a0 a1 a2 a3 a4 a5 a6 w = some q → EV X mX15_back 3 [(0, .ref a0), (1, .int a1), (2, .int a2), (3, .int a3), (4, .int a4), (5, .int a5), (6, .int a6)] [] w none q) : ∀ (m : Nat) (a0 : Nat) (a1 : Int32) (a2 : Int32) (a3 : Int32) (a4 : Int32) (a5 : Int32) (a6 : Int32) (a7 : Int32) (w : px_W) (q : px_W), fX15_back_12 X k3 m a0 a1 a2 a3 a4 a5 a6 a7 w = some q → EV X mX15_back 12 [(0, .ref a0), (1, .int a1), (2, .int a2), (3, .int a3), (4, .int a4), (5, .int a5), (6, .int a6), (7, .int a7)] [] w none q := by
  intro m
  induction m with
  | zero => intro a0 a1 a2 a3 a4 a5 a6 a7 w q h; cases h
  | succ m ih =>
    intro a0 a1 a2 a3 a4 a5 a6 a7 w q h
    rw [fX15_back_12.eq_2] at h
    refine EV.iload 7 dX15_back_12 rfl ?_
    refine EV.iload_n 3 dX15_back_14 rfl rfl ?_
    refine EV.icmp_ge 126 dX15_back_15 (by decide) (fun c45 => ?_) (fun c45 => ?_)
    · rw [if_pos c45] at h
      refine EV.sub [0, 1, 2, 3, 4, 5, 6] rfl ?_
      exact eX15_back_126 hk3 _ _ _ _ _ _ _ _ _ h
    · rw [if_neg c45] at h
      refine EV.lconst (0) dX15_back_18 (by decide) ?_
      refine EV.lstore [(8, .long 0), (0, .ref a0), (1, .int a1), (2, .int a2), (3, .int a3), (4, .int a4), (5, .int a5), (6, .int a6), (7, .int a7)] dX15_back_19 (by decide) rfl ?_
      refine EV.iconst (0) dX15_back_21 (by decide) ?_
      refine EV.istore [(10, .int 0), (8, .long 0), (0, .ref a0), (1, .int a1), (2, .int a2), (3, .int a3), (4, .int a4), (5, .int a5), (6, .int a6), (7, .int a7)] dX15_back_22 (by decide) rfl ?_
      refine EV.sub [2, 3, 4, 5, 6, 7, 8, 9, 1, 0] rfl ?_
      exact eX15_back_24 hk3 ih FU _ _ _ _ _ _ _ _ _ _ _ _ h
set_option maxRecDepth 100000 in
set_option maxHeartbeats 4000000 in
theorem eX15_back_3 {X : px_X}  : ∀ (m : Nat) (a0 : Nat) (a1 : Int32) (a2 : Int32) (a3 : Int32) (a4 : Int32) (a5 : Int32) (a6 : Int32) (w : px_W) (q : px_W), fX15_back_3 X  m a0 a1 a2 a3 a4 a5 a6 w = some q → EV X mX15_back 3 [(0, .ref a0), (1, .int a1), (2, .int a2), (3, .int a3), (4, .int a4), (5, .int a5), (6, .int a6)] [] w none q := by
  intro m
  induction m with
  | zero => intro a0 a1 a2 a3 a4 a5 a6 w q h; cases h
  | succ m ih =>
    intro a0 a1 a2 a3 a4 a5 a6 w q h
    rw [fX15_back_3.eq_2] at h
    refine EV.iload 6 dX15_back_3 rfl ?_
    refine EV.iload_n 3 dX15_back_5 rfl rfl ?_
    refine EV.icmp_ge 132 dX15_back_6 (by decide) (fun c46 => ?_) (fun c46 => ?_)
    · rw [if_pos c46] at h
      refine EV.sub [0, 3, 4, 5] rfl ?_
      exact eX15_back_132  _ _ _ _ _ _ h
    · rw [if_neg c46] at h
      refine EV.iconst (0) dX15_back_9 (by decide) ?_
      refine EV.istore [(7, .int 0), (0, .ref a0), (1, .int a1), (2, .int a2), (3, .int a3), (4, .int a4), (5, .int a5), (6, .int a6)] dX15_back_10 (by decide) rfl ?_
      refine EV.sub [1, 2, 3, 4, 5, 6, 7, 0] rfl ?_
      exact eX15_back_12 ih FU _ _ _ _ _ _ _ _ _ _ h
set_option maxRecDepth 100000 in
set_option maxHeartbeats 4000000 in
theorem eX15_back {X : px_X} {w : px_W} {a0 : Nat} {a1 : Int32} {a2 : Int32} {a3 : Int32} {a4 : Int32} {a5 : Int32} {q : px_W} (h : fX15_back X w a0 a1 a2 a3 a4 a5 = some q) : EV X mX15_back 0 (lv_args 0 [.ref a0, .int a1, .int a2, .int a3, .int a4, .int a5]) [] w none q := by
  unfold fX15_back at h
  show EV X mX15_back 0 [(0, .ref a0), (1, .int a1), (2, .int a2), (3, .int a3), (4, .int a4), (5, .int a5)] [] w none q
  refine EV.iconst (0) dX15_back_0 (by decide) ?_
  refine EV.istore [(6, .int 0), (0, .ref a0), (1, .int a1), (2, .int a2), (3, .int a3), (4, .int a4), (5, .int a5)] dX15_back_1 (by decide) rfl ?_
  refine EV.sub [1, 2, 3, 4, 5, 6, 0] rfl ?_
  exact eX15_back_3  FU _ _ _ _ _ _ _ _ _ h
/-! WavePicturesModel.forward(IIII)V -/
theorem dX15_forward_0 : decode cX15_forward 0 = .ok (.iconst 0, 1) := by decide +kernel
theorem dX15_forward_1 : decode cX15_forward 1 = .ok (.istore 5, 2) := by decide +kernel
theorem dX15_forward_3 : decode cX15_forward 3 = .ok (.iload 5, 2) := by decide +kernel
theorem dX15_forward_5 : decode cX15_forward 5 = .ok (.bipush 8, 2) := by decide +kernel
theorem dX15_forward_7 : decode cX15_forward 7 = .ok (.if_icmp .ge 105, 3) := by decide +kernel
theorem dX15_forward_10 : decode cX15_forward 10 = .ok (.iconst 0, 1) := by decide +kernel
theorem dX15_forward_11 : decode cX15_forward 11 = .ok (.istore 6, 2) := by decide +kernel
theorem dX15_forward_13 : decode cX15_forward 13 = .ok (.iload 6, 2) := by decide +kernel
theorem dX15_forward_15 : decode cX15_forward 15 = .ok (.bipush 8, 2) := by decide +kernel
theorem dX15_forward_17 : decode cX15_forward 17 = .ok (.if_icmp .ge 89, 3) := by decide +kernel
theorem dX15_forward_20 : decode cX15_forward 20 = .ok (.lconst 0, 1) := by decide +kernel
theorem dX15_forward_21 : decode cX15_forward 21 = .ok (.lstore 7, 2) := by decide +kernel
theorem dX15_forward_23 : decode cX15_forward 23 = .ok (.iconst 0, 1) := by decide +kernel
theorem dX15_forward_24 : decode cX15_forward 24 = .ok (.istore 9, 2) := by decide +kernel
theorem dX15_forward_26 : decode cX15_forward 26 = .ok (.iload 9, 2) := by decide +kernel
theorem dX15_forward_28 : decode cX15_forward 28 = .ok (.bipush 8, 2) := by decide +kernel
theorem dX15_forward_30 : decode cX15_forward 30 = .ok (.if_icmp .ge 50, 3) := by decide +kernel
theorem dX15_forward_33 : decode cX15_forward 33 = .ok (.lload 7, 2) := by decide +kernel
theorem dX15_forward_35 : decode cX15_forward 35 = .ok (.bipush 8, 2) := by decide +kernel
theorem dX15_forward_37 : decode cX15_forward 37 = .ok (.iload 5, 2) := by decide +kernel
theorem dX15_forward_39 : decode cX15_forward 39 = .ok (.iload 9, 2) := by decide +kernel
theorem dX15_forward_41 : decode cX15_forward 41 = .ok (.invokestatic 325, 3) := by decide +kernel
theorem dX15_forward_44 : decode cX15_forward 44 = .ok (.i2l, 1) := by decide +kernel
theorem dX15_forward_45 : decode cX15_forward 45 = .ok (.aload_n 0, 1) := by decide +kernel
theorem dX15_forward_46 : decode cX15_forward 46 = .ok (.getfield 104, 3) := by decide +kernel
theorem dX15_forward_49 : decode cX15_forward 49 = .ok (.aload_n 0, 1) := by decide +kernel
theorem dX15_forward_50 : decode cX15_forward 50 = .ok (.getfield 333, 3) := by decide +kernel
theorem dX15_forward_53 : decode cX15_forward 53 = .ok (.iload 4, 2) := by decide +kernel
theorem dX15_forward_55 : decode cX15_forward 55 = .ok (.iload 9, 2) := by decide +kernel
theorem dX15_forward_57 : decode cX15_forward 57 = .ok (.iadd, 1) := by decide +kernel
theorem dX15_forward_58 : decode cX15_forward 58 = .ok (.imul, 1) := by decide +kernel
theorem dX15_forward_59 : decode cX15_forward 59 = .ok (.iload_n 3, 1) := by decide +kernel
theorem dX15_forward_60 : decode cX15_forward 60 = .ok (.iadd, 1) := by decide +kernel
theorem dX15_forward_61 : decode cX15_forward 61 = .ok (.iload 6, 2) := by decide +kernel
theorem dX15_forward_63 : decode cX15_forward 63 = .ok (.iadd, 1) := by decide +kernel
theorem dX15_forward_64 : decode cX15_forward 64 = .ok (.iaload, 1) := by decide +kernel
theorem dX15_forward_65 : decode cX15_forward 65 = .ok (.sipush 128, 3) := by decide +kernel
theorem dX15_forward_68 : decode cX15_forward 68 = .ok (.isub, 1) := by decide +kernel
theorem dX15_forward_69 : decode cX15_forward 69 = .ok (.i2l, 1) := by decide +kernel
theorem dX15_forward_70 : decode cX15_forward 70 = .ok (.lmul, 1) := by decide +kernel
theorem dX15_forward_71 : decode cX15_forward 71 = .ok (.ladd, 1) := by decide +kernel
theorem dX15_forward_72 : decode cX15_forward 72 = .ok (.lstore 7, 2) := by decide +kernel
theorem dX15_forward_74 : decode cX15_forward 74 = .ok (.iinc 9 1, 3) := by decide +kernel
theorem dX15_forward_77 : decode cX15_forward 77 = .ok (.goto (-51), 3) := by decide +kernel
theorem dX15_forward_80 : decode cX15_forward 80 = .ok (.aload_n 0, 1) := by decide +kernel
theorem dX15_forward_81 : decode cX15_forward 81 = .ok (.getfield 110, 3) := by decide +kernel
theorem dX15_forward_84 : decode cX15_forward 84 = .ok (.bipush 8, 2) := by decide +kernel
theorem dX15_forward_86 : decode cX15_forward 86 = .ok (.iload 5, 2) := by decide +kernel
theorem dX15_forward_88 : decode cX15_forward 88 = .ok (.imul, 1) := by decide +kernel
theorem dX15_forward_89 : decode cX15_forward 89 = .ok (.iload 6, 2) := by decide +kernel
theorem dX15_forward_91 : decode cX15_forward 91 = .ok (.iadd, 1) := by decide +kernel
theorem dX15_forward_92 : decode cX15_forward 92 = .ok (.lload 7, 2) := by decide +kernel
theorem dX15_forward_94 : decode cX15_forward 94 = .ok (.bipush 11, 2) := by decide +kernel
theorem dX15_forward_96 : decode cX15_forward 96 = .ok (.invokestatic 329, 3) := by decide +kernel
theorem dX15_forward_99 : decode cX15_forward 99 = .ok (.lastore, 1) := by decide +kernel
theorem dX15_forward_100 : decode cX15_forward 100 = .ok (.iinc 6 1, 3) := by decide +kernel
theorem dX15_forward_103 : decode cX15_forward 103 = .ok (.goto (-90), 3) := by decide +kernel
theorem dX15_forward_106 : decode cX15_forward 106 = .ok (.iinc 5 1, 3) := by decide +kernel
theorem dX15_forward_109 : decode cX15_forward 109 = .ok (.goto (-106), 3) := by decide +kernel
theorem dX15_forward_112 : decode cX15_forward 112 = .ok (.iconst 0, 1) := by decide +kernel
theorem dX15_forward_113 : decode cX15_forward 113 = .ok (.istore 5, 2) := by decide +kernel
theorem dX15_forward_115 : decode cX15_forward 115 = .ok (.iload 5, 2) := by decide +kernel
theorem dX15_forward_117 : decode cX15_forward 117 = .ok (.bipush 8, 2) := by decide +kernel
theorem dX15_forward_119 : decode cX15_forward 119 = .ok (.if_icmp .ge 228, 3) := by decide +kernel
theorem dX15_forward_122 : decode cX15_forward 122 = .ok (.iconst 0, 1) := by decide +kernel
theorem dX15_forward_123 : decode cX15_forward 123 = .ok (.istore 6, 2) := by decide +kernel
theorem dX15_forward_125 : decode cX15_forward 125 = .ok (.iload 6, 2) := by decide +kernel
theorem dX15_forward_127 : decode cX15_forward 127 = .ok (.bipush 8, 2) := by decide +kernel
theorem dX15_forward_129 : decode cX15_forward 129 = .ok (.if_icmp .ge 212, 3) := by decide +kernel
theorem dX15_forward_132 : decode cX15_forward 132 = .ok (.lconst 0, 1) := by decide +kernel
theorem dX15_forward_133 : decode cX15_forward 133 = .ok (.lstore 7, 2) := by decide +kernel
theorem dX15_forward_135 : decode cX15_forward 135 = .ok (.iconst 0, 1) := by decide +kernel
theorem dX15_forward_136 : decode cX15_forward 136 = .ok (.istore 9, 2) := by decide +kernel
theorem dX15_forward_138 : decode cX15_forward 138 = .ok (.iload 9, 2) := by decide +kernel
theorem dX15_forward_140 : decode cX15_forward 140 = .ok (.bipush 8, 2) := by decide +kernel
theorem dX15_forward_142 : decode cX15_forward 142 = .ok (.if_icmp .ge 38, 3) := by decide +kernel
theorem dX15_forward_145 : decode cX15_forward 145 = .ok (.lload 7, 2) := by decide +kernel
theorem dX15_forward_147 : decode cX15_forward 147 = .ok (.bipush 8, 2) := by decide +kernel
theorem dX15_forward_149 : decode cX15_forward 149 = .ok (.iload 6, 2) := by decide +kernel
theorem dX15_forward_151 : decode cX15_forward 151 = .ok (.iload 9, 2) := by decide +kernel
theorem dX15_forward_153 : decode cX15_forward 153 = .ok (.invokestatic 325, 3) := by decide +kernel
theorem dX15_forward_156 : decode cX15_forward 156 = .ok (.i2l, 1) := by decide +kernel
theorem dX15_forward_157 : decode cX15_forward 157 = .ok (.aload_n 0, 1) := by decide +kernel
theorem dX15_forward_158 : decode cX15_forward 158 = .ok (.getfield 110, 3) := by decide +kernel
theorem dX15_forward_161 : decode cX15_forward 161 = .ok (.bipush 8, 2) := by decide +kernel
theorem dX15_forward_163 : decode cX15_forward 163 = .ok (.iload 5, 2) := by decide +kernel
theorem dX15_forward_165 : decode cX15_forward 165 = .ok (.imul, 1) := by decide +kernel
theorem dX15_forward_166 : decode cX15_forward 166 = .ok (.iload 9, 2) := by decide +kernel
theorem dX15_forward_168 : decode cX15_forward 168 = .ok (.iadd, 1) := by decide +kernel
theorem dX15_forward_169 : decode cX15_forward 169 = .ok (.laload, 1) := by decide +kernel
theorem dX15_forward_170 : decode cX15_forward 170 = .ok (.lmul, 1) := by decide +kernel
theorem dX15_forward_171 : decode cX15_forward 171 = .ok (.ladd, 1) := by decide +kernel
theorem dX15_forward_172 : decode cX15_forward 172 = .ok (.lstore 7, 2) := by decide +kernel
theorem dX15_forward_174 : decode cX15_forward 174 = .ok (.iinc 9 1, 3) := by decide +kernel
theorem dX15_forward_177 : decode cX15_forward 177 = .ok (.goto (-39), 3) := by decide +kernel
theorem dX15_forward_180 : decode cX15_forward 180 = .ok (.aload_n 0, 1) := by decide +kernel
theorem dX15_forward_181 : decode cX15_forward 181 = .ok (.getfield 92, 3) := by decide +kernel
theorem dX15_forward_184 : decode cX15_forward 184 = .ok (.bipush 8, 2) := by decide +kernel
theorem dX15_forward_186 : decode cX15_forward 186 = .ok (.iload 5, 2) := by decide +kernel
theorem dX15_forward_188 : decode cX15_forward 188 = .ok (.imul, 1) := by decide +kernel
theorem dX15_forward_189 : decode cX15_forward 189 = .ok (.iload 6, 2) := by decide +kernel
theorem dX15_forward_191 : decode cX15_forward 191 = .ok (.iadd, 1) := by decide +kernel
theorem dX15_forward_192 : decode cX15_forward 192 = .ok (.iaload, 1) := by decide +kernel
theorem dX15_forward_193 : decode cX15_forward 193 = .ok (.istore 9, 2) := by decide +kernel
theorem dX15_forward_195 : decode cX15_forward 195 = .ok (.lload 7, 2) := by decide +kernel
theorem dX15_forward_197 : decode cX15_forward 197 = .ok (.bipush 17, 2) := by decide +kernel
theorem dX15_forward_199 : decode cX15_forward 199 = .ok (.invokestatic 329, 3) := by decide +kernel
theorem dX15_forward_202 : decode cX15_forward 202 = .ok (.lstore 10, 2) := by decide +kernel
theorem dX15_forward_204 : decode cX15_forward 204 = .ok (.aload_n 0, 1) := by decide +kernel
theorem dX15_forward_205 : decode cX15_forward 205 = .ok (.getfield 67, 3) := by decide +kernel
theorem dX15_forward_208 : decode cX15_forward 208 = .ok (.bipush 64, 2) := by decide +kernel
theorem dX15_forward_210 : decode cX15_forward 210 = .ok (.iload_n 1, 1) := by decide +kernel
theorem dX15_forward_211 : decode cX15_forward 211 = .ok (.imul, 1) := by decide +kernel
theorem dX15_forward_212 : decode cX15_forward 212 = .ok (.iload 9, 2) := by decide +kernel
theorem dX15_forward_214 : decode cX15_forward 214 = .ok (.iadd, 1) := by decide +kernel
theorem dX15_forward_215 : decode cX15_forward 215 = .ok (.iaload, 1) := by decide +kernel
theorem dX15_forward_216 : decode cX15_forward 216 = .ok (.istore 12, 2) := by decide +kernel
theorem dX15_forward_218 : decode cX15_forward 218 = .ok (.lload 10, 2) := by decide +kernel
theorem dX15_forward_220 : decode cX15_forward 220 = .ok (.lconst 0, 1) := by decide +kernel
theorem dX15_forward_221 : decode cX15_forward 221 = .ok (.lcmp, 1) := by decide +kernel
theorem dX15_forward_222 : decode cX15_forward 222 = .ok (.ifCond .ge 9, 3) := by decide +kernel
theorem dX15_forward_225 : decode cX15_forward 225 = .ok (.lload 10, 2) := by decide +kernel
theorem dX15_forward_227 : decode cX15_forward 227 = .ok (.lneg, 1) := by decide +kernel
theorem dX15_forward_228 : decode cX15_forward 228 = .ok (.goto 5, 3) := by decide +kernel
theorem dX15_forward_231 : decode cX15_forward 231 = .ok (.lload 10, 2) := by decide +kernel
theorem dX15_forward_233 : decode cX15_forward 233 = .ok (.ldc2_w 342, 3) := by decide +kernel
theorem dX15_forward_236 : decode cX15_forward 236 = .ok (.lmul, 1) := by decide +kernel
theorem dX15_forward_237 : decode cX15_forward 237 = .ok (.iload 12, 2) := by decide +kernel
theorem dX15_forward_239 : decode cX15_forward 239 = .ok (.i2l, 1) := by decide +kernel
theorem dX15_forward_240 : decode cX15_forward 240 = .ok (.ladd, 1) := by decide +kernel
theorem dX15_forward_241 : decode cX15_forward 241 = .ok (.ldc2_w 342, 3) := by decide +kernel
theorem dX15_forward_244 : decode cX15_forward 244 = .ok (.iload 12, 2) := by decide +kernel
theorem dX15_forward_246 : decode cX15_forward 246 = .ok (.i2l, 1) := by decide +kernel
theorem dX15_forward_247 : decode cX15_forward 247 = .ok (.lmul, 1) := by decide +kernel
theorem dX15_forward_248 : decode cX15_forward 248 = .ok (.ldiv, 1) := by decide +kernel
theorem dX15_forward_249 : decode cX15_forward 249 = .ok (.lstore 13, 2) := by decide +kernel
theorem dX15_forward_251 : decode cX15_forward 251 = .ok (.lload 10, 2) := by decide +kernel
theorem dX15_forward_253 : decode cX15_forward 253 = .ok (.lconst 0, 1) := by decide +kernel
theorem dX15_forward_254 : decode cX15_forward 254 = .ok (.lcmp, 1) := by decide +kernel
theorem dX15_forward_255 : decode cX15_forward 255 = .ok (.ifCond .ge 9, 3) := by decide +kernel
theorem dX15_forward_258 : decode cX15_forward 258 = .ok (.lload 13, 2) := by decide +kernel
theorem dX15_forward_260 : decode cX15_forward 260 = .ok (.lneg, 1) := by decide +kernel
theorem dX15_forward_261 : decode cX15_forward 261 = .ok (.goto 5, 3) := by decide +kernel
theorem dX15_forward_264 : decode cX15_forward 264 = .ok (.lload 13, 2) := by decide +kernel
theorem dX15_forward_266 : decode cX15_forward 266 = .ok (.lstore 13, 2) := by decide +kernel
theorem dX15_forward_268 : decode cX15_forward 268 = .ok (.iload 9, 2) := by decide +kernel
theorem dX15_forward_270 : decode cX15_forward 270 = .ok (.ifCond .ne 9, 3) := by decide +kernel
theorem dX15_forward_273 : decode cX15_forward 273 = .ok (.ldc2_w 344, 3) := by decide +kernel
theorem dX15_forward_276 : decode cX15_forward 276 = .ok (.goto 6, 3) := by decide +kernel
theorem dX15_forward_279 : decode cX15_forward 279 = .ok (.ldc2_w 346, 3) := by decide +kernel
theorem dX15_forward_282 : decode cX15_forward 282 = .ok (.lstore 15, 2) := by decide +kernel
theorem dX15_forward_284 : decode cX15_forward 284 = .ok (.aload_n 0, 1) := by decide +kernel
theorem dX15_forward_285 : decode cX15_forward 285 = .ok (.getfield 70, 3) := by decide +kernel
theorem dX15_forward_288 : decode cX15_forward 288 = .ok (.bipush 64, 2) := by decide +kernel
theorem dX15_forward_290 : decode cX15_forward 290 = .ok (.aload_n 0, 1) := by decide +kernel
theorem dX15_forward_291 : decode cX15_forward 291 = .ok (.getfield 64, 3) := by decide +kernel
theorem dX15_forward_294 : decode cX15_forward 294 = .ok (.iload_n 1, 1) := by decide +kernel
theorem dX15_forward_295 : decode cX15_forward 295 = .ok (.iaload, 1) := by decide +kernel
theorem dX15_forward_296 : decode cX15_forward 296 = .ok (.iload_n 2, 1) := by decide +kernel
theorem dX15_forward_297 : decode cX15_forward 297 = .ok (.iadd, 1) := by decide +kernel
theorem dX15_forward_298 : decode cX15_forward 298 = .ok (.imul, 1) := by decide +kernel
theorem dX15_forward_299 : decode cX15_forward 299 = .ok (.iload 9, 2) := by decide +kernel
theorem dX15_forward_301 : decode cX15_forward 301 = .ok (.iadd, 1) := by decide +kernel
theorem dX15_forward_302 : decode cX15_forward 302 = .ok (.lload 13, 2) := by decide +kernel
theorem dX15_forward_304 : decode cX15_forward 304 = .ok (.lload 15, 2) := by decide +kernel
theorem dX15_forward_306 : decode cX15_forward 306 = .ok (.lcmp, 1) := by decide +kernel
theorem dX15_forward_307 : decode cX15_forward 307 = .ok (.ifCond .ge 8, 3) := by decide +kernel
theorem dX15_forward_310 : decode cX15_forward 310 = .ok (.lload 15, 2) := by decide +kernel
theorem dX15_forward_312 : decode cX15_forward 312 = .ok (.goto 20, 3) := by decide +kernel
theorem dX15_forward_315 : decode cX15_forward 315 = .ok (.lload 13, 2) := by decide +kernel
theorem dX15_forward_317 : decode cX15_forward 317 = .ok (.ldc2_w 348, 3) := by decide +kernel
theorem dX15_forward_320 : decode cX15_forward 320 = .ok (.lcmp, 1) := by decide +kernel
theorem dX15_forward_321 : decode cX15_forward 321 = .ok (.ifCond .le 9, 3) := by decide +kernel
theorem dX15_forward_324 : decode cX15_forward 324 = .ok (.ldc2_w 348, 3) := by decide +kernel
theorem dX15_forward_327 : decode cX15_forward 327 = .ok (.goto 5, 3) := by decide +kernel
theorem dX15_forward_330 : decode cX15_forward 330 = .ok (.lload 13, 2) := by decide +kernel
theorem dX15_forward_332 : decode cX15_forward 332 = .ok (.l2i, 1) := by decide +kernel
theorem dX15_forward_333 : decode cX15_forward 333 = .ok (.i2s, 1) := by decide +kernel
theorem dX15_forward_334 : decode cX15_forward 334 = .ok (.sastore, 1) := by decide +kernel
theorem dX15_forward_335 : decode cX15_forward 335 = .ok (.iinc 6 1, 3) := by decide +kernel
theorem dX15_forward_338 : decode cX15_forward 338 = .ok (.goto (-213), 3) := by decide +kernel
theorem dX15_forward_341 : decode cX15_forward 341 = .ok (.iinc 5 1, 3) := by decide +kernel
theorem dX15_forward_344 : decode cX15_forward 344 = .ok (.goto (-229), 3) := by decide +kernel
theorem dX15_forward_347 : decode cX15_forward 347 = .ok (.return_, 1) := by decide +kernel
theorem kcX15_forward_325 : px_cS mX15_forward 325 mX15_wave 3 := ⟨⟨mbX15_wave, by decide, by decide⟩, Or.inl (tb10 (List.mem_of_getElem? (i := 41) rfl)), tb10 (List.mem_of_getElem? (i := 42) rfl)⟩
theorem kcX15_forward_329 : px_cS mX15_forward 329 mX15_round 2 := ⟨⟨mbX15_round, by decide, by decide⟩, Or.inl (tb10 (List.mem_of_getElem? (i := 47) rfl)), tb10 (List.mem_of_getElem? (i := 48) rfl)⟩
set_option maxRecDepth 100000 in
set_option maxHeartbeats 4000000 in
theorem eX15_forward_332 {X : px_X} {k115 : Nat → Int32 → Int32 → Int32 → px_W → Option (px_W)} (hk115 : ∀ (a0 : Nat) (a1 : Int32) (a2 : Int32) (a5 : Int32) (w : px_W) (q : px_W), k115 a0 a1 a2 a5 w = some q → EV X mX15_forward 115 [(0, .ref a0), (1, .int a1), (2, .int a2), (5, .int a5)] [] w none q) {k125 : Nat → Int32 → Int32 → Int32 → Int32 → px_W → Option (px_W)} (hk125 : ∀ (a0 : Nat) (a1 : Int32) (a2 : Int32) (a5 : Int32) (a6 : Int32) (w : px_W) (q : px_W), k125 a0 a1 a2 a5 a6 w = some q → EV X mX15_forward 125 [(0, .ref a0), (1, .int a1), (2, .int a2), (5, .int a5), (6, .int a6)] [] w none q) : ∀ (a0 : Nat) (a1 : Int32) (a2 : Int32) (a5 : Int32) (a6 : Int32) (s0 : Int64) (s1 : Int32) (s2 : Nat) (w : px_W) (q : px_W), fX15_forward_332 X k115 k125 a0 a1 a2 a5 a6 s0 s1 s2 w = some q → EV X mX15_forward 332 [(0, .ref a0), (1, .int a1), (2, .int a2), (5, .int a5), (6, .int a6)] [.long s0, .int s1, .ref s2] w none q := by
  intro a0 a1 a2 a5 a6 s0 s1 s2 w q h
  unfold fX15_forward_332 at h
  refine EV.l2i dX15_forward_332 ?_
  refine EV.i2s dX15_forward_333 ?_
  obtain ⟨w21, gw21, h⟩ := px_bs h
  refine ev_sS dX15_forward_334 gw21 ?_
  refine EV.iinc 4 (a6 + 1) [(6, .int (a6 + 1)), (0, .ref a0), (1, .int a1), (2, .int a2), (5, .int a5)] dX15_forward_335 rfl rfl (by decide) rfl ?_
  refine EV.goto 125 dX15_forward_338 (by decide) ?_
  refine EV.sub [1, 2, 3, 4, 0] rfl ?_
  exact hk125 _ _ _ _ _ _ _ h
set_option maxRecDepth 100000 in
set_option maxHeartbeats 4000000 in
theorem eX15_forward_282 {X : px_X} {k115 : Nat → Int32 → Int32 → Int32 → px_W → Option (px_W)} (hk115 : ∀ (a0 : Nat) (a1 : Int32) (a2 : Int32) (a5 : Int32) (w : px_W) (q : px_W), k115 a0 a1 a2 a5 w = some q → EV X mX15_forward 115 [(0, .ref a0), (1, .int a1), (2, .int a2), (5, .int a5)] [] w none q) {k125 : Nat → Int32 → Int32 → Int32 → Int32 → px_W → Option (px_W)} (hk125 : ∀ (a0 : Nat) (a1 : Int32) (a2 : Int32) (a5 : Int32) (a6 : Int32) (w : px_W) (q : px_W), k125 a0 a1 a2 a5 a6 w = some q → EV X mX15_forward 125 [(0, .ref a0), (1, .int a1), (2, .int a2), (5, .int a5), (6, .int a6)] [] w none q) : ∀ (a0 : Nat) (a1 : Int32) (a2 : Int32) (a5 : Int32) (a6 : Int32) (a9 : Int32) (a13 : Int64) (s0 : Int64) (w : px_W) (q : px_W), fX15_forward_282 X k115 k125 a0 a1 a2 a5 a6 a9 a13 s0 w = some q → EV X mX15_forward 282 [(0, .ref a0), (1, .int a1), (2, .int a2), (5, .int a5), (6, .int a6), (9, .int a9), (13, .long a13)] [.long s0] w none q := by
  intro a0 a1 a2 a5 a6 a9 a13 s0 w q h
  unfold fX15_forward_282 at h
  refine EV.lstore [(15, .long s0), (0, .ref a0), (1, .int a1), (2, .int a2), (5, .int a5), (6, .int a6), (9, .int a9), (13, .long a13)] dX15_forward_282 (by decide) rfl ?_
  refine EV.aload_n 1 dX15_forward_284 rfl rfl ?_
  obtain ⟨v22, gv22, h⟩ := px_bs h
  refine ev_gR dX15_forward_285 flRX15_70 gv22 ?_
  refine EV.bipush (64) dX15_forward_288 (by decide) ?_
  refine EV.aload_n 1 dX15_forward_290 rfl rfl ?_
  obtain ⟨v23, gv23, h⟩ := px_bs h
  refine ev_gR dX15_forward_291 flRX15_64 gv23 ?_
  refine EV.iload_n 2 dX15_forward_294 rfl rfl ?_
  obtain ⟨v24, gv24, h⟩ := px_bs h
  refine ev_aI dX15_forward_295 gv24 ?_
  refine EV.iload_n 3 dX15_forward_296 rfl rfl ?_
  refine EV.iadd dX15_forward_297 ?_
  refine EV.imul dX15_forward_298 ?_
  refine EV.iload 6 dX15_forward_299 rfl ?_
  refine EV.iadd dX15_forward_301 ?_
  refine EV.lload 7 dX15_forward_302 rfl ?_
  refine EV.lload 0 dX15_forward_304 rfl ?_
  refine EV.lcmp dX15_forward_306 ?_
  refine EV.if_ge 315 dX15_forward_307 (by decide) (fun c25 => ?_) (fun c25 => ?_)
  · rw [if_pos c25] at h
    refine EV.lload 7 dX15_forward_315 rfl ?_
    refine EV.ldc2 (v := 1023) dX15_forward_317 (tb10 (List.mem_of_getElem? (i := 53) rfl)) ?_
    refine EV.lcmp dX15_forward_320 ?_
    refine EV.if_le 330 dX15_forward_321 (by decide) (fun c26 => ?_) (fun c26 => ?_)
    · rw [if_pos c26] at h
      refine EV.lload 7 dX15_forward_330 rfl ?_
      refine EV.sub [1, 2, 3, 4, 5] rfl ?_
      exact eX15_forward_332 hk115 hk125 _ _ _ _ _ _ _ _ _ _ h
    · rw [if_neg c26] at h
      refine EV.ldc2 (v := 1023) dX15_forward_324 (tb10 (List.mem_of_getElem? (i := 53) rfl)) ?_
      refine EV.goto 332 dX15_forward_327 (by decide) ?_
      refine EV.sub [1, 2, 3, 4, 5] rfl ?_
      exact eX15_forward_332 hk115 hk125 _ _ _ _ _ _ _ _ _ _ h
  · rw [if_neg c25] at h
    refine EV.lload 0 dX15_forward_310 rfl ?_
    refine EV.goto 332 dX15_forward_312 (by decide) ?_
    refine EV.sub [1, 2, 3, 4, 5] rfl ?_
    exact eX15_forward_332 hk115 hk125 _ _ _ _ _ _ _ _ _ _ h
set_option maxRecDepth 100000 in
set_option maxHeartbeats 4000000 in
theorem eX15_forward_266 {X : px_X} {k115 : Nat → Int32 → Int32 → Int32 → px_W → Option (px_W)} (hk115 : ∀ (a0 : Nat) (a1 : Int32) (a2 : Int32) (a5 : Int32) (w : px_W) (q : px_W), k115 a0 a1 a2 a5 w = some q → EV X mX15_forward 115 [(0, .ref a0), (1, .int a1), (2, .int a2), (5, .int a5)] [] w none q) {k125 : Nat → Int32 → Int32 → Int32 → Int32 → px_W → Option (px_W)} (hk125 : ∀ (a0 : Nat) (a1 : Int32) (a2 : Int32) (a5 : Int32) (a6 : Int32) (w : px_W) (q : px_W), k125 a0 a1 a2 a5 a6 w = some q → EV X mX15_forward 125 [(0, .ref a0), (1, .int a1), (2, .int a2), (5, .int a5), (6, .int a6)] [] w none q) : ∀ (a0 : Nat) (a1 : Int32) (a2 : Int32) (a5 : Int32) (a6 : Int32) (a9 : Int32) (s0 : Int64) (w : px_W) (q : px_W), fX15_forward_266 X k115 k125 a0 a1 a2 a5 a6 a9 s0 w = some q → EV X mX15_forward 266 [(0, .ref a0), (1, .int a1), (2, .int a2), (5, .int a5), (6, .int a6), (9, .int a9)] [.long s0] w none q := by
  intro a0 a1 a2 a5 a6 a9 s0 w q h
  unfold fX15_forward_266 at h
  refine EV.lstore [(13, .long s0), (0, .ref a0), (1, .int a1), (2, .int a2), (5, .int a5), (6, .int a6), (9, .int a9)] dX15_forward_266 (by decide) rfl ?_
  refine EV.iload 6 dX15_forward_268 rfl ?_
  refine EV.if_ne 279 dX15_forward_270 (by decide) (fun c27 => ?_) (fun c27 => ?_)
  · rw [if_neg c27] at h
    refine EV.ldc2 (v := (-1023)) dX15_forward_279 (tb10 (List.mem_of_getElem? (i := 52) rfl)) ?_
    refine EV.sub [1, 2, 3, 4, 5, 6, 0] rfl ?_
    exact eX15_forward_282 hk115 hk125 _ _ _ _ _ _ _ _ _ _ h
  · rw [if_pos c27] at h
    refine EV.ldc2 (v := (-1024)) dX15_forward_273 (tb10 (List.mem_of_getElem? (i := 51) rfl)) ?_
    refine EV.goto 282 dX15_forward_276 (by decide) ?_
    refine EV.sub [1, 2, 3, 4, 5, 6, 0] rfl ?_
    exact eX15_forward_282 hk115 hk125 _ _ _ _ _ _ _ _ _ _ h
set_option maxRecDepth 100000 in
set_option maxHeartbeats 4000000 in
theorem eX15_forward_233 {X : px_X} {k115 : Nat → Int32 → Int32 → Int32 → px_W → Option (px_W)} (hk115 : ∀ (a0 : Nat) (a1 : Int32) (a2 : Int32) (a5 : Int32) (w : px_W) (q : px_W), k115 a0 a1 a2 a5 w = some q → EV X mX15_forward 115 [(0, .ref a0), (1, .int a1), (2, .int a2), (5, .int a5)] [] w none q) {k125 : Nat → Int32 → Int32 → Int32 → Int32 → px_W → Option (px_W)} (hk125 : ∀ (a0 : Nat) (a1 : Int32) (a2 : Int32) (a5 : Int32) (a6 : Int32) (w : px_W) (q : px_W), k125 a0 a1 a2 a5 a6 w = some q → EV X mX15_forward 125 [(0, .ref a0), (1, .int a1), (2, .int a2), (5, .int a5), (6, .int a6)] [] w none q) : ∀ (a0 : Nat) (a1 : Int32) (a2 : Int32) (a5 : Int32) (a6 : Int32) (a9 : Int32) (a10 : Int64) (a12 : Int32) (s0 : Int64) (w : px_W) (q : px_W), fX15_forward_233 X k115 k125 a0 a1 a2 a5 a6 a9 a10 a12 s0 w = some q → EV X mX15_forward 233 [(0, .ref a0), (1, .int a1), (2, .int a2), (5, .int a5), (6, .int a6), (9, .int a9), (10, .long a10), (12, .int a12)] [.long s0] w none q := by
  intro a0 a1 a2 a5 a6 a9 a10 a12 s0 w q h
  unfold fX15_forward_233 at h
  refine EV.ldc2 (v := 2) dX15_forward_233 (tb10 (List.mem_of_getElem? (i := 50) rfl)) ?_
  refine EV.lmul dX15_forward_236 ?_
  refine EV.iload 7 dX15_forward_237 rfl ?_
  refine EV.i2l dX15_forward_239 ?_
  refine EV.ladd dX15_forward_240 ?_
  refine EV.ldc2 (v := 2) dX15_forward_241 (tb10 (List.mem_of_getElem? (i := 50) rfl)) ?_
  refine EV.iload 7 dX15_forward_244 rfl ?_
  refine EV.i2l dX15_forward_246 ?_
  refine EV.lmul dX15_forward_247 ?_
  obtain ⟨v28, gv28, h⟩ := px_bs h
  refine ev_dJ dX15_forward_248 gv28 ?_
  refine EV.lstore [(13, .long v28), (0, .ref a0), (1, .int a1), (2, .int a2), (5, .int a5), (6, .int a6), (9, .int a9), (10, .long a10), (12, .int a12)] dX15_forward_249 (by decide) rfl ?_
  refine EV.lload 7 dX15_forward_251 rfl ?_
  refine EV.lconst (0) dX15_forward_253 (by decide) ?_
  refine EV.lcmp dX15_forward_254 ?_
  refine EV.if_ge 264 dX15_forward_255 (by decide) (fun c29 => ?_) (fun c29 => ?_)
  · rw [if_pos c29] at h
    refine EV.lload 0 dX15_forward_264 rfl ?_
    refine EV.sub [1, 2, 3, 4, 5, 6] rfl ?_
    exact eX15_forward_266 hk115 hk125 _ _ _ _ _ _ _ _ _ h
  · rw [if_neg c29] at h
    refine EV.lload 0 dX15_forward_258 rfl ?_
    refine EV.lneg dX15_forward_260 ?_
    refine EV.goto 266 dX15_forward_261 (by decide) ?_
    refine EV.sub [1, 2, 3, 4, 5, 6] rfl ?_
    exact eX15_forward_266 hk115 hk125 _ _ _ _ _ _ _ _ _ h
set_option maxRecDepth 100000 in
set_option maxHeartbeats 4000000 in
theorem eX15_forward_180 {X : px_X} {k115 : Nat → Int32 → Int32 → Int32 → px_W → Option (px_W)} (hk115 : ∀ (a0 : Nat) (a1 : Int32) (a2 : Int32) (a5 : Int32) (w : px_W) (q : px_W), k115 a0 a1 a2 a5 w = some q → EV X mX15_forward 115 [(0, .ref a0), (1, .int a1), (2, .int a2), (5, .int a5)] [] w none q) {k125 : Nat → Int32 → Int32 → Int32 → Int32 → px_W → Option (px_W)} (hk125 : ∀ (a0 : Nat) (a1 : Int32) (a2 : Int32) (a5 : Int32) (a6 : Int32) (w : px_W) (q : px_W), k125 a0 a1 a2 a5 a6 w = some q → EV X mX15_forward 125 [(0, .ref a0), (1, .int a1), (2, .int a2), (5, .int a5), (6, .int a6)] [] w none q) : ∀ (a0 : Nat) (a1 : Int32) (a2 : Int32) (a5 : Int32) (a6 : Int32) (a7 : Int64) (w : px_W) (q : px_W), fX15_forward_180 X k115 k125 a0 a1 a2 a5 a6 a7 w = some q → EV X mX15_forward 180 [(0, .ref a0), (1, .int a1), (2, .int a2), (5, .int a5), (6, .int a6), (7, .long a7)] [] w none q := by
  intro a0 a1 a2 a5 a6 a7 w q h
  unfold fX15_forward_180 at h
  refine EV.aload_n 0 dX15_forward_180 rfl rfl ?_
  obtain ⟨v30, gv30, h⟩ := px_bs h
  refine ev_gR dX15_forward_181 flRX15_92 gv30 ?_
  refine EV.bipush (8) dX15_forward_184 (by decide) ?_
  refine EV.iload 3 dX15_forward_186 rfl ?_
  refine EV.imul dX15_forward_188 ?_
  refine EV.iload 4 dX15_forward_189 rfl ?_
  refine EV.iadd dX15_forward_191 ?_
  obtain ⟨v31, gv31, h⟩ := px_bs h
  refine ev_aI dX15_forward_192 gv31 ?_
  refine EV.istore [(9, .int v31), (0, .ref a0), (1, .int a1), (2, .int a2), (5, .int a5), (6, .int a6), (7, .long a7)] dX15_forward_193 (by decide) rfl ?_
  refine EV.lload 6 dX15_forward_195 rfl ?_
  refine EV.bipush (17) dX15_forward_197 (by decide) ?_
  obtain ⟨q32, gq32, h⟩ := px_bs h
  refine EV.callS (As := [.long a7, .int 17]) (rest := []) dX15_forward_199 kcX15_forward_329 rfl (Nat.le_of_ble_eq_true rfl) (Nat.le_of_ble_eq_true rfl) (eX15_round gq32) ?_
  refine EV.lstore [(10, .long q32.1), (9, .int v31), (0, .ref a0), (1, .int a1), (2, .int a2), (5, .int a5), (6, .int a6), (7, .long a7)] dX15_forward_202 (by decide) rfl ?_
  refine EV.aload_n 2 dX15_forward_204 rfl rfl ?_
  obtain ⟨v33, gv33, h⟩ := px_bs h
  refine ev_gR dX15_forward_205 flRX15_67 gv33 ?_
  refine EV.bipush (64) dX15_forward_208 (by decide) ?_
  refine EV.iload_n 3 dX15_forward_210 rfl rfl ?_
  refine EV.imul dX15_forward_211 ?_
  refine EV.iload 1 dX15_forward_212 rfl ?_
  refine EV.iadd dX15_forward_214 ?_
  obtain ⟨v34, gv34, h⟩ := px_bs h
  refine ev_aI dX15_forward_215 gv34 ?_
  refine EV.istore [(12, .int v34), (10, .long q32.1), (9, .int v31), (0, .ref a0), (1, .int a1), (2, .int a2), (5, .int a5), (6, .int a6), (7, .long a7)] dX15_forward_216 (by decide) rfl ?_
  refine EV.lload 1 dX15_forward_218 rfl ?_
  refine EV.lconst (0) dX15_forward_220 (by decide) ?_
  refine EV.lcmp dX15_forward_221 ?_
  refine EV.if_ge 231 dX15_forward_222 (by decide) (fun c35 => ?_) (fun c35 => ?_)
  · rw [if_pos c35] at h
    refine EV.lload 1 dX15_forward_231 rfl ?_
    refine EV.sub [3, 4, 5, 6, 7, 2, 1, 0] rfl ?_
    exact eX15_forward_233 hk115 hk125 _ _ _ _ _ _ _ _ _ _ _ h
  · rw [if_neg c35] at h
    refine EV.lload 1 dX15_forward_225 rfl ?_
    refine EV.lneg dX15_forward_227 ?_
    refine EV.goto 233 dX15_forward_228 (by decide) ?_
    refine EV.sub [3, 4, 5, 6, 7, 2, 1, 0] rfl ?_
    exact eX15_forward_233 hk115 hk125 _ _ _ _ _ _ _ _ _ _ _ h
set_option maxRecDepth 100000 in
set_option maxHeartbeats 4000000 in
theorem eX15_forward_138 {X : px_X} {k115 : Nat → Int32 → Int32 → Int32 → px_W → Option (px_W)} (hk115 : ∀ (a0 : Nat) (a1 : Int32) (a2 : Int32) (a5 : Int32) (w : px_W) (q : px_W), k115 a0 a1 a2 a5 w = some q → EV X mX15_forward 115 [(0, .ref a0), (1, .int a1), (2, .int a2), (5, .int a5)] [] w none q) {k125 : Nat → Int32 → Int32 → Int32 → Int32 → px_W → Option (px_W)} (hk125 : ∀ (a0 : Nat) (a1 : Int32) (a2 : Int32) (a5 : Int32) (a6 : Int32) (w : px_W) (q : px_W), k125 a0 a1 a2 a5 a6 w = some q → EV X mX15_forward 125 [(0, .ref a0), (1, .int a1), (2, .int a2), (5, .int a5), (6, .int a6)] [] w none q) : ∀ (m : Nat) (a0 : Nat) (a1 : Int32) (a2 : Int32) (a5 : Int32) (a6 : Int32) (a7 : Int64) (a9 : Int32) (w : px_W) (q : px_W), fX15_forward_138 X k115 k125 m a0 a1 a2 a5 a6 a7 a9 w = some q → EV X mX15_forward 138 [(0, .ref a0), (1, .int a1), (2, .int a2), (5, .int a5), (6, .int a6), (7, .long a7), (9, .int a9)] [] w none q := by
  intro m
  induction m with
  | zero => intro a0 a1 a2 a5 a6 a7 a9 w q h; cases h
  | succ m ih =>
    intro a0 a1 a2 a5 a6 a7 a9 w q h
    rw [fX15_forward_138.eq_2] at h
    refine EV.iload 6 dX15_forward_138 rfl ?_
    refine EV.bipush (8) dX15_forward_140 (by decide) ?_
    refine EV.icmp_ge 180 dX15_forward_142 (by decide) (fun c36 => ?_) (fun c36 => ?_)
    · rw [if_pos c36] at h
      refine EV.sub [0, 1, 2, 3, 4, 5] rfl ?_
      exact eX15_forward_180 hk115 hk125 _ _ _ _ _ _ _ _ h
    · rw [if_neg c36] at h
      refine EV.lload 5 dX15_forward_145 rfl ?_
      refine EV.bipush (8) dX15_forward_147 (by decide) ?_
      refine EV.iload 4 dX15_forward_149 rfl ?_
      refine EV.iload 6 dX15_forward_151 rfl ?_
      obtain ⟨q37, gq37, h⟩ := px_bs h
      refine EV.callS (As := [.int 8, .int a6, .int a9]) (rest := [.long a7]) dX15_forward_153 kcX15_forward_325 rfl (Nat.le_of_ble_eq_true rfl) (Nat.le_of_ble_eq_true rfl) (eX15_wave gq37) ?_
      refine EV.i2l dX15_forward_156 ?_
      refine EV.aload_n 0 dX15_forward_157 rfl rfl ?_
      obtain ⟨v38, gv38, h⟩ := px_bs h
      refine ev_gR dX15_forward_158 flRX15_110 gv38 ?_
      refine EV.bipush (8) dX15_forward_161 (by decide) ?_
      refine EV.iload 3 dX15_forward_163 rfl ?_
      refine EV.imul dX15_forward_165 ?_
      refine EV.iload 6 dX15_forward_166 rfl ?_
      refine EV.iadd dX15_forward_168 ?_
      obtain ⟨v39, gv39, h⟩ := px_bs h
      refine ev_aJ dX15_forward_169 gv39 ?_
      refine EV.lmul dX15_forward_170 ?_
      refine EV.ladd dX15_forward_171 ?_
      refine EV.lstore [(7, .long (a7 + (q37.1.toInt64 * v39))), (0, .ref a0), (1, .int a1), (2, .int a2), (5, .int a5), (6, .int a6), (9, .int a9)] dX15_forward_172 (by decide) rfl ?_
      refine EV.iinc 6 (a9 + 1) [(9, .int (a9 + 1)), (7, .long (a7 + (q37.1.toInt64 * v39))), (0, .ref a0), (1, .int a1), (2, .int a2), (5, .int a5), (6, .int a6)] dX15_forward_174 rfl rfl (by decide) rfl ?_
      refine EV.goto 138 dX15_forward_177 (by decide) ?_
      refine EV.sub [2, 3, 4, 5, 6, 1, 0] rfl ?_
      exact ih _ _ _ _ _ _ _ _ _ h
set_option maxRecDepth 100000 in
set_option maxHeartbeats 4000000 in
theorem eX15_forward_341 {X : px_X} {k115 : Nat → Int32 → Int32 → Int32 → px_W → Option (px_W)} (hk115 : ∀ (a0 : Nat) (a1 : Int32) (a2 : Int32) (a5 : Int32) (w : px_W) (q : px_W), k115 a0 a1 a2 a5 w = some q → EV X mX15_forward 115 [(0, .ref a0), (1, .int a1), (2, .int a2), (5, .int a5)] [] w none q) : ∀ (a0 : Nat) (a1 : Int32) (a2 : Int32) (a5 : Int32) (w : px_W) (q : px_W), fX15_forward_341 X k115 a0 a1 a2 a5 w = some q → EV X mX15_forward 341 [(0, .ref a0), (1, .int a1), (2, .int a2), (5, .int a5)] [] w none q := by
  intro a0 a1 a2 a5 w q h
  unfold fX15_forward_341 at h
  refine EV.iinc 3 (a5 + 1) [(5, .int (a5 + 1)), (0, .ref a0), (1, .int a1), (2, .int a2)] dX15_forward_341 rfl rfl (by decide) rfl ?_
  refine EV.goto 115 dX15_forward_344 (by decide) ?_
  refine EV.sub [1, 2, 3, 0] rfl ?_
  exact hk115 _ _ _ _ _ _ h
set_option maxRecDepth 100000 in
set_option maxHeartbeats 4000000 in
theorem eX15_forward_125 {X : px_X} {k115 : Nat → Int32 → Int32 → Int32 → px_W → Option (px_W)} (hk115 : ∀ (a0 : Nat) (a1 : Int32) (a2 : Int32) (a5 : Int32) (w : px_W) (q : px_W), k115 a0 a1 a2 a5 w = some q → EV X mX15_forward 115 [(0, .ref a0), (1, .int a1), (2, .int a2), (5, .int a5)] [] w none q) : ∀ (m : Nat) (a0 : Nat) (a1 : Int32) (a2 : Int32) (a5 : Int32) (a6 : Int32) (w : px_W) (q : px_W), fX15_forward_125 X k115 m a0 a1 a2 a5 a6 w = some q → EV X mX15_forward 125 [(0, .ref a0), (1, .int a1), (2, .int a2), (5, .int a5), (6, .int a6)] [] w none q := by
  intro m
  induction m with
  | zero => intro a0 a1 a2 a5 a6 w q h; cases h
  | succ m ih =>
    intro a0 a1 a2 a5 a6 w q h
    rw [fX15_forward_125.eq_2] at h
    refine EV.iload 4 dX15_forward_125 rfl ?_
    refine EV.bipush (8) dX15_forward_127 (by decide) ?_
    refine EV.icmp_ge 341 dX15_forward_129 (by decide) (fun c40 => ?_) (fun c40 => ?_)
    · rw [if_pos c40] at h
      refine EV.sub [0, 1, 2, 3] rfl ?_
      exact eX15_forward_341 hk115 _ _ _ _ _ _ h
    · rw [if_neg c40] at h
      refine EV.lconst (0) dX15_forward_132 (by decide) ?_
      refine EV.lstore [(7, .long 0), (0, .ref a0), (1, .int a1), (2, .int a2), (5, .int a5), (6, .int a6)] dX15_forward_133 (by decide) rfl ?_
      refine EV.iconst (0) dX15_forward_135 (by decide) ?_
      refine EV.istore [(9, .int 0), (7, .long 0), (0, .ref a0), (1, .int a1), (2, .int a2), (5, .int a5), (6, .int a6)] dX15_forward_136 (by decide) rfl ?_
      refine EV.sub [2, 3, 4, 5, 6, 1, 0] rfl ?_
      exact eX15_forward_138 hk115 ih FU _ _ _ _ _ _ _ _ _ h
set_option maxRecDepth 100000 in
set_option maxHeartbeats 4000000 in
theorem eX15_forward_115 {X : px_X}  : ∀ (m : Nat) (a0 : Nat) (a1 : Int32) (a2 : Int32) (a5 : Int32) (w : px_W) (q : px_W), fX15_forward_115 X  m a0 a1 a2 a5 w = some q → EV X mX15_forward 115 [(0, .ref a0), (1, .int a1), (2, .int a2), (5, .int a5)] [] w none q := by
  intro m
  induction m with
  | zero => intro a0 a1 a2 a5 w q h; cases h
  | succ m ih =>
    intro a0 a1 a2 a5 w q h
    rw [fX15_forward_115.eq_2] at h
    refine EV.iload 3 dX15_forward_115 rfl ?_
    refine EV.bipush (8) dX15_forward_117 (by decide) ?_
    refine EV.icmp_ge 347 dX15_forward_119 (by decide) (fun c41 => ?_) (fun c41 => ?_)
    · rw [if_pos c41] at h
      cases h
      exact EV.ret0 dX15_forward_347 trivial
    · rw [if_neg c41] at h
      refine EV.iconst (0) dX15_forward_122 (by decide) ?_
      refine EV.istore [(6, .int 0), (0, .ref a0), (1, .int a1), (2, .int a2), (5, .int a5)] dX15_forward_123 (by decide) rfl ?_
      refine EV.sub [1, 2, 3, 4, 0] rfl ?_
      exact eX15_forward_125 ih FU _ _ _ _ _ _ _ h
set_option maxRecDepth 100000 in
set_option maxHeartbeats 4000000 in
theorem eX15_forward_112 {X : px_X}  : ∀ (a0 : Nat) (a1 : Int32) (a2 : Int32) (w : px_W) (q : px_W), fX15_forward_112 X  a0 a1 a2 w = some q → EV X mX15_forward 112 [(0, .ref a0), (1, .int a1), (2, .int a2)] [] w none q := by
  intro a0 a1 a2 w q h
  unfold fX15_forward_112 at h
  refine EV.iconst (0) dX15_forward_112 (by decide) ?_
  refine EV.istore [(5, .int 0), (0, .ref a0), (1, .int a1), (2, .int a2)] dX15_forward_113 (by decide) rfl ?_
  refine EV.sub [1, 2, 3, 0] rfl ?_
  exact eX15_forward_115  FU _ _ _ _ _ _ h
set_option maxRecDepth 100000 in
set_option maxHeartbeats 4000000 in
theorem eX15_forward_106 {X : px_X} {k3 : Nat → Int32 → Int32 → Int32 → Int32 → Int32 → px_W → Option (px_W)} (hk3 : ∀ (a0 : Nat) (a1 : Int32) (a2 : Int32) (a3 : Int32) (a4 : Int32) (a5 : Int32) (w : px_W) (q : px_W), k3 a0 a1 a2 a3 a4 a5 w = some q → EV X mX15_forward 3 [(0, .ref a0), (1, .int a1), (2, .int a2), (3, .int a3), (4, .int a4), (5, .int a5)] [] w none q) : ∀ (a0 : Nat) (a1 : Int32) (a2 : Int32) (a3 : Int32) (a4 : Int32) (a5 : Int32) (w : px_W) (q : px_W), fX15_forward_106 X k3 a0 a1 a2 a3 a4 a5 w = some q → EV X mX15_forward 106 [(0, .ref a0), (1, .int a1), (2, .int a2), (3, .int a3), (4, .int a4), (5, .int a5)] [] w none q := by
  intro a0 a1 a2 a3 a4 a5 w q h
  unfold fX15_forward_106 at h
  refine EV.iinc 5 (a5 + 1) [(5, .int (a5 + 1)), (0, .ref a0), (1, .int a1), (2, .int a2), (3, .int a3), (4, .int a4)] dX15_forward_106 rfl rfl (by decide) rfl ?_
  refine EV.goto 3 dX15_forward_109 (by decide) ?_
  refine EV.sub [1, 2, 3, 4, 5, 0] rfl ?_
  exact hk3 _ _ _ _ _ _ _ _ h
set_option maxRecDepth 100000 in
set_option maxHeartbeats 4000000 in
theorem eX15_forward_80 {X : px_X} {k3 : Nat → Int32 → Int32 → Int32 → Int32 → Int32 → px_W → Option (px_W)} (hk3 : ∀ (a0 : Nat) (a1 : Int32) (a2 : Int32) (a3 : Int32) (a4 : Int32) (a5 : Int32) (w : px_W) (q : px_W), k3 a0 a1 a2 a3 a4 a5 w = some q → EV X mX15_forward 3 [(0, .ref a0), (1, .int a1), (2, .int a2), (3, .int a3), (4, .int a4), (5, .int a5)] [] w none q) {k13 : Nat → Int32 → Int32 → Int32 → Int32 → Int32 → Int32 → px_W → Option (px_W)} (hk13 : ∀ (a0 : Nat) (a1 : Int32) (a2 : Int32) (a3 : Int32) (a4 : Int32) (a5 : Int32) (a6 : Int32) (w : px_W) (q : px_W), k13 a0 a1 a2 a3 a4 a5 a6 w = some q → EV X mX15_forward 13 [(0, .ref a0), (1, .int a1), (2, .int a2), (3, .int a3), (4, .int a4), (5, .int a5), (6, .int a6)] [] w none q) : ∀ (a0 : Nat) (a1 : Int32) (a2 : Int32) (a3 : Int32) (a4 : Int32) (a5 : Int32) (a6 : Int32) (a7 : Int64) (w : px_W) (q : px_W), fX15_forward_80 X k3 k13 a0 a1 a2 a3 a4 a5 a6 a7 w = some q → EV X mX15_forward 80 [(0, .ref a0), (1, .int a1), (2, .int a2), (3, .int a3), (4, .int a4), (5, .int a5), (6, .int a6), (7, .long a7)] [] w none q := by
  intro a0 a1 a2 a3 a4 a5 a6 a7 w q h
  unfold fX15_forward_80 at h
  refine EV.aload_n 0 dX15_forward_80 rfl rfl ?_
  obtain ⟨v42, gv42, h⟩ := px_bs h
  refine ev_gR dX15_forward_81 flRX15_110 gv42 ?_
  refine EV.bipush (8) dX15_forward_84 (by decide) ?_
  refine EV.iload 5 dX15_forward_86 rfl ?_
  refine EV.imul dX15_forward_88 ?_
  refine EV.iload 6 dX15_forward_89 rfl ?_
  refine EV.iadd dX15_forward_91 ?_
  refine EV.lload 7 dX15_forward_92 rfl ?_
  refine EV.bipush (11) dX15_forward_94 (by decide) ?_
  obtain ⟨q43, gq43, h⟩ := px_bs h
  refine EV.callS (As := [.long a7, .int 11]) (rest := [.int ((8 * a5) + a6), .ref v42]) dX15_forward_96 kcX15_forward_329 rfl (Nat.le_of_ble_eq_true rfl) (Nat.le_of_ble_eq_true rfl) (eX15_round gq43) ?_
  obtain ⟨w44, gw44, h⟩ := px_bs h
  refine ev_sJ dX15_forward_99 gw44 ?_
  refine EV.iinc 6 (a6 + 1) [(6, .int (a6 + 1)), (0, .ref a0), (1, .int a1), (2, .int a2), (3, .int a3), (4, .int a4), (5, .int a5), (7, .long a7)] dX15_forward_100 rfl rfl (by decide) rfl ?_
  refine EV.goto 13 dX15_forward_103 (by decide) ?_
  refine EV.sub [1, 2, 3, 4, 5, 6, 0] rfl ?_
  exact hk13 _ _ _ _ _ _ _ _ _ h
set_option maxRecDepth 100000 in
set_option maxHeartbeats 4000000 in
theorem eX15_forward_26 {X : px_X} {k3 : Nat → Int32 → Int32 → Int32 → Int32 → Int32 → px_W → Option (px_W)} (hk3 : ∀ (a0 : Nat) (a1 : Int32) (a2 : Int32) (a3 : Int32) (a4 : Int32) (a5 : Int32) (w : px_W) (q : px_W), k3 a0 a1 a2 a3 a4 a5 w = some q → EV X mX15_forward 3 [(0, .ref a0), (1, .int a1), (2, .int a2), (3, .int a3), (4, .int a4), (5, .int a5)] [] w none q) {k13 : Nat → Int32 → Int32 → Int32 → Int32 → Int32 → Int32 → px_W → Option (px_W)} (hk13 : ∀ (a0 : Nat) (a1 : Int32) (a2 : Int32) (a3 : Int32) (a4 : Int32) (a5 : Int32) (a6 : Int32) (w : px_W) (q : px_W), k13 a0 a1 a2 a3 a4 a5 a6 w = some q → EV X mX15_forward 13 [(0, .ref a0), (1, .int a1), (2, .int a2), (3, .int a3), (4, .int a4), (5, .int a5), (6, .int a6)] [] w none q) : ∀ (m : Nat) (a0 : Nat) (a1 : Int32) (a2 : Int32) (a3 : Int32) (a4 : Int32) (a5 : Int32) (a6 : Int32) (a7 : Int64) (a9 : Int32) (w : px_W) (q : px_W), fX15_forward_26 X k3 k13 m a0 a1 a2 a3 a4 a5 a6 a7 a9 w = some q → EV X mX15_forward 26 [(0, .ref a0), (1, .int a1), (2, .int a2), (3, .int a3), (4, .int a4), (5, .int a5), (6, .int a6), (7, .long a7), (9, .int a9)] [] w none q := by
  intro m
  induction m with
  | zero => intro a0 a1 a2 a3 a4 a5 a6 a7 a9 w q h; cases h
  | succ m ih =>
    intro a0 a1 a2 a3 a4 a5 a6 a7 a9 w q h
    rw [fX15_forward_26.eq_2] at h
    refine EV.iload 8 dX15_forward_26 rfl ?_
    refine EV.bipush (8) dX15_forward_28 (by decide) ?_
    refine EV.icmp_ge 80 dX15_forward_30 (by decide) (fun c45 => ?_) (fun c45 => ?_)
    · rw [if_pos c45] at h
      refine EV.sub [0, 1, 2, 3, 4, 5, 6, 7] rfl ?_
      exact eX15_forward_80 hk3 hk13 _ _ _ _ _ _ _ _ _ _ h
    · rw [if_neg c45] at h
      refine EV.lload 7 dX15_forward_33 rfl ?_
      refine EV.bipush (8) dX15_forward_35 (by decide) ?_
      refine EV.iload 5 dX15_forward_37 rfl ?_
      refine EV.iload 8 dX15_forward_39 rfl ?_
      obtain ⟨q46, gq46, h⟩ := px_bs h
      refine EV.callS (As := [.int 8, .int a5, .int a9]) (rest := [.long a7]) dX15_forward_41 kcX15_forward_325 rfl (Nat.le_of_ble_eq_true rfl) (Nat.le_of_ble_eq_true rfl) (eX15_wave gq46) ?_
      refine EV.i2l dX15_forward_44 ?_
      refine EV.aload_n 0 dX15_forward_45 rfl rfl ?_
      obtain ⟨v47, gv47, h⟩ := px_bs h
      refine ev_gR dX15_forward_46 flRX15_104 gv47 ?_
      refine EV.aload_n 0 dX15_forward_49 rfl rfl ?_
      obtain ⟨v48, gv48, h⟩ := px_bs h
      refine ev_gI dX15_forward_50 flRX15_333 gv48 ?_
      refine EV.iload 4 dX15_forward_53 rfl ?_
      refine EV.iload 8 dX15_forward_55 rfl ?_
      refine EV.iadd dX15_forward_57 ?_
      refine EV.imul dX15_forward_58 ?_
      refine EV.iload_n 3 dX15_forward_59 rfl rfl ?_
      refine EV.iadd dX15_forward_60 ?_
      refine EV.iload 6 dX15_forward_61 rfl ?_
      refine EV.iadd dX15_forward_63 ?_
      obtain ⟨v49, gv49, h⟩ := px_bs h
      refine ev_aI dX15_forward_64 gv49 ?_
      refine EV.sipush (128) dX15_forward_65 (by decide) ?_
      refine EV.isub dX15_forward_68 ?_
      refine EV.i2l dX15_forward_69 ?_
      refine EV.lmul dX15_forward_70 ?_
      refine EV.ladd dX15_forward_71 ?_
      refine EV.lstore [(7, .long (a7 + (q46.1.toInt64 * ((v49 - 128).toInt64)))), (0, .ref a0), (1, .int a1), (2, .int a2), (3, .int a3), (4, .int a4), (5, .int a5), (6, .int a6), (9, .int a9)] dX15_forward_72 (by decide) rfl ?_
      refine EV.iinc 8 (a9 + 1) [(9, .int (a9 + 1)), (7, .long (a7 + (q46.1.toInt64 * ((v49 - 128).toInt64)))), (0, .ref a0), (1, .int a1), (2, .int a2), (3, .int a3), (4, .int a4), (5, .int a5), (6, .int a6)] dX15_forward_74 rfl rfl (by decide) rfl ?_
      refine EV.goto 26 dX15_forward_77 (by decide) ?_
      refine EV.sub [2, 3, 4, 5, 6, 7, 8, 1, 0] rfl ?_
      exact ih _ _ _ _ _ _ _ _ _ _ _ h
set_option maxRecDepth 100000 in
set_option maxHeartbeats 4000000 in
theorem eX15_forward_13 {X : px_X} {k3 : Nat → Int32 → Int32 → Int32 → Int32 → Int32 → px_W → Option (px_W)} (hk3 : ∀ (a0 : Nat) (a1 : Int32) (a2 : Int32) (a3 : Int32) (a4 : Int32) (a5 : Int32) (w : px_W) (q : px_W), k3 a0 a1 a2 a3 a4 a5 w = some q → EV X mX15_forward 3 [(0, .ref a0), (1, .int a1), (2, .int a2), (3, .int a3), (4, .int a4), (5, .int a5)] [] w none q) : ∀ (m : Nat) (a0 : Nat) (a1 : Int32) (a2 : Int32) (a3 : Int32) (a4 : Int32) (a5 : Int32) (a6 : Int32) (w : px_W) (q : px_W), fX15_forward_13 X k3 m a0 a1 a2 a3 a4 a5 a6 w = some q → EV X mX15_forward 13 [(0, .ref a0), (1, .int a1), (2, .int a2), (3, .int a3), (4, .int a4), (5, .int a5), (6, .int a6)] [] w none q := by
  intro m
  induction m with
  | zero => intro a0 a1 a2 a3 a4 a5 a6 w q h; cases h
  | succ m ih =>
    intro a0 a1 a2 a3 a4 a5 a6 w q h
    rw [fX15_forward_13.eq_2] at h
    refine EV.iload 6 dX15_forward_13 rfl ?_
    refine EV.bipush (8) dX15_forward_15 (by decide) ?_
    refine EV.icmp_ge 106 dX15_forward_17 (by decide) (fun c50 => ?_) (fun c50 => ?_)
    · rw [if_pos c50] at h
      refine EV.sub [0, 1, 2, 3, 4, 5] rfl ?_
      exact eX15_forward_106 hk3 _ _ _ _ _ _ _ _ h
    · rw [if_neg c50] at h
      refine EV.lconst (0) dX15_forward_20 (by decide) ?_
      refine EV.lstore [(7, .long 0), (0, .ref a0), (1, .int a1), (2, .int a2), (3, .int a3), (4, .int a4), (5, .int a5), (6, .int a6)] dX15_forward_21 (by decide) rfl ?_
      refine EV.iconst (0) dX15_forward_23 (by decide) ?_
      refine EV.istore [(9, .int 0), (7, .long 0), (0, .ref a0), (1, .int a1), (2, .int a2), (3, .int a3), (4, .int a4), (5, .int a5), (6, .int a6)] dX15_forward_24 (by decide) rfl ?_
      refine EV.sub [2, 3, 4, 5, 6, 7, 8, 1, 0] rfl ?_
      exact eX15_forward_26 hk3 ih FU _ _ _ _ _ _ _ _ _ _ _ h
set_option maxRecDepth 100000 in
set_option maxHeartbeats 4000000 in
theorem eX15_forward_3 {X : px_X}  : ∀ (m : Nat) (a0 : Nat) (a1 : Int32) (a2 : Int32) (a3 : Int32) (a4 : Int32) (a5 : Int32) (w : px_W) (q : px_W), fX15_forward_3 X  m a0 a1 a2 a3 a4 a5 w = some q → EV X mX15_forward 3 [(0, .ref a0), (1, .int a1), (2, .int a2), (3, .int a3), (4, .int a4), (5, .int a5)] [] w none q := by
  intro m
  induction m with
  | zero => intro a0 a1 a2 a3 a4 a5 w q h; cases h
  | succ m ih =>
    intro a0 a1 a2 a3 a4 a5 w q h
    rw [fX15_forward_3.eq_2] at h
    refine EV.iload 5 dX15_forward_3 rfl ?_
    refine EV.bipush (8) dX15_forward_5 (by decide) ?_
    refine EV.icmp_ge 112 dX15_forward_7 (by decide) (fun c51 => ?_) (fun c51 => ?_)
    · rw [if_pos c51] at h
      refine EV.sub [0, 1, 2] rfl ?_
      exact eX15_forward_112  _ _ _ _ _ h
    · rw [if_neg c51] at h
      refine EV.iconst (0) dX15_forward_10 (by decide) ?_
      refine EV.istore [(6, .int 0), (0, .ref a0), (1, .int a1), (2, .int a2), (3, .int a3), (4, .int a4), (5, .int a5)] dX15_forward_11 (by decide) rfl ?_
      refine EV.sub [1, 2, 3, 4, 5, 6, 0] rfl ?_
      exact eX15_forward_13 ih FU _ _ _ _ _ _ _ _ _ h
set_option maxRecDepth 100000 in
set_option maxHeartbeats 4000000 in
theorem eX15_forward {X : px_X} {w : px_W} {a0 : Nat} {a1 : Int32} {a2 : Int32} {a3 : Int32} {a4 : Int32} {q : px_W} (h : fX15_forward X w a0 a1 a2 a3 a4 = some q) : EV X mX15_forward 0 (lv_args 0 [.ref a0, .int a1, .int a2, .int a3, .int a4]) [] w none q := by
  unfold fX15_forward at h
  show EV X mX15_forward 0 [(0, .ref a0), (1, .int a1), (2, .int a2), (3, .int a3), (4, .int a4)] [] w none q
  refine EV.iconst (0) dX15_forward_0 (by decide) ?_
  refine EV.istore [(5, .int 0), (0, .ref a0), (1, .int a1), (2, .int a2), (3, .int a3), (4, .int a4)] dX15_forward_1 (by decide) rfl ?_
  refine EV.sub [1, 2, 3, 4, 5, 0] rfl ?_
  exact eX15_forward_3  FU _ _ _ _ _ _ _ _ h
