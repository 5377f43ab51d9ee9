/-! WavePictures$SegmentReader.noteAsSent(I)V -/
theorem dX8_noteAsSent_0 : decode cX8_noteAsSent 0 = .ok (.aload_n 0, 1) := by decide +kernel
theorem dX8_noteAsSent_1 : decode cX8_noteAsSent 1 = .ok (.getfield 34, 3) := by decide +kernel
theorem dX8_noteAsSent_4 : decode cX8_noteAsSent 4 = .ok (.bipush 64, 2) := by decide +kernel
theorem dX8_noteAsSent_6 : decode cX8_noteAsSent 6 = .ok (.iload_n 1, 1) := by decide +kernel
theorem dX8_noteAsSent_7 : decode cX8_noteAsSent 7 = .ok (.imul, 1) := by decide +kernel
theorem dX8_noteAsSent_8 : decode cX8_noteAsSent 8 = .ok (.iaload, 1) := by decide +kernel
theorem dX8_noteAsSent_9 : decode cX8_noteAsSent 9 = .ok (.iconst (-1), 1) := by decide +kernel
theorem dX8_noteAsSent_10 : decode cX8_noteAsSent 10 = .ok (.if_icmp .ne 32, 3) := by decide +kernel
theorem dX8_noteAsSent_13 : decode cX8_noteAsSent 13 = .ok (.aload_n 0, 1) := by decide +kernel
theorem dX8_noteAsSent_14 : decode cX8_noteAsSent 14 = .ok (.getfield 31, 3) := by decide +kernel
theorem dX8_noteAsSent_17 : decode cX8_noteAsSent 17 = .ok (.bipush 64, 2) := by decide +kernel
theorem dX8_noteAsSent_19 : decode cX8_noteAsSent 19 = .ok (.aload_n 0, 1) := by decide +kernel
theorem dX8_noteAsSent_20 : decode cX8_noteAsSent 20 = .ok (.getfield 28, 3) := by decide +kernel
theorem dX8_noteAsSent_23 : decode cX8_noteAsSent 23 = .ok (.iload_n 1, 1) := by decide +kernel
theorem dX8_noteAsSent_24 : decode cX8_noteAsSent 24 = .ok (.iaload, 1) := by decide +kernel
theorem dX8_noteAsSent_25 : decode cX8_noteAsSent 25 = .ok (.imul, 1) := by decide +kernel
theorem dX8_noteAsSent_26 : decode cX8_noteAsSent 26 = .ok (.aload_n 0, 1) := by decide +kernel
theorem dX8_noteAsSent_27 : decode cX8_noteAsSent 27 = .ok (.getfield 44, 3) := by decide +kernel
theorem dX8_noteAsSent_30 : decode cX8_noteAsSent 30 = .ok (.getfield 254, 3) := by decide +kernel
theorem dX8_noteAsSent_33 : decode cX8_noteAsSent 33 = .ok (.bipush 64, 2) := by decide +kernel
theorem dX8_noteAsSent_35 : decode cX8_noteAsSent 35 = .ok (.iload_n 1, 1) := by decide +kernel
theorem dX8_noteAsSent_36 : decode cX8_noteAsSent 36 = .ok (.imul, 1) := by decide +kernel
theorem dX8_noteAsSent_37 : decode cX8_noteAsSent 37 = .ok (.bipush 64, 2) := by decide +kernel
theorem dX8_noteAsSent_39 : decode cX8_noteAsSent 39 = .ok (.invokestatic 257, 3) := by decide +kernel
theorem dX8_noteAsSent_42 : decode cX8_noteAsSent 42 = .ok (.aload_n 0, 1) := by decide +kernel
theorem dX8_noteAsSent_43 : decode cX8_noteAsSent 43 = .ok (.getfield 12, 3) := by decide +kernel
theorem dX8_noteAsSent_46 : decode cX8_noteAsSent 46 = .ok (.getfield 242, 3) := by decide +kernel
theorem dX8_noteAsSent_49 : decode cX8_noteAsSent 49 = .ok (.istore_n 2, 1) := by decide +kernel
theorem dX8_noteAsSent_50 : decode cX8_noteAsSent 50 = .ok (.iload_n 2, 1) := by decide +kernel
theorem dX8_noteAsSent_51 : decode cX8_noteAsSent 51 = .ok (.aload_n 0, 1) := by decide +kernel
theorem dX8_noteAsSent_52 : decode cX8_noteAsSent 52 = .ok (.getfield 12, 3) := by decide +kernel
theorem dX8_noteAsSent_55 : decode cX8_noteAsSent 55 = .ok (.getfield 245, 3) := by decide +kernel
theorem dX8_noteAsSent_58 : decode cX8_noteAsSent 58 = .ok (.if_icmp .gt 27, 3) := by decide +kernel
theorem dX8_noteAsSent_61 : decode cX8_noteAsSent 61 = .ok (.aload_n 0, 1) := by decide +kernel
theorem dX8_noteAsSent_62 : decode cX8_noteAsSent 62 = .ok (.getfield 34, 3) := by decide +kernel
theorem dX8_noteAsSent_65 : decode cX8_noteAsSent 65 = .ok (.bipush 64, 2) := by decide +kernel
theorem dX8_noteAsSent_67 : decode cX8_noteAsSent 67 = .ok (.iload_n 1, 1) := by decide +kernel
theorem dX8_noteAsSent_68 : decode cX8_noteAsSent 68 = .ok (.imul, 1) := by decide +kernel
theorem dX8_noteAsSent_69 : decode cX8_noteAsSent 69 = .ok (.iload_n 2, 1) := by decide +kernel
theorem dX8_noteAsSent_70 : decode cX8_noteAsSent 70 = .ok (.iadd, 1) := by decide +kernel
theorem dX8_noteAsSent_71 : decode cX8_noteAsSent 71 = .ok (.aload_n 0, 1) := by decide +kernel
theorem dX8_noteAsSent_72 : decode cX8_noteAsSent 72 = .ok (.getfield 12, 3) := by decide +kernel
theorem dX8_noteAsSent_75 : decode cX8_noteAsSent 75 = .ok (.getfield 251, 3) := by decide +kernel
theorem dX8_noteAsSent_78 : decode cX8_noteAsSent 78 = .ok (.iastore, 1) := by decide +kernel
theorem dX8_noteAsSent_79 : decode cX8_noteAsSent 79 = .ok (.iinc 2 1, 3) := by decide +kernel
theorem dX8_noteAsSent_82 : decode cX8_noteAsSent 82 = .ok (.goto (-32), 3) := by decide +kernel
theorem dX8_noteAsSent_85 : decode cX8_noteAsSent 85 = .ok (.return_, 1) := by decide +kernel
theorem flRX8_254 : px_f RX8 254 2 12 := ⟨_, rfl, by decide, Or.inl (tb1 (List.mem_of_getElem? (i := 100) rfl))⟩
set_option maxRecDepth 100000 in
set_option maxHeartbeats 4000000 in
theorem eX8_noteAsSent_50 {X : px_X}  : ∀ (m : Nat) (a0 : Nat) (a1 : Int32) (a2 : Int32) (w : px_W) (q : px_W), fX8_noteAsSent_50 X  m a0 a1 a2 w = some q → EV X mX8_noteAsSent 50 [(0, .ref a0), (1, .int a1), (2, .int a2)] [] w none q := by
  intro m
  induction m with
  | zero => intro a0 a1 a2 w q h; cases h
  | succ m ih =>
    intro a0 a1 a2 w q h
    rw [fX8_noteAsSent_50.eq_2] at h
    refine EV.iload_n 2 dX8_noteAsSent_50 rfl rfl ?_
    refine EV.aload_n 0 dX8_noteAsSent_51 rfl rfl ?_
    obtain ⟨v17, gv17, h⟩ := px_bs h
    refine ev_gR dX8_noteAsSent_52 flRX8_12 gv17 ?_
    obtain ⟨v18, gv18, h⟩ := px_bs h
    refine ev_gI dX8_noteAsSent_55 flRX8_245 gv18 ?_
    refine EV.icmp_gt 85 dX8_noteAsSent_58 (by decide) (fun c19 => ?_) (fun c19 => ?_)
    · rw [if_pos c19] at h
      cases h
      exact EV.ret0 dX8_noteAsSent_85 trivial
    · rw [if_neg c19] at h
      refine EV.aload_n 0 dX8_noteAsSent_61 rfl rfl ?_
      obtain ⟨v20, gv20, h⟩ := px_bs h
      refine ev_gR dX8_noteAsSent_62 flRX8_34 gv20 ?_
      refine EV.bipush (64) dX8_noteAsSent_65 (by decide) ?_
      refine EV.iload_n 1 dX8_noteAsSent_67 rfl rfl ?_
      refine EV.imul dX8_noteAsSent_68 ?_
      refine EV.iload_n 2 dX8_noteAsSent_69 rfl rfl ?_
      refine EV.iadd dX8_noteAsSent_70 ?_
      refine EV.aload_n 0 dX8_noteAsSent_71 rfl rfl ?_
      obtain ⟨v21, gv21, h⟩ := px_bs h
      refine ev_gR dX8_noteAsSent_72 flRX8_12 gv21 ?_
      obtain ⟨v22, gv22, h⟩ := px_bs h
      refine ev_gI dX8_noteAsSent_75 flRX8_251 gv22 ?_
      obtain ⟨w23, gw23, h⟩ := px_bs h
      refine ev_sI dX8_noteAsSent_78 gw23 ?_
      refine EV.iinc 2 (a2 + 1) [(2, .int (a2 + 1)), (0, .ref a0), (1, .int a1)] dX8_noteAsSent_79 rfl rfl (by decide) rfl ?_
      refine EV.goto 50 dX8_noteAsSent_82 (by decide) ?_
      refine EV.sub [1, 2, 0] rfl ?_
      exact ih _ _ _ _ _ h
set_option maxRecDepth 100000 in
set_option maxHeartbeats 4000000 in
theorem eX8_noteAsSent_42 {X : px_X}  : ∀ (a0 : Nat) (a1 : Int32) (w : px_W) (q : px_W), fX8_noteAsSent_42 X  a0 a1 w = some q → EV X mX8_noteAsSent 42 [(0, .ref a0), (1, .int a1)] [] w none q := by
  intro a0 a1 w q h
  unfold fX8_noteAsSent_42 at h
  refine EV.aload_n 0 dX8_noteAsSent_42 rfl rfl ?_
  obtain ⟨v24, gv24, h⟩ := px_bs h
  refine ev_gR dX8_noteAsSent_43 flRX8_12 gv24 ?_
  obtain ⟨v25, gv25, h⟩ := px_bs h
  refine ev_gI dX8_noteAsSent_46 flRX8_242 gv25 ?_
  refine EV.istore_n [(2, .int v25), (0, .ref a0), (1, .int a1)] dX8_noteAsSent_49 rfl (by decide) rfl ?_
  refine EV.sub [1, 2, 0] rfl ?_
  exact eX8_noteAsSent_50  FU _ _ _ _ _ h
set_option maxRecDepth 100000 in
set_option maxHeartbeats 4000000 in
theorem eX8_noteAsSent {X : px_X} {w : px_W} {a0 : Nat} {a1 : Int32} {q : px_W} (h : fX8_noteAsSent X w a0 a1 = some q) : EV X mX8_noteAsSent 0 (lv_args 0 [.ref a0, .int a1]) [] w none q := by
  unfold fX8_noteAsSent at h
  show EV X mX8_noteAsSent 0 [(0, .ref a0), (1, .int a1)] [] w none q
  refine EV.aload_n 0 dX8_noteAsSent_0 rfl rfl ?_
  obtain ⟨v26, gv26, h⟩ := px_bs h
  refine ev_gR dX8_noteAsSent_1 flRX8_34 gv26 ?_
  refine EV.bipush (64) dX8_noteAsSent_4 (by decide) ?_
  refine EV.iload_n 1 dX8_noteAsSent_6 rfl rfl ?_
  refine EV.imul dX8_noteAsSent_7 ?_
  obtain ⟨v27, gv27, h⟩ := px_bs h
  refine ev_aI dX8_noteAsSent_8 gv27 ?_
  refine EV.iconst ((-1)) dX8_noteAsSent_9 (by decide) ?_
  refine EV.icmp_ne 42 dX8_noteAsSent_10 (by decide) (fun c28 => ?_) (fun c28 => ?_)
  · rw [if_neg c28] at h
    refine EV.sub [0, 1] rfl ?_
    exact eX8_noteAsSent_42  _ _ _ _ h
  · rw [if_pos c28] at h
    refine EV.aload_n 0 dX8_noteAsSent_13 rfl rfl ?_
    obtain ⟨v29, gv29, h⟩ := px_bs h
    refine ev_gR dX8_noteAsSent_14 flRX8_31 gv29 ?_
    refine EV.bipush (64) dX8_noteAsSent_17 (by decide) ?_
    refine EV.aload_n 0 dX8_noteAsSent_19 rfl rfl ?_
    obtain ⟨v30, gv30, h⟩ := px_bs h
    refine ev_gR dX8_noteAsSent_20 flRX8_28 gv30 ?_
    refine EV.iload_n 1 dX8_noteAsSent_23 rfl rfl ?_
    obtain ⟨v31, gv31, h⟩ := px_bs h
    refine ev_aI dX8_noteAsSent_24 gv31 ?_
    refine EV.imul dX8_noteAsSent_25 ?_
    refine EV.aload_n 0 dX8_noteAsSent_26 rfl rfl ?_
    obtain ⟨v32, gv32, h⟩ := px_bs h
    refine ev_gR dX8_noteAsSent_27 flRX8_44 gv32 ?_
    obtain ⟨v33, gv33, h⟩ := px_bs h
    refine ev_gR dX8_noteAsSent_30 flRX8_254 gv33 ?_
    refine EV.bipush (64) dX8_noteAsSent_33 (by decide) ?_
    refine EV.iload_n 1 dX8_noteAsSent_35 rfl rfl ?_
    refine EV.imul dX8_noteAsSent_36 ?_
    refine EV.bipush (64) dX8_noteAsSent_37 (by decide) ?_
    obtain ⟨w34, gw34, h⟩ := px_bs h
    refine ev_cpI dX8_noteAsSent_39 (tb4 (List.mem_of_getElem? (i := 17) rfl)) (by decide) (by decide) (Nat.le_of_ble_eq_true rfl) gw34 ?_
    refine EV.sub [0, 1] rfl ?_
    exact eX8_noteAsSent_42  _ _ _ _ h
/-! WavePictures$SegmentReader.findEndOfData()Z -/
theorem dX8_findEndOfData_0 : decode cX8_findEndOfData 0 = .ok (.aload_n 0, 1) := by decide +kernel
theorem dX8_findEndOfData_1 : decode cX8_findEndOfData 1 = .ok (.getfield 12, 3) := by decide +kernel
theorem dX8_findEndOfData_4 : decode cX8_findEndOfData 4 = .ok (.aload_n 0, 1) := by decide +kernel
theorem dX8_findEndOfData_5 : decode cX8_findEndOfData 5 = .ok (.getfield 92, 3) := by decide +kernel
theorem dX8_findEndOfData_8 : decode cX8_findEndOfData 8 = .ok (.putfield 263, 3) := by decide +kernel
theorem dX8_findEndOfData_11 : decode cX8_findEndOfData 11 = .ok (.sipush 208, 3) := by decide +kernel
theorem dX8_findEndOfData_14 : decode cX8_findEndOfData 14 = .ok (.istore_n 1, 1) := by decide +kernel
theorem dX8_findEndOfData_15 : decode cX8_findEndOfData 15 = .ok (.aload_n 0, 1) := by decide +kernel
theorem dX8_findEndOfData_16 : decode cX8_findEndOfData 16 = .ok (.getfield 92, 3) := by decide +kernel
theorem dX8_findEndOfData_19 : decode cX8_findEndOfData 19 = .ok (.iconst 1, 1) := by decide +kernel
theorem dX8_findEndOfData_20 : decode cX8_findEndOfData 20 = .ok (.iadd, 1) := by decide +kernel
theorem dX8_findEndOfData_21 : decode cX8_findEndOfData 21 = .ok (.aload_n 0, 1) := by decide +kernel
theorem dX8_findEndOfData_22 : decode cX8_findEndOfData 22 = .ok (.getfield 40, 3) := by decide +kernel
theorem dX8_findEndOfData_25 : decode cX8_findEndOfData 25 = .ok (.getfield 95, 3) := by decide +kernel
theorem dX8_findEndOfData_28 : decode cX8_findEndOfData 28 = .ok (.if_icmp .ge 122, 3) := by decide +kernel
theorem dX8_findEndOfData_31 : decode cX8_findEndOfData 31 = .ok (.aload_n 0, 1) := by decide +kernel
theorem dX8_findEndOfData_32 : decode cX8_findEndOfData 32 = .ok (.getfield 40, 3) := by decide +kernel
theorem dX8_findEndOfData_35 : decode cX8_findEndOfData 35 = .ok (.aload_n 0, 1) := by decide +kernel
theorem dX8_findEndOfData_36 : decode cX8_findEndOfData 36 = .ok (.getfield 92, 3) := by decide +kernel
theorem dX8_findEndOfData_39 : decode cX8_findEndOfData 39 = .ok (.iconst 1, 1) := by decide +kernel
theorem dX8_findEndOfData_40 : decode cX8_findEndOfData 40 = .ok (.iadd, 1) := by decide +kernel
theorem dX8_findEndOfData_41 : decode cX8_findEndOfData 41 = .ok (.invokevirtual 104, 3) := by decide +kernel
theorem dX8_findEndOfData_44 : decode cX8_findEndOfData 44 = .ok (.istore_n 2, 1) := by decide +kernel
theorem dX8_findEndOfData_45 : decode cX8_findEndOfData 45 = .ok (.aload_n 0, 1) := by decide +kernel
theorem dX8_findEndOfData_46 : decode cX8_findEndOfData 46 = .ok (.getfield 40, 3) := by decide +kernel
theorem dX8_findEndOfData_49 : decode cX8_findEndOfData 49 = .ok (.aload_n 0, 1) := by decide +kernel
theorem dX8_findEndOfData_50 : decode cX8_findEndOfData 50 = .ok (.getfield 92, 3) := by decide +kernel
theorem dX8_findEndOfData_53 : decode cX8_findEndOfData 53 = .ok (.invokevirtual 104, 3) := by decide +kernel
theorem dX8_findEndOfData_56 : decode cX8_findEndOfData 56 = .ok (.sipush 255, 3) := by decide +kernel
theorem dX8_findEndOfData_59 : decode cX8_findEndOfData 59 = .ok (.if_icmp .eq 16, 3) := by decide +kernel
theorem dX8_findEndOfData_62 : decode cX8_findEndOfData 62 = .ok (.aload_n 0, 1) := by decide +kernel
theorem dX8_findEndOfData_63 : decode cX8_findEndOfData 63 = .ok (.dup, 1) := by decide +kernel
theorem dX8_findEndOfData_64 : decode cX8_findEndOfData 64 = .ok (.getfield 92, 3) := by decide +kernel
theorem dX8_findEndOfData_67 : decode cX8_findEndOfData 67 = .ok (.iconst 1, 1) := by decide +kernel
theorem dX8_findEndOfData_68 : decode cX8_findEndOfData 68 = .ok (.iadd, 1) := by decide +kernel
theorem dX8_findEndOfData_69 : decode cX8_findEndOfData 69 = .ok (.putfield 92, 3) := by decide +kernel
theorem dX8_findEndOfData_72 : decode cX8_findEndOfData 72 = .ok (.goto 75, 3) := by decide +kernel
theorem dX8_findEndOfData_75 : decode cX8_findEndOfData 75 = .ok (.iload_n 2, 1) := by decide +kernel
theorem dX8_findEndOfData_76 : decode cX8_findEndOfData 76 = .ok (.ifCond .ne 16, 3) := by decide +kernel
theorem dX8_findEndOfData_79 : decode cX8_findEndOfData 79 = .ok (.aload_n 0, 1) := by decide +kernel
theorem dX8_findEndOfData_80 : decode cX8_findEndOfData 80 = .ok (.dup, 1) := by decide +kernel
theorem dX8_findEndOfData_81 : decode cX8_findEndOfData 81 = .ok (.getfield 92, 3) := by decide +kernel
theorem dX8_findEndOfData_84 : decode cX8_findEndOfData 84 = .ok (.iconst 2, 1) := by decide +kernel
theorem dX8_findEndOfData_85 : decode cX8_findEndOfData 85 = .ok (.iadd, 1) := by decide +kernel
theorem dX8_findEndOfData_86 : decode cX8_findEndOfData 86 = .ok (.putfield 92, 3) := by decide +kernel
theorem dX8_findEndOfData_89 : decode cX8_findEndOfData 89 = .ok (.goto 58, 3) := by decide +kernel
theorem dX8_findEndOfData_92 : decode cX8_findEndOfData 92 = .ok (.aload_n 0, 1) := by decide +kernel
theorem dX8_findEndOfData_93 : decode cX8_findEndOfData 93 = .ok (.getfield 56, 3) := by decide +kernel
theorem dX8_findEndOfData_96 : decode cX8_findEndOfData 96 = .ok (.ifCond .le 38, 3) := by decide +kernel
theorem dX8_findEndOfData_99 : decode cX8_findEndOfData 99 = .ok (.iload_n 2, 1) := by decide +kernel
theorem dX8_findEndOfData_100 : decode cX8_findEndOfData 100 = .ok (.iload_n 1, 1) := by decide +kernel
theorem dX8_findEndOfData_101 : decode cX8_findEndOfData 101 = .ok (.if_icmp .ne 33, 3) := by decide +kernel
theorem dX8_findEndOfData_104 : decode cX8_findEndOfData 104 = .ok (.iload_n 1, 1) := by decide +kernel
theorem dX8_findEndOfData_105 : decode cX8_findEndOfData 105 = .ok (.sipush 215, 3) := by decide +kernel
theorem dX8_findEndOfData_108 : decode cX8_findEndOfData 108 = .ok (.if_icmp .ne 9, 3) := by decide +kernel
theorem dX8_findEndOfData_111 : decode cX8_findEndOfData 111 = .ok (.sipush 208, 3) := by decide +kernel
theorem dX8_findEndOfData_114 : decode cX8_findEndOfData 114 = .ok (.goto 6, 3) := by decide +kernel
theorem dX8_findEndOfData_117 : decode cX8_findEndOfData 117 = .ok (.iload_n 1, 1) := by decide +kernel
theorem dX8_findEndOfData_118 : decode cX8_findEndOfData 118 = .ok (.iconst 1, 1) := by decide +kernel
theorem dX8_findEndOfData_119 : decode cX8_findEndOfData 119 = .ok (.iadd, 1) := by decide +kernel
theorem dX8_findEndOfData_120 : decode cX8_findEndOfData 120 = .ok (.istore_n 1, 1) := by decide +kernel
theorem dX8_findEndOfData_121 : decode cX8_findEndOfData 121 = .ok (.aload_n 0, 1) := by decide +kernel
theorem dX8_findEndOfData_122 : decode cX8_findEndOfData 122 = .ok (.dup, 1) := by decide +kernel
theorem dX8_findEndOfData_123 : decode cX8_findEndOfData 123 = .ok (.getfield 92, 3) := by decide +kernel
theorem dX8_findEndOfData_126 : decode cX8_findEndOfData 126 = .ok (.iconst 2, 1) := by decide +kernel
theorem dX8_findEndOfData_127 : decode cX8_findEndOfData 127 = .ok (.iadd, 1) := by decide +kernel
theorem dX8_findEndOfData_128 : decode cX8_findEndOfData 128 = .ok (.putfield 92, 3) := by decide +kernel
theorem dX8_findEndOfData_131 : decode cX8_findEndOfData 131 = .ok (.goto 16, 3) := by decide +kernel
theorem dX8_findEndOfData_134 : decode cX8_findEndOfData 134 = .ok (.aload_n 0, 1) := by decide +kernel
theorem dX8_findEndOfData_135 : decode cX8_findEndOfData 135 = .ok (.getfield 12, 3) := by decide +kernel
theorem dX8_findEndOfData_138 : decode cX8_findEndOfData 138 = .ok (.aload_n 0, 1) := by decide +kernel
theorem dX8_findEndOfData_139 : decode cX8_findEndOfData 139 = .ok (.getfield 92, 3) := by decide +kernel
theorem dX8_findEndOfData_142 : decode cX8_findEndOfData 142 = .ok (.putfield 266, 3) := by decide +kernel
theorem dX8_findEndOfData_145 : decode cX8_findEndOfData 145 = .ok (.iconst 1, 1) := by decide +kernel
theorem dX8_findEndOfData_146 : decode cX8_findEndOfData 146 = .ok (.ireturn, 1) := by decide +kernel
theorem dX8_findEndOfData_147 : decode cX8_findEndOfData 147 = .ok (.goto (-132), 3) := by decide +kernel
theorem dX8_findEndOfData_150 : decode cX8_findEndOfData 150 = .ok (.aload_n 0, 1) := by decide +kernel
theorem dX8_findEndOfData_151 : decode cX8_findEndOfData 151 = .ok (.iconst 1, 1) := by decide +kernel
theorem dX8_findEndOfData_152 : decode cX8_findEndOfData 152 = .ok (.aload_n 0, 1) := by decide +kernel
theorem dX8_findEndOfData_153 : decode cX8_findEndOfData 153 = .ok (.getfield 40, 3) := by decide +kernel
theorem dX8_findEndOfData_156 : decode cX8_findEndOfData 156 = .ok (.getfield 95, 3) := by decide +kernel
theorem dX8_findEndOfData_159 : decode cX8_findEndOfData 159 = .ok (.invokevirtual 100, 3) := by decide +kernel
theorem dX8_findEndOfData_162 : decode cX8_findEndOfData 162 = .ok (.pop, 1) := by decide +kernel
theorem dX8_findEndOfData_163 : decode cX8_findEndOfData 163 = .ok (.iconst 0, 1) := by decide +kernel
theorem dX8_findEndOfData_164 : decode cX8_findEndOfData 164 = .ok (.ireturn, 1) := by decide +kernel
theorem flRX8_263 : px_f RX8 263 5 9 := ⟨_, rfl, by decide, Or.inl (tb1 (List.mem_of_getElem? (i := 218) rfl))⟩
theorem flRX8_266 : px_f RX8 266 5 10 := ⟨_, rfl, by decide, Or.inl (tb1 (List.mem_of_getElem? (i := 220) rfl))⟩
theorem kcX8_findEndOfData_100 : px_cV mX8_findEndOfData 100 mX8_fail 2 := ⟨⟨mbX8_fail, by decide, by decide⟩, Or.inl (tb3 (List.mem_of_getElem? (i := 143) rfl)), vbX8_fail⟩
theorem kcX8_findEndOfData_104 : px_cV mX8_findEndOfData 104 mX1_at 1 := ⟨⟨mbX1_at, by decide, by decide⟩, Or.inl (tb3 (List.mem_of_getElem? (i := 147) rfl)), vbX1_at⟩
set_option maxRecDepth 100000 in
set_option maxHeartbeats 4000000 in
theorem eX8_findEndOfData_147 {X : px_X} {k15 : Nat → Int32 → px_W → Option (Int32 × px_W)} (hk15 : ∀ (a0 : Nat) (a1 : Int32) (w : px_W) (q : Int32 × px_W), k15 a0 a1 w = some q → EV X mX8_findEndOfData 15 [(0, .ref a0), (1, .int a1)] [] w (some (.int q.1)) q.2) : ∀ (a0 : Nat) (a1 : Int32) (w : px_W) (q : Int32 × px_W), fX8_findEndOfData_147 X k15 a0 a1 w = some q → EV X mX8_findEndOfData 147 [(0, .ref a0), (1, .int a1)] [] w (some (.int q.1)) q.2 := by
  intro a0 a1 w q h
  unfold fX8_findEndOfData_147 at h
  refine EV.goto 15 dX8_findEndOfData_147 (by decide) ?_
  refine EV.sub [0, 1] rfl ?_
  exact hk15 _ _ _ _ h
set_option maxRecDepth 100000 in
set_option maxHeartbeats 4000000 in
theorem eX8_findEndOfData_120 {X : px_X} {k15 : Nat → Int32 → px_W → Option (Int32 × px_W)} (hk15 : ∀ (a0 : Nat) (a1 : Int32) (w : px_W) (q : Int32 × px_W), k15 a0 a1 w = some q → EV X mX8_findEndOfData 15 [(0, .ref a0), (1, .int a1)] [] w (some (.int q.1)) q.2) : ∀ (a0 : Nat) (s0 : Int32) (w : px_W) (q : Int32 × px_W), fX8_findEndOfData_120 X k15 a0 s0 w = some q → EV X mX8_findEndOfData 120 [(0, .ref a0)] [.int s0] w (some (.int q.1)) q.2 := by
  intro a0 s0 w q h
  unfold fX8_findEndOfData_120 at h
  refine EV.istore_n [(1, .int s0), (0, .ref a0)] dX8_findEndOfData_120 rfl (by decide) rfl ?_
  refine EV.aload_n 1 dX8_findEndOfData_121 rfl rfl ?_
  refine EV.dup dX8_findEndOfData_122 rfl ?_
  obtain ⟨v29, gv29, h⟩ := px_bs h
  refine ev_gI dX8_findEndOfData_123 flRX8_92 gv29 ?_
  refine EV.iconst (2) dX8_findEndOfData_126 (by decide) ?_
  refine EV.iadd dX8_findEndOfData_127 ?_
  obtain ⟨w30, gw30, h⟩ := px_bs h
  refine ev_pV dX8_findEndOfData_128 flRX8_92 rfl rfl rfl rfl gw30 ?_
  refine EV.goto 147 dX8_findEndOfData_131 (by decide) ?_
  refine EV.sub [1, 0] rfl ?_
  exact eX8_findEndOfData_147 hk15 _ _ _ _ h
set_option maxRecDepth 100000 in
set_option maxHeartbeats 4000000 in
theorem eX8_findEndOfData_134 {X : px_X}  : ∀ (a0 : Nat) (w : px_W) (q : Int32 × px_W), fX8_findEndOfData_134 X  a0 w = some q → EV X mX8_findEndOfData 134 [(0, .ref a0)] [] w (some (.int q.1)) q.2 := by
  intro a0 w q h
  unfold fX8_findEndOfData_134 at h
  refine EV.aload_n 0 dX8_findEndOfData_134 rfl rfl ?_
  obtain ⟨v31, gv31, h⟩ := px_bs h
  refine ev_gR dX8_findEndOfData_135 flRX8_12 gv31 ?_
  refine EV.aload_n 0 dX8_findEndOfData_138 rfl rfl ?_
  obtain ⟨v32, gv32, h⟩ := px_bs h
  refine ev_gI dX8_findEndOfData_139 flRX8_92 gv32 ?_
  obtain ⟨w33, gw33, h⟩ := px_bs h
  refine ev_pV dX8_findEndOfData_142 flRX8_266 rfl rfl rfl rfl gw33 ?_
  refine EV.iconst (1) dX8_findEndOfData_145 (by decide) ?_
  cases h
  exact EV.reti dX8_findEndOfData_146 rfl
set_option maxRecDepth 100000 in
set_option maxHeartbeats 4000000 in
theorem eX8_findEndOfData_150 {X : px_X}  : ∀ (a0 : Nat) (w : px_W) (q : Int32 × px_W), fX8_findEndOfData_150 X  a0 w = some q → EV X mX8_findEndOfData 150 [(0, .ref a0)] [] w (some (.int q.1)) q.2 := by
  intro a0 w q h
  unfold fX8_findEndOfData_150 at h
  refine EV.aload_n 0 dX8_findEndOfData_150 rfl rfl ?_
  refine EV.iconst (1) dX8_findEndOfData_151 (by decide) ?_
  refine EV.aload_n 0 dX8_findEndOfData_152 rfl rfl ?_
  obtain ⟨v34, gv34, h⟩ := px_bs h
  refine ev_gR dX8_findEndOfData_153 flRX8_40 gv34 ?_
  obtain ⟨v35, gv35, h⟩ := px_bs h
  refine ev_gI dX8_findEndOfData_156 flRX8_95 gv35 ?_
  obtain ⟨o36, go36, h⟩ := px_bs h
  obtain ⟨q37, gq37, h⟩ := px_bs h
  refine EV.callV (As := [.int 1, .int v35]) (rest := []) dX8_findEndOfData_159 kcX8_findEndOfData_100 (gO_ok go36) rfl rfl rfl (Nat.le_of_ble_eq_true rfl) (Nat.le_of_ble_eq_true rfl) (eX8_fail gq37) ?_
  refine EV.pop dX8_findEndOfData_162 rfl ?_
  refine EV.iconst (0) dX8_findEndOfData_163 (by decide) ?_
  cases h
  exact EV.reti dX8_findEndOfData_164 rfl
set_option maxRecDepth 100000 in
set_option maxHeartbeats 4000000 in
theorem eX8_findEndOfData_15 {X : px_X}  : ∀ (m : Nat) (a0 : Nat) (a1 : Int32) (w : px_W) (q : Int32 × px_W), fX8_findEndOfData_15 X  m a0 a1 w = some q → EV X mX8_findEndOfData 15 [(0, .ref a0), (1, .int a1)] [] w (some (.int q.1)) q.2 := by
  intro m
  induction m with
  | zero => intro a0 a1 w q h; cases h
  | succ m ih =>
    intro a0 a1 w q h
    rw [fX8_findEndOfData_15.eq_2] at h
    refine EV.aload_n 0 dX8_findEndOfData_15 rfl rfl ?_
    obtain ⟨v38, gv38, h⟩ := px_bs h
    refine ev_gI dX8_findEndOfData_16 flRX8_92 gv38 ?_
    refine EV.iconst (1) dX8_findEndOfData_19 (by decide) ?_
    refine EV.iadd dX8_findEndOfData_20 ?_
    refine EV.aload_n 0 dX8_findEndOfData_21 rfl rfl ?_
    obtain ⟨v39, gv39, h⟩ := px_bs h
    refine ev_gR dX8_findEndOfData_22 flRX8_40 gv39 ?_
    obtain ⟨v40, gv40, h⟩ := px_bs h
    refine ev_gI dX8_findEndOfData_25 flRX8_95 gv40 ?_
    refine EV.icmp_ge 150 dX8_findEndOfData_28 (by decide) (fun c41 => ?_) (fun c41 => ?_)
    · rw [if_pos c41] at h
      refine EV.sub [0] rfl ?_
      exact eX8_findEndOfData_150  _ _ _ h
    · rw [if_neg c41] at h
      refine EV.aload_n 0 dX8_findEndOfData_31 rfl rfl ?_
      obtain ⟨v42, gv42, h⟩ := px_bs h
      refine ev_gR dX8_findEndOfData_32 flRX8_40 gv42 ?_
      refine EV.aload_n 0 dX8_findEndOfData_35 rfl rfl ?_
      obtain ⟨v43, gv43, h⟩ := px_bs h
      refine ev_gI dX8_findEndOfData_36 flRX8_92 gv43 ?_
      refine EV.iconst (1) dX8_findEndOfData_39 (by decide) ?_
      refine EV.iadd dX8_findEndOfData_40 ?_
      obtain ⟨o44, go44, h⟩ := px_bs h
      obtain ⟨q45, gq45, h⟩ := px_bs h
      refine EV.callV (As := [.int (v43 + 1)]) (rest := []) dX8_findEndOfData_41 kcX8_findEndOfData_104 (gO_ok go44) rfl rfl rfl (Nat.le_of_ble_eq_true rfl) (Nat.le_of_ble_eq_true rfl) (eX1_at gq45) ?_
      refine EV.istore_n [(2, .int q45.1), (0, .ref a0), (1, .int a1)] dX8_findEndOfData_44 rfl (by decide) rfl ?_
      refine EV.aload_n 1 dX8_findEndOfData_45 rfl rfl ?_
      obtain ⟨v46, gv46, h⟩ := px_bs h
      refine ev_gR dX8_findEndOfData_46 flRX8_40 gv46 ?_
      refine EV.aload_n 1 dX8_findEndOfData_49 rfl rfl ?_
      obtain ⟨v47, gv47, h⟩ := px_bs h
      refine ev_gI dX8_findEndOfData_50 flRX8_92 gv47 ?_
      obtain ⟨o48, go48, h⟩ := px_bs h
      obtain ⟨q49, gq49, h⟩ := px_bs h
      refine EV.callV (As := [.int v47]) (rest := []) dX8_findEndOfData_53 kcX8_findEndOfData_104 (gO_ok go48) rfl rfl rfl (Nat.le_of_ble_eq_true rfl) (Nat.le_of_ble_eq_true rfl) (eX1_at gq49) ?_
      refine EV.sipush (255) dX8_findEndOfData_56 (by decide) ?_
      refine EV.icmp_eq 75 dX8_findEndOfData_59 (by decide) (fun c50 => ?_) (fun c50 => ?_)
      · rw [if_pos c50] at h
        refine EV.iload_n 0 dX8_findEndOfData_75 rfl rfl ?_
        refine EV.if_ne 92 dX8_findEndOfData_76 (by decide) (fun c51 => ?_) (fun c51 => ?_)
        · rw [if_neg c51] at h
          refine EV.aload_n 1 dX8_findEndOfData_92 rfl rfl ?_
          obtain ⟨v52, gv52, h⟩ := px_bs h
          refine ev_gI dX8_findEndOfData_93 flRX8_56 gv52 ?_
          refine EV.if_le 134 dX8_findEndOfData_96 (by decide) (fun c53 => ?_) (fun c53 => ?_)
          · rw [if_pos c53] at h
            refine EV.sub [1] rfl ?_
            exact eX8_findEndOfData_134  _ _ _ h
          · rw [if_neg c53] at h
            refine EV.iload_n 0 dX8_findEndOfData_99 rfl rfl ?_
            refine EV.iload_n 2 dX8_findEndOfData_100 rfl rfl ?_
            refine EV.icmp_ne 134 dX8_findEndOfData_101 (by decide) (fun c54 => ?_) (fun c54 => ?_)
            · rw [if_neg c54] at h
              refine EV.sub [1] rfl ?_
              exact eX8_findEndOfData_134  _ _ _ h
            · rw [if_pos c54] at h
              refine EV.iload_n 2 dX8_findEndOfData_104 rfl rfl ?_
              refine EV.sipush (215) dX8_findEndOfData_105 (by decide) ?_
              refine EV.icmp_ne 117 dX8_findEndOfData_108 (by decide) (fun c55 => ?_) (fun c55 => ?_)
              · rw [if_neg c55] at h
                refine EV.iload_n 2 dX8_findEndOfData_117 rfl rfl ?_
                refine EV.iconst (1) dX8_findEndOfData_118 (by decide) ?_
                refine EV.iadd dX8_findEndOfData_119 ?_
                refine EV.sub [1] rfl ?_
                exact eX8_findEndOfData_120 ih _ _ _ _ h
              · rw [if_pos c55] at h
                refine EV.sipush (208) dX8_findEndOfData_111 (by decide) ?_
                refine EV.goto 120 dX8_findEndOfData_114 (by decide) ?_
                refine EV.sub [1] rfl ?_
                exact eX8_findEndOfData_120 ih _ _ _ _ h
        · rw [if_pos c51] at h
          refine EV.aload_n 1 dX8_findEndOfData_79 rfl rfl ?_
          refine EV.dup dX8_findEndOfData_80 rfl ?_
          obtain ⟨v56, gv56, h⟩ := px_bs h
          refine ev_gI dX8_findEndOfData_81 flRX8_92 gv56 ?_
          refine EV.iconst (2) dX8_findEndOfData_84 (by decide) ?_
          refine EV.iadd dX8_findEndOfData_85 ?_
          obtain ⟨w57, gw57, h⟩ := px_bs h
          refine ev_pV dX8_findEndOfData_86 flRX8_92 rfl rfl rfl rfl gw57 ?_
          refine EV.goto 147 dX8_findEndOfData_89 (by decide) ?_
          refine EV.sub [1, 2] rfl ?_
          exact eX8_findEndOfData_147 ih _ _ _ _ h
      · rw [if_neg c50] at h
        refine EV.aload_n 1 dX8_findEndOfData_62 rfl rfl ?_
        refine EV.dup dX8_findEndOfData_63 rfl ?_
        obtain ⟨v58, gv58, h⟩ := px_bs h
        refine ev_gI dX8_findEndOfData_64 flRX8_92 gv58 ?_
        refine EV.iconst (1) dX8_findEndOfData_67 (by decide) ?_
        refine EV.iadd dX8_findEndOfData_68 ?_
        obtain ⟨w59, gw59, h⟩ := px_bs h
        refine ev_pV dX8_findEndOfData_69 flRX8_92 rfl rfl rfl rfl gw59 ?_
        refine EV.goto 147 dX8_findEndOfData_72 (by decide) ?_
        refine EV.sub [1, 2] rfl ?_
        exact eX8_findEndOfData_147 ih _ _ _ _ h
set_option maxRecDepth 100000 in
set_option maxHeartbeats 4000000 in
theorem eX8_findEndOfData {X : px_X} {w : px_W} {a0 : Nat} {q : Int32 × px_W} (h : fX8_findEndOfData X w a0 = some q) : EV X mX8_findEndOfData 0 (lv_args 0 [.ref a0]) [] w (some (.int q.1)) q.2 := by
  unfold fX8_findEndOfData at h
  show EV X mX8_findEndOfData 0 [(0, .ref a0)] [] w (some (.int q.1)) q.2
  refine EV.aload_n 0 dX8_findEndOfData_0 rfl rfl ?_
  obtain ⟨v60, gv60, h⟩ := px_bs h
  refine ev_gR dX8_findEndOfData_1 flRX8_12 gv60 ?_
  refine EV.aload_n 0 dX8_findEndOfData_4 rfl rfl ?_
  obtain ⟨v61, gv61, h⟩ := px_bs h
  refine ev_gI dX8_findEndOfData_5 flRX8_92 gv61 ?_
  obtain ⟨w62, gw62, h⟩ := px_bs h
  refine ev_pV dX8_findEndOfData_8 flRX8_263 rfl rfl rfl rfl gw62 ?_
  refine EV.sipush (208) dX8_findEndOfData_11 (by decide) ?_
  refine EV.istore_n [(1, .int 208), (0, .ref a0)] dX8_findEndOfData_14 rfl (by decide) rfl ?_
  refine EV.sub [1, 0] rfl ?_
  exact eX8_findEndOfData_15  FU _ _ _ _ h
/-! WavePictures$SegmentReader.readScan()Z -/
theorem dX8_readScan_0 : decode cX8_readScan 0 = .ok (.aload_n 0, 1) := by decide +kernel
theorem dX8_readScan_1 : decode cX8_readScan 1 = .ok (.getfield 12, 3) := by decide +kernel
theorem dX8_readScan_4 : decode cX8_readScan 4 = .ok (.aload_n 0, 1) := by decide +kernel
theorem dX8_readScan_5 : decode cX8_readScan 5 = .ok (.iconst 1, 1) := by decide +kernel
theorem dX8_readScan_6 : decode cX8_readScan 6 = .ok (.iconst 4, 1) := by decide +kernel
theorem dX8_readScan_7 : decode cX8_readScan 7 = .ok (.invokevirtual 156, 3) := by decide +kernel
theorem dX8_readScan_10 : decode cX8_readScan 10 = .ok (.putfield 204, 3) := by decide +kernel
theorem dX8_readScan_13 : decode cX8_readScan 13 = .ok (.aload_n 0, 1) := by decide +kernel
theorem dX8_readScan_14 : decode cX8_readScan 14 = .ok (.getfield 12, 3) := by decide +kernel
theorem dX8_readScan_17 : decode cX8_readScan 17 = .ok (.getfield 204, 3) := by decide +kernel
theorem dX8_readScan_20 : decode cX8_readScan 20 = .ok (.iconst (-1), 1) := by decide +kernel
theorem dX8_readScan_21 : decode cX8_readScan 21 = .ok (.if_icmp .eq 17, 3) := by decide +kernel
theorem dX8_readScan_24 : decode cX8_readScan 24 = .ok (.aload_n 0, 1) := by decide +kernel
theorem dX8_readScan_25 : decode cX8_readScan 25 = .ok (.invokevirtual 205, 3) := by decide +kernel
theorem dX8_readScan_28 : decode cX8_readScan 28 = .ok (.ifCond .eq 10, 3) := by decide +kernel
theorem dX8_readScan_31 : decode cX8_readScan 31 = .ok (.aload_n 0, 1) := by decide +kernel
theorem dX8_readScan_32 : decode cX8_readScan 32 = .ok (.invokevirtual 208, 3) := by decide +kernel
theorem dX8_readScan_35 : decode cX8_readScan 35 = .ok (.ifCond .ne 5, 3) := by decide +kernel
theorem dX8_readScan_38 : decode cX8_readScan 38 = .ok (.iconst 0, 1) := by decide +kernel
theorem dX8_readScan_39 : decode cX8_readScan 39 = .ok (.ireturn, 1) := by decide +kernel
theorem dX8_readScan_40 : decode cX8_readScan 40 = .ok (.iconst 0, 1) := by decide +kernel
theorem dX8_readScan_41 : decode cX8_readScan 41 = .ok (.istore_n 1, 1) := by decide +kernel
theorem dX8_readScan_42 : decode cX8_readScan 42 = .ok (.iload_n 1, 1) := by decide +kernel
theorem dX8_readScan_43 : decode cX8_readScan 43 = .ok (.aload_n 0, 1) := by decide +kernel
theorem dX8_readScan_44 : decode cX8_readScan 44 = .ok (.getfield 12, 3) := by decide +kernel
theorem dX8_readScan_47 : decode cX8_readScan 47 = .ok (.getfield 204, 3) := by decide +kernel
theorem dX8_readScan_50 : decode cX8_readScan 50 = .ok (.if_icmp .ge 19, 3) := by decide +kernel
theorem dX8_readScan_53 : decode cX8_readScan 53 = .ok (.aload_n 0, 1) := by decide +kernel
theorem dX8_readScan_54 : decode cX8_readScan 54 = .ok (.iload_n 1, 1) := by decide +kernel
theorem dX8_readScan_55 : decode cX8_readScan 55 = .ok (.invokevirtual 211, 3) := by decide +kernel
theorem dX8_readScan_58 : decode cX8_readScan 58 = .ok (.ifCond .ne 5, 3) := by decide +kernel
theorem dX8_readScan_61 : decode cX8_readScan 61 = .ok (.iconst 0, 1) := by decide +kernel
theorem dX8_readScan_62 : decode cX8_readScan 62 = .ok (.ireturn, 1) := by decide +kernel
theorem dX8_readScan_63 : decode cX8_readScan 63 = .ok (.iinc 1 1, 3) := by decide +kernel
theorem dX8_readScan_66 : decode cX8_readScan 66 = .ok (.goto (-24), 3) := by decide +kernel
theorem dX8_readScan_69 : decode cX8_readScan 69 = .ok (.iconst 0, 1) := by decide +kernel
theorem dX8_readScan_70 : decode cX8_readScan 70 = .ok (.istore_n 1, 1) := by decide +kernel
theorem dX8_readScan_71 : decode cX8_readScan 71 = .ok (.iload_n 1, 1) := by decide +kernel
theorem dX8_readScan_72 : decode cX8_readScan 72 = .ok (.aload_n 0, 1) := by decide +kernel
theorem dX8_readScan_73 : decode cX8_readScan 73 = .ok (.getfield 12, 3) := by decide +kernel
theorem dX8_readScan_76 : decode cX8_readScan 76 = .ok (.getfield 204, 3) := by decide +kernel
theorem dX8_readScan_79 : decode cX8_readScan 79 = .ok (.if_icmp .ge 19, 3) := by decide +kernel
theorem dX8_readScan_82 : decode cX8_readScan 82 = .ok (.aload_n 0, 1) := by decide +kernel
theorem dX8_readScan_83 : decode cX8_readScan 83 = .ok (.iload_n 1, 1) := by decide +kernel
theorem dX8_readScan_84 : decode cX8_readScan 84 = .ok (.invokevirtual 214, 3) := by decide +kernel
theorem dX8_readScan_87 : decode cX8_readScan 87 = .ok (.ifCond .ne 5, 3) := by decide +kernel
theorem dX8_readScan_90 : decode cX8_readScan 90 = .ok (.iconst 0, 1) := by decide +kernel
theorem dX8_readScan_91 : decode cX8_readScan 91 = .ok (.ireturn, 1) := by decide +kernel
theorem dX8_readScan_92 : decode cX8_readScan 92 = .ok (.iinc 1 1, 3) := by decide +kernel
theorem dX8_readScan_95 : decode cX8_readScan 95 = .ok (.goto (-24), 3) := by decide +kernel
theorem dX8_readScan_98 : decode cX8_readScan 98 = .ok (.aload_n 0, 1) := by decide +kernel
theorem dX8_readScan_99 : decode cX8_readScan 99 = .ok (.invokevirtual 186, 3) := by decide +kernel
theorem dX8_readScan_102 : decode cX8_readScan 102 = .ok (.ifCond .ne 5, 3) := by decide +kernel
theorem dX8_readScan_105 : decode cX8_readScan 105 = .ok (.iconst 0, 1) := by decide +kernel
theorem dX8_readScan_106 : decode cX8_readScan 106 = .ok (.ireturn, 1) := by decide +kernel
theorem dX8_readScan_107 : decode cX8_readScan 107 = .ok (.aload_n 0, 1) := by decide +kernel
theorem dX8_readScan_108 : decode cX8_readScan 108 = .ok (.aload_n 0, 1) := by decide +kernel
theorem dX8_readScan_109 : decode cX8_readScan 109 = .ok (.getfield 71, 3) := by decide +kernel
theorem dX8_readScan_112 : decode cX8_readScan 112 = .ok (.ifCond .eq 14, 3) := by decide +kernel
theorem dX8_readScan_115 : decode cX8_readScan 115 = .ok (.aload_n 0, 1) := by decide +kernel
theorem dX8_readScan_116 : decode cX8_readScan 116 = .ok (.invokevirtual 217, 3) := by decide +kernel
theorem dX8_readScan_119 : decode cX8_readScan 119 = .ok (.ifCond .eq 7, 3) := by decide +kernel
theorem dX8_readScan_122 : decode cX8_readScan 122 = .ok (.iconst 1, 1) := by decide +kernel
theorem dX8_readScan_123 : decode cX8_readScan 123 = .ok (.goto 4, 3) := by decide +kernel
theorem dX8_readScan_126 : decode cX8_readScan 126 = .ok (.iconst 0, 1) := by decide +kernel
theorem dX8_readScan_127 : decode cX8_readScan 127 = .ok (.putfield 75, 3) := by decide +kernel
theorem dX8_readScan_130 : decode cX8_readScan 130 = .ok (.iconst 0, 1) := by decide +kernel
theorem dX8_readScan_131 : decode cX8_readScan 131 = .ok (.istore_n 1, 1) := by decide +kernel
theorem dX8_readScan_132 : decode cX8_readScan 132 = .ok (.iload_n 1, 1) := by decide +kernel
theorem dX8_readScan_133 : decode cX8_readScan 133 = .ok (.aload_n 0, 1) := by decide +kernel
theorem dX8_readScan_134 : decode cX8_readScan 134 = .ok (.getfield 12, 3) := by decide +kernel
theorem dX8_readScan_137 : decode cX8_readScan 137 = .ok (.getfield 204, 3) := by decide +kernel
theorem dX8_readScan_140 : decode cX8_readScan 140 = .ok (.if_icmp .ge 22, 3) := by decide +kernel
theorem dX8_readScan_143 : decode cX8_readScan 143 = .ok (.aload_n 0, 1) := by decide +kernel
theorem dX8_readScan_144 : decode cX8_readScan 144 = .ok (.aload_n 0, 1) := by decide +kernel
theorem dX8_readScan_145 : decode cX8_readScan 145 = .ok (.getfield 12, 3) := by decide +kernel
theorem dX8_readScan_148 : decode cX8_readScan 148 = .ok (.getfield 220, 3) := by decide +kernel
theorem dX8_readScan_151 : decode cX8_readScan 151 = .ok (.iload_n 1, 1) := by decide +kernel
theorem dX8_readScan_152 : decode cX8_readScan 152 = .ok (.iaload, 1) := by decide +kernel
theorem dX8_readScan_153 : decode cX8_readScan 153 = .ok (.invokevirtual 223, 3) := by decide +kernel
theorem dX8_readScan_156 : decode cX8_readScan 156 = .ok (.iinc 1 1, 3) := by decide +kernel
theorem dX8_readScan_159 : decode cX8_readScan 159 = .ok (.goto (-27), 3) := by decide +kernel
theorem dX8_readScan_162 : decode cX8_readScan 162 = .ok (.aload_n 0, 1) := by decide +kernel
theorem dX8_readScan_163 : decode cX8_readScan 163 = .ok (.invokevirtual 227, 3) := by decide +kernel
theorem dX8_readScan_166 : decode cX8_readScan 166 = .ok (.ireturn, 1) := by decide +kernel
theorem kcX8_readScan_156 : px_cV mX8_readScan 156 mX8_byteIn 2 := ⟨⟨mbX8_byteIn, by decide, by decide⟩, Or.inl (tb3 (List.mem_of_getElem? (i := 176) rfl)), vbX8_byteIn⟩
theorem kcX8_readScan_186 : px_cV mX8_readScan 186 mX8_endsHere 0 := ⟨⟨mbX8_endsHere, by decide, by decide⟩, Or.inl (tb3 (List.mem_of_getElem? (i := 213) rfl)), vbX8_endsHere⟩
theorem mbX8_readMembers : px_mB mX8_readMembers 0 := ⟨tb3 (List.mem_of_getElem? (i := 232) rfl), by decide +kernel, tb1 (List.mem_of_getElem? (i := 6) rfl), by decide +kernel, by decide +kernel⟩
theorem vbX8_readMembers : px_vB mX8_readMembers := ⟨tb3 (List.mem_of_getElem? (i := 231) rfl), List.mem_append_left _ (List.mem_of_getElem? (i := 19) (by decide +kernel))⟩
theorem kcX8_readScan_205 : px_cV mX8_readScan 205 mX8_readMembers 0 := ⟨⟨mbX8_readMembers, by decide, by decide⟩, Or.inl (tb3 (List.mem_of_getElem? (i := 229) rfl)), vbX8_readMembers⟩
theorem mbX8_readBand : px_mB mX8_readBand 0 := ⟨tb4 (List.mem_of_getElem? (i := 0) rfl), by decide +kernel, tb1 (List.mem_of_getElem? (i := 6) rfl), by decide +kernel, by decide +kernel⟩
theorem vbX8_readBand : px_vB mX8_readBand := ⟨tb3 (List.mem_of_getElem? (i := 239) rfl), List.mem_append_left _ (List.mem_of_getElem? (i := 21) (by decide +kernel))⟩
theorem kcX8_readScan_208 : px_cV mX8_readScan 208 mX8_readBand 0 := ⟨⟨mbX8_readBand, by decide, by decide⟩, Or.inl (tb3 (List.mem_of_getElem? (i := 237) rfl)), vbX8_readBand⟩
theorem mbX8_fitsWhatWasSent : px_mB mX8_fitsWhatWasSent 1 := ⟨tb4 (List.mem_of_getElem? (i := 4) rfl), by decide +kernel, tb1 (List.mem_of_getElem? (i := 6) rfl), by decide +kernel, by decide +kernel⟩
theorem vbX8_fitsWhatWasSent : px_vB mX8_fitsWhatWasSent := ⟨tb4 (List.mem_of_getElem? (i := 3) rfl), List.mem_append_left _ (List.mem_of_getElem? (i := 22) (by decide +kernel))⟩
theorem kcX8_readScan_211 : px_cV mX8_readScan 211 mX8_fitsWhatWasSent 1 := ⟨⟨mbX8_fitsWhatWasSent, by decide, by decide⟩, Or.inl (tb4 (List.mem_of_getElem? (i := 1) rfl)), vbX8_fitsWhatWasSent⟩
theorem mbX8_hasItsTables : px_mB mX8_hasItsTables 1 := ⟨tb4 (List.mem_of_getElem? (i := 8) rfl), by decide +kernel, tb1 (List.mem_of_getElem? (i := 6) rfl), by decide +kernel, by decide +kernel⟩
theorem vbX8_hasItsTables : px_vB mX8_hasItsTables := ⟨tb4 (List.mem_of_getElem? (i := 7) rfl), List.mem_append_left _ (List.mem_of_getElem? (i := 23) (by decide +kernel))⟩
theorem kcX8_readScan_214 : px_cV mX8_readScan 214 mX8_hasItsTables 1 := ⟨⟨mbX8_hasItsTables, by decide, by decide⟩, Or.inl (tb4 (List.mem_of_getElem? (i := 5) rfl)), vbX8_hasItsTables⟩
theorem mbX8_isFirstScan : px_mB mX8_isFirstScan 0 := ⟨tb4 (List.mem_of_getElem? (i := 12) rfl), by decide +kernel, tb1 (List.mem_of_getElem? (i := 6) rfl), by decide +kernel, by decide +kernel⟩
theorem vbX8_isFirstScan : px_vB mX8_isFirstScan := ⟨tb4 (List.mem_of_getElem? (i := 11) rfl), List.mem_append_left _ (List.mem_of_getElem? (i := 24) (by decide +kernel))⟩
theorem kcX8_readScan_217 : px_cV mX8_readScan 217 mX8_isFirstScan 0 := ⟨⟨mbX8_isFirstScan, by decide, by decide⟩, Or.inl (tb4 (List.mem_of_getElem? (i := 9) rfl)), vbX8_isFirstScan⟩
theorem mbX8_noteAsSent : px_mB mX8_noteAsSent 1 := ⟨tb4 (List.mem_of_getElem? (i := 16) rfl), by decide +kernel, tb1 (List.mem_of_getElem? (i := 6) rfl), by decide +kernel, by decide +kernel⟩
theorem vbX8_noteAsSent : px_vB mX8_noteAsSent := ⟨tb4 (List.mem_of_getElem? (i := 15) rfl), List.mem_append_left _ (List.mem_of_getElem? (i := 25) (by decide +kernel))⟩
theorem kcX8_readScan_223 : px_cV mX8_readScan 223 mX8_noteAsSent 1 := ⟨⟨mbX8_noteAsSent, by decide, by decide⟩, Or.inl (tb4 (List.mem_of_getElem? (i := 13) rfl)), vbX8_noteAsSent⟩
theorem mbX8_findEndOfData : px_mB mX8_findEndOfData 0 := ⟨tb4 (List.mem_of_getElem? (i := 21) rfl), by decide +kernel, tb1 (List.mem_of_getElem? (i := 6) rfl), by decide +kernel, by decide +kernel⟩
theorem vbX8_findEndOfData : px_vB mX8_findEndOfData := ⟨tb4 (List.mem_of_getElem? (i := 20) rfl), List.mem_append_left _ (List.mem_of_getElem? (i := 26) (by decide +kernel))⟩
theorem kcX8_readScan_227 : px_cV mX8_readScan 227 mX8_findEndOfData 0 := ⟨⟨mbX8_findEndOfData, by decide, by decide⟩, Or.inl (tb4 (List.mem_of_getElem? (i := 18) rfl)), vbX8_findEndOfData⟩
set_option maxRecDepth 100000 in
set_option maxHeartbeats 4000000 in
theorem eX8_readScan_162 {X : px_X}  : ∀ (a0 : Nat) (w : px_W) (q : Int32 × px_W), fX8_readScan_162 X  a0 w = some q → EV X mX8_readScan 162 [(0, .ref a0)] [] w (some (.int q.1)) q.2 := by
  intro a0 w q h
  unfold fX8_readScan_162 at h
  refine EV.aload_n 0 dX8_readScan_162 rfl rfl ?_
  obtain ⟨o34, go34, h⟩ := px_bs h
  obtain ⟨q35, gq35, h⟩ := px_bs h
  refine EV.callV (As := []) (rest := []) dX8_readScan_163 kcX8_readScan_227 (gO_ok go34) rfl rfl rfl (Nat.le_of_ble_eq_true rfl) (Nat.le_of_ble_eq_true rfl) (eX8_findEndOfData gq35) ?_
  exact ev_retZ dX8_readScan_166 rfl h
set_option maxRecDepth 100000 in
set_option maxHeartbeats 4000000 in
theorem eX8_readScan_132 {X : px_X}  : ∀ (m : Nat) (a0 : Nat) (a1 : Int32) (w : px_W) (q : Int32 × px_W), fX8_readScan_132 X  m a0 a1 w = some q → EV X mX8_readScan 132 [(0, .ref a0), (1, .int a1)] [] w (some (.int q.1)) q.2 := by
  intro m
  induction m with
  | zero => intro a0 a1 w q h; cases h
  | succ m ih =>
    intro a0 a1 w q h
    rw [fX8_readScan_132.eq_2] at h
    refine EV.iload_n 1 dX8_readScan_132 rfl rfl ?_
    refine EV.aload_n 0 dX8_readScan_133 rfl rfl ?_
    obtain ⟨v36, gv36, h⟩ := px_bs h
    refine ev_gR dX8_readScan_134 flRX8_12 gv36 ?_
    obtain ⟨v37, gv37, h⟩ := px_bs h
    refine ev_gI dX8_readScan_137 flRX8_204 gv37 ?_
    refine EV.icmp_ge 162 dX8_readScan_140 (by decide) (fun c38 => ?_) (fun c38 => ?_)
    · rw [if_pos c38] at h
      refine EV.sub [0] rfl ?_
      exact eX8_readScan_162  _ _ _ h
    · rw [if_neg c38] at h
      refine EV.aload_n 0 dX8_readScan_143 rfl rfl ?_
      refine EV.aload_n 0 dX8_readScan_144 rfl rfl ?_
      obtain ⟨v39, gv39, h⟩ := px_bs h
      refine ev_gR dX8_readScan_145 flRX8_12 gv39 ?_
      obtain ⟨v40, gv40, h⟩ := px_bs h
      refine ev_gR dX8_readScan_148 flRX8_220 gv40 ?_
      refine EV.iload_n 1 dX8_readScan_151 rfl rfl ?_
      obtain ⟨v41, gv41, h⟩ := px_bs h
      refine ev_aI dX8_readScan_152 gv41 ?_
      obtain ⟨o42, go42, h⟩ := px_bs h
      obtain ⟨q43, gq43, h⟩ := px_bs h
      refine EV.callV (As := [.int v41]) (rest := []) dX8_readScan_153 kcX8_readScan_223 (gO_ok go42) rfl rfl rfl (Nat.le_of_ble_eq_true rfl) (Nat.le_of_ble_eq_true rfl) (eX8_noteAsSent gq43) ?_
      refine EV.iinc 1 (a1 + 1) [(1, .int (a1 + 1)), (0, .ref a0)] dX8_readScan_156 rfl rfl (by decide) rfl ?_
      refine EV.goto 132 dX8_readScan_159 (by decide) ?_
      refine EV.sub [1, 0] rfl ?_
      exact ih _ _ _ _ h
set_option maxRecDepth 100000 in
set_option maxHeartbeats 4000000 in
theorem eX8_readScan_127 {X : px_X}  : ∀ (a0 : Nat) (s0 : Int32) (s1 : Nat) (w : px_W) (q : Int32 × px_W), fX8_readScan_127 X  a0 s0 s1 w = some q → EV X mX8_readScan 127 [(0, .ref a0)] [.int s0, .ref s1] w (some (.int q.1)) q.2 := by
  intro a0 s0 s1 w q h
  unfold fX8_readScan_127 at h
  obtain ⟨w44, gw44, h⟩ := px_bs h
  refine ev_pZ dX8_readScan_127 flRX8_75 rfl rfl (by decide +kernel) gw44 ?_
  refine EV.iconst (0) dX8_readScan_130 (by decide) ?_
  refine EV.istore_n [(1, .int 0), (0, .ref a0)] dX8_readScan_131 rfl (by decide) rfl ?_
  refine EV.sub [1, 0] rfl ?_
  exact eX8_readScan_132  FU _ _ _ _ h
set_option maxRecDepth 100000 in
set_option maxHeartbeats 4000000 in
theorem eX8_readScan_126 {X : px_X}  : ∀ (a0 : Nat) (s0 : Nat) (w : px_W) (q : Int32 × px_W), fX8_readScan_126 X  a0 s0 w = some q → EV X mX8_readScan 126 [(0, .ref a0)] [.ref s0] w (some (.int q.1)) q.2 := by
  intro a0 s0 w q h
  unfold fX8_readScan_126 at h
  refine EV.iconst (0) dX8_readScan_126 (by decide) ?_
  refine EV.sub [0] rfl ?_
  exact eX8_readScan_127  _ _ _ _ _ h
set_option maxRecDepth 100000 in
set_option maxHeartbeats 4000000 in
theorem eX8_readScan_98 {X : px_X}  : ∀ (a0 : Nat) (w : px_W) (q : Int32 × px_W), fX8_readScan_98 X  a0 w = some q → EV X mX8_readScan 98 [(0, .ref a0)] [] w (some (.int q.1)) q.2 := by
  intro a0 w q h
  unfold fX8_readScan_98 at h
  refine EV.aload_n 0 dX8_readScan_98 rfl rfl ?_
  obtain ⟨o45, go45, h⟩ := px_bs h
  obtain ⟨q46, gq46, h⟩ := px_bs h
  refine EV.callV (As := []) (rest := []) dX8_readScan_99 kcX8_readScan_186 (gO_ok go45) rfl rfl rfl (Nat.le_of_ble_eq_true rfl) (Nat.le_of_ble_eq_true rfl) (eX8_endsHere gq46) ?_
  refine EV.if_ne 107 dX8_readScan_102 (by decide) (fun c47 => ?_) (fun c47 => ?_)
  · rw [if_neg c47] at h
    refine EV.aload_n 0 dX8_readScan_107 rfl rfl ?_
    refine EV.aload_n 0 dX8_readScan_108 rfl rfl ?_
    obtain ⟨v48, gv48, h⟩ := px_bs h
    refine ev_gI dX8_readScan_109 flRX8_71 gv48 ?_
    refine EV.if_eq 126 dX8_readScan_112 (by decide) (fun c49 => ?_) (fun c49 => ?_)
    · rw [if_pos c49] at h
      refine EV.sub [0] rfl ?_
      exact eX8_readScan_126  _ _ _ _ h
    · rw [if_neg c49] at h
      refine EV.aload_n 0 dX8_readScan_115 rfl rfl ?_
      obtain ⟨o50, go50, h⟩ := px_bs h
      obtain ⟨q51, gq51, h⟩ := px_bs h
      refine EV.callV (As := []) (rest := [.ref a0]) dX8_readScan_116 kcX8_readScan_217 (gO_ok go50) rfl rfl rfl (Nat.le_of_ble_eq_true rfl) (Nat.le_of_ble_eq_true rfl) (eX8_isFirstScan gq51) ?_
      refine EV.if_eq 126 dX8_readScan_119 (by decide) (fun c52 => ?_) (fun c52 => ?_)
      · rw [if_pos c52] at h
        refine EV.sub [0] rfl ?_
        exact eX8_readScan_126  _ _ _ _ h
      · rw [if_neg c52] at h
        refine EV.iconst (1) dX8_readScan_122 (by decide) ?_
        refine EV.goto 127 dX8_readScan_123 (by decide) ?_
        refine EV.sub [0] rfl ?_
        exact eX8_readScan_127  _ _ _ _ _ h
  · rw [if_pos c47] at h
    refine EV.iconst (0) dX8_readScan_105 (by decide) ?_
    cases h
    exact EV.reti dX8_readScan_106 rfl
set_option maxRecDepth 100000 in
set_option maxHeartbeats 4000000 in
theorem eX8_readScan_71 {X : px_X}  : ∀ (m : Nat) (a0 : Nat) (a1 : Int32) (w : px_W) (q : Int32 × px_W), fX8_readScan_71 X  m a0 a1 w = some q → EV X mX8_readScan 71 [(0, .ref a0), (1, .int a1)] [] w (some (.int q.1)) q.2 := by
  intro m
  induction m with
  | zero => intro a0 a1 w q h; cases h
  | succ m ih =>
    intro a0 a1 w q h
    rw [fX8_readScan_71.eq_2] at h
    refine EV.iload_n 1 dX8_readScan_71 rfl rfl ?_
    refine EV.aload_n 0 dX8_readScan_72 rfl rfl ?_
    obtain ⟨v53, gv53, h⟩ := px_bs h
    refine ev_gR dX8_readScan_73 flRX8_12 gv53 ?_
    obtain ⟨v54, gv54, h⟩ := px_bs h
    refine ev_gI dX8_readScan_76 flRX8_204 gv54 ?_
    refine EV.icmp_ge 98 dX8_readScan_79 (by decide) (fun c55 => ?_) (fun c55 => ?_)
    · rw [if_pos c55] at h
      refine EV.sub [0] rfl ?_
      exact eX8_readScan_98  _ _ _ h
    · rw [if_neg c55] at h
      refine EV.aload_n 0 dX8_readScan_82 rfl rfl ?_
      refine EV.iload_n 1 dX8_readScan_83 rfl rfl ?_
      obtain ⟨o56, go56, h⟩ := px_bs h
      obtain ⟨q57, gq57, h⟩ := px_bs h
      refine EV.callV (As := [.int a1]) (rest := []) dX8_readScan_84 kcX8_readScan_214 (gO_ok go56) rfl rfl rfl (Nat.le_of_ble_eq_true rfl) (Nat.le_of_ble_eq_true rfl) (eX8_hasItsTables gq57) ?_
      refine EV.if_ne 92 dX8_readScan_87 (by decide) (fun c58 => ?_) (fun c58 => ?_)
      · rw [if_neg c58] at h
        refine EV.iinc 1 (a1 + 1) [(1, .int (a1 + 1)), (0, .ref a0)] dX8_readScan_92 rfl rfl (by decide) rfl ?_
        refine EV.goto 71 dX8_readScan_95 (by decide) ?_
        refine EV.sub [1, 0] rfl ?_
        exact ih _ _ _ _ h
      · rw [if_pos c58] at h
        refine EV.iconst (0) dX8_readScan_90 (by decide) ?_
        cases h
        exact EV.reti dX8_readScan_91 rfl
set_option maxRecDepth 100000 in
set_option maxHeartbeats 4000000 in
theorem eX8_readScan_69 {X : px_X}  : ∀ (a0 : Nat) (w : px_W) (q : Int32 × px_W), fX8_readScan_69 X  a0 w = some q → EV X mX8_readScan 69 [(0, .ref a0)] [] w (some (.int q.1)) q.2 := by
  intro a0 w q h
  unfold fX8_readScan_69 at h
  refine EV.iconst (0) dX8_readScan_69 (by decide) ?_
  refine EV.istore_n [(1, .int 0), (0, .ref a0)] dX8_readScan_70 rfl (by decide) rfl ?_
  refine EV.sub [1, 0] rfl ?_
  exact eX8_readScan_71  FU _ _ _ _ h
set_option maxRecDepth 100000 in
set_option maxHeartbeats 4000000 in
theorem eX8_readScan_42 {X : px_X}  : ∀ (m : Nat) (a0 : Nat) (a1 : Int32) (w : px_W) (q : Int32 × px_W), fX8_readScan_42 X  m a0 a1 w = some q → EV X mX8_readScan 42 [(0, .ref a0), (1, .int a1)] [] w (some (.int q.1)) q.2 := by
  intro m
  induction m with
  | zero => intro a0 a1 w q h; cases h
  | succ m ih =>
    intro a0 a1 w q h
    rw [fX8_readScan_42.eq_2] at h
    refine EV.iload_n 1 dX8_readScan_42 rfl rfl ?_
    refine EV.aload_n 0 dX8_readScan_43 rfl rfl ?_
    obtain ⟨v59, gv59, h⟩ := px_bs h
    refine ev_gR dX8_readScan_44 flRX8_12 gv59 ?_
    obtain ⟨v60, gv60, h⟩ := px_bs h
    refine ev_gI dX8_readScan_47 flRX8_204 gv60 ?_
    refine EV.icmp_ge 69 dX8_readScan_50 (by decide) (fun c61 => ?_) (fun c61 => ?_)
    · rw [if_pos c61] at h
      refine EV.sub [0] rfl ?_
      exact eX8_readScan_69  _ _ _ h
    · rw [if_neg c61] at h
      refine EV.aload_n 0 dX8_readScan_53 rfl rfl ?_
      refine EV.iload_n 1 dX8_readScan_54 rfl rfl ?_
      obtain ⟨o62, go62, h⟩ := px_bs h
      obtain ⟨q63, gq63, h⟩ := px_bs h
      refine EV.callV (As := [.int a1]) (rest := []) dX8_readScan_55 kcX8_readScan_211 (gO_ok go62) rfl rfl rfl (Nat.le_of_ble_eq_true rfl) (Nat.le_of_ble_eq_true rfl) (eX8_fitsWhatWasSent gq63) ?_
      refine EV.if_ne 63 dX8_readScan_58 (by decide) (fun c64 => ?_) (fun c64 => ?_)
      · rw [if_neg c64] at h
        refine EV.iinc 1 (a1 + 1) [(1, .int (a1 + 1)), (0, .ref a0)] dX8_readScan_63 rfl rfl (by decide) rfl ?_
        refine EV.goto 42 dX8_readScan_66 (by decide) ?_
        refine EV.sub [1, 0] rfl ?_
        exact ih _ _ _ _ h
      · rw [if_pos c64] at h
        refine EV.iconst (0) dX8_readScan_61 (by decide) ?_
        cases h
        exact EV.reti dX8_readScan_62 rfl
set_option maxRecDepth 100000 in
set_option maxHeartbeats 4000000 in
theorem eX8_readScan {X : px_X} {w : px_W} {a0 : Nat} {q : Int32 × px_W} (h : fX8_readScan X w a0 = some q) : EV X mX8_readScan 0 (lv_args 0 [.ref a0]) [] w (some (.int q.1)) q.2 := by
  unfold fX8_readScan at h
  show EV X mX8_readScan 0 [(0, .ref a0)] [] w (some (.int q.1)) q.2
  refine EV.aload_n 0 dX8_readScan_0 rfl rfl ?_
  obtain ⟨v65, gv65, h⟩ := px_bs h
  refine ev_gR dX8_readScan_1 flRX8_12 gv65 ?_
  refine EV.aload_n 0 dX8_readScan_4 rfl rfl ?_
  refine EV.iconst (1) dX8_readScan_5 (by decide) ?_
  refine EV.iconst (4) dX8_readScan_6 (by decide) ?_
  obtain ⟨o66, go66, h⟩ := px_bs h
  obtain ⟨q67, gq67, h⟩ := px_bs h
  refine EV.callV (As := [.int 1, .int 4]) (rest := [.ref v65]) dX8_readScan_7 kcX8_readScan_156 (gO_ok go66) rfl rfl rfl (Nat.le_of_ble_eq_true rfl) (Nat.le_of_ble_eq_true rfl) (eX8_byteIn gq67) ?_
  obtain ⟨w68, gw68, h⟩ := px_bs h
  refine ev_pV dX8_readScan_10 flRX8_204 rfl rfl rfl rfl gw68 ?_
  refine EV.aload_n 0 dX8_readScan_13 rfl rfl ?_
  obtain ⟨v69, gv69, h⟩ := px_bs h
  refine ev_gR dX8_readScan_14 flRX8_12 gv69 ?_
  obtain ⟨v70, gv70, h⟩ := px_bs h
  refine ev_gI dX8_readScan_17 flRX8_204 gv70 ?_
  refine EV.iconst ((-1)) dX8_readScan_20 (by decide) ?_
  refine EV.icmp_eq 38 dX8_readScan_21 (by decide) (fun c71 => ?_) (fun c71 => ?_)
  · rw [if_pos c71] at h
    refine EV.iconst (0) dX8_readScan_38 (by decide) ?_
    cases h
    exact EV.reti dX8_readScan_39 rfl
  · rw [if_neg c71] at h
    refine EV.aload_n 0 dX8_readScan_24 rfl rfl ?_
    obtain ⟨o72, go72, h⟩ := px_bs h
    obtain ⟨q73, gq73, h⟩ := px_bs h
    refine EV.callV (As := []) (rest := []) dX8_readScan_25 kcX8_readScan_205 (gO_ok go72) rfl rfl rfl (Nat.le_of_ble_eq_true rfl) (Nat.le_of_ble_eq_true rfl) (eX8_readMembers gq73) ?_
    refine EV.if_eq 38 dX8_readScan_28 (by decide) (fun c74 => ?_) (fun c74 => ?_)
    · rw [if_pos c74] at h
      refine EV.iconst (0) dX8_readScan_38 (by decide) ?_
      cases h
      exact EV.reti dX8_readScan_39 rfl
    · rw [if_neg c74] at h
      refine EV.aload_n 0 dX8_readScan_31 rfl rfl ?_
      obtain ⟨o75, go75, h⟩ := px_bs h
      obtain ⟨q76, gq76, h⟩ := px_bs h
      refine EV.callV (As := []) (rest := []) dX8_readScan_32 kcX8_readScan_208 (gO_ok go75) rfl rfl rfl (Nat.le_of_ble_eq_true rfl) (Nat.le_of_ble_eq_true rfl) (eX8_readBand gq76) ?_
      refine EV.if_ne 40 dX8_readScan_35 (by decide) (fun c77 => ?_) (fun c77 => ?_)
      · rw [if_neg c77] at h
        refine EV.iconst (0) dX8_readScan_40 (by decide) ?_
        refine EV.istore_n [(1, .int 0), (0, .ref a0)] dX8_readScan_41 rfl (by decide) rfl ?_
        refine EV.sub [1, 0] rfl ?_
        exact eX8_readScan_42  FU _ _ _ _ h
      · rw [if_pos c77] at h
        refine EV.iconst (0) dX8_readScan_38 (by decide) ?_
        cases h
        exact EV.reti dX8_readScan_39 rfl
/-! WavePictures$SegmentReader.readLines()Z -/
theorem dX8_readLines_0 : decode cX8_readLines 0 = .ok (.aload_n 0, 1) := by decide +kernel
theorem dX8_readLines_1 : decode cX8_readLines 1 = .ok (.iconst 1, 1) := by decide +kernel
theorem dX8_readLines_2 : decode cX8_readLines 2 = .ok (.bipush 64, 2) := by decide +kernel
theorem dX8_readLines_4 : decode cX8_readLines 4 = .ok (.invokevirtual 183, 3) := by decide +kernel
theorem dX8_readLines_7 : decode cX8_readLines 7 = .ok (.istore_n 1, 1) := by decide +kernel
theorem dX8_readLines_8 : decode cX8_readLines 8 = .ok (.iload_n 1, 1) := by decide +kernel
theorem dX8_readLines_9 : decode cX8_readLines 9 = .ok (.iconst (-1), 1) := by decide +kernel
theorem dX8_readLines_10 : decode cX8_readLines 10 = .ok (.if_icmp .ne 5, 3) := by decide +kernel
theorem dX8_readLines_13 : decode cX8_readLines 13 = .ok (.iconst 0, 1) := by decide +kernel
theorem dX8_readLines_14 : decode cX8_readLines 14 = .ok (.ireturn, 1) := by decide +kernel
theorem dX8_readLines_15 : decode cX8_readLines 15 = .ok (.aload_n 0, 1) := by decide +kernel
theorem dX8_readLines_16 : decode cX8_readLines 16 = .ok (.iload_n 1, 1) := by decide +kernel
theorem dX8_readLines_17 : decode cX8_readLines 17 = .ok (.putfield 49, 3) := by decide +kernel
theorem dX8_readLines_20 : decode cX8_readLines 20 = .ok (.aload_n 0, 1) := by decide +kernel
theorem dX8_readLines_21 : decode cX8_readLines 21 = .ok (.getfield 44, 3) := by decide +kernel
theorem dX8_readLines_24 : decode cX8_readLines 24 = .ok (.iload_n 1, 1) := by decide +kernel
theorem dX8_readLines_25 : decode cX8_readLines 25 = .ok (.putfield 189, 3) := by decide +kernel
theorem dX8_readLines_28 : decode cX8_readLines 28 = .ok (.aload_n 0, 1) := by decide +kernel
theorem dX8_readLines_29 : decode cX8_readLines 29 = .ok (.iconst 0, 1) := by decide +kernel
theorem dX8_readLines_30 : decode cX8_readLines 30 = .ok (.putfield 75, 3) := by decide +kernel
theorem dX8_readLines_33 : decode cX8_readLines 33 = .ok (.aload_n 0, 1) := by decide +kernel
theorem dX8_readLines_34 : decode cX8_readLines 34 = .ok (.invokevirtual 186, 3) := by decide +kernel
theorem dX8_readLines_37 : decode cX8_readLines 37 = .ok (.ireturn, 1) := by decide +kernel
theorem kcX8_readLines_183 : px_cV mX8_readLines 183 mX8_numberIn 2 := ⟨⟨mbX8_numberIn, by decide, by decide⟩, Or.inl (tb3 (List.mem_of_getElem? (i := 209) rfl)), vbX8_numberIn⟩
theorem kcX8_readLines_186 : px_cV mX8_readLines 186 mX8_endsHere 0 := ⟨⟨mbX8_endsHere, by decide, by decide⟩, Or.inl (tb3 (List.mem_of_getElem? (i := 213) rfl)), vbX8_endsHere⟩
set_option maxRecDepth 100000 in
set_option maxHeartbeats 4000000 in
theorem eX8_readLines {X : px_X} {w : px_W} {a0 : Nat} {q : Int32 × px_W} (h : fX8_readLines X w a0 = some q) : EV X mX8_readLines 0 (lv_args 0 [.ref a0]) [] w (some (.int q.1)) q.2 := by
  unfold fX8_readLines at h
  show EV X mX8_readLines 0 [(0, .ref a0)] [] w (some (.int q.1)) q.2
  refine EV.aload_n 0 dX8_readLines_0 rfl rfl ?_
  refine EV.iconst (1) dX8_readLines_1 (by decide) ?_
  refine EV.bipush (64) dX8_readLines_2 (by decide) ?_
  obtain ⟨o9, go9, h⟩ := px_bs h
  obtain ⟨q10, gq10, h⟩ := px_bs h
  refine EV.callV (As := [.int 1, .int 64]) (rest := []) dX8_readLines_4 kcX8_readLines_183 (gO_ok go9) rfl rfl rfl (Nat.le_of_ble_eq_true rfl) (Nat.le_of_ble_eq_true rfl) (eX8_numberIn gq10) ?_
  refine EV.istore_n [(1, .int q10.1), (0, .ref a0)] dX8_readLines_7 rfl (by decide) rfl ?_
  refine EV.iload_n 0 dX8_readLines_8 rfl rfl ?_
  refine EV.iconst ((-1)) dX8_readLines_9 (by decide) ?_
  refine EV.icmp_ne 15 dX8_readLines_10 (by decide) (fun c11 => ?_) (fun c11 => ?_)
  · rw [if_neg c11] at h
    refine EV.aload_n 1 dX8_readLines_15 rfl rfl ?_
    refine EV.iload_n 0 dX8_readLines_16 rfl rfl ?_
    obtain ⟨w12, gw12, h⟩ := px_bs h
    refine ev_pV dX8_readLines_17 flRX8_49 rfl rfl rfl rfl gw12 ?_
    refine EV.aload_n 1 dX8_readLines_20 rfl rfl ?_
    obtain ⟨v13, gv13, h⟩ := px_bs h
    refine ev_gR dX8_readLines_21 flRX8_44 gv13 ?_
    refine EV.iload_n 0 dX8_readLines_24 rfl rfl ?_
    obtain ⟨w14, gw14, h⟩ := px_bs h
    refine ev_pV dX8_readLines_25 flRX8_189 rfl rfl rfl rfl gw14 ?_
    refine EV.aload_n 1 dX8_readLines_28 rfl rfl ?_
    refine EV.iconst (0) dX8_readLines_29 (by decide) ?_
    obtain ⟨w15, gw15, h⟩ := px_bs h
    refine ev_pZ dX8_readLines_30 flRX8_75 rfl rfl (by decide +kernel) gw15 ?_
    refine EV.aload_n 1 dX8_readLines_33 rfl rfl ?_
    obtain ⟨o16, go16, h⟩ := px_bs h
    obtain ⟨q17, gq17, h⟩ := px_bs h
    refine EV.callV (As := []) (rest := []) dX8_readLines_34 kcX8_readLines_186 (gO_ok go16) rfl rfl rfl (Nat.le_of_ble_eq_true rfl) (Nat.le_of_ble_eq_true rfl) (eX8_endsHere gq17) ?_
    exact ev_retZ dX8_readLines_37 rfl h
  · rw [if_pos c11] at h
    refine EV.iconst (0) dX8_readLines_13 (by decide) ?_
    cases h
    exact EV.reti dX8_readLines_14 rfl
/-! WavePictures$SegmentReader.passOver()Z -/
theorem dX8_passOver_0 : decode cX8_passOver 0 = .ok (.aload_n 0, 1) := by decide +kernel
theorem dX8_passOver_1 : decode cX8_passOver 1 = .ok (.getfield 126, 3) := by decide +kernel
theorem dX8_passOver_4 : decode cX8_passOver 4 = .ok (.aload_n 0, 1) := by decide +kernel
theorem dX8_passOver_5 : decode cX8_passOver 5 = .ok (.getfield 40, 3) := by decide +kernel
theorem dX8_passOver_8 : decode cX8_passOver 8 = .ok (.getfield 95, 3) := by decide +kernel
theorem dX8_passOver_11 : decode cX8_passOver 11 = .ok (.if_icmp .le 18, 3) := by decide +kernel
theorem dX8_passOver_14 : decode cX8_passOver 14 = .ok (.aload_n 0, 1) := by decide +kernel
theorem dX8_passOver_15 : decode cX8_passOver 15 = .ok (.iconst 1, 1) := by decide +kernel
theorem dX8_passOver_16 : decode cX8_passOver 16 = .ok (.aload_n 0, 1) := by decide +kernel
theorem dX8_passOver_17 : decode cX8_passOver 17 = .ok (.getfield 40, 3) := by decide +kernel
theorem dX8_passOver_20 : decode cX8_passOver 20 = .ok (.getfield 95, 3) := by decide +kernel
theorem dX8_passOver_23 : decode cX8_passOver 23 = .ok (.invokevirtual 100, 3) := by decide +kernel
theorem dX8_passOver_26 : decode cX8_passOver 26 = .ok (.pop, 1) := by decide +kernel
theorem dX8_passOver_27 : decode cX8_passOver 27 = .ok (.iconst 0, 1) := by decide +kernel
theorem dX8_passOver_28 : decode cX8_passOver 28 = .ok (.ireturn, 1) := by decide +kernel
theorem dX8_passOver_29 : decode cX8_passOver 29 = .ok (.aload_n 0, 1) := by decide +kernel
theorem dX8_passOver_30 : decode cX8_passOver 30 = .ok (.aload_n 0, 1) := by decide +kernel
theorem dX8_passOver_31 : decode cX8_passOver 31 = .ok (.getfield 126, 3) := by decide +kernel
theorem dX8_passOver_34 : decode cX8_passOver 34 = .ok (.putfield 92, 3) := by decide +kernel
theorem dX8_passOver_37 : decode cX8_passOver 37 = .ok (.iconst 1, 1) := by decide +kernel
theorem dX8_passOver_38 : decode cX8_passOver 38 = .ok (.ireturn, 1) := by decide +kernel
theorem kcX8_passOver_100 : px_cV mX8_passOver 100 mX8_fail 2 := ⟨⟨mbX8_fail, by decide, by decide⟩, Or.inl (tb3 (List.mem_of_getElem? (i := 143) rfl)), vbX8_fail⟩
set_option maxRecDepth 100000 in
set_option maxHeartbeats 4000000 in
theorem eX8_passOver {X : px_X} {w : px_W} {a0 : Nat} {q : Int32 × px_W} (h : fX8_passOver X w a0 = some q) : EV X mX8_passOver 0 (lv_args 0 [.ref a0]) [] w (some (.int q.1)) q.2 := by
  unfold fX8_passOver at h
  show EV X mX8_passOver 0 [(0, .ref a0)] [] w (some (.int q.1)) q.2
  refine EV.aload_n 0 dX8_passOver_0 rfl rfl ?_
  obtain ⟨v10, gv10, h⟩ := px_bs h
  refine ev_gI dX8_passOver_1 flRX8_126 gv10 ?_
  refine EV.aload_n 0 dX8_passOver_4 rfl rfl ?_
  obtain ⟨v11, gv11, h⟩ := px_bs h
  refine ev_gR dX8_passOver_5 flRX8_40 gv11 ?_
  obtain ⟨v12, gv12, h⟩ := px_bs h
  refine ev_gI dX8_passOver_8 flRX8_95 gv12 ?_
  refine EV.icmp_le 29 dX8_passOver_11 (by decide) (fun c13 => ?_) (fun c13 => ?_)
  · rw [if_pos c13] at h
    refine EV.aload_n 0 dX8_passOver_29 rfl rfl ?_
    refine EV.aload_n 0 dX8_passOver_30 rfl rfl ?_
    obtain ⟨v14, gv14, h⟩ := px_bs h
    refine ev_gI dX8_passOver_31 flRX8_126 gv14 ?_
    obtain ⟨w15, gw15, h⟩ := px_bs h
    refine ev_pV dX8_passOver_34 flRX8_92 rfl rfl rfl rfl gw15 ?_
    refine EV.iconst (1) dX8_passOver_37 (by decide) ?_
    cases h
    exact EV.reti dX8_passOver_38 rfl
  · rw [if_neg c13] at h
    refine EV.aload_n 0 dX8_passOver_14 rfl rfl ?_
    refine EV.iconst (1) dX8_passOver_15 (by decide) ?_
    refine EV.aload_n 0 dX8_passOver_16 rfl rfl ?_
    obtain ⟨v16, gv16, h⟩ := px_bs h
    refine ev_gR dX8_passOver_17 flRX8_40 gv16 ?_
    obtain ⟨v17, gv17, h⟩ := px_bs h
    refine ev_gI dX8_passOver_20 flRX8_95 gv17 ?_
    obtain ⟨o18, go18, h⟩ := px_bs h
    obtain ⟨q19, gq19, h⟩ := px_bs h
    refine EV.callV (As := [.int 1, .int v17]) (rest := []) dX8_passOver_23 kcX8_passOver_100 (gO_ok go18) rfl rfl rfl (Nat.le_of_ble_eq_true rfl) (Nat.le_of_ble_eq_true rfl) (eX8_fail gq19) ?_
    refine EV.pop dX8_passOver_26 rfl ?_
    refine EV.iconst (0) dX8_passOver_27 (by decide) ?_
    cases h
    exact EV.reti dX8_passOver_28 rfl
/-! WavePictures$SegmentReader.readSegment(I)Z -/
theorem dX8_readSegment_0 : decode cX8_readSegment 0 = .ok (.aload_n 0, 1) := by decide +kernel
theorem dX8_readSegment_1 : decode cX8_readSegment 1 = .ok (.aload_n 0, 1) := by decide +kernel
theorem dX8_readSegment_2 : decode cX8_readSegment 2 = .ok (.getfield 92, 3) := by decide +kernel
theorem dX8_readSegment_5 : decode cX8_readSegment 5 = .ok (.putfield 123, 3) := by decide +kernel
theorem dX8_readSegment_8 : decode cX8_readSegment 8 = .ok (.aload_n 0, 1) := by decide +kernel
theorem dX8_readSegment_9 : decode cX8_readSegment 9 = .ok (.getfield 92, 3) := by decide +kernel
theorem dX8_readSegment_12 : decode cX8_readSegment 12 = .ok (.iconst 1, 1) := by decide +kernel
theorem dX8_readSegment_13 : decode cX8_readSegment 13 = .ok (.iadd, 1) := by decide +kernel
theorem dX8_readSegment_14 : decode cX8_readSegment 14 = .ok (.aload_n 0, 1) := by decide +kernel
theorem dX8_readSegment_15 : decode cX8_readSegment 15 = .ok (.getfield 40, 3) := by decide +kernel
theorem dX8_readSegment_18 : decode cX8_readSegment 18 = .ok (.getfield 95, 3) := by decide +kernel
theorem dX8_readSegment_21 : decode cX8_readSegment 21 = .ok (.if_icmp .lt 18, 3) := by decide +kernel
theorem dX8_readSegment_24 : decode cX8_readSegment 24 = .ok (.aload_n 0, 1) := by decide +kernel
theorem dX8_readSegment_25 : decode cX8_readSegment 25 = .ok (.iconst 1, 1) := by decide +kernel
theorem dX8_readSegment_26 : decode cX8_readSegment 26 = .ok (.aload_n 0, 1) := by decide +kernel
theorem dX8_readSegment_27 : decode cX8_readSegment 27 = .ok (.getfield 40, 3) := by decide +kernel
theorem dX8_readSegment_30 : decode cX8_readSegment 30 = .ok (.getfield 95, 3) := by decide +kernel
theorem dX8_readSegment_33 : decode cX8_readSegment 33 = .ok (.invokevirtual 100, 3) := by decide +kernel
theorem dX8_readSegment_36 : decode cX8_readSegment 36 = .ok (.pop, 1) := by decide +kernel
theorem dX8_readSegment_37 : decode cX8_readSegment 37 = .ok (.iconst 0, 1) := by decide +kernel
theorem dX8_readSegment_38 : decode cX8_readSegment 38 = .ok (.ireturn, 1) := by decide +kernel
theorem dX8_readSegment_39 : decode cX8_readSegment 39 = .ok (.sipush 256, 3) := by decide +kernel
theorem dX8_readSegment_42 : decode cX8_readSegment 42 = .ok (.aload_n 0, 1) := by decide +kernel
theorem dX8_readSegment_43 : decode cX8_readSegment 43 = .ok (.getfield 40, 3) := by decide +kernel
theorem dX8_readSegment_46 : decode cX8_readSegment 46 = .ok (.aload_n 0, 1) := by decide +kernel
theorem dX8_readSegment_47 : decode cX8_readSegment 47 = .ok (.getfield 92, 3) := by decide +kernel
theorem dX8_readSegment_50 : decode cX8_readSegment 50 = .ok (.invokevirtual 104, 3) := by decide +kernel
theorem dX8_readSegment_53 : decode cX8_readSegment 53 = .ok (.imul, 1) := by decide +kernel
theorem dX8_readSegment_54 : decode cX8_readSegment 54 = .ok (.aload_n 0, 1) := by decide +kernel
theorem dX8_readSegment_55 : decode cX8_readSegment 55 = .ok (.getfield 40, 3) := by decide +kernel
theorem dX8_readSegment_58 : decode cX8_readSegment 58 = .ok (.aload_n 0, 1) := by decide +kernel
theorem dX8_readSegment_59 : decode cX8_readSegment 59 = .ok (.getfield 92, 3) := by decide +kernel
theorem dX8_readSegment_62 : decode cX8_readSegment 62 = .ok (.iconst 1, 1) := by decide +kernel
theorem dX8_readSegment_63 : decode cX8_readSegment 63 = .ok (.iadd, 1) := by decide +kernel
theorem dX8_readSegment_64 : decode cX8_readSegment 64 = .ok (.invokevirtual 104, 3) := by decide +kernel
theorem dX8_readSegment_67 : decode cX8_readSegment 67 = .ok (.iadd, 1) := by decide +kernel
theorem dX8_readSegment_68 : decode cX8_readSegment 68 = .ok (.istore_n 2, 1) := by decide +kernel
theorem dX8_readSegment_69 : decode cX8_readSegment 69 = .ok (.iload_n 2, 1) := by decide +kernel
theorem dX8_readSegment_70 : decode cX8_readSegment 70 = .ok (.iconst 2, 1) := by decide +kernel
theorem dX8_readSegment_71 : decode cX8_readSegment 71 = .ok (.if_icmp .ge 15, 3) := by decide +kernel
theorem dX8_readSegment_74 : decode cX8_readSegment 74 = .ok (.aload_n 0, 1) := by decide +kernel
theorem dX8_readSegment_75 : decode cX8_readSegment 75 = .ok (.iconst 5, 1) := by decide +kernel
theorem dX8_readSegment_76 : decode cX8_readSegment 76 = .ok (.aload_n 0, 1) := by decide +kernel
theorem dX8_readSegment_77 : decode cX8_readSegment 77 = .ok (.getfield 123, 3) := by decide +kernel
theorem dX8_readSegment_80 : decode cX8_readSegment 80 = .ok (.invokevirtual 100, 3) := by decide +kernel
theorem dX8_readSegment_83 : decode cX8_readSegment 83 = .ok (.pop, 1) := by decide +kernel
theorem dX8_readSegment_84 : decode cX8_readSegment 84 = .ok (.iconst 0, 1) := by decide +kernel
theorem dX8_readSegment_85 : decode cX8_readSegment 85 = .ok (.ireturn, 1) := by decide +kernel
theorem dX8_readSegment_86 : decode cX8_readSegment 86 = .ok (.aload_n 0, 1) := by decide +kernel
theorem dX8_readSegment_87 : decode cX8_readSegment 87 = .ok (.aload_n 0, 1) := by decide +kernel
theorem dX8_readSegment_88 : decode cX8_readSegment 88 = .ok (.getfield 92, 3) := by decide +kernel
theorem dX8_readSegment_91 : decode cX8_readSegment 91 = .ok (.iload_n 2, 1) := by decide +kernel
theorem dX8_readSegment_92 : decode cX8_readSegment 92 = .ok (.iadd, 1) := by decide +kernel
theorem dX8_readSegment_93 : decode cX8_readSegment 93 = .ok (.putfield 126, 3) := by decide +kernel
theorem dX8_readSegment_96 : decode cX8_readSegment 96 = .ok (.aload_n 0, 1) := by decide +kernel
theorem dX8_readSegment_97 : decode cX8_readSegment 97 = .ok (.dup, 1) := by decide +kernel
theorem dX8_readSegment_98 : decode cX8_readSegment 98 = .ok (.getfield 92, 3) := by decide +kernel
theorem dX8_readSegment_101 : decode cX8_readSegment 101 = .ok (.iconst 2, 1) := by decide +kernel
theorem dX8_readSegment_102 : decode cX8_readSegment 102 = .ok (.iadd, 1) := by decide +kernel
theorem dX8_readSegment_103 : decode cX8_readSegment 103 = .ok (.putfield 92, 3) := by decide +kernel
theorem dX8_readSegment_106 : decode cX8_readSegment 106 = .ok (.aload_n 0, 1) := by decide +kernel
theorem dX8_readSegment_107 : decode cX8_readSegment 107 = .ok (.dup, 1) := by decide +kernel
theorem dX8_readSegment_108 : decode cX8_readSegment 108 = .ok (.getfield 59, 3) := by decide +kernel
theorem dX8_readSegment_111 : decode cX8_readSegment 111 = .ok (.iconst 1, 1) := by decide +kernel
theorem dX8_readSegment_112 : decode cX8_readSegment 112 = .ok (.iadd, 1) := by decide +kernel
theorem dX8_readSegment_113 : decode cX8_readSegment 113 = .ok (.putfield 59, 3) := by decide +kernel
theorem dX8_readSegment_116 : decode cX8_readSegment 116 = .ok (.iload_n 1, 1) := by decide +kernel
theorem dX8_readSegment_117 : decode cX8_readSegment 117 = .ok (.lookupswitch 98 #[(192, 82), (194, 82), (196, 72), (218, 88), (219, 67), (220, 93), (221, 77)], 67) := by decide +kernel
theorem dX8_readSegment_184 : decode cX8_readSegment 184 = .ok (.aload_n 0, 1) := by decide +kernel
theorem dX8_readSegment_185 : decode cX8_readSegment 185 = .ok (.invokevirtual 129, 3) := by decide +kernel
theorem dX8_readSegment_188 : decode cX8_readSegment 188 = .ok (.ireturn, 1) := by decide +kernel
theorem dX8_readSegment_189 : decode cX8_readSegment 189 = .ok (.aload_n 0, 1) := by decide +kernel
theorem dX8_readSegment_190 : decode cX8_readSegment 190 = .ok (.invokevirtual 132, 3) := by decide +kernel
theorem dX8_readSegment_193 : decode cX8_readSegment 193 = .ok (.ireturn, 1) := by decide +kernel
theorem dX8_readSegment_194 : decode cX8_readSegment 194 = .ok (.aload_n 0, 1) := by decide +kernel
theorem dX8_readSegment_195 : decode cX8_readSegment 195 = .ok (.invokevirtual 135, 3) := by decide +kernel
theorem dX8_readSegment_198 : decode cX8_readSegment 198 = .ok (.ireturn, 1) := by decide +kernel
theorem dX8_readSegment_199 : decode cX8_readSegment 199 = .ok (.aload_n 0, 1) := by decide +kernel
theorem dX8_readSegment_200 : decode cX8_readSegment 200 = .ok (.iload_n 1, 1) := by decide +kernel
theorem dX8_readSegment_201 : decode cX8_readSegment 201 = .ok (.invokevirtual 138, 3) := by decide +kernel
theorem dX8_readSegment_204 : decode cX8_readSegment 204 = .ok (.ireturn, 1) := by decide +kernel
theorem dX8_readSegment_205 : decode cX8_readSegment 205 = .ok (.aload_n 0, 1) := by decide +kernel
theorem dX8_readSegment_206 : decode cX8_readSegment 206 = .ok (.invokevirtual 141, 3) := by decide +kernel
theorem dX8_readSegment_209 : decode cX8_readSegment 209 = .ok (.ireturn, 1) := by decide +kernel
theorem dX8_readSegment_210 : decode cX8_readSegment 210 = .ok (.aload_n 0, 1) := by decide +kernel
theorem dX8_readSegment_211 : decode cX8_readSegment 211 = .ok (.invokevirtual 144, 3) := by decide +kernel
theorem dX8_readSegment_214 : decode cX8_readSegment 214 = .ok (.ireturn, 1) := by decide +kernel
theorem dX8_readSegment_215 : decode cX8_readSegment 215 = .ok (.aload_n 0, 1) := by decide +kernel
theorem dX8_readSegment_216 : decode cX8_readSegment 216 = .ok (.invokevirtual 147, 3) := by decide +kernel
theorem dX8_readSegment_219 : decode cX8_readSegment 219 = .ok (.ireturn, 1) := by decide +kernel
theorem kcX8_readSegment_100 : px_cV mX8_readSegment 100 mX8_fail 2 := ⟨⟨mbX8_fail, by decide, by decide⟩, Or.inl (tb3 (List.mem_of_getElem? (i := 143) rfl)), vbX8_fail⟩
theorem kcX8_readSegment_104 : px_cV mX8_readSegment 104 mX1_at 1 := ⟨⟨mbX1_at, by decide, by decide⟩, Or.inl (tb3 (List.mem_of_getElem? (i := 147) rfl)), vbX1_at⟩
theorem mbX8_readQuantisers : px_mB mX8_readQuantisers 0 := ⟨tb3 (List.mem_of_getElem? (i := 171) rfl), by decide +kernel, tb1 (List.mem_of_getElem? (i := 6) rfl), by decide +kernel, by decide +kernel⟩
theorem vbX8_readQuantisers : px_vB mX8_readQuantisers := ⟨tb3 (List.mem_of_getElem? (i := 170) rfl), List.mem_append_left _ (List.mem_of_getElem? (i := 5) (by decide +kernel))⟩
theorem kcX8_readSegment_129 : px_cV mX8_readSegment 129 mX8_readQuantisers 0 := ⟨⟨mbX8_readQuantisers, by decide, by decide⟩, Or.inl (tb3 (List.mem_of_getElem? (i := 168) rfl)), vbX8_readQuantisers⟩
theorem mbX8_readWordTables : px_mB mX8_readWordTables 0 := ⟨tb3 (List.mem_of_getElem? (i := 187) rfl), by decide +kernel, tb1 (List.mem_of_getElem? (i := 6) rfl), by decide +kernel, by decide +kernel⟩
theorem vbX8_readWordTables : px_vB mX8_readWordTables := ⟨tb3 (List.mem_of_getElem? (i := 186) rfl), List.mem_append_left _ (List.mem_of_getElem? (i := 9) (by decide +kernel))⟩
theorem kcX8_readSegment_132 : px_cV mX8_readSegment 132 mX8_readWordTables 0 := ⟨⟨mbX8_readWordTables, by decide, by decide⟩, Or.inl (tb3 (List.mem_of_getElem? (i := 184) rfl)), vbX8_readWordTables⟩
theorem mbX8_readInterval : px_mB mX8_readInterval 0 := ⟨tb3 (List.mem_of_getElem? (i := 207) rfl), by decide +kernel, tb1 (List.mem_of_getElem? (i := 6) rfl), by decide +kernel, by decide +kernel⟩
theorem vbX8_readInterval : px_vB mX8_readInterval := ⟨tb3 (List.mem_of_getElem? (i := 206) rfl), List.mem_append_left _ (List.mem_of_getElem? (i := 13) (by decide +kernel))⟩
theorem kcX8_readSegment_135 : px_cV mX8_readSegment 135 mX8_readInterval 0 := ⟨⟨mbX8_readInterval, by decide, by decide⟩, Or.inl (tb3 (List.mem_of_getElem? (i := 204) rfl)), vbX8_readInterval⟩
theorem mbX8_readFrame : px_mB mX8_readFrame 1 := ⟨tb3 (List.mem_of_getElem? (i := 220) rfl), by decide +kernel, tb1 (List.mem_of_getElem? (i := 6) rfl), by decide +kernel, by decide +kernel⟩
theorem vbX8_readFrame : px_vB mX8_readFrame := ⟨tb3 (List.mem_of_getElem? (i := 219) rfl), List.mem_append_left _ (List.mem_of_getElem? (i := 16) (by decide +kernel))⟩
theorem kcX8_readSegment_138 : px_cV mX8_readSegment 138 mX8_readFrame 1 := ⟨⟨mbX8_readFrame, by decide, by decide⟩, Or.inl (tb3 (List.mem_of_getElem? (i := 217) rfl)), vbX8_readFrame⟩
theorem mbX8_readScan : px_mB mX8_readScan 0 := ⟨tb3 (List.mem_of_getElem? (i := 228) rfl), by decide +kernel, tb1 (List.mem_of_getElem? (i := 6) rfl), by decide +kernel, by decide +kernel⟩
theorem vbX8_readScan : px_vB mX8_readScan := ⟨tb3 (List.mem_of_getElem? (i := 227) rfl), List.mem_append_left _ (List.mem_of_getElem? (i := 18) (by decide +kernel))⟩
theorem kcX8_readSegment_141 : px_cV mX8_readSegment 141 mX8_readScan 0 := ⟨⟨mbX8_readScan, by decide, by decide⟩, Or.inl (tb3 (List.mem_of_getElem? (i := 225) rfl)), vbX8_readScan⟩
theorem mbX8_readLines : px_mB mX8_readLines 0 := ⟨tb4 (List.mem_of_getElem? (i := 25) rfl), by decide +kernel, tb1 (List.mem_of_getElem? (i := 6) rfl), by decide +kernel, by decide +kernel⟩
theorem vbX8_readLines : px_vB mX8_readLines := ⟨tb4 (List.mem_of_getElem? (i := 24) rfl), List.mem_append_left _ (List.mem_of_getElem? (i := 27) (by decide +kernel))⟩
theorem kcX8_readSegment_144 : px_cV mX8_readSegment 144 mX8_readLines 0 := ⟨⟨mbX8_readLines, by decide, by decide⟩, Or.inl (tb4 (List.mem_of_getElem? (i := 22) rfl)), vbX8_readLines⟩
theorem mbX8_passOver : px_mB mX8_passOver 0 := ⟨tb4 (List.mem_of_getElem? (i := 29) rfl), by decide +kernel, tb1 (List.mem_of_getElem? (i := 6) rfl), by decide +kernel, by decide +kernel⟩
theorem vbX8_passOver : px_vB mX8_passOver := ⟨tb4 (List.mem_of_getElem? (i := 28) rfl), List.mem_append_left _ (List.mem_of_getElem? (i := 28) (by decide +kernel))⟩
theorem kcX8_readSegment_147 : px_cV mX8_readSegment 147 mX8_passOver 0 := ⟨⟨mbX8_passOver, by decide, by decide⟩, Or.inl (tb4 (List.mem_of_getElem? (i := 26) rfl)), vbX8_passOver⟩
set_option maxRecDepth 100000 in
set_option maxHeartbeats 4000000 in
theorem eX8_readSegment {X : px_X} {w : px_W} {a0 : Nat} {a1 : Int32} {q : Int32 × px_W} (h : fX8_readSegment X w a0 a1 = some q) : EV X mX8_readSegment 0 (lv_args 0 [.ref a0, .int a1]) [] w (some (.int q.1)) q.2 := by
  unfold fX8_readSegment at h
  show EV X mX8_readSegment 0 [(0, .ref a0), (1, .int a1)] [] w (some (.int q.1)) q.2
  refine EV.aload_n 0 dX8_readSegment_0 rfl rfl ?_
  refine EV.aload_n 0 dX8_readSegment_1 rfl rfl ?_
  obtain ⟨v41, gv41, h⟩ := px_bs h
  refine ev_gI dX8_readSegment_2 flRX8_92 gv41 ?_
  obtain ⟨w42, gw42, h⟩ := px_bs h
  refine ev_pV dX8_readSegment_5 flRX8_123 rfl rfl rfl rfl gw42 ?_
  refine EV.aload_n 0 dX8_readSegment_8 rfl rfl ?_
  obtain ⟨v43, gv43, h⟩ := px_bs h
  refine ev_gI dX8_readSegment_9 flRX8_92 gv43 ?_
  refine EV.iconst (1) dX8_readSegment_12 (by decide) ?_
  refine EV.iadd dX8_readSegment_13 ?_
  refine EV.aload_n 0 dX8_readSegment_14 rfl rfl ?_
  obtain ⟨v44, gv44, h⟩ := px_bs h
  refine ev_gR dX8_readSegment_15 flRX8_40 gv44 ?_
  obtain ⟨v45, gv45, h⟩ := px_bs h
  refine ev_gI dX8_readSegment_18 flRX8_95 gv45 ?_
  refine EV.icmp_lt 39 dX8_readSegment_21 (by decide) (fun c46 => ?_) (fun c46 => ?_)
  · rw [if_pos c46] at h
    refine EV.sipush (256) dX8_readSegment_39 (by decide) ?_
    refine EV.aload_n 0 dX8_readSegment_42 rfl rfl ?_
    obtain ⟨v47, gv47, h⟩ := px_bs h
    refine ev_gR dX8_readSegment_43 flRX8_40 gv47 ?_
    refine EV.aload_n 0 dX8_readSegment_46 rfl rfl ?_
    obtain ⟨v48, gv48, h⟩ := px_bs h
    refine ev_gI dX8_readSegment_47 flRX8_92 gv48 ?_
    obtain ⟨o49, go49, h⟩ := px_bs h
    obtain ⟨q50, gq50, h⟩ := px_bs h
    refine EV.callV (As := [.int v48]) (rest := [.int 256]) dX8_readSegment_50 kcX8_readSegment_104 (gO_ok go49) rfl rfl rfl (Nat.le_of_ble_eq_true rfl) (Nat.le_of_ble_eq_true rfl) (eX1_at gq50) ?_
    refine EV.imul dX8_readSegment_53 ?_
    refine EV.aload_n 0 dX8_readSegment_54 rfl rfl ?_
    obtain ⟨v51, gv51, h⟩ := px_bs h
    refine ev_gR dX8_readSegment_55 flRX8_40 gv51 ?_
    refine EV.aload_n 0 dX8_readSegment_58 rfl rfl ?_
    obtain ⟨v52, gv52, h⟩ := px_bs h
    refine ev_gI dX8_readSegment_59 flRX8_92 gv52 ?_
    refine EV.iconst (1) dX8_readSegment_62 (by decide) ?_
    refine EV.iadd dX8_readSegment_63 ?_
    obtain ⟨o53, go53, h⟩ := px_bs h
    obtain ⟨q54, gq54, h⟩ := px_bs h
    refine EV.callV (As := [.int (v52 + 1)]) (rest := [.int (256 * q50.1)]) dX8_readSegment_64 kcX8_readSegment_104 (gO_ok go53) rfl rfl rfl (Nat.le_of_ble_eq_true rfl) (Nat.le_of_ble_eq_true rfl) (eX1_at gq54) ?_
    refine EV.iadd dX8_readSegment_67 ?_
    refine EV.istore_n [(2, .int ((256 * q50.1) + q54.1)), (0, .ref a0), (1, .int a1)] dX8_readSegment_68 rfl (by decide) rfl ?_
    refine EV.iload_n 0 dX8_readSegment_69 rfl rfl ?_
    refine EV.iconst (2) dX8_readSegment_70 (by decide) ?_
    refine EV.icmp_ge 86 dX8_readSegment_71 (by decide) (fun c55 => ?_) (fun c55 => ?_)
    · rw [if_pos c55] at h
      refine EV.aload_n 1 dX8_readSegment_86 rfl rfl ?_
      refine EV.aload_n 1 dX8_readSegment_87 rfl rfl ?_
      obtain ⟨v56, gv56, h⟩ := px_bs h
      refine ev_gI dX8_readSegment_88 flRX8_92 gv56 ?_
      refine EV.iload_n 0 dX8_readSegment_91 rfl rfl ?_
      refine EV.iadd dX8_readSegment_92 ?_
      obtain ⟨w57, gw57, h⟩ := px_bs h
      refine ev_pV dX8_readSegment_93 flRX8_126 rfl rfl rfl rfl gw57 ?_
      refine EV.aload_n 1 dX8_readSegment_96 rfl rfl ?_
      refine EV.dup dX8_readSegment_97 rfl ?_
      obtain ⟨v58, gv58, h⟩ := px_bs h
      refine ev_gI dX8_readSegment_98 flRX8_92 gv58 ?_
      refine EV.iconst (2) dX8_readSegment_101 (by decide) ?_
      refine EV.iadd dX8_readSegment_102 ?_
      obtain ⟨w59, gw59, h⟩ := px_bs h
      refine ev_pV dX8_readSegment_103 flRX8_92 rfl rfl rfl rfl gw59 ?_
      refine EV.aload_n 1 dX8_readSegment_106 rfl rfl ?_
      refine EV.dup dX8_readSegment_107 rfl ?_
      obtain ⟨v60, gv60, h⟩ := px_bs h
      refine ev_gI dX8_readSegment_108 flRX8_59 gv60 ?_
      refine EV.iconst (1) dX8_readSegment_111 (by decide) ?_
      refine EV.iadd dX8_readSegment_112 ?_
      obtain ⟨w61, gw61, h⟩ := px_bs h
      refine ev_pV dX8_readSegment_113 flRX8_59 rfl rfl rfl rfl gw61 ?_
      refine EV.iload_n 2 dX8_readSegment_116 rfl rfl ?_
      by_cases c62 : a1 = 192
      · rw [if_pos c62] at h
        refine EV.lookup 199 dX8_readSegment_117 (by decide) (by rw [c62] <;> rfl) (by decide) ?_
        refine EV.aload_n 1 dX8_readSegment_199 rfl rfl ?_
        refine EV.iload_n 2 dX8_readSegment_200 rfl rfl ?_
        obtain ⟨o63, go63, h⟩ := px_bs h
        obtain ⟨q64, gq64, h⟩ := px_bs h
        refine EV.callV (As := [.int a1]) (rest := []) dX8_readSegment_201 kcX8_readSegment_138 (gO_ok go63) rfl rfl rfl (Nat.le_of_ble_eq_true rfl) (Nat.le_of_ble_eq_true rfl) (eX8_readFrame gq64) ?_
        exact ev_retZ dX8_readSegment_204 rfl h
      rw [if_neg c62] at h
      by_cases c65 : a1 = 194
      · rw [if_pos c65] at h
        refine EV.lookup 199 dX8_readSegment_117 (by decide) (by rw [c65] <;> rfl) (by decide) ?_
        refine EV.aload_n 1 dX8_readSegment_199 rfl rfl ?_
        refine EV.iload_n 2 dX8_readSegment_200 rfl rfl ?_
        obtain ⟨o66, go66, h⟩ := px_bs h
        obtain ⟨q67, gq67, h⟩ := px_bs h
        refine EV.callV (As := [.int a1]) (rest := []) dX8_readSegment_201 kcX8_readSegment_138 (gO_ok go66) rfl rfl rfl (Nat.le_of_ble_eq_true rfl) (Nat.le_of_ble_eq_true rfl) (eX8_readFrame gq67) ?_
        exact ev_retZ dX8_readSegment_204 rfl h
      rw [if_neg c65] at h
      by_cases c68 : a1 = 196
      · rw [if_pos c68] at h
        refine EV.lookup 189 dX8_readSegment_117 (by decide) (by rw [c68] <;> rfl) (by decide) ?_
        refine EV.aload_n 1 dX8_readSegment_189 rfl rfl ?_
        obtain ⟨o69, go69, h⟩ := px_bs h
        obtain ⟨q70, gq70, h⟩ := px_bs h
        refine EV.callV (As := []) (rest := []) dX8_readSegment_190 kcX8_readSegment_132 (gO_ok go69) rfl rfl rfl (Nat.le_of_ble_eq_true rfl) (Nat.le_of_ble_eq_true rfl) (eX8_readWordTables gq70) ?_
        exact ev_retZ dX8_readSegment_193 rfl h
      rw [if_neg c68] at h
      by_cases c71 : a1 = 218
      · rw [if_pos c71] at h
        refine EV.lookup 205 dX8_readSegment_117 (by decide) (by rw [c71] <;> rfl) (by decide) ?_
        refine EV.aload_n 1 dX8_readSegment_205 rfl rfl ?_
        obtain ⟨o72, go72, h⟩ := px_bs h
        obtain ⟨q73, gq73, h⟩ := px_bs h
        refine EV.callV (As := []) (rest := []) dX8_readSegment_206 kcX8_readSegment_141 (gO_ok go72) rfl rfl rfl (Nat.le_of_ble_eq_true rfl) (Nat.le_of_ble_eq_true rfl) (eX8_readScan gq73) ?_
        exact ev_retZ dX8_readSegment_209 rfl h
      rw [if_neg c71] at h
      by_cases c74 : a1 = 219
      · rw [if_pos c74] at h
        refine EV.lookup 184 dX8_readSegment_117 (by decide) (by rw [c74] <;> rfl) (by decide) ?_
        refine EV.aload_n 1 dX8_readSegment_184 rfl rfl ?_
        obtain ⟨o75, go75, h⟩ := px_bs h
        obtain ⟨q76, gq76, h⟩ := px_bs h
        refine EV.callV (As := []) (rest := []) dX8_readSegment_185 kcX8_readSegment_129 (gO_ok go75) rfl rfl rfl (Nat.le_of_ble_eq_true rfl) (Nat.le_of_ble_eq_true rfl) (eX8_readQuantisers gq76) ?_
        exact ev_retZ dX8_readSegment_188 rfl h
      rw [if_neg c74] at h
      by_cases c77 : a1 = 220
      · rw [if_pos c77] at h
        refine EV.lookup 210 dX8_readSegment_117 (by decide) (by rw [c77] <;> rfl) (by decide) ?_
        refine EV.aload_n 1 dX8_readSegment_210 rfl rfl ?_
        obtain ⟨o78, go78, h⟩ := px_bs h
        obtain ⟨q79, gq79, h⟩ := px_bs h
        refine EV.callV (As := []) (rest := []) dX8_readSegment_211 kcX8_readSegment_144 (gO_ok go78) rfl rfl rfl (Nat.le_of_ble_eq_true rfl) (Nat.le_of_ble_eq_true rfl) (eX8_readLines gq79) ?_
        exact ev_retZ dX8_readSegment_214 rfl h
      rw [if_neg c77] at h
      by_cases c80 : a1 = 221
      · rw [if_pos c80] at h
        refine EV.lookup 194 dX8_readSegment_117 (by decide) (by rw [c80] <;> rfl) (by decide) ?_
        refine EV.aload_n 1 dX8_readSegment_194 rfl rfl ?_
        obtain ⟨o81, go81, h⟩ := px_bs h
        obtain ⟨q82, gq82, h⟩ := px_bs h
        refine EV.callV (As := []) (rest := []) dX8_readSegment_195 kcX8_readSegment_135 (gO_ok go81) rfl rfl rfl (Nat.le_of_ble_eq_true rfl) (Nat.le_of_ble_eq_true rfl) (eX8_readInterval gq82) ?_
        exact ev_retZ dX8_readSegment_198 rfl h
      rw [if_neg c80] at h
      refine EV.lookup (off := 98) 215 dX8_readSegment_117 (by decide) (by rw [lv_osw c62 (by decide), lv_osw c65 (by decide), lv_osw c68 (by decide), lv_osw c71 (by decide), lv_osw c74 (by decide), lv_osw c77 (by decide), lv_osw c80 (by decide)] <;> rfl) (by decide) ?_
      refine EV.aload_n 1 dX8_readSegment_215 rfl rfl ?_
      obtain ⟨o83, go83, h⟩ := px_bs h
      obtain ⟨q84, gq84, h⟩ := px_bs h
      refine EV.callV (As := []) (rest := []) dX8_readSegment_216 kcX8_readSegment_147 (gO_ok go83) rfl rfl rfl (Nat.le_of_ble_eq_true rfl) (Nat.le_of_ble_eq_true rfl) (eX8_passOver gq84) ?_
      exact ev_retZ dX8_readSegment_219 rfl h
    · rw [if_neg c55] at h
      refine EV.aload_n 1 dX8_readSegment_74 rfl rfl ?_
      refine EV.iconst (5) dX8_readSegment_75 (by decide) ?_
      refine EV.aload_n 1 dX8_readSegment_76 rfl rfl ?_
      obtain ⟨v85, gv85, h⟩ := px_bs h
      refine ev_gI dX8_readSegment_77 flRX8_123 gv85 ?_
      obtain ⟨o86, go86, h⟩ := px_bs h
      obtain ⟨q87, gq87, h⟩ := px_bs h
      refine EV.callV (As := [.int 5, .int v85]) (rest := []) dX8_readSegment_80 kcX8_readSegment_100 (gO_ok go86) rfl rfl rfl (Nat.le_of_ble_eq_true rfl) (Nat.le_of_ble_eq_true rfl) (eX8_fail gq87) ?_
      refine EV.pop dX8_readSegment_83 rfl ?_
      refine EV.iconst (0) dX8_readSegment_84 (by decide) ?_
      cases h
      exact EV.reti dX8_readSegment_85 rfl
  · rw [if_neg c46] at h
    refine EV.aload_n 0 dX8_readSegment_24 rfl rfl ?_
    refine EV.iconst (1) dX8_readSegment_25 (by decide) ?_
    refine EV.aload_n 0 dX8_readSegment_26 rfl rfl ?_
    obtain ⟨v88, gv88, h⟩ := px_bs h
    refine ev_gR dX8_readSegment_27 flRX8_40 gv88 ?_
    obtain ⟨v89, gv89, h⟩ := px_bs h
    refine ev_gI dX8_readSegment_30 flRX8_95 gv89 ?_
    obtain ⟨o90, go90, h⟩ := px_bs h
    obtain ⟨q91, gq91, h⟩ := px_bs h
    refine EV.callV (As := [.int 1, .int v89]) (rest := []) dX8_readSegment_33 kcX8_readSegment_100 (gO_ok go90) rfl rfl rfl (Nat.le_of_ble_eq_true rfl) (Nat.le_of_ble_eq_true rfl) (eX8_fail gq91) ?_
    refine EV.pop dX8_readSegment_36 rfl ?_
    refine EV.iconst (0) dX8_readSegment_37 (by decide) ?_
    cases h
    exact EV.reti dX8_readSegment_38 rfl
/-! WavePictures$SegmentReader.nextScan()Z -/
theorem dX8_nextScan_0 : decode cX8_nextScan 0 = .ok (.iconst 0, 1) := by decide +kernel
theorem dX8_nextScan_1 : decode cX8_nextScan 1 = .ok (.istore_n 1, 1) := by decide +kernel
theorem dX8_nextScan_2 : decode cX8_nextScan 2 = .ok (.aload_n 0, 1) := by decide +kernel
theorem dX8_nextScan_3 : decode cX8_nextScan 3 = .ok (.getfield 62, 3) := by decide +kernel
theorem dX8_nextScan_6 : decode cX8_nextScan 6 = .ok (.ifCond .ne 52, 3) := by decide +kernel
theorem dX8_nextScan_9 : decode cX8_nextScan 9 = .ok (.iload_n 1, 1) := by decide +kernel
theorem dX8_nextScan_10 : decode cX8_nextScan 10 = .ok (.sipush 16384, 3) := by decide +kernel
theorem dX8_nextScan_13 : decode cX8_nextScan 13 = .ok (.if_icmp .ge 45, 3) := by decide +kernel
theorem dX8_nextScan_16 : decode cX8_nextScan 16 = .ok (.aload_n 0, 1) := by decide +kernel
theorem dX8_nextScan_17 : decode cX8_nextScan 17 = .ok (.invokevirtual 108, 3) := by decide +kernel
theorem dX8_nextScan_20 : decode cX8_nextScan 20 = .ok (.istore_n 2, 1) := by decide +kernel
theorem dX8_nextScan_21 : decode cX8_nextScan 21 = .ok (.iload_n 2, 1) := by decide +kernel
theorem dX8_nextScan_22 : decode cX8_nextScan 22 = .ok (.iconst (-1), 1) := by decide +kernel
theorem dX8_nextScan_23 : decode cX8_nextScan 23 = .ok (.if_icmp .eq 18, 3) := by decide +kernel
theorem dX8_nextScan_26 : decode cX8_nextScan 26 = .ok (.iload_n 2, 1) := by decide +kernel
theorem dX8_nextScan_27 : decode cX8_nextScan 27 = .ok (.sipush 217, 3) := by decide +kernel
theorem dX8_nextScan_30 : decode cX8_nextScan 30 = .ok (.if_icmp .eq 11, 3) := by decide +kernel
theorem dX8_nextScan_33 : decode cX8_nextScan 33 = .ok (.aload_n 0, 1) := by decide +kernel
theorem dX8_nextScan_34 : decode cX8_nextScan 34 = .ok (.iload_n 2, 1) := by decide +kernel
theorem dX8_nextScan_35 : decode cX8_nextScan 35 = .ok (.invokevirtual 112, 3) := by decide +kernel
theorem dX8_nextScan_38 : decode cX8_nextScan 38 = .ok (.ifCond .ne 5, 3) := by decide +kernel
theorem dX8_nextScan_41 : decode cX8_nextScan 41 = .ok (.iconst 0, 1) := by decide +kernel
theorem dX8_nextScan_42 : decode cX8_nextScan 42 = .ok (.ireturn, 1) := by decide +kernel
theorem dX8_nextScan_43 : decode cX8_nextScan 43 = .ok (.iload_n 2, 1) := by decide +kernel
theorem dX8_nextScan_44 : decode cX8_nextScan 44 = .ok (.sipush 218, 3) := by decide +kernel
theorem dX8_nextScan_47 : decode cX8_nextScan 47 = .ok (.if_icmp .ne 5, 3) := by decide +kernel
theorem dX8_nextScan_50 : decode cX8_nextScan 50 = .ok (.iconst 1, 1) := by decide +kernel
theorem dX8_nextScan_51 : decode cX8_nextScan 51 = .ok (.ireturn, 1) := by decide +kernel
theorem dX8_nextScan_52 : decode cX8_nextScan 52 = .ok (.iinc 1 1, 3) := by decide +kernel
theorem dX8_nextScan_55 : decode cX8_nextScan 55 = .ok (.goto (-53), 3) := by decide +kernel
theorem dX8_nextScan_58 : decode cX8_nextScan 58 = .ok (.iconst 0, 1) := by decide +kernel
theorem dX8_nextScan_59 : decode cX8_nextScan 59 = .ok (.ireturn, 1) := by decide +kernel
theorem mbX8_readMarker : px_mB mX8_readMarker 0 := ⟨tb3 (List.mem_of_getElem? (i := 155) rfl), by decide +kernel, tb1 (List.mem_of_getElem? (i := 6) rfl), by decide +kernel, by decide +kernel⟩
theorem vbX8_readMarker : px_vB mX8_readMarker := ⟨tb3 (List.mem_of_getElem? (i := 154) rfl), List.mem_append_left _ (List.mem_of_getElem? (i := 1) (by decide +kernel))⟩
theorem kcX8_nextScan_108 : px_cV mX8_nextScan 108 mX8_readMarker 0 := ⟨⟨mbX8_readMarker, by decide, by decide⟩, Or.inl (tb3 (List.mem_of_getElem? (i := 152) rfl)), vbX8_readMarker⟩
theorem mbX8_readSegment : px_mB mX8_readSegment 1 := ⟨tb3 (List.mem_of_getElem? (i := 167) rfl), by decide +kernel, tb1 (List.mem_of_getElem? (i := 6) rfl), by decide +kernel, by decide +kernel⟩
theorem vbX8_readSegment : px_vB mX8_readSegment := ⟨tb3 (List.mem_of_getElem? (i := 166) rfl), List.mem_append_left _ (List.mem_of_getElem? (i := 4) (by decide +kernel))⟩
theorem kcX8_nextScan_112 : px_cV mX8_nextScan 112 mX8_readSegment 1 := ⟨⟨mbX8_readSegment, by decide, by decide⟩, Or.inl (tb3 (List.mem_of_getElem? (i := 164) rfl)), vbX8_readSegment⟩
set_option maxRecDepth 100000 in
set_option maxHeartbeats 4000000 in
theorem eX8_nextScan_2 {X : px_X}  : ∀ (m : Nat) (a0 : Nat) (a1 : Int32) (w : px_W) (q : Int32 × px_W), fX8_nextScan_2 X  m a0 a1 w = some q → EV X mX8_nextScan 2 [(0, .ref a0), (1, .int a1)] [] w (some (.int q.1)) q.2 := by
  intro m
  induction m with
  | zero => intro a0 a1 w q h; cases h
  | succ m ih =>
    intro a0 a1 w q h
    rw [fX8_nextScan_2.eq_2] at h
    refine EV.aload_n 0 dX8_nextScan_2 rfl rfl ?_
    obtain ⟨v6, gv6, h⟩ := px_bs h
    refine ev_gI dX8_nextScan_3 flRX8_62 gv6 ?_
    refine EV.if_ne 58 dX8_nextScan_6 (by decide) (fun c7 => ?_) (fun c7 => ?_)
    · rw [if_neg c7] at h
      refine EV.iconst (0) dX8_nextScan_58 (by decide) ?_
      cases h
      exact EV.reti dX8_nextScan_59 rfl
    · rw [if_pos c7] at h
      refine EV.iload_n 1 dX8_nextScan_9 rfl rfl ?_
      refine EV.sipush (16384) dX8_nextScan_10 (by decide) ?_
      refine EV.icmp_ge 58 dX8_nextScan_13 (by decide) (fun c8 => ?_) (fun c8 => ?_)
      · rw [if_pos c8] at h
        refine EV.iconst (0) dX8_nextScan_58 (by decide) ?_
        cases h
        exact EV.reti dX8_nextScan_59 rfl
      · rw [if_neg c8] at h
        refine EV.aload_n 0 dX8_nextScan_16 rfl rfl ?_
        obtain ⟨o9, go9, h⟩ := px_bs h
        obtain ⟨q10, gq10, h⟩ := px_bs h
        refine EV.callV (As := []) (rest := []) dX8_nextScan_17 kcX8_nextScan_108 (gO_ok go9) rfl rfl rfl (Nat.le_of_ble_eq_true rfl) (Nat.le_of_ble_eq_true rfl) (eX8_readMarker gq10) ?_
        refine EV.istore_n [(2, .int q10.1), (0, .ref a0), (1, .int a1)] dX8_nextScan_20 rfl (by decide) rfl ?_
        refine EV.iload_n 0 dX8_nextScan_21 rfl rfl ?_
        refine EV.iconst ((-1)) dX8_nextScan_22 (by decide) ?_
        refine EV.icmp_eq 41 dX8_nextScan_23 (by decide) (fun c11 => ?_) (fun c11 => ?_)
        · rw [if_pos c11] at h
          refine EV.iconst (0) dX8_nextScan_41 (by decide) ?_
          cases h
          exact EV.reti dX8_nextScan_42 rfl
        · rw [if_neg c11] at h
          refine EV.iload_n 0 dX8_nextScan_26 rfl rfl ?_
          refine EV.sipush (217) dX8_nextScan_27 (by decide) ?_
          refine EV.icmp_eq 41 dX8_nextScan_30 (by decide) (fun c12 => ?_) (fun c12 => ?_)
          · rw [if_pos c12] at h
            refine EV.iconst (0) dX8_nextScan_41 (by decide) ?_
            cases h
            exact EV.reti dX8_nextScan_42 rfl
          · rw [if_neg c12] at h
            refine EV.aload_n 1 dX8_nextScan_33 rfl rfl ?_
            refine EV.iload_n 0 dX8_nextScan_34 rfl rfl ?_
            obtain ⟨o13, go13, h⟩ := px_bs h
            obtain ⟨q14, gq14, h⟩ := px_bs h
            refine EV.callV (As := [.int q10.1]) (rest := []) dX8_nextScan_35 kcX8_nextScan_112 (gO_ok go13) rfl rfl rfl (Nat.le_of_ble_eq_true rfl) (Nat.le_of_ble_eq_true rfl) (eX8_readSegment gq14) ?_
            refine EV.if_ne 43 dX8_nextScan_38 (by decide) (fun c15 => ?_) (fun c15 => ?_)
            · rw [if_neg c15] at h
              refine EV.iload_n 0 dX8_nextScan_43 rfl rfl ?_
              refine EV.sipush (218) dX8_nextScan_44 (by decide) ?_
              refine EV.icmp_ne 52 dX8_nextScan_47 (by decide) (fun c16 => ?_) (fun c16 => ?_)
              · rw [if_neg c16] at h
                refine EV.iinc 2 (a1 + 1) [(1, .int (a1 + 1)), (2, .int q10.1), (0, .ref a0)] dX8_nextScan_52 rfl rfl (by decide) rfl ?_
                refine EV.goto 2 dX8_nextScan_55 (by decide) ?_
                refine EV.sub [2, 0] rfl ?_
                exact ih _ _ _ _ h
              · rw [if_pos c16] at h
                refine EV.iconst (1) dX8_nextScan_50 (by decide) ?_
                cases h
                exact EV.reti dX8_nextScan_51 rfl
            · rw [if_pos c15] at h
              refine EV.iconst (0) dX8_nextScan_41 (by decide) ?_
              cases h
              exact EV.reti dX8_nextScan_42 rfl
set_option maxRecDepth 100000 in
set_option maxHeartbeats 4000000 in
theorem eX8_nextScan {X : px_X} {w : px_W} {a0 : Nat} {q : Int32 × px_W} (h : fX8_nextScan X w a0 = some q) : EV X mX8_nextScan 0 (lv_args 0 [.ref a0]) [] w (some (.int q.1)) q.2 := by
  unfold fX8_nextScan at h
  show EV X mX8_nextScan 0 [(0, .ref a0)] [] w (some (.int q.1)) q.2
  refine EV.iconst (0) dX8_nextScan_0 (by decide) ?_
  refine EV.istore_n [(1, .int 0), (0, .ref a0)] dX8_nextScan_1 rfl (by decide) rfl ?_
  refine EV.sub [1, 0] rfl ?_
  exact eX8_nextScan_2  FU _ _ _ _ h
/-! WavePictures$Waves.cosine(I)I -/
theorem dX9_cosine_0 : decode cX9_cosine 0 = .ok (.iload_n 0, 1) := by decide +kernel
theorem dX9_cosine_1 : decode cX9_cosine 1 = .ok (.bipush 31, 2) := by decide +kernel
theorem dX9_cosine_3 : decode cX9_cosine 3 = .ok (.iand, 1) := by decide +kernel
theorem dX9_cosine_4 : decode cX9_cosine 4 = .ok (.istore_n 1, 1) := by decide +kernel
theorem dX9_cosine_5 : decode cX9_cosine 5 = .ok (.iload_n 1, 1) := by decide +kernel
theorem dX9_cosine_6 : decode cX9_cosine 6 = .ok (.bipush 8, 2) := by decide +kernel
theorem dX9_cosine_8 : decode cX9_cosine 8 = .ok (.if_icmp .gt 9, 3) := by decide +kernel
theorem dX9_cosine_11 : decode cX9_cosine 11 = .ok (.getstatic 22, 3) := by decide +kernel
theorem dX9_cosine_14 : decode cX9_cosine 14 = .ok (.iload_n 1, 1) := by decide +kernel
theorem dX9_cosine_15 : decode cX9_cosine 15 = .ok (.iaload, 1) := by decide +kernel
theorem dX9_cosine_16 : decode cX9_cosine 16 = .ok (.ireturn, 1) := by decide +kernel
theorem dX9_cosine_17 : decode cX9_cosine 17 = .ok (.iload_n 1, 1) := by decide +kernel
theorem dX9_cosine_18 : decode cX9_cosine 18 = .ok (.bipush 16, 2) := by decide +kernel
theorem dX9_cosine_20 : decode cX9_cosine 20 = .ok (.if_icmp .gt 13, 3) := by decide +kernel
theorem dX9_cosine_23 : decode cX9_cosine 23 = .ok (.getstatic 22, 3) := by decide +kernel
theorem dX9_cosine_26 : decode cX9_cosine 26 = .ok (.bipush 16, 2) := by decide +kernel
theorem dX9_cosine_28 : decode cX9_cosine 28 = .ok (.iload_n 1, 1) := by decide +kernel
theorem dX9_cosine_29 : decode cX9_cosine 29 = .ok (.isub, 1) := by decide +kernel
theorem dX9_cosine_30 : decode cX9_cosine 30 = .ok (.iaload, 1) := by decide +kernel
theorem dX9_cosine_31 : decode cX9_cosine 31 = .ok (.ineg, 1) := by decide +kernel
theorem dX9_cosine_32 : decode cX9_cosine 32 = .ok (.ireturn, 1) := by decide +kernel
theorem dX9_cosine_33 : decode cX9_cosine 33 = .ok (.iload_n 1, 1) := by decide +kernel
theorem dX9_cosine_34 : decode cX9_cosine 34 = .ok (.bipush 24, 2) := by decide +kernel
theorem dX9_cosine_36 : decode cX9_cosine 36 = .ok (.if_icmp .gt 15, 3) := by decide +kernel
theorem dX9_cosine_39 : decode cX9_cosine 39 = .ok (.getstatic 22, 3) := by decide +kernel
theorem dX9_cosine_42 : decode cX9_cosine 42 = .ok (.iload_n 1, 1) := by decide +kernel
theorem dX9_cosine_43 : decode cX9_cosine 43 = .ok (.bipush 16, 2) := by decide +kernel
theorem dX9_cosine_45 : decode cX9_cosine 45 = .ok (.isub, 1) := by decide +kernel
theorem dX9_cosine_46 : decode cX9_cosine 46 = .ok (.iaload, 1) := by decide +kernel
theorem dX9_cosine_47 : decode cX9_cosine 47 = .ok (.ineg, 1) := by decide +kernel
theorem dX9_cosine_48 : decode cX9_cosine 48 = .ok (.goto 11, 3) := by decide +kernel
theorem dX9_cosine_51 : decode cX9_cosine 51 = .ok (.getstatic 22, 3) := by decide +kernel
theorem dX9_cosine_54 : decode cX9_cosine 54 = .ok (.bipush 32, 2) := by decide +kernel
theorem dX9_cosine_56 : decode cX9_cosine 56 = .ok (.iload_n 1, 1) := by decide +kernel
theorem dX9_cosine_57 : decode cX9_cosine 57 = .ok (.isub, 1) := by decide +kernel
theorem dX9_cosine_58 : decode cX9_cosine 58 = .ok (.iaload, 1) := by decide +kernel
theorem dX9_cosine_59 : decode cX9_cosine 59 = .ok (.ireturn, 1) := by decide +kernel
set_option maxRecDepth 100000 in
set_option maxHeartbeats 4000000 in
theorem eX9_cosine {X : px_X} {w : px_W} {a0 : Int32} {q : Int32 × px_W} (h : fX9_cosine X w a0 = some q) : EV X mX9_cosine 0 (lv_args 0 [.int a0]) [] w (some (.int q.1)) q.2 := by
  unfold fX9_cosine at h
  show EV X mX9_cosine 0 [(0, .int a0)] [] w (some (.int q.1)) q.2
  refine EV.iload_n 0 dX9_cosine_0 rfl rfl ?_
  refine EV.bipush (31) dX9_cosine_1 (by decide) ?_
  refine EV.iand dX9_cosine_3 ?_
  refine EV.istore_n [(1, .int (a0 &&& 31)), (0, .int a0)] dX9_cosine_4 rfl (by decide) rfl ?_
  refine EV.iload_n 0 dX9_cosine_5 rfl rfl ?_
  refine EV.bipush (8) dX9_cosine_6 (by decide) ?_
  refine EV.icmp_gt 17 dX9_cosine_8 (by decide) (fun c5 => ?_) (fun c5 => ?_)
  · rw [if_pos c5] at h
    refine EV.iload_n 0 dX9_cosine_17 rfl rfl ?_
    refine EV.bipush (16) dX9_cosine_18 (by decide) ?_
    refine EV.icmp_gt 33 dX9_cosine_20 (by decide) (fun c6 => ?_) (fun c6 => ?_)
    · rw [if_pos c6] at h
      refine EV.iload_n 0 dX9_cosine_33 rfl rfl ?_
      refine EV.bipush (24) dX9_cosine_34 (by decide) ?_
      refine EV.icmp_gt 51 dX9_cosine_36 (by decide) (fun c7 => ?_) (fun c7 => ?_)
      · rw [if_pos c7] at h
        refine EV.getsN (k := 0) dX9_cosine_51 rfl (tT1 (List.mem_of_getElem? (i := 156) rfl)) ?_
        refine EV.bipush (32) dX9_cosine_54 (by decide) ?_
        refine EV.iload_n 0 dX9_cosine_56 rfl rfl ?_
        refine EV.isub dX9_cosine_57 ?_
        obtain ⟨v8, gv8, h⟩ := px_bs h
        refine ev_aX dX9_cosine_58 gv8 ?_
        cases h
        exact EV.reti dX9_cosine_59 rfl
      · rw [if_neg c7] at h
        refine EV.getsN (k := 0) dX9_cosine_39 rfl (tT1 (List.mem_of_getElem? (i := 156) rfl)) ?_
        refine EV.iload_n 0 dX9_cosine_42 rfl rfl ?_
        refine EV.bipush (16) dX9_cosine_43 (by decide) ?_
        refine EV.isub dX9_cosine_45 ?_
        obtain ⟨v9, gv9, h⟩ := px_bs h
        refine ev_aX dX9_cosine_46 gv9 ?_
        refine EV.ineg dX9_cosine_47 ?_
        refine EV.goto 59 dX9_cosine_48 (by decide) ?_
        cases h
        exact EV.reti dX9_cosine_59 rfl
    · rw [if_neg c6] at h
      refine EV.getsN (k := 0) dX9_cosine_23 rfl (tT1 (List.mem_of_getElem? (i := 156) rfl)) ?_
      refine EV.bipush (16) dX9_cosine_26 (by decide) ?_
      refine EV.iload_n 0 dX9_cosine_28 rfl rfl ?_
      refine EV.isub dX9_cosine_29 ?_
      obtain ⟨v10, gv10, h⟩ := px_bs h
      refine ev_aX dX9_cosine_30 gv10 ?_
      refine EV.ineg dX9_cosine_31 ?_
      cases h
      exact EV.reti dX9_cosine_32 rfl
  · rw [if_neg c5] at h
    refine EV.getsN (k := 0) dX9_cosine_11 rfl (tT1 (List.mem_of_getElem? (i := 156) rfl)) ?_
    refine EV.iload_n 0 dX9_cosine_14 rfl rfl ?_
    obtain ⟨v11, gv11, h⟩ := px_bs h
    refine ev_aX dX9_cosine_15 gv11 ?_
    cases h
    exact EV.reti dX9_cosine_16 rfl
/-! WavePictures$Waves.<init>()V -/
theorem dX9_init_0 : decode cX9_init 0 = .ok (.aload_n 0, 1) := by decide +kernel
theorem dX9_init_1 : decode cX9_init 1 = .ok (.invokespecial 3, 3) := by decide +kernel
theorem dX9_init_4 : decode cX9_init 4 = .ok (.aload_n 0, 1) := by decide +kernel
theorem dX9_init_5 : decode cX9_init 5 = .ok (.sipush 256, 3) := by decide +kernel
theorem dX9_init_8 : decode cX9_init 8 = .ok (.newarray .int, 2) := by decide +kernel
theorem dX9_init_10 : decode cX9_init 10 = .ok (.putfield 9, 3) := by decide +kernel
theorem dX9_init_13 : decode cX9_init 13 = .ok (.aload_n 0, 1) := by decide +kernel
theorem dX9_init_14 : decode cX9_init 14 = .ok (.bipush 64, 2) := by decide +kernel
theorem dX9_init_16 : decode cX9_init 16 = .ok (.newarray .long, 2) := by decide +kernel
theorem dX9_init_18 : decode cX9_init 18 = .ok (.putfield 15, 3) := by decide +kernel
theorem dX9_init_21 : decode cX9_init 21 = .ok (.aload_n 0, 1) := by decide +kernel
theorem dX9_init_22 : decode cX9_init 22 = .ok (.bipush 64, 2) := by decide +kernel
theorem dX9_init_24 : decode cX9_init 24 = .ok (.newarray .long, 2) := by decide +kernel
theorem dX9_init_26 : decode cX9_init 26 = .ok (.putfield 19, 3) := by decide +kernel
theorem dX9_init_29 : decode cX9_init 29 = .ok (.iconst 0, 1) := by decide +kernel
theorem dX9_init_30 : decode cX9_init 30 = .ok (.istore_n 1, 1) := by decide +kernel
theorem dX9_init_31 : decode cX9_init 31 = .ok (.iload_n 1, 1) := by decide +kernel
theorem dX9_init_32 : decode cX9_init 32 = .ok (.iconst 4, 1) := by decide +kernel
theorem dX9_init_33 : decode cX9_init 33 = .ok (.if_icmp .ge 86, 3) := by decide +kernel
theorem dX9_init_36 : decode cX9_init 36 = .ok (.iconst 1, 1) := by decide +kernel
theorem dX9_init_37 : decode cX9_init 37 = .ok (.iload_n 1, 1) := by decide +kernel
theorem dX9_init_38 : decode cX9_init 38 = .ok (.ishl, 1) := by decide +kernel
theorem dX9_init_39 : decode cX9_init 39 = .ok (.istore_n 2, 1) := by decide +kernel
theorem dX9_init_40 : decode cX9_init 40 = .ok (.iconst 0, 1) := by decide +kernel
theorem dX9_init_41 : decode cX9_init 41 = .ok (.istore_n 3, 1) := by decide +kernel
theorem dX9_init_42 : decode cX9_init 42 = .ok (.iload_n 3, 1) := by decide +kernel
theorem dX9_init_43 : decode cX9_init 43 = .ok (.iload_n 2, 1) := by decide +kernel
theorem dX9_init_44 : decode cX9_init 44 = .ok (.if_icmp .ge 69, 3) := by decide +kernel
theorem dX9_init_47 : decode cX9_init 47 = .ok (.iconst 0, 1) := by decide +kernel
theorem dX9_init_48 : decode cX9_init 48 = .ok (.istore 4, 2) := by decide +kernel
theorem dX9_init_50 : decode cX9_init 50 = .ok (.iload 4, 2) := by decide +kernel
theorem dX9_init_52 : decode cX9_init 52 = .ok (.iload_n 2, 1) := by decide +kernel
theorem dX9_init_53 : decode cX9_init 53 = .ok (.if_icmp .ge 54, 3) := by decide +kernel
theorem dX9_init_56 : decode cX9_init 56 = .ok (.aload_n 0, 1) := by decide +kernel
theorem dX9_init_57 : decode cX9_init 57 = .ok (.getfield 9, 3) := by decide +kernel
theorem dX9_init_60 : decode cX9_init 60 = .ok (.bipush 64, 2) := by decide +kernel
theorem dX9_init_62 : decode cX9_init 62 = .ok (.iload_n 1, 1) := by decide +kernel
theorem dX9_init_63 : decode cX9_init 63 = .ok (.imul, 1) := by decide +kernel
theorem dX9_init_64 : decode cX9_init 64 = .ok (.bipush 8, 2) := by decide +kernel
theorem dX9_init_66 : decode cX9_init 66 = .ok (.iload_n 3, 1) := by decide +kernel
theorem dX9_init_67 : decode cX9_init 67 = .ok (.imul, 1) := by decide +kernel
theorem dX9_init_68 : decode cX9_init 68 = .ok (.iadd, 1) := by decide +kernel
theorem dX9_init_69 : decode cX9_init 69 = .ok (.iload 4, 2) := by decide +kernel
theorem dX9_init_71 : decode cX9_init 71 = .ok (.iadd, 1) := by decide +kernel
theorem dX9_init_72 : decode cX9_init 72 = .ok (.iload_n 3, 1) := by decide +kernel
theorem dX9_init_73 : decode cX9_init 73 = .ok (.ifCond .ne 11, 3) := by decide +kernel
theorem dX9_init_76 : decode cX9_init 76 = .ok (.getstatic 22, 3) := by decide +kernel
theorem dX9_init_79 : decode cX9_init 79 = .ok (.iconst 4, 1) := by decide +kernel
theorem dX9_init_80 : decode cX9_init 80 = .ok (.iaload, 1) := by decide +kernel
theorem dX9_init_81 : decode cX9_init 81 = .ok (.goto 19, 3) := by decide +kernel
theorem dX9_init_84 : decode cX9_init 84 = .ok (.iconst 2, 1) := by decide +kernel
theorem dX9_init_85 : decode cX9_init 85 = .ok (.iload 4, 2) := by decide +kernel
theorem dX9_init_87 : decode cX9_init 87 = .ok (.imul, 1) := by decide +kernel
theorem dX9_init_88 : decode cX9_init 88 = .ok (.iconst 1, 1) := by decide +kernel
theorem dX9_init_89 : decode cX9_init 89 = .ok (.iadd, 1) := by decide +kernel
theorem dX9_init_90 : decode cX9_init 90 = .ok (.iload_n 3, 1) := by decide +kernel
theorem dX9_init_91 : decode cX9_init 91 = .ok (.imul, 1) := by decide +kernel
theorem dX9_init_92 : decode cX9_init 92 = .ok (.bipush 8, 2) := by decide +kernel
theorem dX9_init_94 : decode cX9_init 94 = .ok (.iload_n 2, 1) := by decide +kernel
theorem dX9_init_95 : decode cX9_init 95 = .ok (.idiv, 1) := by decide +kernel
theorem dX9_init_96 : decode cX9_init 96 = .ok (.imul, 1) := by decide +kernel
theorem dX9_init_97 : decode cX9_init 97 = .ok (.invokestatic 25, 3) := by decide +kernel
theorem dX9_init_100 : decode cX9_init 100 = .ok (.iastore, 1) := by decide +kernel
theorem dX9_init_101 : decode cX9_init 101 = .ok (.iinc 4 1, 3) := by decide +kernel
theorem dX9_init_104 : decode cX9_init 104 = .ok (.goto (-54), 3) := by decide +kernel
theorem dX9_init_107 : decode cX9_init 107 = .ok (.iinc 3 1, 3) := by decide +kernel
theorem dX9_init_110 : decode cX9_init 110 = .ok (.goto (-68), 3) := by decide +kernel
theorem dX9_init_113 : decode cX9_init 113 = .ok (.iinc 1 1, 3) := by decide +kernel
theorem dX9_init_116 : decode cX9_init 116 = .ok (.goto (-85), 3) := by decide +kernel
theorem dX9_init_119 : decode cX9_init 119 = .ok (.return_, 1) := by decide +kernel
theorem flRX9_9 : px_f RX9 9 9 0 := ⟨_, rfl, by decide, Or.inl (tb1 (List.mem_of_getElem? (i := 161) rfl))⟩
theorem mbX9_cosine : px_mB mX9_cosine 1 := ⟨tb1 (List.mem_of_getElem? (i := 160) rfl), by decide +kernel, tb1 (List.mem_of_getElem? (i := 5) rfl), by decide +kernel, by decide +kernel⟩
theorem kcX9_init_25 : px_cS mX9_init 25 mX9_cosine 1 := ⟨⟨mbX9_cosine, by decide, by decide⟩, Or.inl (tb1 (List.mem_of_getElem? (i := 158) rfl)), tb1 (List.mem_of_getElem? (i := 159) rfl)⟩
set_option maxRecDepth 100000 in
set_option maxHeartbeats 4000000 in
theorem eX9_init_113 {X : px_X} {k31 : Nat → Int32 → px_W → Option (px_W)} (hk31 : ∀ (a0 : Nat) (a1 : Int32) (w : px_W) (q : px_W), k31 a0 a1 w = some q → EV X mX9_init 31 [(0, .ref a0), (1, .int a1)] [] w none q) : ∀ (a0 : Nat) (a1 : Int32) (w : px_W) (q : px_W), fX9_init_113 X k31 a0 a1 w = some q → EV X mX9_init 113 [(0, .ref a0), (1, .int a1)] [] w none q := by
  intro a0 a1 w q h
  unfold fX9_init_113 at h
  refine EV.iinc 1 (a1 + 1) [(1, .int (a1 + 1)), (0, .ref a0)] dX9_init_113 rfl rfl (by decide) rfl ?_
  refine EV.goto 31 dX9_init_116 (by decide) ?_
  refine EV.sub [1, 0] rfl ?_
  exact hk31 _ _ _ _ h
set_option maxRecDepth 100000 in
set_option maxHeartbeats 4000000 in
theorem eX9_init_107 {X : px_X} {k31 : Nat → Int32 → px_W → Option (px_W)} (hk31 : ∀ (a0 : Nat) (a1 : Int32) (w : px_W) (q : px_W), k31 a0 a1 w = some q → EV X mX9_init 31 [(0, .ref a0), (1, .int a1)] [] w none q) {k42 : Nat → Int32 → Int32 → Int32 → px_W → Option (px_W)} (hk42 : ∀ (a0 : Nat) (a1 : Int32) (a2 : Int32) (a3 : Int32) (w : px_W) (q : px_W), k42 a0 a1 a2 a3 w = some q → EV X mX9_init 42 [(0, .ref a0), (1, .int a1), (2, .int a2), (3, .int a3)] [] w none q) : ∀ (a0 : Nat) (a1 : Int32) (a2 : Int32) (a3 : Int32) (w : px_W) (q : px_W), fX9_init_107 X k31 k42 a0 a1 a2 a3 w = some q → EV X mX9_init 107 [(0, .ref a0), (1, .int a1), (2, .int a2), (3, .int a3)] [] w none q := by
  intro a0 a1 a2 a3 w q h
  unfold fX9_init_107 at h
  refine EV.iinc 3 (a3 + 1) [(3, .int (a3 + 1)), (0, .ref a0), (1, .int a1), (2, .int a2)] dX9_init_107 rfl rfl (by decide) rfl ?_
  refine EV.goto 42 dX9_init_110 (by decide) ?_
  refine EV.sub [1, 2, 3, 0] rfl ?_
  exact hk42 _ _ _ _ _ _ h
set_option maxRecDepth 100000 in
set_option maxHeartbeats 4000000 in
theorem eX9_init_100 {X : px_X} {k31 : Nat → Int32 → px_W → Option (px_W)} (hk31 : ∀ (a0 : Nat) (a1 : Int32) (w : px_W) (q : px_W), k31 a0 a1 w = some q → EV X mX9_init 31 [(0, .ref a0), (1, .int a1)] [] w none q) {k42 : Nat → Int32 → Int32 → Int32 → px_W → Option (px_W)} (hk42 : ∀ (a0 : Nat) (a1 : Int32) (a2 : Int32) (a3 : Int32) (w : px_W) (q : px_W), k42 a0 a1 a2 a3 w = some q → EV X mX9_init 42 [(0, .ref a0), (1, .int a1), (2, .int a2), (3, .int a3)] [] w none q) {k50 : Nat → Int32 → Int32 → Int32 → Int32 → px_W → Option (px_W)} (hk50 : ∀ (a0 : Nat) (a1 : Int32) (a2 : Int32) (a3 : Int32) (a4 : Int32) (w : px_W) (q : px_W), k50 a0 a1 a2 a3 a4 w = some q → EV X mX9_init 50 [(0, .ref a0), (1, .int a1), (2, .int a2), (3, .int a3), (4, .int a4)] [] w none q) : ∀ (a0 : Nat) (a1 : Int32) (a2 : Int32) (a3 : Int32) (a4 : Int32) (s0 : Int32) (s1 : Int32) (s2 : Nat) (w : px_W) (q : px_W), fX9_init_100 X k31 k42 k50 a0 a1 a2 a3 a4 s0 s1 s2 w = some q → EV X mX9_init 100 [(0, .ref a0), (1, .int a1), (2, .int a2), (3, .int a3), (4, .int a4)] [.int s0, .int s1, .ref s2] w none q := by
  intro a0 a1 a2 a3 a4 s0 s1 s2 w q h
  unfold fX9_init_100 at h
  obtain ⟨w12, gw12, h⟩ := px_bs h
  refine ev_sI dX9_init_100 gw12 ?_
  refine EV.iinc 4 (a4 + 1) [(4, .int (a4 + 1)), (0, .ref a0), (1, .int a1), (2, .int a2), (3, .int a3)] dX9_init_101 rfl rfl (by decide) rfl ?_
  refine EV.goto 50 dX9_init_104 (by decide) ?_
  refine EV.sub [1, 2, 3, 4, 0] rfl ?_
  exact hk50 _ _ _ _ _ _ _ h
set_option maxRecDepth 100000 in
set_option maxHeartbeats 4000000 in
theorem eX9_init_50 {X : px_X} {k31 : Nat → Int32 → px_W → Option (px_W)} (hk31 : ∀ (a0 : Nat) (a1 : Int32) (w : px_W) (q : px_W), k31 a0 a1 w = some q → EV X mX9_init 31 [(0, .ref a0), (1, .int a1)] [] w none q) {k42 : Nat → Int32 → Int32 → Int32 → px_W → Option (px_W)} (hk42 : ∀ (a0 : Nat) (a1 : Int32) (a2 : Int32) (a3 : Int32) (w : px_W) (q : px_W), k42 a0 a1 a2 a3 w = some q → EV X mX9_init 42 [(0, .ref a0), (1, .int a1), (2, .int a2), (3, .int a3)] [] w none q) : ∀ (m : Nat) (a0 : Nat) (a1 : Int32) (a2 : Int32) (a3 : Int32) (a4 : Int32) (w : px_W) (q : px_W), fX9_init_50 X k31 k42 m a0 a1 a2 a3 a4 w = some q → EV X mX9_init 50 [(0, .ref a0), (1, .int a1), (2, .int a2), (3, .int a3), (4, .int a4)] [] w none q := by
  intro m
  induction m with
  | zero => intro a0 a1 a2 a3 a4 w q h; cases h
  | succ m ih =>
    intro a0 a1 a2 a3 a4 w q h
    rw [fX9_init_50.eq_2] at h
    refine EV.iload 4 dX9_init_50 rfl ?_
    refine EV.iload_n 2 dX9_init_52 rfl rfl ?_
    refine EV.icmp_ge 107 dX9_init_53 (by decide) (fun c13 => ?_) (fun c13 => ?_)
    · rw [if_pos c13] at h
      refine EV.sub [0, 1, 2, 3] rfl ?_
      exact eX9_init_107 hk31 hk42 _ _ _ _ _ _ h
    · rw [if_neg c13] at h
      refine EV.aload_n 0 dX9_init_56 rfl rfl ?_
      obtain ⟨v14, gv14, h⟩ := px_bs h
      refine ev_gR dX9_init_57 flRX9_9 gv14 ?_
      refine EV.bipush (64) dX9_init_60 (by decide) ?_
      refine EV.iload_n 1 dX9_init_62 rfl rfl ?_
      refine EV.imul dX9_init_63 ?_
      refine EV.bipush (8) dX9_init_64 (by decide) ?_
      refine EV.iload_n 3 dX9_init_66 rfl rfl ?_
      refine EV.imul dX9_init_67 ?_
      refine EV.iadd dX9_init_68 ?_
      refine EV.iload 4 dX9_init_69 rfl ?_
      refine EV.iadd dX9_init_71 ?_
      refine EV.iload_n 3 dX9_init_72 rfl rfl ?_
      refine EV.if_ne 84 dX9_init_73 (by decide) (fun c15 => ?_) (fun c15 => ?_)
      · rw [if_neg c15] at h
        refine EV.iconst (2) dX9_init_84 (by decide) ?_
        refine EV.iload 4 dX9_init_85 rfl ?_
        refine EV.imul dX9_init_87 ?_
        refine EV.iconst (1) dX9_init_88 (by decide) ?_
        refine EV.iadd dX9_init_89 ?_
        refine EV.iload_n 3 dX9_init_90 rfl rfl ?_
        refine EV.imul dX9_init_91 ?_
        refine EV.bipush (8) dX9_init_92 (by decide) ?_
        refine EV.iload_n 2 dX9_init_94 rfl rfl ?_
        obtain ⟨v16, gv16, h⟩ := px_bs h
        refine ev_dI dX9_init_95 gv16 ?_
        refine EV.imul dX9_init_96 ?_
        obtain ⟨q17, gq17, h⟩ := px_bs h
        refine EV.callS (As := [.int ((((2 * a4) + 1) * a3) * v16)]) (rest := [.int (((64 * a1) + (8 * a3)) + a4), .ref v14]) dX9_init_97 kcX9_init_25 rfl (Nat.le_of_ble_eq_true rfl) (Nat.le_of_ble_eq_true rfl) (eX9_cosine gq17) ?_
        refine EV.sub [0, 1, 2, 3, 4] rfl ?_
        exact eX9_init_100 hk31 hk42 ih _ _ _ _ _ _ _ _ _ _ h
      · rw [if_pos c15] at h
        refine EV.getsN (k := 0) dX9_init_76 rfl (tT1 (List.mem_of_getElem? (i := 156) rfl)) ?_
        refine EV.iconst (4) dX9_init_79 (by decide) ?_
        obtain ⟨v18, gv18, h⟩ := px_bs h
        refine ev_aX dX9_init_80 gv18 ?_
        refine EV.goto 100 dX9_init_81 (by decide) ?_
        refine EV.sub [0, 1, 2, 3, 4] rfl ?_
        exact eX9_init_100 hk31 hk42 ih _ _ _ _ _ _ _ _ _ _ h
set_option maxRecDepth 100000 in
set_option maxHeartbeats 4000000 in
theorem eX9_init_42 {X : px_X} {k31 : Nat → Int32 → px_W → Option (px_W)} (hk31 : ∀ (a0 : Nat) (a1 : Int32) (w : px_W) (q : px_W), k31 a0 a1 w = some q → EV X mX9_init 31 [(0, .ref a0), (1, .int a1)] [] w none q) : ∀ (m : Nat) (a0 : Nat) (a1 : Int32) (a2 : Int32) (a3 : Int32) (w : px_W) (q : px_W), fX9_init_42 X k31 m a0 a1 a2 a3 w = some q → EV X mX9_init 42 [(0, .ref a0), (1, .int a1), (2, .int a2), (3, .int a3)] [] w none q := by
  intro m
  induction m with
  | zero => intro a0 a1 a2 a3 w q h; cases h
  | succ m ih =>
    intro a0 a1 a2 a3 w q h
    rw [fX9_init_42.eq_2] at h
    refine EV.iload_n 3 dX9_init_42 rfl rfl ?_
    refine EV.iload_n 2 dX9_init_43 rfl rfl ?_
    refine EV.icmp_ge 113 dX9_init_44 (by decide) (fun c19 => ?_) (fun c19 => ?_)
    · rw [if_pos c19] at h
      refine EV.sub [0, 1] rfl ?_
      exact eX9_init_113 hk31 _ _ _ _ h
    · rw [if_neg c19] at h
      refine EV.iconst (0) dX9_init_47 (by decide) ?_
      refine EV.istore [(4, .int 0), (0, .ref a0), (1, .int a1), (2, .int a2), (3, .int a3)] dX9_init_48 (by decide) rfl ?_
      refine EV.sub [1, 2, 3, 4, 0] rfl ?_
      exact eX9_init_50 hk31 ih FU _ _ _ _ _ _ _ h
set_option maxRecDepth 100000 in
set_option maxHeartbeats 4000000 in
theorem eX9_init_31 {X : px_X}  : ∀ (m : Nat) (a0 : Nat) (a1 : Int32) (w : px_W) (q : px_W), fX9_init_31 X  m a0 a1 w = some q → EV X mX9_init 31 [(0, .ref a0), (1, .int a1)] [] w none q := by
  intro m
  induction m with
  | zero => intro a0 a1 w q h; cases h
  | succ m ih =>
    intro a0 a1 w q h
    rw [fX9_init_31.eq_2] at h
    refine EV.iload_n 1 dX9_init_31 rfl rfl ?_
    refine EV.iconst (4) dX9_init_32 (by decide) ?_
    refine EV.icmp_ge 119 dX9_init_33 (by decide) (fun c20 => ?_) (fun c20 => ?_)
    · rw [if_pos c20] at h
      cases h
      exact EV.ret0 dX9_init_119 trivial
    · rw [if_neg c20] at h
      refine EV.iconst (1) dX9_init_36 (by decide) ?_
      refine EV.iload_n 1 dX9_init_37 rfl rfl ?_
      refine EV.ishl dX9_init_38 ?_
      refine EV.istore_n [(2, .int ((1 : Int32) <<< (a1 &&& 31))), (0, .ref a0), (1, .int a1)] dX9_init_39 rfl (by decide) rfl ?_
      refine EV.iconst (0) dX9_init_40 (by decide) ?_
      refine EV.istore_n [(3, .int 0), (2, .int ((1 : Int32) <<< (a1 &&& 31))), (0, .ref a0), (1, .int a1)] dX9_init_41 rfl (by decide) rfl ?_
      refine EV.sub [2, 3, 1, 0] rfl ?_
      exact eX9_init_42 ih FU _ _ _ _ _ _ h
set_option maxRecDepth 100000 in
set_option maxHeartbeats 4000000 in
theorem eX9_init {X : px_X} {w : px_W} {a0 : Nat} {q : px_W} (h : fX9_init X w a0 = some q) : EV X mX9_init 0 (lv_args 0 [.ref a0]) [] w none q := by
  unfold fX9_init at h
  show EV X mX9_init 0 [(0, .ref a0)] [] w none q
  refine EV.aload_n 0 dX9_init_0 rfl rfl ?_
  refine EV.objI dX9_init_1 (tb1 (List.mem_of_getElem? (i := 155) rfl)) (by decide) (by decide) (Nat.le_of_ble_eq_true rfl) ?_
  refine EV.aload_n 0 dX9_init_4 rfl rfl ?_
  refine EV.sipush (256) dX9_init_5 (by decide) ?_
  obtain ⟨q21, gq21, h⟩ := px_bs h
  refine ev_nI dX9_init_8 gq21 ?_
  obtain ⟨w22, gw22, h⟩ := px_bs h
  refine ev_pF dX9_init_10 (ci := 9) (k := 0) rfl (by decide) (tb1 (List.mem_of_getElem? (i := 161) rfl)) rfl rfl rfl rfl rfl gw22 ?_
  refine EV.aload_n 0 dX9_init_13 rfl rfl ?_
  refine EV.bipush (64) dX9_init_14 (by decide) ?_
  obtain ⟨q23, gq23, h⟩ := px_bs h
  refine ev_nJ dX9_init_16 gq23 ?_
  obtain ⟨w24, gw24, h⟩ := px_bs h
  refine ev_pF dX9_init_18 (ci := 9) (k := 1) rfl (by decide) (tb1 (List.mem_of_getElem? (i := 162) rfl)) rfl rfl rfl rfl rfl gw24 ?_
  refine EV.aload_n 0 dX9_init_21 rfl rfl ?_
  refine EV.bipush (64) dX9_init_22 (by decide) ?_
  obtain ⟨q25, gq25, h⟩ := px_bs h
  refine ev_nJ dX9_init_24 gq25 ?_
  obtain ⟨w26, gw26, h⟩ := px_bs h
  refine ev_pF dX9_init_26 (ci := 9) (k := 2) rfl (by decide) (tb1 (List.mem_of_getElem? (i := 163) rfl)) rfl rfl rfl rfl rfl gw26 ?_
  refine EV.iconst (0) dX9_init_29 (by decide) ?_
  refine EV.istore_n [(1, .int 0), (0, .ref a0)] dX9_init_30 rfl (by decide) rfl ?_
  refine EV.sub [1, 0] rfl ?_
  exact eX9_init_31  FU _ _ _ _ h
/-! WavePictures$Waves.round(JI)J -/
theorem dX9_round_0 : decode cX9_round 0 = .ok (.lload_n 0, 1) := by decide +kernel
theorem dX9_round_1 : decode cX9_round 1 = .ok (.lconst 1, 1) := by decide +kernel
theorem dX9_round_2 : decode cX9_round 2 = .ok (.iload_n 2, 1) := by decide +kernel
theorem dX9_round_3 : decode cX9_round 3 = .ok (.iconst 1, 1) := by decide +kernel
theorem dX9_round_4 : decode cX9_round 4 = .ok (.isub, 1) := by decide +kernel
theorem dX9_round_5 : decode cX9_round 5 = .ok (.lshl, 1) := by decide +kernel
theorem dX9_round_6 : decode cX9_round 6 = .ok (.ladd, 1) := by decide +kernel
theorem dX9_round_7 : decode cX9_round 7 = .ok (.iload_n 2, 1) := by decide +kernel
theorem dX9_round_8 : decode cX9_round 8 = .ok (.lshr, 1) := by decide +kernel
theorem dX9_round_9 : decode cX9_round 9 = .ok (.lreturn, 1) := by decide +kernel
set_option maxRecDepth 100000 in
set_option maxHeartbeats 4000000 in
theorem eX9_round {X : px_X} {w : px_W} {a0 : Int64} {a2 : Int32} {q : Int64 × px_W} (h : fX9_round X w a0 a2 = some q) : EV X mX9_round 0 (lv_args 0 [.long a0, .int a2]) [] w (some (.long q.1)) q.2 := by
  unfold fX9_round at h
  show EV X mX9_round 0 [(0, .long a0), (2, .int a2)] [] w (some (.long q.1)) q.2
  refine EV.lload_n 0 dX9_round_0 rfl rfl ?_
  refine EV.lconst (1) dX9_round_1 (by decide) ?_
  refine EV.iload_n 1 dX9_round_2 rfl rfl ?_
  refine EV.iconst (1) dX9_round_3 (by decide) ?_
  refine EV.isub dX9_round_4 ?_
  refine EV.lshl dX9_round_5 ?_
  refine EV.ladd dX9_round_6 ?_
  refine EV.iload_n 1 dX9_round_7 rfl rfl ?_
  refine EV.lshr dX9_round_8 ?_
  cases h
  exact EV.retl dX9_round_9 trivial
