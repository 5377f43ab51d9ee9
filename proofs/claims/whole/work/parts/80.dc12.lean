/-! WavePictures.setCoefficient(IIIII)Z -/
theorem dX11_setCoefficient_0 : decode cX11_setCoefficient 0 = .ok (.aload_n 0, 1) := by decide +kernel
theorem dX11_setCoefficient_1 : decode cX11_setCoefficient 1 = .ok (.iload_n 1, 1) := by decide +kernel
theorem dX11_setCoefficient_2 : decode cX11_setCoefficient 2 = .ok (.iload_n 2, 1) := by decide +kernel
theorem dX11_setCoefficient_3 : decode cX11_setCoefficient 3 = .ok (.iload_n 3, 1) := by decide +kernel
theorem dX11_setCoefficient_4 : decode cX11_setCoefficient 4 = .ok (.invokevirtual 307, 3) := by decide +kernel
theorem dX11_setCoefficient_7 : decode cX11_setCoefficient 7 = .ok (.istore 6, 2) := by decide +kernel
theorem dX11_setCoefficient_9 : decode cX11_setCoefficient 9 = .ok (.iload 6, 2) := by decide +kernel
theorem dX11_setCoefficient_11 : decode cX11_setCoefficient 11 = .ok (.iconst (-1), 1) := by decide +kernel
theorem dX11_setCoefficient_12 : decode cX11_setCoefficient 12 = .ok (.if_icmp .eq 42, 3) := by decide +kernel
theorem dX11_setCoefficient_15 : decode cX11_setCoefficient 15 = .ok (.iload 4, 2) := by decide +kernel
theorem dX11_setCoefficient_17 : decode cX11_setCoefficient 17 = .ok (.ifCond .lt 37, 3) := by decide +kernel
theorem dX11_setCoefficient_20 : decode cX11_setCoefficient 20 = .ok (.iload 4, 2) := by decide +kernel
theorem dX11_setCoefficient_22 : decode cX11_setCoefficient 22 = .ok (.bipush 63, 2) := by decide +kernel
theorem dX11_setCoefficient_24 : decode cX11_setCoefficient 24 = .ok (.if_icmp .gt 30, 3) := by decide +kernel
theorem dX11_setCoefficient_27 : decode cX11_setCoefficient 27 = .ok (.iload 5, 2) := by decide +kernel
theorem dX11_setCoefficient_29 : decode cX11_setCoefficient 29 = .ok (.iload 4, 2) := by decide +kernel
theorem dX11_setCoefficient_31 : decode cX11_setCoefficient 31 = .ok (.ifCond .ne 9, 3) := by decide +kernel
theorem dX11_setCoefficient_34 : decode cX11_setCoefficient 34 = .ok (.sipush (-1024), 3) := by decide +kernel
theorem dX11_setCoefficient_37 : decode cX11_setCoefficient 37 = .ok (.goto 6, 3) := by decide +kernel
theorem dX11_setCoefficient_40 : decode cX11_setCoefficient 40 = .ok (.sipush (-1023), 3) := by decide +kernel
theorem dX11_setCoefficient_43 : decode cX11_setCoefficient 43 = .ok (.if_icmp .lt 11, 3) := by decide +kernel
theorem dX11_setCoefficient_46 : decode cX11_setCoefficient 46 = .ok (.iload 5, 2) := by decide +kernel
theorem dX11_setCoefficient_48 : decode cX11_setCoefficient 48 = .ok (.sipush 1023, 3) := by decide +kernel
theorem dX11_setCoefficient_51 : decode cX11_setCoefficient 51 = .ok (.if_icmp .le 5, 3) := by decide +kernel
theorem dX11_setCoefficient_54 : decode cX11_setCoefficient 54 = .ok (.iconst 0, 1) := by decide +kernel
theorem dX11_setCoefficient_55 : decode cX11_setCoefficient 55 = .ok (.ireturn, 1) := by decide +kernel
theorem dX11_setCoefficient_56 : decode cX11_setCoefficient 56 = .ok (.aload_n 0, 1) := by decide +kernel
theorem dX11_setCoefficient_57 : decode cX11_setCoefficient 57 = .ok (.getfield 25, 3) := by decide +kernel
theorem dX11_setCoefficient_60 : decode cX11_setCoefficient 60 = .ok (.getfield 122, 3) := by decide +kernel
theorem dX11_setCoefficient_63 : decode cX11_setCoefficient 63 = .ok (.bipush 64, 2) := by decide +kernel
theorem dX11_setCoefficient_65 : decode cX11_setCoefficient 65 = .ok (.iload 6, 2) := by decide +kernel
theorem dX11_setCoefficient_67 : decode cX11_setCoefficient 67 = .ok (.imul, 1) := by decide +kernel
theorem dX11_setCoefficient_68 : decode cX11_setCoefficient 68 = .ok (.iload 4, 2) := by decide +kernel
theorem dX11_setCoefficient_70 : decode cX11_setCoefficient 70 = .ok (.iadd, 1) := by decide +kernel
theorem dX11_setCoefficient_71 : decode cX11_setCoefficient 71 = .ok (.iload 5, 2) := by decide +kernel
theorem dX11_setCoefficient_73 : decode cX11_setCoefficient 73 = .ok (.iastore, 1) := by decide +kernel
theorem dX11_setCoefficient_74 : decode cX11_setCoefficient 74 = .ok (.iconst 1, 1) := by decide +kernel
theorem dX11_setCoefficient_75 : decode cX11_setCoefficient 75 = .ok (.ireturn, 1) := by decide +kernel
theorem mbX11_blockOf : px_mB mX11_blockOf 3 := ⟨tb5 (List.mem_of_getElem? (i := 236) rfl), by decide +kernel, tb1 (List.mem_of_getElem? (i := 1) rfl), by decide +kernel, by decide +kernel⟩
theorem vbX11_blockOf : px_vB mX11_blockOf := ⟨tb5 (List.mem_of_getElem? (i := 235) rfl), List.mem_append_left _ (List.mem_of_getElem? (i := 76) (by decide +kernel))⟩
theorem kcX11_setCoefficient_307 : px_cV mX11_setCoefficient 307 mX11_blockOf 3 := ⟨⟨mbX11_blockOf, by decide, by decide⟩, Or.inl (tb5 (List.mem_of_getElem? (i := 233) rfl)), vbX11_blockOf⟩
set_option maxRecDepth 100000 in
set_option maxHeartbeats 4000000 in
theorem eX11_setCoefficient_43 {X : px_X}  : ∀ (a0 : Nat) (a4 : Int32) (a5 : Int32) (a6 : Int32) (s0 : Int32) (s1 : Int32) (w : px_W) (q : Int32 × px_W), fX11_setCoefficient_43 X  a0 a4 a5 a6 s0 s1 w = some q → EV X mX11_setCoefficient 43 [(0, .ref a0), (4, .int a4), (5, .int a5), (6, .int a6)] [.int s0, .int s1] w (some (.int q.1)) q.2 := by
  intro a0 a4 a5 a6 s0 s1 w q h
  unfold fX11_setCoefficient_43 at h
  refine EV.icmp_lt 54 dX11_setCoefficient_43 (by decide) (fun c6 => ?_) (fun c6 => ?_)
  · rw [if_pos c6] at h
    refine EV.iconst (0) dX11_setCoefficient_54 (by decide) ?_
    cases h
    exact EV.reti dX11_setCoefficient_55 rfl
  · rw [if_neg c6] at h
    refine EV.iload 2 dX11_setCoefficient_46 rfl ?_
    refine EV.sipush (1023) dX11_setCoefficient_48 (by decide) ?_
    refine EV.icmp_le 56 dX11_setCoefficient_51 (by decide) (fun c7 => ?_) (fun c7 => ?_)
    · rw [if_pos c7] at h
      refine EV.aload_n 0 dX11_setCoefficient_56 rfl rfl ?_
      obtain ⟨v8, gv8, h⟩ := px_bs h
      refine ev_gR dX11_setCoefficient_57 flRX11_25 gv8 ?_
      obtain ⟨v9, gv9, h⟩ := px_bs h
      refine ev_gR dX11_setCoefficient_60 flRX11_122 gv9 ?_
      refine EV.bipush (64) dX11_setCoefficient_63 (by decide) ?_
      refine EV.iload 3 dX11_setCoefficient_65 rfl ?_
      refine EV.imul dX11_setCoefficient_67 ?_
      refine EV.iload 1 dX11_setCoefficient_68 rfl ?_
      refine EV.iadd dX11_setCoefficient_70 ?_
      refine EV.iload 2 dX11_setCoefficient_71 rfl ?_
      obtain ⟨w10, gw10, h⟩ := px_bs h
      refine ev_sI dX11_setCoefficient_73 gw10 ?_
      refine EV.iconst (1) dX11_setCoefficient_74 (by decide) ?_
      cases h
      exact EV.reti dX11_setCoefficient_75 rfl
    · rw [if_neg c7] at h
      refine EV.iconst (0) dX11_setCoefficient_54 (by decide) ?_
      cases h
      exact EV.reti dX11_setCoefficient_55 rfl
set_option maxRecDepth 100000 in
set_option maxHeartbeats 4000000 in
theorem eX11_setCoefficient {X : px_X} {w : px_W} {a0 : Nat} {a1 : Int32} {a2 : Int32} {a3 : Int32} {a4 : Int32} {a5 : Int32} {q : Int32 × px_W} (h : fX11_setCoefficient X w a0 a1 a2 a3 a4 a5 = some q) : EV X mX11_setCoefficient 0 (lv_args 0 [.ref a0, .int a1, .int a2, .int a3, .int a4, .int a5]) [] w (some (.int q.1)) q.2 := by
  unfold fX11_setCoefficient at h
  show EV X mX11_setCoefficient 0 [(0, .ref a0), (1, .int a1), (2, .int a2), (3, .int a3), (4, .int a4), (5, .int a5)] [] w (some (.int q.1)) q.2
  refine EV.aload_n 0 dX11_setCoefficient_0 rfl rfl ?_
  refine EV.iload_n 1 dX11_setCoefficient_1 rfl rfl ?_
  refine EV.iload_n 2 dX11_setCoefficient_2 rfl rfl ?_
  refine EV.iload_n 3 dX11_setCoefficient_3 rfl rfl ?_
  obtain ⟨o11, go11, h⟩ := px_bs h
  obtain ⟨q12, gq12, h⟩ := px_bs h
  refine EV.callV (As := [.int a1, .int a2, .int a3]) (rest := []) dX11_setCoefficient_4 kcX11_setCoefficient_307 (gO_ok go11) rfl rfl rfl (Nat.le_of_ble_eq_true rfl) (Nat.le_of_ble_eq_true rfl) (eX11_blockOf gq12) ?_
  refine EV.istore [(6, .int q12.1), (0, .ref a0), (1, .int a1), (2, .int a2), (3, .int a3), (4, .int a4), (5, .int a5)] dX11_setCoefficient_7 (by decide) rfl ?_
  refine EV.iload 0 dX11_setCoefficient_9 rfl ?_
  refine EV.iconst ((-1)) dX11_setCoefficient_11 (by decide) ?_
  refine EV.icmp_eq 54 dX11_setCoefficient_12 (by decide) (fun c13 => ?_) (fun c13 => ?_)
  · rw [if_pos c13] at h
    refine EV.iconst (0) dX11_setCoefficient_54 (by decide) ?_
    cases h
    exact EV.reti dX11_setCoefficient_55 rfl
  · rw [if_neg c13] at h
    refine EV.iload 5 dX11_setCoefficient_15 rfl ?_
    refine EV.if_lt 54 dX11_setCoefficient_17 (by decide) (fun c14 => ?_) (fun c14 => ?_)
    · rw [if_pos c14] at h
      refine EV.iconst (0) dX11_setCoefficient_54 (by decide) ?_
      cases h
      exact EV.reti dX11_setCoefficient_55 rfl
    · rw [if_neg c14] at h
      refine EV.iload 5 dX11_setCoefficient_20 rfl ?_
      refine EV.bipush (63) dX11_setCoefficient_22 (by decide) ?_
      refine EV.icmp_gt 54 dX11_setCoefficient_24 (by decide) (fun c15 => ?_) (fun c15 => ?_)
      · rw [if_pos c15] at h
        refine EV.iconst (0) dX11_setCoefficient_54 (by decide) ?_
        cases h
        exact EV.reti dX11_setCoefficient_55 rfl
      · rw [if_neg c15] at h
        refine EV.iload 6 dX11_setCoefficient_27 rfl ?_
        refine EV.iload 5 dX11_setCoefficient_29 rfl ?_
        refine EV.if_ne 40 dX11_setCoefficient_31 (by decide) (fun c16 => ?_) (fun c16 => ?_)
        · rw [if_neg c16] at h
          refine EV.sipush ((-1023)) dX11_setCoefficient_40 (by decide) ?_
          refine EV.sub [1, 5, 6, 0] rfl ?_
          exact eX11_setCoefficient_43  _ _ _ _ _ _ _ _ h
        · rw [if_pos c16] at h
          refine EV.sipush ((-1024)) dX11_setCoefficient_34 (by decide) ?_
          refine EV.goto 43 dX11_setCoefficient_37 (by decide) ?_
          refine EV.sub [1, 5, 6, 0] rfl ?_
          exact eX11_setCoefficient_43  _ _ _ _ _ _ _ _ h
/-! WavePictures.coefficientAt(IIII)I -/
theorem dX11_coefficientAt_0 : decode cX11_coefficientAt 0 = .ok (.aload_n 0, 1) := by decide +kernel
theorem dX11_coefficientAt_1 : decode cX11_coefficientAt 1 = .ok (.iload_n 1, 1) := by decide +kernel
theorem dX11_coefficientAt_2 : decode cX11_coefficientAt 2 = .ok (.iload_n 2, 1) := by decide +kernel
theorem dX11_coefficientAt_3 : decode cX11_coefficientAt 3 = .ok (.iload_n 3, 1) := by decide +kernel
theorem dX11_coefficientAt_4 : decode cX11_coefficientAt 4 = .ok (.invokevirtual 307, 3) := by decide +kernel
theorem dX11_coefficientAt_7 : decode cX11_coefficientAt 7 = .ok (.istore 5, 2) := by decide +kernel
theorem dX11_coefficientAt_9 : decode cX11_coefficientAt 9 = .ok (.iload 5, 2) := by decide +kernel
theorem dX11_coefficientAt_11 : decode cX11_coefficientAt 11 = .ok (.iconst (-1), 1) := by decide +kernel
theorem dX11_coefficientAt_12 : decode cX11_coefficientAt 12 = .ok (.if_icmp .eq 15, 3) := by decide +kernel
theorem dX11_coefficientAt_15 : decode cX11_coefficientAt 15 = .ok (.iload 4, 2) := by decide +kernel
theorem dX11_coefficientAt_17 : decode cX11_coefficientAt 17 = .ok (.ifCond .lt 10, 3) := by decide +kernel
theorem dX11_coefficientAt_20 : decode cX11_coefficientAt 20 = .ok (.iload 4, 2) := by decide +kernel
theorem dX11_coefficientAt_22 : decode cX11_coefficientAt 22 = .ok (.bipush 63, 2) := by decide +kernel
theorem dX11_coefficientAt_24 : decode cX11_coefficientAt 24 = .ok (.if_icmp .le 7, 3) := by decide +kernel
theorem dX11_coefficientAt_27 : decode cX11_coefficientAt 27 = .ok (.iconst 0, 1) := by decide +kernel
theorem dX11_coefficientAt_28 : decode cX11_coefficientAt 28 = .ok (.goto 19, 3) := by decide +kernel
theorem dX11_coefficientAt_31 : decode cX11_coefficientAt 31 = .ok (.aload_n 0, 1) := by decide +kernel
theorem dX11_coefficientAt_32 : decode cX11_coefficientAt 32 = .ok (.getfield 25, 3) := by decide +kernel
theorem dX11_coefficientAt_35 : decode cX11_coefficientAt 35 = .ok (.getfield 122, 3) := by decide +kernel
theorem dX11_coefficientAt_38 : decode cX11_coefficientAt 38 = .ok (.bipush 64, 2) := by decide +kernel
theorem dX11_coefficientAt_40 : decode cX11_coefficientAt 40 = .ok (.iload 5, 2) := by decide +kernel
theorem dX11_coefficientAt_42 : decode cX11_coefficientAt 42 = .ok (.imul, 1) := by decide +kernel
theorem dX11_coefficientAt_43 : decode cX11_coefficientAt 43 = .ok (.iload 4, 2) := by decide +kernel
theorem dX11_coefficientAt_45 : decode cX11_coefficientAt 45 = .ok (.iadd, 1) := by decide +kernel
theorem dX11_coefficientAt_46 : decode cX11_coefficientAt 46 = .ok (.iaload, 1) := by decide +kernel
theorem dX11_coefficientAt_47 : decode cX11_coefficientAt 47 = .ok (.ireturn, 1) := by decide +kernel
theorem kcX11_coefficientAt_307 : px_cV mX11_coefficientAt 307 mX11_blockOf 3 := ⟨⟨mbX11_blockOf, by decide, by decide⟩, Or.inl (tb5 (List.mem_of_getElem? (i := 233) rfl)), vbX11_blockOf⟩
set_option maxRecDepth 100000 in
set_option maxHeartbeats 4000000 in
theorem eX11_coefficientAt {X : px_X} {w : px_W} {a0 : Nat} {a1 : Int32} {a2 : Int32} {a3 : Int32} {a4 : Int32} {q : Int32 × px_W} (h : fX11_coefficientAt X w a0 a1 a2 a3 a4 = some q) : EV X mX11_coefficientAt 0 (lv_args 0 [.ref a0, .int a1, .int a2, .int a3, .int a4]) [] w (some (.int q.1)) q.2 := by
  unfold fX11_coefficientAt at h
  show EV X mX11_coefficientAt 0 [(0, .ref a0), (1, .int a1), (2, .int a2), (3, .int a3), (4, .int a4)] [] w (some (.int q.1)) q.2
  refine EV.aload_n 0 dX11_coefficientAt_0 rfl rfl ?_
  refine EV.iload_n 1 dX11_coefficientAt_1 rfl rfl ?_
  refine EV.iload_n 2 dX11_coefficientAt_2 rfl rfl ?_
  refine EV.iload_n 3 dX11_coefficientAt_3 rfl rfl ?_
  obtain ⟨o6, go6, h⟩ := px_bs h
  obtain ⟨q7, gq7, h⟩ := px_bs h
  refine EV.callV (As := [.int a1, .int a2, .int a3]) (rest := []) dX11_coefficientAt_4 kcX11_coefficientAt_307 (gO_ok go6) rfl rfl rfl (Nat.le_of_ble_eq_true rfl) (Nat.le_of_ble_eq_true rfl) (eX11_blockOf gq7) ?_
  refine EV.istore [(5, .int q7.1), (0, .ref a0), (1, .int a1), (2, .int a2), (3, .int a3), (4, .int a4)] dX11_coefficientAt_7 (by decide) rfl ?_
  refine EV.iload 0 dX11_coefficientAt_9 rfl ?_
  refine EV.iconst ((-1)) dX11_coefficientAt_11 (by decide) ?_
  refine EV.icmp_eq 27 dX11_coefficientAt_12 (by decide) (fun c8 => ?_) (fun c8 => ?_)
  · rw [if_pos c8] at h
    refine EV.iconst (0) dX11_coefficientAt_27 (by decide) ?_
    refine EV.goto 47 dX11_coefficientAt_28 (by decide) ?_
    cases h
    exact EV.reti dX11_coefficientAt_47 rfl
  · rw [if_neg c8] at h
    refine EV.iload 5 dX11_coefficientAt_15 rfl ?_
    refine EV.if_lt 27 dX11_coefficientAt_17 (by decide) (fun c9 => ?_) (fun c9 => ?_)
    · rw [if_pos c9] at h
      refine EV.iconst (0) dX11_coefficientAt_27 (by decide) ?_
      refine EV.goto 47 dX11_coefficientAt_28 (by decide) ?_
      cases h
      exact EV.reti dX11_coefficientAt_47 rfl
    · rw [if_neg c9] at h
      refine EV.iload 5 dX11_coefficientAt_20 rfl ?_
      refine EV.bipush (63) dX11_coefficientAt_22 (by decide) ?_
      refine EV.icmp_le 31 dX11_coefficientAt_24 (by decide) (fun c10 => ?_) (fun c10 => ?_)
      · rw [if_pos c10] at h
        refine EV.aload_n 1 dX11_coefficientAt_31 rfl rfl ?_
        obtain ⟨v11, gv11, h⟩ := px_bs h
        refine ev_gR dX11_coefficientAt_32 flRX11_25 gv11 ?_
        obtain ⟨v12, gv12, h⟩ := px_bs h
        refine ev_gR dX11_coefficientAt_35 flRX11_122 gv12 ?_
        refine EV.bipush (64) dX11_coefficientAt_38 (by decide) ?_
        refine EV.iload 0 dX11_coefficientAt_40 rfl ?_
        refine EV.imul dX11_coefficientAt_42 ?_
        refine EV.iload 5 dX11_coefficientAt_43 rfl ?_
        refine EV.iadd dX11_coefficientAt_45 ?_
        obtain ⟨v13, gv13, h⟩ := px_bs h
        refine ev_aI dX11_coefficientAt_46 gv13 ?_
        cases h
        exact EV.reti dX11_coefficientAt_47 rfl
      · rw [if_neg c10] at h
        refine EV.iconst (0) dX11_coefficientAt_27 (by decide) ?_
        refine EV.goto 47 dX11_coefficientAt_28 (by decide) ?_
        cases h
        exact EV.reti dX11_coefficientAt_47 rfl
/-! WavePictures.stepAt(II)I -/
theorem dX11_stepAt_0 : decode cX11_stepAt 0 = .ok (.aload_n 0, 1) := by decide +kernel
theorem dX11_stepAt_1 : decode cX11_stepAt 1 = .ok (.getfield 169, 3) := by decide +kernel
theorem dX11_stepAt_4 : decode cX11_stepAt 4 = .ok (.ifCond .eq 28, 3) := by decide +kernel
theorem dX11_stepAt_7 : decode cX11_stepAt 7 = .ok (.iload_n 1, 1) := by decide +kernel
theorem dX11_stepAt_8 : decode cX11_stepAt 8 = .ok (.ifCond .lt 24, 3) := by decide +kernel
theorem dX11_stepAt_11 : decode cX11_stepAt 11 = .ok (.iload_n 1, 1) := by decide +kernel
theorem dX11_stepAt_12 : decode cX11_stepAt 12 = .ok (.aload_n 0, 1) := by decide +kernel
theorem dX11_stepAt_13 : decode cX11_stepAt 13 = .ok (.getfield 25, 3) := by decide +kernel
theorem dX11_stepAt_16 : decode cX11_stepAt 16 = .ok (.getfield 196, 3) := by decide +kernel
theorem dX11_stepAt_19 : decode cX11_stepAt 19 = .ok (.if_icmp .ge 13, 3) := by decide +kernel
theorem dX11_stepAt_22 : decode cX11_stepAt 22 = .ok (.iload_n 2, 1) := by decide +kernel
theorem dX11_stepAt_23 : decode cX11_stepAt 23 = .ok (.ifCond .lt 9, 3) := by decide +kernel
theorem dX11_stepAt_26 : decode cX11_stepAt 26 = .ok (.iload_n 2, 1) := by decide +kernel
theorem dX11_stepAt_27 : decode cX11_stepAt 27 = .ok (.bipush 63, 2) := by decide +kernel
theorem dX11_stepAt_29 : decode cX11_stepAt 29 = .ok (.if_icmp .le 5, 3) := by decide +kernel
theorem dX11_stepAt_32 : decode cX11_stepAt 32 = .ok (.iconst (-1), 1) := by decide +kernel
theorem dX11_stepAt_33 : decode cX11_stepAt 33 = .ok (.ireturn, 1) := by decide +kernel
theorem dX11_stepAt_34 : decode cX11_stepAt 34 = .ok (.aload_n 0, 1) := by decide +kernel
theorem dX11_stepAt_35 : decode cX11_stepAt 35 = .ok (.getfield 25, 3) := by decide +kernel
theorem dX11_stepAt_38 : decode cX11_stepAt 38 = .ok (.getfield 314, 3) := by decide +kernel
theorem dX11_stepAt_41 : decode cX11_stepAt 41 = .ok (.bipush 64, 2) := by decide +kernel
theorem dX11_stepAt_43 : decode cX11_stepAt 43 = .ok (.iload_n 1, 1) := by decide +kernel
theorem dX11_stepAt_44 : decode cX11_stepAt 44 = .ok (.imul, 1) := by decide +kernel
theorem dX11_stepAt_45 : decode cX11_stepAt 45 = .ok (.iload_n 2, 1) := by decide +kernel
theorem dX11_stepAt_46 : decode cX11_stepAt 46 = .ok (.iadd, 1) := by decide +kernel
theorem dX11_stepAt_47 : decode cX11_stepAt 47 = .ok (.iaload, 1) := by decide +kernel
theorem dX11_stepAt_48 : decode cX11_stepAt 48 = .ok (.ireturn, 1) := by decide +kernel
theorem flRX11_314 : px_f RX11 314 2 12 := ⟨_, rfl, by decide, Or.inl (tb1 (List.mem_of_getElem? (i := 99) rfl))⟩
set_option maxRecDepth 100000 in
set_option maxHeartbeats 4000000 in
theorem eX11_stepAt {X : px_X} {w : px_W} {a0 : Nat} {a1 : Int32} {a2 : Int32} {q : Int32 × px_W} (h : fX11_stepAt X w a0 a1 a2 = some q) : EV X mX11_stepAt 0 (lv_args 0 [.ref a0, .int a1, .int a2]) [] w (some (.int q.1)) q.2 := by
  unfold fX11_stepAt at h
  show EV X mX11_stepAt 0 [(0, .ref a0), (1, .int a1), (2, .int a2)] [] w (some (.int q.1)) q.2
  refine EV.aload_n 0 dX11_stepAt_0 rfl rfl ?_
  obtain ⟨v7, gv7, h⟩ := px_bs h
  refine ev_gI dX11_stepAt_1 flRX11_169 gv7 ?_
  refine EV.if_eq 32 dX11_stepAt_4 (by decide) (fun c8 => ?_) (fun c8 => ?_)
  · rw [if_pos c8] at h
    refine EV.iconst ((-1)) dX11_stepAt_32 (by decide) ?_
    cases h
    exact EV.reti dX11_stepAt_33 rfl
  · rw [if_neg c8] at h
    refine EV.iload_n 1 dX11_stepAt_7 rfl rfl ?_
    refine EV.if_lt 32 dX11_stepAt_8 (by decide) (fun c9 => ?_) (fun c9 => ?_)
    · rw [if_pos c9] at h
      refine EV.iconst ((-1)) dX11_stepAt_32 (by decide) ?_
      cases h
      exact EV.reti dX11_stepAt_33 rfl
    · rw [if_neg c9] at h
      refine EV.iload_n 1 dX11_stepAt_11 rfl rfl ?_
      refine EV.aload_n 0 dX11_stepAt_12 rfl rfl ?_
      obtain ⟨v10, gv10, h⟩ := px_bs h
      refine ev_gR dX11_stepAt_13 flRX11_25 gv10 ?_
      obtain ⟨v11, gv11, h⟩ := px_bs h
      refine ev_gI dX11_stepAt_16 flRX11_196 gv11 ?_
      refine EV.icmp_ge 32 dX11_stepAt_19 (by decide) (fun c12 => ?_) (fun c12 => ?_)
      · rw [if_pos c12] at h
        refine EV.iconst ((-1)) dX11_stepAt_32 (by decide) ?_
        cases h
        exact EV.reti dX11_stepAt_33 rfl
      · rw [if_neg c12] at h
        refine EV.iload_n 2 dX11_stepAt_22 rfl rfl ?_
        refine EV.if_lt 32 dX11_stepAt_23 (by decide) (fun c13 => ?_) (fun c13 => ?_)
        · rw [if_pos c13] at h
          refine EV.iconst ((-1)) dX11_stepAt_32 (by decide) ?_
          cases h
          exact EV.reti dX11_stepAt_33 rfl
        · rw [if_neg c13] at h
          refine EV.iload_n 2 dX11_stepAt_26 rfl rfl ?_
          refine EV.bipush (63) dX11_stepAt_27 (by decide) ?_
          refine EV.icmp_le 34 dX11_stepAt_29 (by decide) (fun c14 => ?_) (fun c14 => ?_)
          · rw [if_pos c14] at h
            refine EV.aload_n 0 dX11_stepAt_34 rfl rfl ?_
            obtain ⟨v15, gv15, h⟩ := px_bs h
            refine ev_gR dX11_stepAt_35 flRX11_25 gv15 ?_
            obtain ⟨v16, gv16, h⟩ := px_bs h
            refine ev_gR dX11_stepAt_38 flRX11_314 gv16 ?_
            refine EV.bipush (64) dX11_stepAt_41 (by decide) ?_
            refine EV.iload_n 1 dX11_stepAt_43 rfl rfl ?_
            refine EV.imul dX11_stepAt_44 ?_
            refine EV.iload_n 2 dX11_stepAt_45 rfl rfl ?_
            refine EV.iadd dX11_stepAt_46 ?_
            obtain ⟨v17, gv17, h⟩ := px_bs h
            refine ev_aI dX11_stepAt_47 gv17 ?_
            cases h
            exact EV.reti dX11_stepAt_48 rfl
          · rw [if_neg c14] at h
            refine EV.iconst ((-1)) dX11_stepAt_32 (by decide) ?_
            cases h
            exact EV.reti dX11_stepAt_33 rfl
/-! WavePictures.aboutComponent(I)I -/
theorem dX11_aboutComponent_0 : decode cX11_aboutComponent 0 = .ok (.iload_n 1, 1) := by decide +kernel
theorem dX11_aboutComponent_1 : decode cX11_aboutComponent 1 = .ok (.ifCond .lt 16, 3) := by decide +kernel
theorem dX11_aboutComponent_4 : decode cX11_aboutComponent 4 = .ok (.iload_n 1, 1) := by decide +kernel
theorem dX11_aboutComponent_5 : decode cX11_aboutComponent 5 = .ok (.iconst 4, 1) := by decide +kernel
theorem dX11_aboutComponent_6 : decode cX11_aboutComponent 6 = .ok (.aload_n 0, 1) := by decide +kernel
theorem dX11_aboutComponent_7 : decode cX11_aboutComponent 7 = .ok (.getfield 25, 3) := by decide +kernel
theorem dX11_aboutComponent_10 : decode cX11_aboutComponent 10 = .ok (.getfield 196, 3) := by decide +kernel
theorem dX11_aboutComponent_13 : decode cX11_aboutComponent 13 = .ok (.imul, 1) := by decide +kernel
theorem dX11_aboutComponent_14 : decode cX11_aboutComponent 14 = .ok (.if_icmp .lt 5, 3) := by decide +kernel
theorem dX11_aboutComponent_17 : decode cX11_aboutComponent 17 = .ok (.iconst (-1), 1) := by decide +kernel
theorem dX11_aboutComponent_18 : decode cX11_aboutComponent 18 = .ok (.ireturn, 1) := by decide +kernel
theorem dX11_aboutComponent_19 : decode cX11_aboutComponent 19 = .ok (.iload_n 1, 1) := by decide +kernel
theorem dX11_aboutComponent_20 : decode cX11_aboutComponent 20 = .ok (.iconst 4, 1) := by decide +kernel
theorem dX11_aboutComponent_21 : decode cX11_aboutComponent 21 = .ok (.idiv, 1) := by decide +kernel
theorem dX11_aboutComponent_22 : decode cX11_aboutComponent 22 = .ok (.istore_n 2, 1) := by decide +kernel
theorem dX11_aboutComponent_23 : decode cX11_aboutComponent 23 = .ok (.iload_n 1, 1) := by decide +kernel
theorem dX11_aboutComponent_24 : decode cX11_aboutComponent 24 = .ok (.iconst 4, 1) := by decide +kernel
theorem dX11_aboutComponent_25 : decode cX11_aboutComponent 25 = .ok (.irem, 1) := by decide +kernel
theorem dX11_aboutComponent_26 : decode cX11_aboutComponent 26 = .ok (.tableswitch 56 0 2 #[26, 36, 46], 26) := by decide +kernel
theorem dX11_aboutComponent_52 : decode cX11_aboutComponent 52 = .ok (.aload_n 0, 1) := by decide +kernel
theorem dX11_aboutComponent_53 : decode cX11_aboutComponent 53 = .ok (.getfield 25, 3) := by decide +kernel
theorem dX11_aboutComponent_56 : decode cX11_aboutComponent 56 = .ok (.getfield 213, 3) := by decide +kernel
theorem dX11_aboutComponent_59 : decode cX11_aboutComponent 59 = .ok (.iload_n 2, 1) := by decide +kernel
theorem dX11_aboutComponent_60 : decode cX11_aboutComponent 60 = .ok (.iaload, 1) := by decide +kernel
theorem dX11_aboutComponent_61 : decode cX11_aboutComponent 61 = .ok (.ireturn, 1) := by decide +kernel
theorem dX11_aboutComponent_62 : decode cX11_aboutComponent 62 = .ok (.aload_n 0, 1) := by decide +kernel
theorem dX11_aboutComponent_63 : decode cX11_aboutComponent 63 = .ok (.getfield 25, 3) := by decide +kernel
theorem dX11_aboutComponent_66 : decode cX11_aboutComponent 66 = .ok (.getfield 216, 3) := by decide +kernel
theorem dX11_aboutComponent_69 : decode cX11_aboutComponent 69 = .ok (.iload_n 2, 1) := by decide +kernel
theorem dX11_aboutComponent_70 : decode cX11_aboutComponent 70 = .ok (.iaload, 1) := by decide +kernel
theorem dX11_aboutComponent_71 : decode cX11_aboutComponent 71 = .ok (.ireturn, 1) := by decide +kernel
theorem dX11_aboutComponent_72 : decode cX11_aboutComponent 72 = .ok (.aload_n 0, 1) := by decide +kernel
theorem dX11_aboutComponent_73 : decode cX11_aboutComponent 73 = .ok (.getfield 25, 3) := by decide +kernel
theorem dX11_aboutComponent_76 : decode cX11_aboutComponent 76 = .ok (.getfield 244, 3) := by decide +kernel
theorem dX11_aboutComponent_79 : decode cX11_aboutComponent 79 = .ok (.iload_n 2, 1) := by decide +kernel
theorem dX11_aboutComponent_80 : decode cX11_aboutComponent 80 = .ok (.iaload, 1) := by decide +kernel
theorem dX11_aboutComponent_81 : decode cX11_aboutComponent 81 = .ok (.ireturn, 1) := by decide +kernel
theorem dX11_aboutComponent_82 : decode cX11_aboutComponent 82 = .ok (.aload_n 0, 1) := by decide +kernel
theorem dX11_aboutComponent_83 : decode cX11_aboutComponent 83 = .ok (.getfield 25, 3) := by decide +kernel
theorem dX11_aboutComponent_86 : decode cX11_aboutComponent 86 = .ok (.getfield 241, 3) := by decide +kernel
theorem dX11_aboutComponent_89 : decode cX11_aboutComponent 89 = .ok (.iload_n 2, 1) := by decide +kernel
theorem dX11_aboutComponent_90 : decode cX11_aboutComponent 90 = .ok (.iaload, 1) := by decide +kernel
theorem dX11_aboutComponent_91 : decode cX11_aboutComponent 91 = .ok (.ireturn, 1) := by decide +kernel
set_option maxRecDepth 100000 in
set_option maxHeartbeats 4000000 in
theorem eX11_aboutComponent {X : px_X} {w : px_W} {a0 : Nat} {a1 : Int32} {q : Int32 × px_W} (h : fX11_aboutComponent X w a0 a1 = some q) : EV X mX11_aboutComponent 0 (lv_args 0 [.ref a0, .int a1]) [] w (some (.int q.1)) q.2 := by
  unfold fX11_aboutComponent at h
  show EV X mX11_aboutComponent 0 [(0, .ref a0), (1, .int a1)] [] w (some (.int q.1)) q.2
  refine EV.iload_n 1 dX11_aboutComponent_0 rfl rfl ?_
  refine EV.if_lt 17 dX11_aboutComponent_1 (by decide) (fun c17 => ?_) (fun c17 => ?_)
  · rw [if_pos c17] at h
    refine EV.iconst ((-1)) dX11_aboutComponent_17 (by decide) ?_
    cases h
    exact EV.reti dX11_aboutComponent_18 rfl
  · rw [if_neg c17] at h
    refine EV.iload_n 1 dX11_aboutComponent_4 rfl rfl ?_
    refine EV.iconst (4) dX11_aboutComponent_5 (by decide) ?_
    refine EV.aload_n 0 dX11_aboutComponent_6 rfl rfl ?_
    obtain ⟨v18, gv18, h⟩ := px_bs h
    refine ev_gR dX11_aboutComponent_7 flRX11_25 gv18 ?_
    obtain ⟨v19, gv19, h⟩ := px_bs h
    refine ev_gI dX11_aboutComponent_10 flRX11_196 gv19 ?_
    refine EV.imul dX11_aboutComponent_13 ?_
    refine EV.icmp_lt 19 dX11_aboutComponent_14 (by decide) (fun c20 => ?_) (fun c20 => ?_)
    · rw [if_pos c20] at h
      refine EV.iload_n 1 dX11_aboutComponent_19 rfl rfl ?_
      refine EV.iconst (4) dX11_aboutComponent_20 (by decide) ?_
      obtain ⟨v21, gv21, h⟩ := px_bs h
      refine ev_dI dX11_aboutComponent_21 gv21 ?_
      refine EV.istore_n [(2, .int v21), (0, .ref a0), (1, .int a1)] dX11_aboutComponent_22 rfl (by decide) rfl ?_
      refine EV.iload_n 2 dX11_aboutComponent_23 rfl rfl ?_
      refine EV.iconst (4) dX11_aboutComponent_24 (by decide) ?_
      obtain ⟨v22, gv22, h⟩ := px_bs h
      refine ev_rI dX11_aboutComponent_25 gv22 ?_
      by_cases c23 : v22 = 0
      · rw [if_pos c23] at h
        refine EV.tableIn 52 dX11_aboutComponent_26 (by rw [c23]; decide) (by rw [c23]; decide) (by rw [c23]; rfl) (by decide) ?_
        refine EV.aload_n 1 dX11_aboutComponent_52 rfl rfl ?_
        obtain ⟨v24, gv24, h⟩ := px_bs h
        refine ev_gR dX11_aboutComponent_53 flRX11_25 gv24 ?_
        obtain ⟨v25, gv25, h⟩ := px_bs h
        refine ev_gR dX11_aboutComponent_56 flRX11_213 gv25 ?_
        refine EV.iload_n 0 dX11_aboutComponent_59 rfl rfl ?_
        obtain ⟨v26, gv26, h⟩ := px_bs h
        refine ev_aI dX11_aboutComponent_60 gv26 ?_
        cases h
        exact EV.reti dX11_aboutComponent_61 rfl
      rw [if_neg c23] at h
      by_cases c27 : v22 = 1
      · rw [if_pos c27] at h
        refine EV.tableIn 62 dX11_aboutComponent_26 (by rw [c27]; decide) (by rw [c27]; decide) (by rw [c27]; rfl) (by decide) ?_
        refine EV.aload_n 1 dX11_aboutComponent_62 rfl rfl ?_
        obtain ⟨v28, gv28, h⟩ := px_bs h
        refine ev_gR dX11_aboutComponent_63 flRX11_25 gv28 ?_
        obtain ⟨v29, gv29, h⟩ := px_bs h
        refine ev_gR dX11_aboutComponent_66 flRX11_216 gv29 ?_
        refine EV.iload_n 0 dX11_aboutComponent_69 rfl rfl ?_
        obtain ⟨v30, gv30, h⟩ := px_bs h
        refine ev_aI dX11_aboutComponent_70 gv30 ?_
        cases h
        exact EV.reti dX11_aboutComponent_71 rfl
      rw [if_neg c27] at h
      by_cases c31 : v22 = 2
      · rw [if_pos c31] at h
        refine EV.tableIn 72 dX11_aboutComponent_26 (by rw [c31]; decide) (by rw [c31]; decide) (by rw [c31]; rfl) (by decide) ?_
        refine EV.aload_n 1 dX11_aboutComponent_72 rfl rfl ?_
        obtain ⟨v32, gv32, h⟩ := px_bs h
        refine ev_gR dX11_aboutComponent_73 flRX11_25 gv32 ?_
        obtain ⟨v33, gv33, h⟩ := px_bs h
        refine ev_gR dX11_aboutComponent_76 flRX11_244 gv33 ?_
        refine EV.iload_n 0 dX11_aboutComponent_79 rfl rfl ?_
        obtain ⟨v34, gv34, h⟩ := px_bs h
        refine ev_aI dX11_aboutComponent_80 gv34 ?_
        cases h
        exact EV.reti dX11_aboutComponent_81 rfl
      rw [if_neg c31] at h
      have nc23 : (v22).toInt ≠ 0 := fun z => c23 (Int32.toInt_inj.mp (z.trans (by decide)))
      have nc27 : (v22).toInt ≠ 1 := fun z => c27 (Int32.toInt_inj.mp (z.trans (by decide)))
      have nc31 : (v22).toInt ≠ 2 := fun z => c31 (Int32.toInt_inj.mp (z.trans (by decide)))
      refine EV.tableOut 82 dX11_aboutComponent_26 (by omega) (by decide) ?_
      refine EV.aload_n 1 dX11_aboutComponent_82 rfl rfl ?_
      obtain ⟨v35, gv35, h⟩ := px_bs h
      refine ev_gR dX11_aboutComponent_83 flRX11_25 gv35 ?_
      obtain ⟨v36, gv36, h⟩ := px_bs h
      refine ev_gR dX11_aboutComponent_86 flRX11_241 gv36 ?_
      refine EV.iload_n 0 dX11_aboutComponent_89 rfl rfl ?_
      obtain ⟨v37, gv37, h⟩ := px_bs h
      refine ev_aI dX11_aboutComponent_90 gv37 ?_
      cases h
      exact EV.reti dX11_aboutComponent_91 rfl
    · rw [if_neg c20] at h
      refine EV.iconst ((-1)) dX11_aboutComponent_17 (by decide) ?_
      cases h
      exact EV.reti dX11_aboutComponent_18 rfl
/-! WavePictures.aboutPicture(I)I -/
theorem dX11_aboutPicture_0 : decode cX11_aboutPicture 0 = .ok (.aload_n 0, 1) := by decide +kernel
theorem dX11_aboutPicture_1 : decode cX11_aboutPicture 1 = .ok (.getfield 169, 3) := by decide +kernel
theorem dX11_aboutPicture_4 : decode cX11_aboutPicture 4 = .ok (.ifCond .ne 5, 3) := by decide +kernel
theorem dX11_aboutPicture_7 : decode cX11_aboutPicture 7 = .ok (.iconst (-1), 1) := by decide +kernel
theorem dX11_aboutPicture_8 : decode cX11_aboutPicture 8 = .ok (.ireturn, 1) := by decide +kernel
theorem dX11_aboutPicture_9 : decode cX11_aboutPicture 9 = .ok (.iload_n 1, 1) := by decide +kernel
theorem dX11_aboutPicture_10 : decode cX11_aboutPicture 10 = .ok (.tableswitch 86 0 5 #[38, 46, 54, 62, 70, 78], 38) := by decide +kernel
theorem dX11_aboutPicture_48 : decode cX11_aboutPicture 48 = .ok (.aload_n 0, 1) := by decide +kernel
theorem dX11_aboutPicture_49 : decode cX11_aboutPicture 49 = .ok (.getfield 25, 3) := by decide +kernel
theorem dX11_aboutPicture_52 : decode cX11_aboutPicture 52 = .ok (.getfield 219, 3) := by decide +kernel
theorem dX11_aboutPicture_55 : decode cX11_aboutPicture 55 = .ok (.ireturn, 1) := by decide +kernel
theorem dX11_aboutPicture_56 : decode cX11_aboutPicture 56 = .ok (.aload_n 0, 1) := by decide +kernel
theorem dX11_aboutPicture_57 : decode cX11_aboutPicture 57 = .ok (.getfield 25, 3) := by decide +kernel
theorem dX11_aboutPicture_60 : decode cX11_aboutPicture 60 = .ok (.getfield 222, 3) := by decide +kernel
theorem dX11_aboutPicture_63 : decode cX11_aboutPicture 63 = .ok (.ireturn, 1) := by decide +kernel
theorem dX11_aboutPicture_64 : decode cX11_aboutPicture 64 = .ok (.aload_n 0, 1) := by decide +kernel
theorem dX11_aboutPicture_65 : decode cX11_aboutPicture 65 = .ok (.getfield 25, 3) := by decide +kernel
theorem dX11_aboutPicture_68 : decode cX11_aboutPicture 68 = .ok (.getfield 196, 3) := by decide +kernel
theorem dX11_aboutPicture_71 : decode cX11_aboutPicture 71 = .ok (.ireturn, 1) := by decide +kernel
theorem dX11_aboutPicture_72 : decode cX11_aboutPicture 72 = .ok (.aload_n 0, 1) := by decide +kernel
theorem dX11_aboutPicture_73 : decode cX11_aboutPicture 73 = .ok (.getfield 25, 3) := by decide +kernel
theorem dX11_aboutPicture_76 : decode cX11_aboutPicture 76 = .ok (.getfield 119, 3) := by decide +kernel
theorem dX11_aboutPicture_79 : decode cX11_aboutPicture 79 = .ok (.ireturn, 1) := by decide +kernel
theorem dX11_aboutPicture_80 : decode cX11_aboutPicture 80 = .ok (.aload_n 0, 1) := by decide +kernel
theorem dX11_aboutPicture_81 : decode cX11_aboutPicture 81 = .ok (.getfield 25, 3) := by decide +kernel
theorem dX11_aboutPicture_84 : decode cX11_aboutPicture 84 = .ok (.invokevirtual 317, 3) := by decide +kernel
theorem dX11_aboutPicture_87 : decode cX11_aboutPicture 87 = .ok (.ireturn, 1) := by decide +kernel
theorem dX11_aboutPicture_88 : decode cX11_aboutPicture 88 = .ok (.aload_n 0, 1) := by decide +kernel
theorem dX11_aboutPicture_89 : decode cX11_aboutPicture 89 = .ok (.getfield 25, 3) := by decide +kernel
theorem dX11_aboutPicture_92 : decode cX11_aboutPicture 92 = .ok (.invokevirtual 320, 3) := by decide +kernel
theorem dX11_aboutPicture_95 : decode cX11_aboutPicture 95 = .ok (.ireturn, 1) := by decide +kernel
theorem dX11_aboutPicture_96 : decode cX11_aboutPicture 96 = .ok (.aload_n 0, 1) := by decide +kernel
theorem dX11_aboutPicture_97 : decode cX11_aboutPicture 97 = .ok (.iload_n 1, 1) := by decide +kernel
theorem dX11_aboutPicture_98 : decode cX11_aboutPicture 98 = .ok (.bipush 8, 2) := by decide +kernel
theorem dX11_aboutPicture_100 : decode cX11_aboutPicture 100 = .ok (.isub, 1) := by decide +kernel
theorem dX11_aboutPicture_101 : decode cX11_aboutPicture 101 = .ok (.invokevirtual 323, 3) := by decide +kernel
theorem dX11_aboutPicture_104 : decode cX11_aboutPicture 104 = .ok (.ireturn, 1) := by decide +kernel
theorem mbX2_countOthersThanZero : px_mB mX2_countOthersThanZero 0 := ⟨tb6 (List.mem_of_getElem? (i := 13) rfl), by decide +kernel, tb1 (List.mem_of_getElem? (i := 3) rfl), by decide +kernel, by decide +kernel⟩
theorem vbX2_countOthersThanZero : px_vB mX2_countOthersThanZero := ⟨tb6 (List.mem_of_getElem? (i := 11) rfl), tb6 (List.mem_of_getElem? (i := 12) rfl)⟩
theorem kcX11_aboutPicture_317 : px_cV mX11_aboutPicture 317 mX2_countOthersThanZero 0 := ⟨⟨mbX2_countOthersThanZero, by decide, by decide⟩, Or.inl (tb6 (List.mem_of_getElem? (i := 10) rfl)), vbX2_countOthersThanZero⟩
theorem mbX2_sumOfAmounts : px_mB mX2_sumOfAmounts 0 := ⟨tb6 (List.mem_of_getElem? (i := 17) rfl), by decide +kernel, tb1 (List.mem_of_getElem? (i := 3) rfl), by decide +kernel, by decide +kernel⟩
theorem vbX2_sumOfAmounts : px_vB mX2_sumOfAmounts := ⟨tb6 (List.mem_of_getElem? (i := 15) rfl), tb6 (List.mem_of_getElem? (i := 16) rfl)⟩
theorem kcX11_aboutPicture_320 : px_cV mX11_aboutPicture 320 mX2_sumOfAmounts 0 := ⟨⟨mbX2_sumOfAmounts, by decide, by decide⟩, Or.inl (tb6 (List.mem_of_getElem? (i := 14) rfl)), vbX2_sumOfAmounts⟩
theorem mbX11_aboutComponent : px_mB mX11_aboutComponent 1 := ⟨tb6 (List.mem_of_getElem? (i := 22) rfl), by decide +kernel, tb1 (List.mem_of_getElem? (i := 1) rfl), by decide +kernel, by decide +kernel⟩
theorem vbX11_aboutComponent : px_vB mX11_aboutComponent := ⟨tb6 (List.mem_of_getElem? (i := 21) rfl), List.mem_append_left _ (List.mem_of_getElem? (i := 77) (by decide +kernel))⟩
theorem kcX11_aboutPicture_323 : px_cV mX11_aboutPicture 323 mX11_aboutComponent 1 := ⟨⟨mbX11_aboutComponent, by decide, by decide⟩, Or.inl (tb6 (List.mem_of_getElem? (i := 19) rfl)), vbX11_aboutComponent⟩
set_option maxRecDepth 100000 in
set_option maxHeartbeats 4000000 in
theorem eX11_aboutPicture {X : px_X} {w : px_W} {a0 : Nat} {a1 : Int32} {q : Int32 × px_W} (h : fX11_aboutPicture X w a0 a1 = some q) : EV X mX11_aboutPicture 0 (lv_args 0 [.ref a0, .int a1]) [] w (some (.int q.1)) q.2 := by
  unfold fX11_aboutPicture at h
  show EV X mX11_aboutPicture 0 [(0, .ref a0), (1, .int a1)] [] w (some (.int q.1)) q.2
  refine EV.aload_n 0 dX11_aboutPicture_0 rfl rfl ?_
  obtain ⟨v18, gv18, h⟩ := px_bs h
  refine ev_gI dX11_aboutPicture_1 flRX11_169 gv18 ?_
  refine EV.if_ne 9 dX11_aboutPicture_4 (by decide) (fun c19 => ?_) (fun c19 => ?_)
  · rw [if_neg c19] at h
    refine EV.iload_n 1 dX11_aboutPicture_9 rfl rfl ?_
    by_cases c20 : a1 = 0
    · rw [if_pos c20] at h
      refine EV.tableIn 48 dX11_aboutPicture_10 (by rw [c20]; decide) (by rw [c20]; decide) (by rw [c20]; rfl) (by decide) ?_
      refine EV.aload_n 0 dX11_aboutPicture_48 rfl rfl ?_
      obtain ⟨v21, gv21, h⟩ := px_bs h
      refine ev_gR dX11_aboutPicture_49 flRX11_25 gv21 ?_
      obtain ⟨v22, gv22, h⟩ := px_bs h
      refine ev_gI dX11_aboutPicture_52 flRX11_219 gv22 ?_
      cases h
      exact EV.reti dX11_aboutPicture_55 rfl
    rw [if_neg c20] at h
    by_cases c23 : a1 = 1
    · rw [if_pos c23] at h
      refine EV.tableIn 56 dX11_aboutPicture_10 (by rw [c23]; decide) (by rw [c23]; decide) (by rw [c23]; rfl) (by decide) ?_
      refine EV.aload_n 0 dX11_aboutPicture_56 rfl rfl ?_
      obtain ⟨v24, gv24, h⟩ := px_bs h
      refine ev_gR dX11_aboutPicture_57 flRX11_25 gv24 ?_
      obtain ⟨v25, gv25, h⟩ := px_bs h
      refine ev_gI dX11_aboutPicture_60 flRX11_222 gv25 ?_
      cases h
      exact EV.reti dX11_aboutPicture_63 rfl
    rw [if_neg c23] at h
    by_cases c26 : a1 = 2
    · rw [if_pos c26] at h
      refine EV.tableIn 64 dX11_aboutPicture_10 (by rw [c26]; decide) (by rw [c26]; decide) (by rw [c26]; rfl) (by decide) ?_
      refine EV.aload_n 0 dX11_aboutPicture_64 rfl rfl ?_
      obtain ⟨v27, gv27, h⟩ := px_bs h
      refine ev_gR dX11_aboutPicture_65 flRX11_25 gv27 ?_
      obtain ⟨v28, gv28, h⟩ := px_bs h
      refine ev_gI dX11_aboutPicture_68 flRX11_196 gv28 ?_
      cases h
      exact EV.reti dX11_aboutPicture_71 rfl
    rw [if_neg c26] at h
    by_cases c29 : a1 = 3
    · rw [if_pos c29] at h
      refine EV.tableIn 72 dX11_aboutPicture_10 (by rw [c29]; decide) (by rw [c29]; decide) (by rw [c29]; rfl) (by decide) ?_
      refine EV.aload_n 0 dX11_aboutPicture_72 rfl rfl ?_
      obtain ⟨v30, gv30, h⟩ := px_bs h
      refine ev_gR dX11_aboutPicture_73 flRX11_25 gv30 ?_
      obtain ⟨v31, gv31, h⟩ := px_bs h
      refine ev_gI dX11_aboutPicture_76 flRX11_119 gv31 ?_
      cases h
      exact EV.reti dX11_aboutPicture_79 rfl
    rw [if_neg c29] at h
    by_cases c32 : a1 = 4
    · rw [if_pos c32] at h
      refine EV.tableIn 80 dX11_aboutPicture_10 (by rw [c32]; decide) (by rw [c32]; decide) (by rw [c32]; rfl) (by decide) ?_
      refine EV.aload_n 0 dX11_aboutPicture_80 rfl rfl ?_
      obtain ⟨v33, gv33, h⟩ := px_bs h
      refine ev_gR dX11_aboutPicture_81 flRX11_25 gv33 ?_
      obtain ⟨o34, go34, h⟩ := px_bs h
      obtain ⟨q35, gq35, h⟩ := px_bs h
      refine EV.callV (As := []) (rest := []) dX11_aboutPicture_84 kcX11_aboutPicture_317 (gO_ok go34) rfl rfl rfl (Nat.le_of_ble_eq_true rfl) (Nat.le_of_ble_eq_true rfl) (eX2_countOthersThanZero gq35) ?_
      cases h
      exact EV.reti dX11_aboutPicture_87 rfl
    rw [if_neg c32] at h
    by_cases c36 : a1 = 5
    · rw [if_pos c36] at h
      refine EV.tableIn 88 dX11_aboutPicture_10 (by rw [c36]; decide) (by rw [c36]; decide) (by rw [c36]; rfl) (by decide) ?_
      refine EV.aload_n 0 dX11_aboutPicture_88 rfl rfl ?_
      obtain ⟨v37, gv37, h⟩ := px_bs h
      refine ev_gR dX11_aboutPicture_89 flRX11_25 gv37 ?_
      obtain ⟨o38, go38, h⟩ := px_bs h
      obtain ⟨q39, gq39, h⟩ := px_bs h
      refine EV.callV (As := []) (rest := []) dX11_aboutPicture_92 kcX11_aboutPicture_320 (gO_ok go38) rfl rfl rfl (Nat.le_of_ble_eq_true rfl) (Nat.le_of_ble_eq_true rfl) (eX2_sumOfAmounts gq39) ?_
      cases h
      exact EV.reti dX11_aboutPicture_95 rfl
    rw [if_neg c36] at h
    have nc20 : (a1).toInt ≠ 0 := fun z => c20 (Int32.toInt_inj.mp (z.trans (by decide)))
    have nc23 : (a1).toInt ≠ 1 := fun z => c23 (Int32.toInt_inj.mp (z.trans (by decide)))
    have nc26 : (a1).toInt ≠ 2 := fun z => c26 (Int32.toInt_inj.mp (z.trans (by decide)))
    have nc29 : (a1).toInt ≠ 3 := fun z => c29 (Int32.toInt_inj.mp (z.trans (by decide)))
    have nc32 : (a1).toInt ≠ 4 := fun z => c32 (Int32.toInt_inj.mp (z.trans (by decide)))
    have nc36 : (a1).toInt ≠ 5 := fun z => c36 (Int32.toInt_inj.mp (z.trans (by decide)))
    refine EV.tableOut 96 dX11_aboutPicture_10 (by omega) (by decide) ?_
    refine EV.aload_n 0 dX11_aboutPicture_96 rfl rfl ?_
    refine EV.iload_n 1 dX11_aboutPicture_97 rfl rfl ?_
    refine EV.bipush (8) dX11_aboutPicture_98 (by decide) ?_
    refine EV.isub dX11_aboutPicture_100 ?_
    obtain ⟨o40, go40, h⟩ := px_bs h
    obtain ⟨q41, gq41, h⟩ := px_bs h
    refine EV.callV (As := [.int (a1 - 8)]) (rest := []) dX11_aboutPicture_101 kcX11_aboutPicture_323 (gO_ok go40) rfl rfl rfl (Nat.le_of_ble_eq_true rfl) (Nat.le_of_ble_eq_true rfl) (eX11_aboutComponent gq41) ?_
    cases h
    exact EV.reti dX11_aboutPicture_104 rfl
  · rw [if_pos c19] at h
    refine EV.iconst ((-1)) dX11_aboutPicture_7 (by decide) ?_
    cases h
    exact EV.reti dX11_aboutPicture_8 rfl
/-! WavePictures.canvasSize(III)Z -/
theorem dX11_canvasSize_0 : decode cX11_canvasSize 0 = .ok (.iload_n 1, 1) := by decide +kernel
theorem dX11_canvasSize_1 : decode cX11_canvasSize 1 = .ok (.ifCond .lt 30, 3) := by decide +kernel
theorem dX11_canvasSize_4 : decode cX11_canvasSize 4 = .ok (.iload_n 1, 1) := by decide +kernel
theorem dX11_canvasSize_5 : decode cX11_canvasSize 5 = .ok (.iconst 3, 1) := by decide +kernel
theorem dX11_canvasSize_6 : decode cX11_canvasSize 6 = .ok (.if_icmp .gt 25, 3) := by decide +kernel
theorem dX11_canvasSize_9 : decode cX11_canvasSize 9 = .ok (.iload_n 2, 1) := by decide +kernel
theorem dX11_canvasSize_10 : decode cX11_canvasSize 10 = .ok (.iconst 1, 1) := by decide +kernel
theorem dX11_canvasSize_11 : decode cX11_canvasSize 11 = .ok (.if_icmp .lt 20, 3) := by decide +kernel
theorem dX11_canvasSize_14 : decode cX11_canvasSize 14 = .ok (.iload_n 2, 1) := by decide +kernel
theorem dX11_canvasSize_15 : decode cX11_canvasSize 15 = .ok (.bipush 32, 2) := by decide +kernel
theorem dX11_canvasSize_17 : decode cX11_canvasSize 17 = .ok (.if_icmp .gt 14, 3) := by decide +kernel
theorem dX11_canvasSize_20 : decode cX11_canvasSize 20 = .ok (.iload_n 3, 1) := by decide +kernel
theorem dX11_canvasSize_21 : decode cX11_canvasSize 21 = .ok (.iconst 1, 1) := by decide +kernel
theorem dX11_canvasSize_22 : decode cX11_canvasSize 22 = .ok (.if_icmp .lt 9, 3) := by decide +kernel
theorem dX11_canvasSize_25 : decode cX11_canvasSize 25 = .ok (.iload_n 3, 1) := by decide +kernel
theorem dX11_canvasSize_26 : decode cX11_canvasSize 26 = .ok (.bipush 32, 2) := by decide +kernel
theorem dX11_canvasSize_28 : decode cX11_canvasSize 28 = .ok (.if_icmp .le 5, 3) := by decide +kernel
theorem dX11_canvasSize_31 : decode cX11_canvasSize 31 = .ok (.iconst 0, 1) := by decide +kernel
theorem dX11_canvasSize_32 : decode cX11_canvasSize 32 = .ok (.ireturn, 1) := by decide +kernel
theorem dX11_canvasSize_33 : decode cX11_canvasSize 33 = .ok (.aload_n 0, 1) := by decide +kernel
theorem dX11_canvasSize_34 : decode cX11_canvasSize 34 = .ok (.getfield 34, 3) := by decide +kernel
theorem dX11_canvasSize_37 : decode cX11_canvasSize 37 = .ok (.iload_n 1, 1) := by decide +kernel
theorem dX11_canvasSize_38 : decode cX11_canvasSize 38 = .ok (.aaload, 1) := by decide +kernel
theorem dX11_canvasSize_39 : decode cX11_canvasSize 39 = .ok (.iload_n 2, 1) := by decide +kernel
theorem dX11_canvasSize_40 : decode cX11_canvasSize 40 = .ok (.iload_n 3, 1) := by decide +kernel
theorem dX11_canvasSize_41 : decode cX11_canvasSize 41 = .ok (.invokevirtual 326, 3) := by decide +kernel
theorem dX11_canvasSize_44 : decode cX11_canvasSize 44 = .ok (.iconst 1, 1) := by decide +kernel
theorem dX11_canvasSize_45 : decode cX11_canvasSize 45 = .ok (.ireturn, 1) := by decide +kernel
theorem mbX3_setSize : px_mB mX3_setSize 2 := ⟨tb6 (List.mem_of_getElem? (i := 30) rfl), by decide +kernel, tb1 (List.mem_of_getElem? (i := 4) rfl), by decide +kernel, by decide +kernel⟩
theorem vbX3_setSize : px_vB mX3_setSize := ⟨tb6 (List.mem_of_getElem? (i := 28) rfl), tb6 (List.mem_of_getElem? (i := 29) rfl)⟩
theorem kcX11_canvasSize_326 : px_cV mX11_canvasSize 326 mX3_setSize 2 := ⟨⟨mbX3_setSize, by decide, by decide⟩, Or.inl (tb6 (List.mem_of_getElem? (i := 27) rfl)), vbX3_setSize⟩
set_option maxRecDepth 100000 in
set_option maxHeartbeats 4000000 in
theorem eX11_canvasSize {X : px_X} {w : px_W} {a0 : Nat} {a1 : Int32} {a2 : Int32} {a3 : Int32} {q : Int32 × px_W} (h : fX11_canvasSize X w a0 a1 a2 a3 = some q) : EV X mX11_canvasSize 0 (lv_args 0 [.ref a0, .int a1, .int a2, .int a3]) [] w (some (.int q.1)) q.2 := by
  unfold fX11_canvasSize at h
  show EV X mX11_canvasSize 0 [(0, .ref a0), (1, .int a1), (2, .int a2), (3, .int a3)] [] w (some (.int q.1)) q.2
  refine EV.iload_n 1 dX11_canvasSize_0 rfl rfl ?_
  refine EV.if_lt 31 dX11_canvasSize_1 (by decide) (fun c5 => ?_) (fun c5 => ?_)
  · rw [if_pos c5] at h
    refine EV.iconst (0) dX11_canvasSize_31 (by decide) ?_
    cases h
    exact EV.reti dX11_canvasSize_32 rfl
  · rw [if_neg c5] at h
    refine EV.iload_n 1 dX11_canvasSize_4 rfl rfl ?_
    refine EV.iconst (3) dX11_canvasSize_5 (by decide) ?_
    refine EV.icmp_gt 31 dX11_canvasSize_6 (by decide) (fun c6 => ?_) (fun c6 => ?_)
    · rw [if_pos c6] at h
      refine EV.iconst (0) dX11_canvasSize_31 (by decide) ?_
      cases h
      exact EV.reti dX11_canvasSize_32 rfl
    · rw [if_neg c6] at h
      refine EV.iload_n 2 dX11_canvasSize_9 rfl rfl ?_
      refine EV.iconst (1) dX11_canvasSize_10 (by decide) ?_
      refine EV.icmp_lt 31 dX11_canvasSize_11 (by decide) (fun c7 => ?_) (fun c7 => ?_)
      · rw [if_pos c7] at h
        refine EV.iconst (0) dX11_canvasSize_31 (by decide) ?_
        cases h
        exact EV.reti dX11_canvasSize_32 rfl
      · rw [if_neg c7] at h
        refine EV.iload_n 2 dX11_canvasSize_14 rfl rfl ?_
        refine EV.bipush (32) dX11_canvasSize_15 (by decide) ?_
        refine EV.icmp_gt 31 dX11_canvasSize_17 (by decide) (fun c8 => ?_) (fun c8 => ?_)
        · rw [if_pos c8] at h
          refine EV.iconst (0) dX11_canvasSize_31 (by decide) ?_
          cases h
          exact EV.reti dX11_canvasSize_32 rfl
        · rw [if_neg c8] at h
          refine EV.iload_n 3 dX11_canvasSize_20 rfl rfl ?_
          refine EV.iconst (1) dX11_canvasSize_21 (by decide) ?_
          refine EV.icmp_lt 31 dX11_canvasSize_22 (by decide) (fun c9 => ?_) (fun c9 => ?_)
          · rw [if_pos c9] at h
            refine EV.iconst (0) dX11_canvasSize_31 (by decide) ?_
            cases h
            exact EV.reti dX11_canvasSize_32 rfl
          · rw [if_neg c9] at h
            refine EV.iload_n 3 dX11_canvasSize_25 rfl rfl ?_
            refine EV.bipush (32) dX11_canvasSize_26 (by decide) ?_
            refine EV.icmp_le 33 dX11_canvasSize_28 (by decide) (fun c10 => ?_) (fun c10 => ?_)
            · rw [if_pos c10] at h
              refine EV.aload_n 0 dX11_canvasSize_33 rfl rfl ?_
              obtain ⟨v11, gv11, h⟩ := px_bs h
              refine ev_gR dX11_canvasSize_34 flRX11_34 gv11 ?_
              refine EV.iload_n 1 dX11_canvasSize_37 rfl rfl ?_
              obtain ⟨v12, gv12, h⟩ := px_bs h
              refine ev_aQ dX11_canvasSize_38 (t := 6) rfl gv12 ?_
              refine EV.iload_n 2 dX11_canvasSize_39 rfl rfl ?_
              refine EV.iload_n 3 dX11_canvasSize_40 rfl rfl ?_
              obtain ⟨o13, go13, h⟩ := px_bs h
              obtain ⟨q14, gq14, h⟩ := px_bs h
              refine EV.callV (As := [.int a2, .int a3]) (rest := []) dX11_canvasSize_41 kcX11_canvasSize_326 (gO_ok go13) rfl rfl rfl (Nat.le_of_ble_eq_true rfl) (Nat.le_of_ble_eq_true rfl) (eX3_setSize gq14) ?_
              refine EV.iconst (1) dX11_canvasSize_44 (by decide) ?_
              cases h
              exact EV.reti dX11_canvasSize_45 rfl
            · rw [if_neg c10] at h
              refine EV.iconst (0) dX11_canvasSize_31 (by decide) ?_
              cases h
              exact EV.reti dX11_canvasSize_32 rfl
/-! WavePictures.canvasRow(IIIJ)Z -/
theorem dX11_canvasRow_0 : decode cX11_canvasRow 0 = .ok (.iload_n 1, 1) := by decide +kernel
theorem dX11_canvasRow_1 : decode cX11_canvasRow 1 = .ok (.ifCond .lt 42, 3) := by decide +kernel
theorem dX11_canvasRow_4 : decode cX11_canvasRow 4 = .ok (.iload_n 1, 1) := by decide +kernel
theorem dX11_canvasRow_5 : decode cX11_canvasRow 5 = .ok (.iconst 3, 1) := by decide +kernel
theorem dX11_canvasRow_6 : decode cX11_canvasRow 6 = .ok (.if_icmp .gt 37, 3) := by decide +kernel
theorem dX11_canvasRow_9 : decode cX11_canvasRow 9 = .ok (.iload_n 2, 1) := by decide +kernel
theorem dX11_canvasRow_10 : decode cX11_canvasRow 10 = .ok (.ifCond .lt 33, 3) := by decide +kernel
theorem dX11_canvasRow_13 : decode cX11_canvasRow 13 = .ok (.iload_n 2, 1) := by decide +kernel
theorem dX11_canvasRow_14 : decode cX11_canvasRow 14 = .ok (.aload_n 0, 1) := by decide +kernel
theorem dX11_canvasRow_15 : decode cX11_canvasRow 15 = .ok (.getfield 34, 3) := by decide +kernel
theorem dX11_canvasRow_18 : decode cX11_canvasRow 18 = .ok (.iload_n 1, 1) := by decide +kernel
theorem dX11_canvasRow_19 : decode cX11_canvasRow 19 = .ok (.aaload, 1) := by decide +kernel
theorem dX11_canvasRow_20 : decode cX11_canvasRow 20 = .ok (.getfield 274, 3) := by decide +kernel
theorem dX11_canvasRow_23 : decode cX11_canvasRow 23 = .ok (.if_icmp .ge 20, 3) := by decide +kernel
theorem dX11_canvasRow_26 : decode cX11_canvasRow 26 = .ok (.iload_n 3, 1) := by decide +kernel
theorem dX11_canvasRow_27 : decode cX11_canvasRow 27 = .ok (.ifCond .lt 16, 3) := by decide +kernel
theorem dX11_canvasRow_30 : decode cX11_canvasRow 30 = .ok (.iload_n 3, 1) := by decide +kernel
theorem dX11_canvasRow_31 : decode cX11_canvasRow 31 = .ok (.aload_n 0, 1) := by decide +kernel
theorem dX11_canvasRow_32 : decode cX11_canvasRow 32 = .ok (.getfield 34, 3) := by decide +kernel
theorem dX11_canvasRow_35 : decode cX11_canvasRow 35 = .ok (.iload_n 1, 1) := by decide +kernel
theorem dX11_canvasRow_36 : decode cX11_canvasRow 36 = .ok (.aaload, 1) := by decide +kernel
theorem dX11_canvasRow_37 : decode cX11_canvasRow 37 = .ok (.getfield 280, 3) := by decide +kernel
theorem dX11_canvasRow_40 : decode cX11_canvasRow 40 = .ok (.if_icmp .lt 5, 3) := by decide +kernel
theorem dX11_canvasRow_43 : decode cX11_canvasRow 43 = .ok (.iconst 0, 1) := by decide +kernel
theorem dX11_canvasRow_44 : decode cX11_canvasRow 44 = .ok (.ireturn, 1) := by decide +kernel
theorem dX11_canvasRow_45 : decode cX11_canvasRow 45 = .ok (.bipush 8, 2) := by decide +kernel
theorem dX11_canvasRow_47 : decode cX11_canvasRow 47 = .ok (.aload_n 0, 1) := by decide +kernel
theorem dX11_canvasRow_48 : decode cX11_canvasRow 48 = .ok (.getfield 34, 3) := by decide +kernel
theorem dX11_canvasRow_51 : decode cX11_canvasRow 51 = .ok (.iload_n 1, 1) := by decide +kernel
theorem dX11_canvasRow_52 : decode cX11_canvasRow 52 = .ok (.aaload, 1) := by decide +kernel
theorem dX11_canvasRow_53 : decode cX11_canvasRow 53 = .ok (.getfield 274, 3) := by decide +kernel
theorem dX11_canvasRow_56 : decode cX11_canvasRow 56 = .ok (.iload_n 2, 1) := by decide +kernel
theorem dX11_canvasRow_57 : decode cX11_canvasRow 57 = .ok (.isub, 1) := by decide +kernel
theorem dX11_canvasRow_58 : decode cX11_canvasRow 58 = .ok (.invokestatic 269, 3) := by decide +kernel
theorem dX11_canvasRow_61 : decode cX11_canvasRow 61 = .ok (.istore 6, 2) := by decide +kernel
theorem dX11_canvasRow_63 : decode cX11_canvasRow 63 = .ok (.iconst 0, 1) := by decide +kernel
theorem dX11_canvasRow_64 : decode cX11_canvasRow 64 = .ok (.istore 7, 2) := by decide +kernel
theorem dX11_canvasRow_66 : decode cX11_canvasRow 66 = .ok (.iload 7, 2) := by decide +kernel
theorem dX11_canvasRow_68 : decode cX11_canvasRow 68 = .ok (.iload 6, 2) := by decide +kernel
theorem dX11_canvasRow_70 : decode cX11_canvasRow 70 = .ok (.if_icmp .ge 44, 3) := by decide +kernel
theorem dX11_canvasRow_73 : decode cX11_canvasRow 73 = .ok (.aload_n 0, 1) := by decide +kernel
theorem dX11_canvasRow_74 : decode cX11_canvasRow 74 = .ok (.getfield 34, 3) := by decide +kernel
theorem dX11_canvasRow_77 : decode cX11_canvasRow 77 = .ok (.iload_n 1, 1) := by decide +kernel
theorem dX11_canvasRow_78 : decode cX11_canvasRow 78 = .ok (.aaload, 1) := by decide +kernel
theorem dX11_canvasRow_79 : decode cX11_canvasRow 79 = .ok (.getfield 329, 3) := by decide +kernel
theorem dX11_canvasRow_82 : decode cX11_canvasRow 82 = .ok (.bipush 32, 2) := by decide +kernel
theorem dX11_canvasRow_84 : decode cX11_canvasRow 84 = .ok (.iload_n 3, 1) := by decide +kernel
theorem dX11_canvasRow_85 : decode cX11_canvasRow 85 = .ok (.imul, 1) := by decide +kernel
theorem dX11_canvasRow_86 : decode cX11_canvasRow 86 = .ok (.iload_n 2, 1) := by decide +kernel
theorem dX11_canvasRow_87 : decode cX11_canvasRow 87 = .ok (.iadd, 1) := by decide +kernel
theorem dX11_canvasRow_88 : decode cX11_canvasRow 88 = .ok (.iload 7, 2) := by decide +kernel
theorem dX11_canvasRow_90 : decode cX11_canvasRow 90 = .ok (.iadd, 1) := by decide +kernel
theorem dX11_canvasRow_91 : decode cX11_canvasRow 91 = .ok (.lload 4, 2) := by decide +kernel
theorem dX11_canvasRow_93 : decode cX11_canvasRow 93 = .ok (.bipush 56, 2) := by decide +kernel
theorem dX11_canvasRow_95 : decode cX11_canvasRow 95 = .ok (.bipush 8, 2) := by decide +kernel
theorem dX11_canvasRow_97 : decode cX11_canvasRow 97 = .ok (.iload 7, 2) := by decide +kernel
theorem dX11_canvasRow_99 : decode cX11_canvasRow 99 = .ok (.imul, 1) := by decide +kernel
theorem dX11_canvasRow_100 : decode cX11_canvasRow 100 = .ok (.isub, 1) := by decide +kernel
theorem dX11_canvasRow_101 : decode cX11_canvasRow 101 = .ok (.lshr, 1) := by decide +kernel
theorem dX11_canvasRow_102 : decode cX11_canvasRow 102 = .ok (.l2i, 1) := by decide +kernel
theorem dX11_canvasRow_103 : decode cX11_canvasRow 103 = .ok (.sipush 255, 3) := by decide +kernel
theorem dX11_canvasRow_106 : decode cX11_canvasRow 106 = .ok (.iand, 1) := by decide +kernel
theorem dX11_canvasRow_107 : decode cX11_canvasRow 107 = .ok (.iastore, 1) := by decide +kernel
theorem dX11_canvasRow_108 : decode cX11_canvasRow 108 = .ok (.iinc 7 1, 3) := by decide +kernel
theorem dX11_canvasRow_111 : decode cX11_canvasRow 111 = .ok (.goto (-45), 3) := by decide +kernel
theorem dX11_canvasRow_114 : decode cX11_canvasRow 114 = .ok (.iconst 1, 1) := by decide +kernel
theorem dX11_canvasRow_115 : decode cX11_canvasRow 115 = .ok (.ireturn, 1) := by decide +kernel
theorem flRX11_329 : px_f RX11 329 3 2 := ⟨_, rfl, by decide, Or.inl (tb1 (List.mem_of_getElem? (i := 142) rfl))⟩
set_option maxRecDepth 100000 in
set_option maxHeartbeats 4000000 in
theorem eX11_canvasRow_66 {X : px_X}  : ∀ (m : Nat) (a0 : Nat) (a1 : Int32) (a2 : Int32) (a3 : Int32) (a4 : Int64) (a6 : Int32) (a7 : Int32) (w : px_W) (q : Int32 × px_W), fX11_canvasRow_66 X  m a0 a1 a2 a3 a4 a6 a7 w = some q → EV X mX11_canvasRow 66 [(0, .ref a0), (1, .int a1), (2, .int a2), (3, .int a3), (4, .long a4), (6, .int a6), (7, .int a7)] [] w (some (.int q.1)) q.2 := by
  intro m
  induction m with
  | zero => intro a0 a1 a2 a3 a4 a6 a7 w q h; cases h
  | succ m ih =>
    intro a0 a1 a2 a3 a4 a6 a7 w q h
    rw [fX11_canvasRow_66.eq_2] at h
    refine EV.iload 6 dX11_canvasRow_66 rfl ?_
    refine EV.iload 5 dX11_canvasRow_68 rfl ?_
    refine EV.icmp_ge 114 dX11_canvasRow_70 (by decide) (fun c14 => ?_) (fun c14 => ?_)
    · rw [if_pos c14] at h
      refine EV.iconst (1) dX11_canvasRow_114 (by decide) ?_
      cases h
      exact EV.reti dX11_canvasRow_115 rfl
    · rw [if_neg c14] at h
      refine EV.aload_n 0 dX11_canvasRow_73 rfl rfl ?_
      obtain ⟨v15, gv15, h⟩ := px_bs h
      refine ev_gR dX11_canvasRow_74 flRX11_34 gv15 ?_
      refine EV.iload_n 1 dX11_canvasRow_77 rfl rfl ?_
      obtain ⟨v16, gv16, h⟩ := px_bs h
      refine ev_aQ dX11_canvasRow_78 (t := 6) rfl gv16 ?_
      obtain ⟨v17, gv17, h⟩ := px_bs h
      refine ev_gR dX11_canvasRow_79 flRX11_329 gv17 ?_
      refine EV.bipush (32) dX11_canvasRow_82 (by decide) ?_
      refine EV.iload_n 3 dX11_canvasRow_84 rfl rfl ?_
      refine EV.imul dX11_canvasRow_85 ?_
      refine EV.iload_n 2 dX11_canvasRow_86 rfl rfl ?_
      refine EV.iadd dX11_canvasRow_87 ?_
      refine EV.iload 6 dX11_canvasRow_88 rfl ?_
      refine EV.iadd dX11_canvasRow_90 ?_
      refine EV.lload 4 dX11_canvasRow_91 rfl ?_
      refine EV.bipush (56) dX11_canvasRow_93 (by decide) ?_
      refine EV.bipush (8) dX11_canvasRow_95 (by decide) ?_
      refine EV.iload 6 dX11_canvasRow_97 rfl ?_
      refine EV.imul dX11_canvasRow_99 ?_
      refine EV.isub dX11_canvasRow_100 ?_
      refine EV.lshr dX11_canvasRow_101 ?_
      refine EV.l2i dX11_canvasRow_102 ?_
      refine EV.sipush (255) dX11_canvasRow_103 (by decide) ?_
      refine EV.iand dX11_canvasRow_106 ?_
      obtain ⟨w18, gw18, h⟩ := px_bs h
      refine ev_sI dX11_canvasRow_107 gw18 ?_
      refine EV.iinc 6 (a7 + 1) [(7, .int (a7 + 1)), (0, .ref a0), (1, .int a1), (2, .int a2), (3, .int a3), (4, .long a4), (6, .int a6)] dX11_canvasRow_108 rfl rfl (by decide) rfl ?_
      refine EV.goto 66 dX11_canvasRow_111 (by decide) ?_
      refine EV.sub [1, 2, 3, 4, 5, 6, 0] rfl ?_
      exact ih _ _ _ _ _ _ _ _ _ h
set_option maxRecDepth 100000 in
set_option maxHeartbeats 4000000 in
theorem eX11_canvasRow {X : px_X} {w : px_W} {a0 : Nat} {a1 : Int32} {a2 : Int32} {a3 : Int32} {a4 : Int64} {q : Int32 × px_W} (h : fX11_canvasRow X w a0 a1 a2 a3 a4 = some q) : EV X mX11_canvasRow 0 (lv_args 0 [.ref a0, .int a1, .int a2, .int a3, .long a4]) [] w (some (.int q.1)) q.2 := by
  unfold fX11_canvasRow at h
  show EV X mX11_canvasRow 0 [(0, .ref a0), (1, .int a1), (2, .int a2), (3, .int a3), (4, .long a4)] [] w (some (.int q.1)) q.2
  refine EV.iload_n 1 dX11_canvasRow_0 rfl rfl ?_
  refine EV.if_lt 43 dX11_canvasRow_1 (by decide) (fun c19 => ?_) (fun c19 => ?_)
  · rw [if_pos c19] at h
    refine EV.iconst (0) dX11_canvasRow_43 (by decide) ?_
    cases h
    exact EV.reti dX11_canvasRow_44 rfl
  · rw [if_neg c19] at h
    refine EV.iload_n 1 dX11_canvasRow_4 rfl rfl ?_
    refine EV.iconst (3) dX11_canvasRow_5 (by decide) ?_
    refine EV.icmp_gt 43 dX11_canvasRow_6 (by decide) (fun c20 => ?_) (fun c20 => ?_)
    · rw [if_pos c20] at h
      refine EV.iconst (0) dX11_canvasRow_43 (by decide) ?_
      cases h
      exact EV.reti dX11_canvasRow_44 rfl
    · rw [if_neg c20] at h
      refine EV.iload_n 2 dX11_canvasRow_9 rfl rfl ?_
      refine EV.if_lt 43 dX11_canvasRow_10 (by decide) (fun c21 => ?_) (fun c21 => ?_)
      · rw [if_pos c21] at h
        refine EV.iconst (0) dX11_canvasRow_43 (by decide) ?_
        cases h
        exact EV.reti dX11_canvasRow_44 rfl
      · rw [if_neg c21] at h
        refine EV.iload_n 2 dX11_canvasRow_13 rfl rfl ?_
        refine EV.aload_n 0 dX11_canvasRow_14 rfl rfl ?_
        obtain ⟨v22, gv22, h⟩ := px_bs h
        refine ev_gR dX11_canvasRow_15 flRX11_34 gv22 ?_
        refine EV.iload_n 1 dX11_canvasRow_18 rfl rfl ?_
        obtain ⟨v23, gv23, h⟩ := px_bs h
        refine ev_aQ dX11_canvasRow_19 (t := 6) rfl gv23 ?_
        obtain ⟨v24, gv24, h⟩ := px_bs h
        refine ev_gI dX11_canvasRow_20 flRX11_274 gv24 ?_
        refine EV.icmp_ge 43 dX11_canvasRow_23 (by decide) (fun c25 => ?_) (fun c25 => ?_)
        · rw [if_pos c25] at h
          refine EV.iconst (0) dX11_canvasRow_43 (by decide) ?_
          cases h
          exact EV.reti dX11_canvasRow_44 rfl
        · rw [if_neg c25] at h
          refine EV.iload_n 3 dX11_canvasRow_26 rfl rfl ?_
          refine EV.if_lt 43 dX11_canvasRow_27 (by decide) (fun c26 => ?_) (fun c26 => ?_)
          · rw [if_pos c26] at h
            refine EV.iconst (0) dX11_canvasRow_43 (by decide) ?_
            cases h
            exact EV.reti dX11_canvasRow_44 rfl
          · rw [if_neg c26] at h
            refine EV.iload_n 3 dX11_canvasRow_30 rfl rfl ?_
            refine EV.aload_n 0 dX11_canvasRow_31 rfl rfl ?_
            obtain ⟨v27, gv27, h⟩ := px_bs h
            refine ev_gR dX11_canvasRow_32 flRX11_34 gv27 ?_
            refine EV.iload_n 1 dX11_canvasRow_35 rfl rfl ?_
            obtain ⟨v28, gv28, h⟩ := px_bs h
            refine ev_aQ dX11_canvasRow_36 (t := 6) rfl gv28 ?_
            obtain ⟨v29, gv29, h⟩ := px_bs h
            refine ev_gI dX11_canvasRow_37 flRX11_280 gv29 ?_
            refine EV.icmp_lt 45 dX11_canvasRow_40 (by decide) (fun c30 => ?_) (fun c30 => ?_)
            · rw [if_pos c30] at h
              refine EV.bipush (8) dX11_canvasRow_45 (by decide) ?_
              refine EV.aload_n 0 dX11_canvasRow_47 rfl rfl ?_
              obtain ⟨v31, gv31, h⟩ := px_bs h
              refine ev_gR dX11_canvasRow_48 flRX11_34 gv31 ?_
              refine EV.iload_n 1 dX11_canvasRow_51 rfl rfl ?_
              obtain ⟨v32, gv32, h⟩ := px_bs h
              refine ev_aQ dX11_canvasRow_52 (t := 6) rfl gv32 ?_
              obtain ⟨v33, gv33, h⟩ := px_bs h
              refine ev_gI dX11_canvasRow_53 flRX11_274 gv33 ?_
              refine EV.iload_n 2 dX11_canvasRow_56 rfl rfl ?_
              refine EV.isub dX11_canvasRow_57 ?_
              refine EV.mmin dX11_canvasRow_58 (tb5 (List.mem_of_getElem? (i := 179) rfl)) (by decide) (by decide) (Nat.le_of_ble_eq_true rfl) ?_
              refine EV.istore [(6, .int (mmin 8 (v33 - a2))), (0, .ref a0), (1, .int a1), (2, .int a2), (3, .int a3), (4, .long a4)] dX11_canvasRow_61 (by decide) rfl ?_
              refine EV.iconst (0) dX11_canvasRow_63 (by decide) ?_
              refine EV.istore [(7, .int 0), (6, .int (mmin 8 (v33 - a2))), (0, .ref a0), (1, .int a1), (2, .int a2), (3, .int a3), (4, .long a4)] dX11_canvasRow_64 (by decide) rfl ?_
              refine EV.sub [2, 3, 4, 5, 6, 1, 0] rfl ?_
              exact eX11_canvasRow_66  FU _ _ _ _ _ _ _ _ _ h
            · rw [if_neg c30] at h
              refine EV.iconst (0) dX11_canvasRow_43 (by decide) ?_
              cases h
              exact EV.reti dX11_canvasRow_44 rfl
/-! WavePictures.canvasEight(III)J -/
theorem dX11_canvasEight_0 : decode cX11_canvasEight 0 = .ok (.iload_n 1, 1) := by decide +kernel
theorem dX11_canvasEight_1 : decode cX11_canvasEight 1 = .ok (.ifCond .lt 44, 3) := by decide +kernel
theorem dX11_canvasEight_4 : decode cX11_canvasEight 4 = .ok (.iload_n 1, 1) := by decide +kernel
theorem dX11_canvasEight_5 : decode cX11_canvasEight 5 = .ok (.iconst 3, 1) := by decide +kernel
theorem dX11_canvasEight_6 : decode cX11_canvasEight 6 = .ok (.if_icmp .gt 39, 3) := by decide +kernel
theorem dX11_canvasEight_9 : decode cX11_canvasEight 9 = .ok (.iload_n 2, 1) := by decide +kernel
theorem dX11_canvasEight_10 : decode cX11_canvasEight 10 = .ok (.bipush (-7), 2) := by decide +kernel
theorem dX11_canvasEight_12 : decode cX11_canvasEight 12 = .ok (.if_icmp .lt 33, 3) := by decide +kernel
theorem dX11_canvasEight_15 : decode cX11_canvasEight 15 = .ok (.iload_n 2, 1) := by decide +kernel
theorem dX11_canvasEight_16 : decode cX11_canvasEight 16 = .ok (.aload_n 0, 1) := by decide +kernel
theorem dX11_canvasEight_17 : decode cX11_canvasEight 17 = .ok (.getfield 34, 3) := by decide +kernel
theorem dX11_canvasEight_20 : decode cX11_canvasEight 20 = .ok (.iload_n 1, 1) := by decide +kernel
theorem dX11_canvasEight_21 : decode cX11_canvasEight 21 = .ok (.aaload, 1) := by decide +kernel
theorem dX11_canvasEight_22 : decode cX11_canvasEight 22 = .ok (.getfield 274, 3) := by decide +kernel
theorem dX11_canvasEight_25 : decode cX11_canvasEight 25 = .ok (.if_icmp .ge 20, 3) := by decide +kernel
theorem dX11_canvasEight_28 : decode cX11_canvasEight 28 = .ok (.iload_n 3, 1) := by decide +kernel
theorem dX11_canvasEight_29 : decode cX11_canvasEight 29 = .ok (.ifCond .lt 16, 3) := by decide +kernel
theorem dX11_canvasEight_32 : decode cX11_canvasEight 32 = .ok (.iload_n 3, 1) := by decide +kernel
theorem dX11_canvasEight_33 : decode cX11_canvasEight 33 = .ok (.aload_n 0, 1) := by decide +kernel
theorem dX11_canvasEight_34 : decode cX11_canvasEight 34 = .ok (.getfield 34, 3) := by decide +kernel
theorem dX11_canvasEight_37 : decode cX11_canvasEight 37 = .ok (.iload_n 1, 1) := by decide +kernel
theorem dX11_canvasEight_38 : decode cX11_canvasEight 38 = .ok (.aaload, 1) := by decide +kernel
theorem dX11_canvasEight_39 : decode cX11_canvasEight 39 = .ok (.getfield 280, 3) := by decide +kernel
theorem dX11_canvasEight_42 : decode cX11_canvasEight 42 = .ok (.if_icmp .lt 5, 3) := by decide +kernel
theorem dX11_canvasEight_45 : decode cX11_canvasEight 45 = .ok (.lconst 0, 1) := by decide +kernel
theorem dX11_canvasEight_46 : decode cX11_canvasEight 46 = .ok (.lreturn, 1) := by decide +kernel
theorem dX11_canvasEight_47 : decode cX11_canvasEight 47 = .ok (.lconst 0, 1) := by decide +kernel
theorem dX11_canvasEight_48 : decode cX11_canvasEight 48 = .ok (.lstore 4, 2) := by decide +kernel
theorem dX11_canvasEight_50 : decode cX11_canvasEight 50 = .ok (.iload_n 2, 1) := by decide +kernel
theorem dX11_canvasEight_51 : decode cX11_canvasEight 51 = .ok (.istore 6, 2) := by decide +kernel
theorem dX11_canvasEight_53 : decode cX11_canvasEight 53 = .ok (.iload 6, 2) := by decide +kernel
theorem dX11_canvasEight_55 : decode cX11_canvasEight 55 = .ok (.iload_n 2, 1) := by decide +kernel
theorem dX11_canvasEight_56 : decode cX11_canvasEight 56 = .ok (.bipush 8, 2) := by decide +kernel
theorem dX11_canvasEight_58 : decode cX11_canvasEight 58 = .ok (.iadd, 1) := by decide +kernel
theorem dX11_canvasEight_59 : decode cX11_canvasEight 59 = .ok (.if_icmp .ge 70, 3) := by decide +kernel
theorem dX11_canvasEight_62 : decode cX11_canvasEight 62 = .ok (.iload 6, 2) := by decide +kernel
theorem dX11_canvasEight_64 : decode cX11_canvasEight 64 = .ok (.ifCond .lt 21, 3) := by decide +kernel
theorem dX11_canvasEight_67 : decode cX11_canvasEight 67 = .ok (.iload 6, 2) := by decide +kernel
theorem dX11_canvasEight_69 : decode cX11_canvasEight 69 = .ok (.aload_n 0, 1) := by decide +kernel
theorem dX11_canvasEight_70 : decode cX11_canvasEight 70 = .ok (.getfield 34, 3) := by decide +kernel
theorem dX11_canvasEight_73 : decode cX11_canvasEight 73 = .ok (.iload_n 1, 1) := by decide +kernel
theorem dX11_canvasEight_74 : decode cX11_canvasEight 74 = .ok (.aaload, 1) := by decide +kernel
theorem dX11_canvasEight_75 : decode cX11_canvasEight 75 = .ok (.getfield 274, 3) := by decide +kernel
theorem dX11_canvasEight_78 : decode cX11_canvasEight 78 = .ok (.if_icmp .ge 7, 3) := by decide +kernel
theorem dX11_canvasEight_81 : decode cX11_canvasEight 81 = .ok (.iconst 1, 1) := by decide +kernel
theorem dX11_canvasEight_82 : decode cX11_canvasEight 82 = .ok (.goto 4, 3) := by decide +kernel
theorem dX11_canvasEight_85 : decode cX11_canvasEight 85 = .ok (.iconst 0, 1) := by decide +kernel
theorem dX11_canvasEight_86 : decode cX11_canvasEight 86 = .ok (.istore 7, 2) := by decide +kernel
theorem dX11_canvasEight_88 : decode cX11_canvasEight 88 = .ok (.lload 4, 2) := by decide +kernel
theorem dX11_canvasEight_90 : decode cX11_canvasEight 90 = .ok (.bipush 8, 2) := by decide +kernel
theorem dX11_canvasEight_92 : decode cX11_canvasEight 92 = .ok (.lshl, 1) := by decide +kernel
theorem dX11_canvasEight_93 : decode cX11_canvasEight 93 = .ok (.iload 7, 2) := by decide +kernel
theorem dX11_canvasEight_95 : decode cX11_canvasEight 95 = .ok (.ifCond .eq 23, 3) := by decide +kernel
theorem dX11_canvasEight_98 : decode cX11_canvasEight 98 = .ok (.aload_n 0, 1) := by decide +kernel
theorem dX11_canvasEight_99 : decode cX11_canvasEight 99 = .ok (.getfield 34, 3) := by decide +kernel
theorem dX11_canvasEight_102 : decode cX11_canvasEight 102 = .ok (.iload_n 1, 1) := by decide +kernel
theorem dX11_canvasEight_103 : decode cX11_canvasEight 103 = .ok (.aaload, 1) := by decide +kernel
theorem dX11_canvasEight_104 : decode cX11_canvasEight 104 = .ok (.getfield 329, 3) := by decide +kernel
theorem dX11_canvasEight_107 : decode cX11_canvasEight 107 = .ok (.bipush 32, 2) := by decide +kernel
theorem dX11_canvasEight_109 : decode cX11_canvasEight 109 = .ok (.iload_n 3, 1) := by decide +kernel
theorem dX11_canvasEight_110 : decode cX11_canvasEight 110 = .ok (.imul, 1) := by decide +kernel
theorem dX11_canvasEight_111 : decode cX11_canvasEight 111 = .ok (.iload 6, 2) := by decide +kernel
theorem dX11_canvasEight_113 : decode cX11_canvasEight 113 = .ok (.iadd, 1) := by decide +kernel
theorem dX11_canvasEight_114 : decode cX11_canvasEight 114 = .ok (.iaload, 1) := by decide +kernel
theorem dX11_canvasEight_115 : decode cX11_canvasEight 115 = .ok (.goto 4, 3) := by decide +kernel
theorem dX11_canvasEight_118 : decode cX11_canvasEight 118 = .ok (.iconst 0, 1) := by decide +kernel
theorem dX11_canvasEight_119 : decode cX11_canvasEight 119 = .ok (.i2l, 1) := by decide +kernel
theorem dX11_canvasEight_120 : decode cX11_canvasEight 120 = .ok (.lor, 1) := by decide +kernel
theorem dX11_canvasEight_121 : decode cX11_canvasEight 121 = .ok (.lstore 4, 2) := by decide +kernel
theorem dX11_canvasEight_123 : decode cX11_canvasEight 123 = .ok (.iinc 6 1, 3) := by decide +kernel
theorem dX11_canvasEight_126 : decode cX11_canvasEight 126 = .ok (.goto (-73), 3) := by decide +kernel
theorem dX11_canvasEight_129 : decode cX11_canvasEight 129 = .ok (.lload 4, 2) := by decide +kernel
theorem dX11_canvasEight_131 : decode cX11_canvasEight 131 = .ok (.lreturn, 1) := by decide +kernel
set_option maxRecDepth 100000 in
set_option maxHeartbeats 4000000 in
theorem eX11_canvasEight_119 {X : px_X} {k53 : Nat → Int32 → Int32 → Int32 → Int64 → Int32 → px_W → Option (Int64 × px_W)} (hk53 : ∀ (a0 : Nat) (a1 : Int32) (a2 : Int32) (a3 : Int32) (a4 : Int64) (a6 : Int32) (w : px_W) (q : Int64 × px_W), k53 a0 a1 a2 a3 a4 a6 w = some q → EV X mX11_canvasEight 53 [(0, .ref a0), (1, .int a1), (2, .int a2), (3, .int a3), (4, .long a4), (6, .int a6)] [] w (some (.long q.1)) q.2) : ∀ (a0 : Nat) (a1 : Int32) (a2 : Int32) (a3 : Int32) (a6 : Int32) (s0 : Int32) (s1 : Int64) (w : px_W) (q : Int64 × px_W), fX11_canvasEight_119 X k53 a0 a1 a2 a3 a6 s0 s1 w = some q → EV X mX11_canvasEight 119 [(0, .ref a0), (1, .int a1), (2, .int a2), (3, .int a3), (6, .int a6)] [.int s0, .long s1] w (some (.long q.1)) q.2 := by
  intro a0 a1 a2 a3 a6 s0 s1 w q h
  unfold fX11_canvasEight_119 at h
  refine EV.i2l dX11_canvasEight_119 ?_
  refine EV.lor dX11_canvasEight_120 ?_
  refine EV.lstore [(4, .long (s1 ||| s0.toInt64)), (0, .ref a0), (1, .int a1), (2, .int a2), (3, .int a3), (6, .int a6)] dX11_canvasEight_121 (by decide) rfl ?_
  refine EV.iinc 5 (a6 + 1) [(6, .int (a6 + 1)), (4, .long (s1 ||| s0.toInt64)), (0, .ref a0), (1, .int a1), (2, .int a2), (3, .int a3)] dX11_canvasEight_123 rfl rfl (by decide) rfl ?_
  refine EV.goto 53 dX11_canvasEight_126 (by decide) ?_
  refine EV.sub [2, 3, 4, 5, 1, 0] rfl ?_
  exact hk53 _ _ _ _ _ _ _ _ h
set_option maxRecDepth 100000 in
set_option maxHeartbeats 4000000 in
theorem eX11_canvasEight_86 {X : px_X} {k53 : Nat → Int32 → Int32 → Int32 → Int64 → Int32 → px_W → Option (Int64 × px_W)} (hk53 : ∀ (a0 : Nat) (a1 : Int32) (a2 : Int32) (a3 : Int32) (a4 : Int64) (a6 : Int32) (w : px_W) (q : Int64 × px_W), k53 a0 a1 a2 a3 a4 a6 w = some q → EV X mX11_canvasEight 53 [(0, .ref a0), (1, .int a1), (2, .int a2), (3, .int a3), (4, .long a4), (6, .int a6)] [] w (some (.long q.1)) q.2) : ∀ (a0 : Nat) (a1 : Int32) (a2 : Int32) (a3 : Int32) (a4 : Int64) (a6 : Int32) (s0 : Int32) (w : px_W) (q : Int64 × px_W), fX11_canvasEight_86 X k53 a0 a1 a2 a3 a4 a6 s0 w = some q → EV X mX11_canvasEight 86 [(0, .ref a0), (1, .int a1), (2, .int a2), (3, .int a3), (4, .long a4), (6, .int a6)] [.int s0] w (some (.long q.1)) q.2 := by
  intro a0 a1 a2 a3 a4 a6 s0 w q h
  unfold fX11_canvasEight_86 at h
  refine EV.istore [(7, .int s0), (0, .ref a0), (1, .int a1), (2, .int a2), (3, .int a3), (4, .long a4), (6, .int a6)] dX11_canvasEight_86 (by decide) rfl ?_
  refine EV.lload 5 dX11_canvasEight_88 rfl ?_
  refine EV.bipush (8) dX11_canvasEight_90 (by decide) ?_
  refine EV.lshl dX11_canvasEight_92 ?_
  refine EV.iload 0 dX11_canvasEight_93 rfl ?_
  refine EV.if_eq 118 dX11_canvasEight_95 (by decide) (fun c14 => ?_) (fun c14 => ?_)
  · rw [if_pos c14] at h
    refine EV.iconst (0) dX11_canvasEight_118 (by decide) ?_
    refine EV.sub [1, 2, 3, 4, 6] rfl ?_
    exact eX11_canvasEight_119 hk53 _ _ _ _ _ _ _ _ _ h
  · rw [if_neg c14] at h
    refine EV.aload_n 1 dX11_canvasEight_98 rfl rfl ?_
    obtain ⟨v15, gv15, h⟩ := px_bs h
    refine ev_gR dX11_canvasEight_99 flRX11_34 gv15 ?_
    refine EV.iload_n 2 dX11_canvasEight_102 rfl rfl ?_
    obtain ⟨v16, gv16, h⟩ := px_bs h
    refine ev_aQ dX11_canvasEight_103 (t := 6) rfl gv16 ?_
    obtain ⟨v17, gv17, h⟩ := px_bs h
    refine ev_gR dX11_canvasEight_104 flRX11_329 gv17 ?_
    refine EV.bipush (32) dX11_canvasEight_107 (by decide) ?_
    refine EV.iload_n 4 dX11_canvasEight_109 rfl rfl ?_
    refine EV.imul dX11_canvasEight_110 ?_
    refine EV.iload 6 dX11_canvasEight_111 rfl ?_
    refine EV.iadd dX11_canvasEight_113 ?_
    obtain ⟨v18, gv18, h⟩ := px_bs h
    refine ev_aI dX11_canvasEight_114 gv18 ?_
    refine EV.goto 119 dX11_canvasEight_115 (by decide) ?_
    refine EV.sub [1, 2, 3, 4, 6] rfl ?_
    exact eX11_canvasEight_119 hk53 _ _ _ _ _ _ _ _ _ h
set_option maxRecDepth 100000 in
set_option maxHeartbeats 4000000 in
theorem eX11_canvasEight_85 {X : px_X} {k53 : Nat → Int32 → Int32 → Int32 → Int64 → Int32 → px_W → Option (Int64 × px_W)} (hk53 : ∀ (a0 : Nat) (a1 : Int32) (a2 : Int32) (a3 : Int32) (a4 : Int64) (a6 : Int32) (w : px_W) (q : Int64 × px_W), k53 a0 a1 a2 a3 a4 a6 w = some q → EV X mX11_canvasEight 53 [(0, .ref a0), (1, .int a1), (2, .int a2), (3, .int a3), (4, .long a4), (6, .int a6)] [] w (some (.long q.1)) q.2) : ∀ (a0 : Nat) (a1 : Int32) (a2 : Int32) (a3 : Int32) (a4 : Int64) (a6 : Int32) (w : px_W) (q : Int64 × px_W), fX11_canvasEight_85 X k53 a0 a1 a2 a3 a4 a6 w = some q → EV X mX11_canvasEight 85 [(0, .ref a0), (1, .int a1), (2, .int a2), (3, .int a3), (4, .long a4), (6, .int a6)] [] w (some (.long q.1)) q.2 := by
  intro a0 a1 a2 a3 a4 a6 w q h
  unfold fX11_canvasEight_85 at h
  refine EV.iconst (0) dX11_canvasEight_85 (by decide) ?_
  refine EV.sub [0, 1, 2, 3, 4, 5] rfl ?_
  exact eX11_canvasEight_86 hk53 _ _ _ _ _ _ _ _ _ h
set_option maxRecDepth 100000 in
set_option maxHeartbeats 4000000 in
theorem eX11_canvasEight_53 {X : px_X}  : ∀ (m : Nat) (a0 : Nat) (a1 : Int32) (a2 : Int32) (a3 : Int32) (a4 : Int64) (a6 : Int32) (w : px_W) (q : Int64 × px_W), fX11_canvasEight_53 X  m a0 a1 a2 a3 a4 a6 w = some q → EV X mX11_canvasEight 53 [(0, .ref a0), (1, .int a1), (2, .int a2), (3, .int a3), (4, .long a4), (6, .int a6)] [] w (some (.long q.1)) q.2 := by
  intro m
  induction m with
  | zero => intro a0 a1 a2 a3 a4 a6 w q h; cases h
  | succ m ih =>
    intro a0 a1 a2 a3 a4 a6 w q h
    rw [fX11_canvasEight_53.eq_2] at h
    refine EV.iload 5 dX11_canvasEight_53 rfl ?_
    refine EV.iload_n 2 dX11_canvasEight_55 rfl rfl ?_
    refine EV.bipush (8) dX11_canvasEight_56 (by decide) ?_
    refine EV.iadd dX11_canvasEight_58 ?_
    refine EV.icmp_ge 129 dX11_canvasEight_59 (by decide) (fun c19 => ?_) (fun c19 => ?_)
    · rw [if_pos c19] at h
      refine EV.lload 4 dX11_canvasEight_129 rfl ?_
      cases h
      exact EV.retl dX11_canvasEight_131 trivial
    · rw [if_neg c19] at h
      refine EV.iload 5 dX11_canvasEight_62 rfl ?_
      refine EV.if_lt 85 dX11_canvasEight_64 (by decide) (fun c20 => ?_) (fun c20 => ?_)
      · rw [if_pos c20] at h
        refine EV.sub [0, 1, 2, 3, 4, 5] rfl ?_
        exact eX11_canvasEight_85 ih _ _ _ _ _ _ _ _ h
      · rw [if_neg c20] at h
        refine EV.iload 5 dX11_canvasEight_67 rfl ?_
        refine EV.aload_n 0 dX11_canvasEight_69 rfl rfl ?_
        obtain ⟨v21, gv21, h⟩ := px_bs h
        refine ev_gR dX11_canvasEight_70 flRX11_34 gv21 ?_
        refine EV.iload_n 1 dX11_canvasEight_73 rfl rfl ?_
        obtain ⟨v22, gv22, h⟩ := px_bs h
        refine ev_aQ dX11_canvasEight_74 (t := 6) rfl gv22 ?_
        obtain ⟨v23, gv23, h⟩ := px_bs h
        refine ev_gI dX11_canvasEight_75 flRX11_274 gv23 ?_
        refine EV.icmp_ge 85 dX11_canvasEight_78 (by decide) (fun c24 => ?_) (fun c24 => ?_)
        · rw [if_pos c24] at h
          refine EV.sub [0, 1, 2, 3, 4, 5] rfl ?_
          exact eX11_canvasEight_85 ih _ _ _ _ _ _ _ _ h
        · rw [if_neg c24] at h
          refine EV.iconst (1) dX11_canvasEight_81 (by decide) ?_
          refine EV.goto 86 dX11_canvasEight_82 (by decide) ?_
          refine EV.sub [0, 1, 2, 3, 4, 5] rfl ?_
          exact eX11_canvasEight_86 ih _ _ _ _ _ _ _ _ _ h
set_option maxRecDepth 100000 in
set_option maxHeartbeats 4000000 in
theorem eX11_canvasEight {X : px_X} {w : px_W} {a0 : Nat} {a1 : Int32} {a2 : Int32} {a3 : Int32} {q : Int64 × px_W} (h : fX11_canvasEight X w a0 a1 a2 a3 = some q) : EV X mX11_canvasEight 0 (lv_args 0 [.ref a0, .int a1, .int a2, .int a3]) [] w (some (.long q.1)) q.2 := by
  unfold fX11_canvasEight at h
  show EV X mX11_canvasEight 0 [(0, .ref a0), (1, .int a1), (2, .int a2), (3, .int a3)] [] w (some (.long q.1)) q.2
  refine EV.iload_n 1 dX11_canvasEight_0 rfl rfl ?_
  refine EV.if_lt 45 dX11_canvasEight_1 (by decide) (fun c25 => ?_) (fun c25 => ?_)
  · rw [if_pos c25] at h
    refine EV.lconst (0) dX11_canvasEight_45 (by decide) ?_
    cases h
    exact EV.retl dX11_canvasEight_46 trivial
  · rw [if_neg c25] at h
    refine EV.iload_n 1 dX11_canvasEight_4 rfl rfl ?_
    refine EV.iconst (3) dX11_canvasEight_5 (by decide) ?_
    refine EV.icmp_gt 45 dX11_canvasEight_6 (by decide) (fun c26 => ?_) (fun c26 => ?_)
    · rw [if_pos c26] at h
      refine EV.lconst (0) dX11_canvasEight_45 (by decide) ?_
      cases h
      exact EV.retl dX11_canvasEight_46 trivial
    · rw [if_neg c26] at h
      refine EV.iload_n 2 dX11_canvasEight_9 rfl rfl ?_
      refine EV.bipush ((-7)) dX11_canvasEight_10 (by decide) ?_
      refine EV.icmp_lt 45 dX11_canvasEight_12 (by decide) (fun c27 => ?_) (fun c27 => ?_)
      · rw [if_pos c27] at h
        refine EV.lconst (0) dX11_canvasEight_45 (by decide) ?_
        cases h
        exact EV.retl dX11_canvasEight_46 trivial
      · rw [if_neg c27] at h
        refine EV.iload_n 2 dX11_canvasEight_15 rfl rfl ?_
        refine EV.aload_n 0 dX11_canvasEight_16 rfl rfl ?_
        obtain ⟨v28, gv28, h⟩ := px_bs h
        refine ev_gR dX11_canvasEight_17 flRX11_34 gv28 ?_
        refine EV.iload_n 1 dX11_canvasEight_20 rfl rfl ?_
        obtain ⟨v29, gv29, h⟩ := px_bs h
        refine ev_aQ dX11_canvasEight_21 (t := 6) rfl gv29 ?_
        obtain ⟨v30, gv30, h⟩ := px_bs h
        refine ev_gI dX11_canvasEight_22 flRX11_274 gv30 ?_
        refine EV.icmp_ge 45 dX11_canvasEight_25 (by decide) (fun c31 => ?_) (fun c31 => ?_)
        · rw [if_pos c31] at h
          refine EV.lconst (0) dX11_canvasEight_45 (by decide) ?_
          cases h
          exact EV.retl dX11_canvasEight_46 trivial
        · rw [if_neg c31] at h
          refine EV.iload_n 3 dX11_canvasEight_28 rfl rfl ?_
          refine EV.if_lt 45 dX11_canvasEight_29 (by decide) (fun c32 => ?_) (fun c32 => ?_)
          · rw [if_pos c32] at h
            refine EV.lconst (0) dX11_canvasEight_45 (by decide) ?_
            cases h
            exact EV.retl dX11_canvasEight_46 trivial
          · rw [if_neg c32] at h
            refine EV.iload_n 3 dX11_canvasEight_32 rfl rfl ?_
            refine EV.aload_n 0 dX11_canvasEight_33 rfl rfl ?_
            obtain ⟨v33, gv33, h⟩ := px_bs h
            refine ev_gR dX11_canvasEight_34 flRX11_34 gv33 ?_
            refine EV.iload_n 1 dX11_canvasEight_37 rfl rfl ?_
            obtain ⟨v34, gv34, h⟩ := px_bs h
            refine ev_aQ dX11_canvasEight_38 (t := 6) rfl gv34 ?_
            obtain ⟨v35, gv35, h⟩ := px_bs h
            refine ev_gI dX11_canvasEight_39 flRX11_280 gv35 ?_
            refine EV.icmp_lt 47 dX11_canvasEight_42 (by decide) (fun c36 => ?_) (fun c36 => ?_)
            · rw [if_pos c36] at h
              refine EV.lconst (0) dX11_canvasEight_47 (by decide) ?_
              refine EV.lstore [(4, .long 0), (0, .ref a0), (1, .int a1), (2, .int a2), (3, .int a3)] dX11_canvasEight_48 (by decide) rfl ?_
              refine EV.iload_n 3 dX11_canvasEight_50 rfl rfl ?_
              refine EV.istore [(6, .int a2), (4, .long 0), (0, .ref a0), (1, .int a1), (2, .int a2), (3, .int a3)] dX11_canvasEight_51 (by decide) rfl ?_
              refine EV.sub [2, 3, 4, 5, 1, 0] rfl ?_
              exact eX11_canvasEight_53  FU _ _ _ _ _ _ _ _ h
            · rw [if_neg c36] at h
              refine EV.lconst (0) dX11_canvasEight_45 (by decide) ?_
              cases h
              exact EV.retl dX11_canvasEight_46 trivial
/-! WavePictures.limit(I)I -/
theorem dX11_limit_0 : decode cX11_limit 0 = .ok (.iconst 0, 1) := by decide +kernel
theorem dX11_limit_1 : decode cX11_limit 1 = .ok (.sipush 255, 3) := by decide +kernel
theorem dX11_limit_4 : decode cX11_limit 4 = .ok (.iload_n 0, 1) := by decide +kernel
theorem dX11_limit_5 : decode cX11_limit 5 = .ok (.invokestatic 269, 3) := by decide +kernel
theorem dX11_limit_8 : decode cX11_limit 8 = .ok (.invokestatic 362, 3) := by decide +kernel
theorem dX11_limit_11 : decode cX11_limit 11 = .ok (.ireturn, 1) := by decide +kernel
set_option maxRecDepth 100000 in
set_option maxHeartbeats 4000000 in
theorem eX11_limit {X : px_X} {w : px_W} {a0 : Int32} {q : Int32 × px_W} (h : fX11_limit X w a0 = some q) : EV X mX11_limit 0 (lv_args 0 [.int a0]) [] w (some (.int q.1)) q.2 := by
  unfold fX11_limit at h
  show EV X mX11_limit 0 [(0, .int a0)] [] w (some (.int q.1)) q.2
  refine EV.iconst (0) dX11_limit_0 (by decide) ?_
  refine EV.sipush (255) dX11_limit_1 (by decide) ?_
  refine EV.iload_n 0 dX11_limit_4 rfl rfl ?_
  refine EV.mmin dX11_limit_5 (tb5 (List.mem_of_getElem? (i := 179) rfl)) (by decide) (by decide) (Nat.le_of_ble_eq_true rfl) ?_
  refine EV.mmax dX11_limit_8 (tb6 (List.mem_of_getElem? (i := 57) rfl)) (by decide) (by decide) (Nat.le_of_ble_eq_true rfl) ?_
  cases h
  exact EV.reti dX11_limit_11 rfl
/-! WavePictures.setMix(IIII)V -/
theorem dX11_setMix_0 : decode cX11_setMix 0 = .ok (.aload_n 0, 1) := by decide +kernel
theorem dX11_setMix_1 : decode cX11_setMix 1 = .ok (.getfield 34, 3) := by decide +kernel
theorem dX11_setMix_4 : decode cX11_setMix 4 = .ok (.iconst 0, 1) := by decide +kernel
theorem dX11_setMix_5 : decode cX11_setMix 5 = .ok (.aaload, 1) := by decide +kernel
theorem dX11_setMix_6 : decode cX11_setMix 6 = .ok (.getfield 329, 3) := by decide +kernel
theorem dX11_setMix_9 : decode cX11_setMix 9 = .ok (.iload_n 1, 1) := by decide +kernel
theorem dX11_setMix_10 : decode cX11_setMix 10 = .ok (.iload_n 2, 1) := by decide +kernel
theorem dX11_setMix_11 : decode cX11_setMix 11 = .ok (.iastore, 1) := by decide +kernel
theorem dX11_setMix_12 : decode cX11_setMix 12 = .ok (.aload_n 0, 1) := by decide +kernel
theorem dX11_setMix_13 : decode cX11_setMix 13 = .ok (.getfield 34, 3) := by decide +kernel
theorem dX11_setMix_16 : decode cX11_setMix 16 = .ok (.iconst 1, 1) := by decide +kernel
theorem dX11_setMix_17 : decode cX11_setMix 17 = .ok (.aaload, 1) := by decide +kernel
theorem dX11_setMix_18 : decode cX11_setMix 18 = .ok (.getfield 329, 3) := by decide +kernel
theorem dX11_setMix_21 : decode cX11_setMix 21 = .ok (.iload_n 1, 1) := by decide +kernel
theorem dX11_setMix_22 : decode cX11_setMix 22 = .ok (.iload_n 3, 1) := by decide +kernel
theorem dX11_setMix_23 : decode cX11_setMix 23 = .ok (.iastore, 1) := by decide +kernel
theorem dX11_setMix_24 : decode cX11_setMix 24 = .ok (.aload_n 0, 1) := by decide +kernel
theorem dX11_setMix_25 : decode cX11_setMix 25 = .ok (.getfield 34, 3) := by decide +kernel
theorem dX11_setMix_28 : decode cX11_setMix 28 = .ok (.iconst 2, 1) := by decide +kernel
theorem dX11_setMix_29 : decode cX11_setMix 29 = .ok (.aaload, 1) := by decide +kernel
theorem dX11_setMix_30 : decode cX11_setMix 30 = .ok (.getfield 329, 3) := by decide +kernel
theorem dX11_setMix_33 : decode cX11_setMix 33 = .ok (.iload_n 1, 1) := by decide +kernel
theorem dX11_setMix_34 : decode cX11_setMix 34 = .ok (.iload 4, 2) := by decide +kernel
theorem dX11_setMix_36 : decode cX11_setMix 36 = .ok (.iastore, 1) := by decide +kernel
theorem dX11_setMix_37 : decode cX11_setMix 37 = .ok (.return_, 1) := by decide +kernel
set_option maxRecDepth 100000 in
set_option maxHeartbeats 4000000 in
theorem eX11_setMix {X : px_X} {w : px_W} {a0 : Nat} {a1 : Int32} {a2 : Int32} {a3 : Int32} {a4 : Int32} {q : px_W} (h : fX11_setMix X w a0 a1 a2 a3 a4 = some q) : EV X mX11_setMix 0 (lv_args 0 [.ref a0, .int a1, .int a2, .int a3, .int a4]) [] w none q := by
  unfold fX11_setMix at h
  show EV X mX11_setMix 0 [(0, .ref a0), (1, .int a1), (2, .int a2), (3, .int a3), (4, .int a4)] [] w none q
  refine EV.aload_n 0 dX11_setMix_0 rfl rfl ?_
  obtain ⟨v13, gv13, h⟩ := px_bs h
  refine ev_gR dX11_setMix_1 flRX11_34 gv13 ?_
  refine EV.iconst (0) dX11_setMix_4 (by decide) ?_
  obtain ⟨v14, gv14, h⟩ := px_bs h
  refine ev_aQ dX11_setMix_5 (t := 6) rfl gv14 ?_
  obtain ⟨v15, gv15, h⟩ := px_bs h
  refine ev_gR dX11_setMix_6 flRX11_329 gv15 ?_
  refine EV.iload_n 1 dX11_setMix_9 rfl rfl ?_
  refine EV.iload_n 2 dX11_setMix_10 rfl rfl ?_
  obtain ⟨w16, gw16, h⟩ := px_bs h
  refine ev_sI dX11_setMix_11 gw16 ?_
  refine EV.aload_n 0 dX11_setMix_12 rfl rfl ?_
  obtain ⟨v17, gv17, h⟩ := px_bs h
  refine ev_gR dX11_setMix_13 flRX11_34 gv17 ?_
  refine EV.iconst (1) dX11_setMix_16 (by decide) ?_
  obtain ⟨v18, gv18, h⟩ := px_bs h
  refine ev_aQ dX11_setMix_17 (t := 6) rfl gv18 ?_
  obtain ⟨v19, gv19, h⟩ := px_bs h
  refine ev_gR dX11_setMix_18 flRX11_329 gv19 ?_
  refine EV.iload_n 1 dX11_setMix_21 rfl rfl ?_
  refine EV.iload_n 3 dX11_setMix_22 rfl rfl ?_
  obtain ⟨w20, gw20, h⟩ := px_bs h
  refine ev_sI dX11_setMix_23 gw20 ?_
  refine EV.aload_n 0 dX11_setMix_24 rfl rfl ?_
  obtain ⟨v21, gv21, h⟩ := px_bs h
  refine ev_gR dX11_setMix_25 flRX11_34 gv21 ?_
  refine EV.iconst (2) dX11_setMix_28 (by decide) ?_
  obtain ⟨v22, gv22, h⟩ := px_bs h
  refine ev_aQ dX11_setMix_29 (t := 6) rfl gv22 ?_
  obtain ⟨v23, gv23, h⟩ := px_bs h
  refine ev_gR dX11_setMix_30 flRX11_329 gv23 ?_
  refine EV.iload_n 1 dX11_setMix_33 rfl rfl ?_
  refine EV.iload 4 dX11_setMix_34 rfl ?_
  obtain ⟨w24, gw24, h⟩ := px_bs h
  refine ev_sI dX11_setMix_36 gw24 ?_
  cases h
  exact EV.ret0 dX11_setMix_37 trivial
/-! WavePictures.openMix(I)V -/
theorem dX11_openMix_0 : decode cX11_openMix 0 = .ok (.aload_n 0, 1) := by decide +kernel
theorem dX11_openMix_1 : decode cX11_openMix 1 = .ok (.getfield 34, 3) := by decide +kernel
theorem dX11_openMix_4 : decode cX11_openMix 4 = .ok (.iconst 0, 1) := by decide +kernel
theorem dX11_openMix_5 : decode cX11_openMix 5 = .ok (.aaload, 1) := by decide +kernel
theorem dX11_openMix_6 : decode cX11_openMix 6 = .ok (.getfield 329, 3) := by decide +kernel
theorem dX11_openMix_9 : decode cX11_openMix 9 = .ok (.iload_n 1, 1) := by decide +kernel
theorem dX11_openMix_10 : decode cX11_openMix 10 = .ok (.iaload, 1) := by decide +kernel
theorem dX11_openMix_11 : decode cX11_openMix 11 = .ok (.istore_n 2, 1) := by decide +kernel
theorem dX11_openMix_12 : decode cX11_openMix 12 = .ok (.aload_n 0, 1) := by decide +kernel
theorem dX11_openMix_13 : decode cX11_openMix 13 = .ok (.getfield 34, 3) := by decide +kernel
theorem dX11_openMix_16 : decode cX11_openMix 16 = .ok (.iconst 1, 1) := by decide +kernel
theorem dX11_openMix_17 : decode cX11_openMix 17 = .ok (.aaload, 1) := by decide +kernel
theorem dX11_openMix_18 : decode cX11_openMix 18 = .ok (.getfield 329, 3) := by decide +kernel
theorem dX11_openMix_21 : decode cX11_openMix 21 = .ok (.iload_n 1, 1) := by decide +kernel
theorem dX11_openMix_22 : decode cX11_openMix 22 = .ok (.iaload, 1) := by decide +kernel
theorem dX11_openMix_23 : decode cX11_openMix 23 = .ok (.sipush 128, 3) := by decide +kernel
theorem dX11_openMix_26 : decode cX11_openMix 26 = .ok (.isub, 1) := by decide +kernel
theorem dX11_openMix_27 : decode cX11_openMix 27 = .ok (.istore_n 3, 1) := by decide +kernel
theorem dX11_openMix_28 : decode cX11_openMix 28 = .ok (.aload_n 0, 1) := by decide +kernel
theorem dX11_openMix_29 : decode cX11_openMix 29 = .ok (.getfield 34, 3) := by decide +kernel
theorem dX11_openMix_32 : decode cX11_openMix 32 = .ok (.iconst 2, 1) := by decide +kernel
theorem dX11_openMix_33 : decode cX11_openMix 33 = .ok (.aaload, 1) := by decide +kernel
theorem dX11_openMix_34 : decode cX11_openMix 34 = .ok (.getfield 329, 3) := by decide +kernel
theorem dX11_openMix_37 : decode cX11_openMix 37 = .ok (.iload_n 1, 1) := by decide +kernel
theorem dX11_openMix_38 : decode cX11_openMix 38 = .ok (.iaload, 1) := by decide +kernel
theorem dX11_openMix_39 : decode cX11_openMix 39 = .ok (.sipush 128, 3) := by decide +kernel
theorem dX11_openMix_42 : decode cX11_openMix 42 = .ok (.isub, 1) := by decide +kernel
theorem dX11_openMix_43 : decode cX11_openMix 43 = .ok (.istore 4, 2) := by decide +kernel
theorem dX11_openMix_45 : decode cX11_openMix 45 = .ok (.aload_n 0, 1) := by decide +kernel
theorem dX11_openMix_46 : decode cX11_openMix 46 = .ok (.iload_n 1, 1) := by decide +kernel
theorem dX11_openMix_47 : decode cX11_openMix 47 = .ok (.iload_n 2, 1) := by decide +kernel
theorem dX11_openMix_48 : decode cX11_openMix 48 = .ok (.ldc_w 353, 3) := by decide +kernel
theorem dX11_openMix_51 : decode cX11_openMix 51 = .ok (.iload 4, 2) := by decide +kernel
theorem dX11_openMix_53 : decode cX11_openMix 53 = .ok (.imul, 1) := by decide +kernel
theorem dX11_openMix_54 : decode cX11_openMix 54 = .ok (.ldc_w 354, 3) := by decide +kernel
theorem dX11_openMix_57 : decode cX11_openMix 57 = .ok (.iadd, 1) := by decide +kernel
theorem dX11_openMix_58 : decode cX11_openMix 58 = .ok (.bipush 16, 2) := by decide +kernel
theorem dX11_openMix_60 : decode cX11_openMix 60 = .ok (.ishr, 1) := by decide +kernel
theorem dX11_openMix_61 : decode cX11_openMix 61 = .ok (.iadd, 1) := by decide +kernel
theorem dX11_openMix_62 : decode cX11_openMix 62 = .ok (.invokestatic 355, 3) := by decide +kernel
theorem dX11_openMix_65 : decode cX11_openMix 65 = .ok (.iload_n 2, 1) := by decide +kernel
theorem dX11_openMix_66 : decode cX11_openMix 66 = .ok (.sipush (-22554), 3) := by decide +kernel
theorem dX11_openMix_69 : decode cX11_openMix 69 = .ok (.iload_n 3, 1) := by decide +kernel
theorem dX11_openMix_70 : decode cX11_openMix 70 = .ok (.imul, 1) := by decide +kernel
theorem dX11_openMix_71 : decode cX11_openMix 71 = .ok (.ldc_w 358, 3) := by decide +kernel
theorem dX11_openMix_74 : decode cX11_openMix 74 = .ok (.iload 4, 2) := by decide +kernel
theorem dX11_openMix_76 : decode cX11_openMix 76 = .ok (.imul, 1) := by decide +kernel
theorem dX11_openMix_77 : decode cX11_openMix 77 = .ok (.isub, 1) := by decide +kernel
theorem dX11_openMix_78 : decode cX11_openMix 78 = .ok (.ldc_w 354, 3) := by decide +kernel
theorem dX11_openMix_81 : decode cX11_openMix 81 = .ok (.iadd, 1) := by decide +kernel
theorem dX11_openMix_82 : decode cX11_openMix 82 = .ok (.bipush 16, 2) := by decide +kernel
theorem dX11_openMix_84 : decode cX11_openMix 84 = .ok (.ishr, 1) := by decide +kernel
theorem dX11_openMix_85 : decode cX11_openMix 85 = .ok (.iadd, 1) := by decide +kernel
theorem dX11_openMix_86 : decode cX11_openMix 86 = .ok (.invokestatic 355, 3) := by decide +kernel
theorem dX11_openMix_89 : decode cX11_openMix 89 = .ok (.iload_n 2, 1) := by decide +kernel
theorem dX11_openMix_90 : decode cX11_openMix 90 = .ok (.ldc_w 359, 3) := by decide +kernel
theorem dX11_openMix_93 : decode cX11_openMix 93 = .ok (.iload_n 3, 1) := by decide +kernel
theorem dX11_openMix_94 : decode cX11_openMix 94 = .ok (.imul, 1) := by decide +kernel
theorem dX11_openMix_95 : decode cX11_openMix 95 = .ok (.ldc_w 354, 3) := by decide +kernel
theorem dX11_openMix_98 : decode cX11_openMix 98 = .ok (.iadd, 1) := by decide +kernel
theorem dX11_openMix_99 : decode cX11_openMix 99 = .ok (.bipush 16, 2) := by decide +kernel
theorem dX11_openMix_101 : decode cX11_openMix 101 = .ok (.ishr, 1) := by decide +kernel
theorem dX11_openMix_102 : decode cX11_openMix 102 = .ok (.iadd, 1) := by decide +kernel
theorem dX11_openMix_103 : decode cX11_openMix 103 = .ok (.invokestatic 355, 3) := by decide +kernel
theorem dX11_openMix_106 : decode cX11_openMix 106 = .ok (.invokevirtual 350, 3) := by decide +kernel
theorem dX11_openMix_109 : decode cX11_openMix 109 = .ok (.return_, 1) := by decide +kernel
theorem mbX11_setMix : px_mB mX11_setMix 4 := ⟨tb6 (List.mem_of_getElem? (i := 63) rfl), by decide +kernel, tb1 (List.mem_of_getElem? (i := 1) rfl), by decide +kernel, by decide +kernel⟩
theorem vbX11_setMix : px_vB mX11_setMix := ⟨tb6 (List.mem_of_getElem? (i := 62) rfl), List.mem_append_left _ (List.mem_of_getElem? (i := 80) (by decide +kernel))⟩
theorem kcX11_openMix_350 : px_cV mX11_openMix 350 mX11_setMix 4 := ⟨⟨mbX11_setMix, by decide, by decide⟩, Or.inl (tb6 (List.mem_of_getElem? (i := 60) rfl)), vbX11_setMix⟩
theorem mbX11_limit : px_mB mX11_limit 1 := ⟨tb6 (List.mem_of_getElem? (i := 56) rfl), by decide +kernel, tb1 (List.mem_of_getElem? (i := 1) rfl), by decide +kernel, by decide +kernel⟩
theorem kcX11_openMix_355 : px_cS mX11_openMix 355 mX11_limit 1 := ⟨⟨mbX11_limit, by decide, by decide⟩, Or.inl (tb6 (List.mem_of_getElem? (i := 54) rfl)), tb6 (List.mem_of_getElem? (i := 55) rfl)⟩
set_option maxRecDepth 100000 in
set_option maxHeartbeats 4000000 in
theorem eX11_openMix {X : px_X} {w : px_W} {a0 : Nat} {a1 : Int32} {q : px_W} (h : fX11_openMix X w a0 a1 = some q) : EV X mX11_openMix 0 (lv_args 0 [.ref a0, .int a1]) [] w none q := by
  unfold fX11_openMix at h
  show EV X mX11_openMix 0 [(0, .ref a0), (1, .int a1)] [] w none q
  refine EV.aload_n 0 dX11_openMix_0 rfl rfl ?_
  obtain ⟨v18, gv18, h⟩ := px_bs h
  refine ev_gR dX11_openMix_1 flRX11_34 gv18 ?_
  refine EV.iconst (0) dX11_openMix_4 (by decide) ?_
  obtain ⟨v19, gv19, h⟩ := px_bs h
  refine ev_aQ dX11_openMix_5 (t := 6) rfl gv19 ?_
  obtain ⟨v20, gv20, h⟩ := px_bs h
  refine ev_gR dX11_openMix_6 flRX11_329 gv20 ?_
  refine EV.iload_n 1 dX11_openMix_9 rfl rfl ?_
  obtain ⟨v21, gv21, h⟩ := px_bs h
  refine ev_aI dX11_openMix_10 gv21 ?_
  refine EV.istore_n [(2, .int v21), (0, .ref a0), (1, .int a1)] dX11_openMix_11 rfl (by decide) rfl ?_
  refine EV.aload_n 1 dX11_openMix_12 rfl rfl ?_
  obtain ⟨v22, gv22, h⟩ := px_bs h
  refine ev_gR dX11_openMix_13 flRX11_34 gv22 ?_
  refine EV.iconst (1) dX11_openMix_16 (by decide) ?_
  obtain ⟨v23, gv23, h⟩ := px_bs h
  refine ev_aQ dX11_openMix_17 (t := 6) rfl gv23 ?_
  obtain ⟨v24, gv24, h⟩ := px_bs h
  refine ev_gR dX11_openMix_18 flRX11_329 gv24 ?_
  refine EV.iload_n 2 dX11_openMix_21 rfl rfl ?_
  obtain ⟨v25, gv25, h⟩ := px_bs h
  refine ev_aI dX11_openMix_22 gv25 ?_
  refine EV.sipush (128) dX11_openMix_23 (by decide) ?_
  refine EV.isub dX11_openMix_26 ?_
  refine EV.istore_n [(3, .int (v25 - 128)), (2, .int v21), (0, .ref a0), (1, .int a1)] dX11_openMix_27 rfl (by decide) rfl ?_
  refine EV.aload_n 2 dX11_openMix_28 rfl rfl ?_
  obtain ⟨v26, gv26, h⟩ := px_bs h
  refine ev_gR dX11_openMix_29 flRX11_34 gv26 ?_
  refine EV.iconst (2) dX11_openMix_32 (by decide) ?_
  obtain ⟨v27, gv27, h⟩ := px_bs h
  refine ev_aQ dX11_openMix_33 (t := 6) rfl gv27 ?_
  obtain ⟨v28, gv28, h⟩ := px_bs h
  refine ev_gR dX11_openMix_34 flRX11_329 gv28 ?_
  refine EV.iload_n 3 dX11_openMix_37 rfl rfl ?_
  obtain ⟨v29, gv29, h⟩ := px_bs h
  refine ev_aI dX11_openMix_38 gv29 ?_
  refine EV.sipush (128) dX11_openMix_39 (by decide) ?_
  refine EV.isub dX11_openMix_42 ?_
  refine EV.istore [(4, .int (v29 - 128)), (3, .int (v25 - 128)), (2, .int v21), (0, .ref a0), (1, .int a1)] dX11_openMix_43 (by decide) rfl ?_
  refine EV.aload_n 3 dX11_openMix_45 rfl rfl ?_
  refine EV.iload_n 4 dX11_openMix_46 rfl rfl ?_
  refine EV.iload_n 2 dX11_openMix_47 rfl rfl ?_
  refine EV.ldcw (v := 91881) dX11_openMix_48 (tb6 (List.mem_of_getElem? (i := 52) rfl)) ?_
  refine EV.iload 0 dX11_openMix_51 rfl ?_
  refine EV.imul dX11_openMix_53 ?_
  refine EV.ldcw (v := 32768) dX11_openMix_54 (tb6 (List.mem_of_getElem? (i := 53) rfl)) ?_
  refine EV.iadd dX11_openMix_57 ?_
  refine EV.bipush (16) dX11_openMix_58 (by decide) ?_
  refine EV.ishr dX11_openMix_60 ?_
  refine EV.iadd dX11_openMix_61 ?_
  obtain ⟨q30, gq30, h⟩ := px_bs h
  refine EV.callS (As := [.int (v21 + (((91881 * (v29 - 128)) + 32768) >>> (16 &&& 31)))]) (rest := [.int a1, .ref a0]) dX11_openMix_62 kcX11_openMix_355 rfl (Nat.le_of_ble_eq_true rfl) (Nat.le_of_ble_eq_true rfl) (eX11_limit gq30) ?_
  refine EV.iload_n 2 dX11_openMix_65 rfl rfl ?_
  refine EV.sipush ((-22554)) dX11_openMix_66 (by decide) ?_
  refine EV.iload_n 1 dX11_openMix_69 rfl rfl ?_
  refine EV.imul dX11_openMix_70 ?_
  refine EV.ldcw (v := 46802) dX11_openMix_71 (tb6 (List.mem_of_getElem? (i := 58) rfl)) ?_
  refine EV.iload 0 dX11_openMix_74 rfl ?_
  refine EV.imul dX11_openMix_76 ?_
  refine EV.isub dX11_openMix_77 ?_
  refine EV.ldcw (v := 32768) dX11_openMix_78 (tb6 (List.mem_of_getElem? (i := 53) rfl)) ?_
  refine EV.iadd dX11_openMix_81 ?_
  refine EV.bipush (16) dX11_openMix_82 (by decide) ?_
  refine EV.ishr dX11_openMix_84 ?_
  refine EV.iadd dX11_openMix_85 ?_
  obtain ⟨q31, gq31, h⟩ := px_bs h
  refine EV.callS (As := [.int (v21 + ((((((-22554)) * (v25 - 128)) - (46802 * (v29 - 128))) + 32768) >>> (16 &&& 31)))]) (rest := [.int q30.1, .int a1, .ref a0]) dX11_openMix_86 kcX11_openMix_355 rfl (Nat.le_of_ble_eq_true rfl) (Nat.le_of_ble_eq_true rfl) (eX11_limit gq31) ?_
  refine EV.iload_n 2 dX11_openMix_89 rfl rfl ?_
  refine EV.ldcw (v := 116130) dX11_openMix_90 (tb6 (List.mem_of_getElem? (i := 59) rfl)) ?_
  refine EV.iload_n 1 dX11_openMix_93 rfl rfl ?_
  refine EV.imul dX11_openMix_94 ?_
  refine EV.ldcw (v := 32768) dX11_openMix_95 (tb6 (List.mem_of_getElem? (i := 53) rfl)) ?_
  refine EV.iadd dX11_openMix_98 ?_
  refine EV.bipush (16) dX11_openMix_99 (by decide) ?_
  refine EV.ishr dX11_openMix_101 ?_
  refine EV.iadd dX11_openMix_102 ?_
  obtain ⟨q32, gq32, h⟩ := px_bs h
  refine EV.callS (As := [.int (v21 + (((116130 * (v25 - 128)) + 32768) >>> (16 &&& 31)))]) (rest := [.int q31.1, .int q30.1, .int a1, .ref a0]) dX11_openMix_103 kcX11_openMix_355 rfl (Nat.le_of_ble_eq_true rfl) (Nat.le_of_ble_eq_true rfl) (eX11_limit gq32) ?_
  obtain ⟨o33, go33, h⟩ := px_bs h
  obtain ⟨q34, gq34, h⟩ := px_bs h
  refine EV.callV (As := [.int a1, .int q30.1, .int q31.1, .int q32.1]) (rest := []) dX11_openMix_106 kcX11_openMix_350 (gO_ok go33) rfl rfl rfl (Nat.le_of_ble_eq_true rfl) (Nat.le_of_ble_eq_true rfl) (eX11_setMix gq34) ?_
  cases h
  exact EV.ret0 dX11_openMix_109 trivial
/-! WavePictures.greyAt(I)I -/
theorem dX11_greyAt_0 : decode cX11_greyAt 0 = .ok (.sipush 19595, 3) := by decide +kernel
theorem dX11_greyAt_3 : decode cX11_greyAt 3 = .ok (.aload_n 0, 1) := by decide +kernel
theorem dX11_greyAt_4 : decode cX11_greyAt 4 = .ok (.getfield 34, 3) := by decide +kernel
theorem dX11_greyAt_7 : decode cX11_greyAt 7 = .ok (.iconst 0, 1) := by decide +kernel
theorem dX11_greyAt_8 : decode cX11_greyAt 8 = .ok (.aaload, 1) := by decide +kernel
theorem dX11_greyAt_9 : decode cX11_greyAt 9 = .ok (.getfield 329, 3) := by decide +kernel
theorem dX11_greyAt_12 : decode cX11_greyAt 12 = .ok (.iload_n 1, 1) := by decide +kernel
theorem dX11_greyAt_13 : decode cX11_greyAt 13 = .ok (.iaload, 1) := by decide +kernel
theorem dX11_greyAt_14 : decode cX11_greyAt 14 = .ok (.imul, 1) := by decide +kernel
theorem dX11_greyAt_15 : decode cX11_greyAt 15 = .ok (.ldc_w 361, 3) := by decide +kernel
theorem dX11_greyAt_18 : decode cX11_greyAt 18 = .ok (.aload_n 0, 1) := by decide +kernel
theorem dX11_greyAt_19 : decode cX11_greyAt 19 = .ok (.getfield 34, 3) := by decide +kernel
theorem dX11_greyAt_22 : decode cX11_greyAt 22 = .ok (.iconst 1, 1) := by decide +kernel
theorem dX11_greyAt_23 : decode cX11_greyAt 23 = .ok (.aaload, 1) := by decide +kernel
theorem dX11_greyAt_24 : decode cX11_greyAt 24 = .ok (.getfield 329, 3) := by decide +kernel
theorem dX11_greyAt_27 : decode cX11_greyAt 27 = .ok (.iload_n 1, 1) := by decide +kernel
theorem dX11_greyAt_28 : decode cX11_greyAt 28 = .ok (.iaload, 1) := by decide +kernel
theorem dX11_greyAt_29 : decode cX11_greyAt 29 = .ok (.imul, 1) := by decide +kernel
theorem dX11_greyAt_30 : decode cX11_greyAt 30 = .ok (.iadd, 1) := by decide +kernel
theorem dX11_greyAt_31 : decode cX11_greyAt 31 = .ok (.sipush 7471, 3) := by decide +kernel
theorem dX11_greyAt_34 : decode cX11_greyAt 34 = .ok (.aload_n 0, 1) := by decide +kernel
theorem dX11_greyAt_35 : decode cX11_greyAt 35 = .ok (.getfield 34, 3) := by decide +kernel
theorem dX11_greyAt_38 : decode cX11_greyAt 38 = .ok (.iconst 2, 1) := by decide +kernel
theorem dX11_greyAt_39 : decode cX11_greyAt 39 = .ok (.aaload, 1) := by decide +kernel
theorem dX11_greyAt_40 : decode cX11_greyAt 40 = .ok (.getfield 329, 3) := by decide +kernel
theorem dX11_greyAt_43 : decode cX11_greyAt 43 = .ok (.iload_n 1, 1) := by decide +kernel
theorem dX11_greyAt_44 : decode cX11_greyAt 44 = .ok (.iaload, 1) := by decide +kernel
theorem dX11_greyAt_45 : decode cX11_greyAt 45 = .ok (.imul, 1) := by decide +kernel
theorem dX11_greyAt_46 : decode cX11_greyAt 46 = .ok (.iadd, 1) := by decide +kernel
theorem dX11_greyAt_47 : decode cX11_greyAt 47 = .ok (.ldc_w 354, 3) := by decide +kernel
theorem dX11_greyAt_50 : decode cX11_greyAt 50 = .ok (.iadd, 1) := by decide +kernel
theorem dX11_greyAt_51 : decode cX11_greyAt 51 = .ok (.bipush 16, 2) := by decide +kernel
theorem dX11_greyAt_53 : decode cX11_greyAt 53 = .ok (.ishr, 1) := by decide +kernel
theorem dX11_greyAt_54 : decode cX11_greyAt 54 = .ok (.ireturn, 1) := by decide +kernel
set_option maxRecDepth 100000 in
set_option maxHeartbeats 4000000 in
theorem eX11_greyAt {X : px_X} {w : px_W} {a0 : Nat} {a1 : Int32} {q : Int32 × px_W} (h : fX11_greyAt X w a0 a1 = some q) : EV X mX11_greyAt 0 (lv_args 0 [.ref a0, .int a1]) [] w (some (.int q.1)) q.2 := by
  unfold fX11_greyAt at h
  show EV X mX11_greyAt 0 [(0, .ref a0), (1, .int a1)] [] w (some (.int q.1)) q.2
  refine EV.sipush (19595) dX11_greyAt_0 (by decide) ?_
  refine EV.aload_n 0 dX11_greyAt_3 rfl rfl ?_
  obtain ⟨v13, gv13, h⟩ := px_bs h
  refine ev_gR dX11_greyAt_4 flRX11_34 gv13 ?_
  refine EV.iconst (0) dX11_greyAt_7 (by decide) ?_
  obtain ⟨v14, gv14, h⟩ := px_bs h
  refine ev_aQ dX11_greyAt_8 (t := 6) rfl gv14 ?_
  obtain ⟨v15, gv15, h⟩ := px_bs h
  refine ev_gR dX11_greyAt_9 flRX11_329 gv15 ?_
  refine EV.iload_n 1 dX11_greyAt_12 rfl rfl ?_
  obtain ⟨v16, gv16, h⟩ := px_bs h
  refine ev_aI dX11_greyAt_13 gv16 ?_
  refine EV.imul dX11_greyAt_14 ?_
  refine EV.ldcw (v := 38470) dX11_greyAt_15 (tb6 (List.mem_of_getElem? (i := 72) rfl)) ?_
  refine EV.aload_n 0 dX11_greyAt_18 rfl rfl ?_
  obtain ⟨v17, gv17, h⟩ := px_bs h
  refine ev_gR dX11_greyAt_19 flRX11_34 gv17 ?_
  refine EV.iconst (1) dX11_greyAt_22 (by decide) ?_
  obtain ⟨v18, gv18, h⟩ := px_bs h
  refine ev_aQ dX11_greyAt_23 (t := 6) rfl gv18 ?_
  obtain ⟨v19, gv19, h⟩ := px_bs h
  refine ev_gR dX11_greyAt_24 flRX11_329 gv19 ?_
  refine EV.iload_n 1 dX11_greyAt_27 rfl rfl ?_
  obtain ⟨v20, gv20, h⟩ := px_bs h
  refine ev_aI dX11_greyAt_28 gv20 ?_
  refine EV.imul dX11_greyAt_29 ?_
  refine EV.iadd dX11_greyAt_30 ?_
  refine EV.sipush (7471) dX11_greyAt_31 (by decide) ?_
  refine EV.aload_n 0 dX11_greyAt_34 rfl rfl ?_
  obtain ⟨v21, gv21, h⟩ := px_bs h
  refine ev_gR dX11_greyAt_35 flRX11_34 gv21 ?_
  refine EV.iconst (2) dX11_greyAt_38 (by decide) ?_
  obtain ⟨v22, gv22, h⟩ := px_bs h
  refine ev_aQ dX11_greyAt_39 (t := 6) rfl gv22 ?_
  obtain ⟨v23, gv23, h⟩ := px_bs h
  refine ev_gR dX11_greyAt_40 flRX11_329 gv23 ?_
  refine EV.iload_n 1 dX11_greyAt_43 rfl rfl ?_
  obtain ⟨v24, gv24, h⟩ := px_bs h
  refine ev_aI dX11_greyAt_44 gv24 ?_
  refine EV.imul dX11_greyAt_45 ?_
  refine EV.iadd dX11_greyAt_46 ?_
  refine EV.ldcw (v := 32768) dX11_greyAt_47 (tb6 (List.mem_of_getElem? (i := 53) rfl)) ?_
  refine EV.iadd dX11_greyAt_50 ?_
  refine EV.bipush (16) dX11_greyAt_51 (by decide) ?_
  refine EV.ishr dX11_greyAt_53 ?_
  cases h
  exact EV.reti dX11_greyAt_54 rfl
/-! WavePictures.closeMix(I)V -/
theorem dX11_closeMix_0 : decode cX11_closeMix 0 = .ok (.aload_n 0, 1) := by decide +kernel
theorem dX11_closeMix_1 : decode cX11_closeMix 1 = .ok (.getfield 34, 3) := by decide +kernel
theorem dX11_closeMix_4 : decode cX11_closeMix 4 = .ok (.iconst 0, 1) := by decide +kernel
theorem dX11_closeMix_5 : decode cX11_closeMix 5 = .ok (.aaload, 1) := by decide +kernel
theorem dX11_closeMix_6 : decode cX11_closeMix 6 = .ok (.getfield 329, 3) := by decide +kernel
theorem dX11_closeMix_9 : decode cX11_closeMix 9 = .ok (.iload_n 1, 1) := by decide +kernel
theorem dX11_closeMix_10 : decode cX11_closeMix 10 = .ok (.iaload, 1) := by decide +kernel
theorem dX11_closeMix_11 : decode cX11_closeMix 11 = .ok (.istore_n 2, 1) := by decide +kernel
theorem dX11_closeMix_12 : decode cX11_closeMix 12 = .ok (.aload_n 0, 1) := by decide +kernel
theorem dX11_closeMix_13 : decode cX11_closeMix 13 = .ok (.getfield 34, 3) := by decide +kernel
theorem dX11_closeMix_16 : decode cX11_closeMix 16 = .ok (.iconst 1, 1) := by decide +kernel
theorem dX11_closeMix_17 : decode cX11_closeMix 17 = .ok (.aaload, 1) := by decide +kernel
theorem dX11_closeMix_18 : decode cX11_closeMix 18 = .ok (.getfield 329, 3) := by decide +kernel
theorem dX11_closeMix_21 : decode cX11_closeMix 21 = .ok (.iload_n 1, 1) := by decide +kernel
theorem dX11_closeMix_22 : decode cX11_closeMix 22 = .ok (.iaload, 1) := by decide +kernel
theorem dX11_closeMix_23 : decode cX11_closeMix 23 = .ok (.istore_n 3, 1) := by decide +kernel
theorem dX11_closeMix_24 : decode cX11_closeMix 24 = .ok (.aload_n 0, 1) := by decide +kernel
theorem dX11_closeMix_25 : decode cX11_closeMix 25 = .ok (.getfield 34, 3) := by decide +kernel
theorem dX11_closeMix_28 : decode cX11_closeMix 28 = .ok (.iconst 2, 1) := by decide +kernel
theorem dX11_closeMix_29 : decode cX11_closeMix 29 = .ok (.aaload, 1) := by decide +kernel
theorem dX11_closeMix_30 : decode cX11_closeMix 30 = .ok (.getfield 329, 3) := by decide +kernel
theorem dX11_closeMix_33 : decode cX11_closeMix 33 = .ok (.iload_n 1, 1) := by decide +kernel
theorem dX11_closeMix_34 : decode cX11_closeMix 34 = .ok (.iaload, 1) := by decide +kernel
theorem dX11_closeMix_35 : decode cX11_closeMix 35 = .ok (.istore 4, 2) := by decide +kernel
theorem dX11_closeMix_37 : decode cX11_closeMix 37 = .ok (.aload_n 0, 1) := by decide +kernel
theorem dX11_closeMix_38 : decode cX11_closeMix 38 = .ok (.iload_n 1, 1) := by decide +kernel
theorem dX11_closeMix_39 : decode cX11_closeMix 39 = .ok (.aload_n 0, 1) := by decide +kernel
theorem dX11_closeMix_40 : decode cX11_closeMix 40 = .ok (.iload_n 1, 1) := by decide +kernel
theorem dX11_closeMix_41 : decode cX11_closeMix 41 = .ok (.invokevirtual 347, 3) := by decide +kernel
theorem dX11_closeMix_44 : decode cX11_closeMix 44 = .ok (.sipush (-11059), 3) := by decide +kernel
theorem dX11_closeMix_47 : decode cX11_closeMix 47 = .ok (.iload_n 2, 1) := by decide +kernel
theorem dX11_closeMix_48 : decode cX11_closeMix 48 = .ok (.imul, 1) := by decide +kernel
theorem dX11_closeMix_49 : decode cX11_closeMix 49 = .ok (.sipush 21709, 3) := by decide +kernel
theorem dX11_closeMix_52 : decode cX11_closeMix 52 = .ok (.iload_n 3, 1) := by decide +kernel
theorem dX11_closeMix_53 : decode cX11_closeMix 53 = .ok (.imul, 1) := by decide +kernel
theorem dX11_closeMix_54 : decode cX11_closeMix 54 = .ok (.isub, 1) := by decide +kernel
theorem dX11_closeMix_55 : decode cX11_closeMix 55 = .ok (.ldc_w 354, 3) := by decide +kernel
theorem dX11_closeMix_58 : decode cX11_closeMix 58 = .ok (.iload 4, 2) := by decide +kernel
theorem dX11_closeMix_60 : decode cX11_closeMix 60 = .ok (.imul, 1) := by decide +kernel
theorem dX11_closeMix_61 : decode cX11_closeMix 61 = .ok (.iadd, 1) := by decide +kernel
theorem dX11_closeMix_62 : decode cX11_closeMix 62 = .ok (.ldc_w 360, 3) := by decide +kernel
theorem dX11_closeMix_65 : decode cX11_closeMix 65 = .ok (.iadd, 1) := by decide +kernel
theorem dX11_closeMix_66 : decode cX11_closeMix 66 = .ok (.bipush 16, 2) := by decide +kernel
theorem dX11_closeMix_68 : decode cX11_closeMix 68 = .ok (.ishr, 1) := by decide +kernel
theorem dX11_closeMix_69 : decode cX11_closeMix 69 = .ok (.ldc_w 354, 3) := by decide +kernel
theorem dX11_closeMix_72 : decode cX11_closeMix 72 = .ok (.iload_n 2, 1) := by decide +kernel
theorem dX11_closeMix_73 : decode cX11_closeMix 73 = .ok (.imul, 1) := by decide +kernel
theorem dX11_closeMix_74 : decode cX11_closeMix 74 = .ok (.sipush 27439, 3) := by decide +kernel
theorem dX11_closeMix_77 : decode cX11_closeMix 77 = .ok (.iload_n 3, 1) := by decide +kernel
theorem dX11_closeMix_78 : decode cX11_closeMix 78 = .ok (.imul, 1) := by decide +kernel
theorem dX11_closeMix_79 : decode cX11_closeMix 79 = .ok (.isub, 1) := by decide +kernel
theorem dX11_closeMix_80 : decode cX11_closeMix 80 = .ok (.sipush 5329, 3) := by decide +kernel
theorem dX11_closeMix_83 : decode cX11_closeMix 83 = .ok (.iload 4, 2) := by decide +kernel
theorem dX11_closeMix_85 : decode cX11_closeMix 85 = .ok (.imul, 1) := by decide +kernel
theorem dX11_closeMix_86 : decode cX11_closeMix 86 = .ok (.isub, 1) := by decide +kernel
theorem dX11_closeMix_87 : decode cX11_closeMix 87 = .ok (.ldc_w 360, 3) := by decide +kernel
theorem dX11_closeMix_90 : decode cX11_closeMix 90 = .ok (.iadd, 1) := by decide +kernel
theorem dX11_closeMix_91 : decode cX11_closeMix 91 = .ok (.bipush 16, 2) := by decide +kernel
theorem dX11_closeMix_93 : decode cX11_closeMix 93 = .ok (.ishr, 1) := by decide +kernel
theorem dX11_closeMix_94 : decode cX11_closeMix 94 = .ok (.invokevirtual 350, 3) := by decide +kernel
theorem dX11_closeMix_97 : decode cX11_closeMix 97 = .ok (.return_, 1) := by decide +kernel
theorem mbX11_greyAt : px_mB mX11_greyAt 1 := ⟨tb6 (List.mem_of_getElem? (i := 71) rfl), by decide +kernel, tb1 (List.mem_of_getElem? (i := 1) rfl), by decide +kernel, by decide +kernel⟩
theorem vbX11_greyAt : px_vB mX11_greyAt := ⟨tb6 (List.mem_of_getElem? (i := 70) rfl), List.mem_append_left _ (List.mem_of_getElem? (i := 82) (by decide +kernel))⟩
theorem kcX11_closeMix_347 : px_cV mX11_closeMix 347 mX11_greyAt 1 := ⟨⟨mbX11_greyAt, by decide, by decide⟩, Or.inl (tb6 (List.mem_of_getElem? (i := 68) rfl)), vbX11_greyAt⟩
theorem kcX11_closeMix_350 : px_cV mX11_closeMix 350 mX11_setMix 4 := ⟨⟨mbX11_setMix, by decide, by decide⟩, Or.inl (tb6 (List.mem_of_getElem? (i := 60) rfl)), vbX11_setMix⟩
set_option maxRecDepth 100000 in
set_option maxHeartbeats 4000000 in
theorem eX11_closeMix {X : px_X} {w : px_W} {a0 : Nat} {a1 : Int32} {q : px_W} (h : fX11_closeMix X w a0 a1 = some q) : EV X mX11_closeMix 0 (lv_args 0 [.ref a0, .int a1]) [] w none q := by
  unfold fX11_closeMix at h
  show EV X mX11_closeMix 0 [(0, .ref a0), (1, .int a1)] [] w none q
  refine EV.aload_n 0 dX11_closeMix_0 rfl rfl ?_
  obtain ⟨v17, gv17, h⟩ := px_bs h
  refine ev_gR dX11_closeMix_1 flRX11_34 gv17 ?_
  refine EV.iconst (0) dX11_closeMix_4 (by decide) ?_
  obtain ⟨v18, gv18, h⟩ := px_bs h
  refine ev_aQ dX11_closeMix_5 (t := 6) rfl gv18 ?_
  obtain ⟨v19, gv19, h⟩ := px_bs h
  refine ev_gR dX11_closeMix_6 flRX11_329 gv19 ?_
  refine EV.iload_n 1 dX11_closeMix_9 rfl rfl ?_
  obtain ⟨v20, gv20, h⟩ := px_bs h
  refine ev_aI dX11_closeMix_10 gv20 ?_
  refine EV.istore_n [(2, .int v20), (0, .ref a0), (1, .int a1)] dX11_closeMix_11 rfl (by decide) rfl ?_
  refine EV.aload_n 1 dX11_closeMix_12 rfl rfl ?_
  obtain ⟨v21, gv21, h⟩ := px_bs h
  refine ev_gR dX11_closeMix_13 flRX11_34 gv21 ?_
  refine EV.iconst (1) dX11_closeMix_16 (by decide) ?_
  obtain ⟨v22, gv22, h⟩ := px_bs h
  refine ev_aQ dX11_closeMix_17 (t := 6) rfl gv22 ?_
  obtain ⟨v23, gv23, h⟩ := px_bs h
  refine ev_gR dX11_closeMix_18 flRX11_329 gv23 ?_
  refine EV.iload_n 2 dX11_closeMix_21 rfl rfl ?_
  obtain ⟨v24, gv24, h⟩ := px_bs h
  refine ev_aI dX11_closeMix_22 gv24 ?_
  refine EV.istore_n [(3, .int v24), (2, .int v20), (0, .ref a0), (1, .int a1)] dX11_closeMix_23 rfl (by decide) rfl ?_
  refine EV.aload_n 2 dX11_closeMix_24 rfl rfl ?_
  obtain ⟨v25, gv25, h⟩ := px_bs h
  refine ev_gR dX11_closeMix_25 flRX11_34 gv25 ?_
  refine EV.iconst (2) dX11_closeMix_28 (by decide) ?_
  obtain ⟨v26, gv26, h⟩ := px_bs h
  refine ev_aQ dX11_closeMix_29 (t := 6) rfl gv26 ?_
  obtain ⟨v27, gv27, h⟩ := px_bs h
  refine ev_gR dX11_closeMix_30 flRX11_329 gv27 ?_
  refine EV.iload_n 3 dX11_closeMix_33 rfl rfl ?_
  obtain ⟨v28, gv28, h⟩ := px_bs h
  refine ev_aI dX11_closeMix_34 gv28 ?_
  refine EV.istore [(4, .int v28), (3, .int v24), (2, .int v20), (0, .ref a0), (1, .int a1)] dX11_closeMix_35 (by decide) rfl ?_
  refine EV.aload_n 3 dX11_closeMix_37 rfl rfl ?_
  refine EV.iload_n 4 dX11_closeMix_38 rfl rfl ?_
  refine EV.aload_n 3 dX11_closeMix_39 rfl rfl ?_
  refine EV.iload_n 4 dX11_closeMix_40 rfl rfl ?_
  obtain ⟨o29, go29, h⟩ := px_bs h
  obtain ⟨q30, gq30, h⟩ := px_bs h
  refine EV.callV (As := [.int a1]) (rest := [.int a1, .ref a0]) dX11_closeMix_41 kcX11_closeMix_347 (gO_ok go29) rfl rfl rfl (Nat.le_of_ble_eq_true rfl) (Nat.le_of_ble_eq_true rfl) (eX11_greyAt gq30) ?_
  refine EV.sipush ((-11059)) dX11_closeMix_44 (by decide) ?_
  refine EV.iload_n 2 dX11_closeMix_47 rfl rfl ?_
  refine EV.imul dX11_closeMix_48 ?_
  refine EV.sipush (21709) dX11_closeMix_49 (by decide) ?_
  refine EV.iload_n 1 dX11_closeMix_52 rfl rfl ?_
  refine EV.imul dX11_closeMix_53 ?_
  refine EV.isub dX11_closeMix_54 ?_
  refine EV.ldcw (v := 32768) dX11_closeMix_55 (tb6 (List.mem_of_getElem? (i := 53) rfl)) ?_
  refine EV.iload 0 dX11_closeMix_58 rfl ?_
  refine EV.imul dX11_closeMix_60 ?_
  refine EV.iadd dX11_closeMix_61 ?_
  refine EV.ldcw (v := 8421375) dX11_closeMix_62 (tb6 (List.mem_of_getElem? (i := 73) rfl)) ?_
  refine EV.iadd dX11_closeMix_65 ?_
  refine EV.bipush (16) dX11_closeMix_66 (by decide) ?_
  refine EV.ishr dX11_closeMix_68 ?_
  refine EV.ldcw (v := 32768) dX11_closeMix_69 (tb6 (List.mem_of_getElem? (i := 53) rfl)) ?_
  refine EV.iload_n 2 dX11_closeMix_72 rfl rfl ?_
  refine EV.imul dX11_closeMix_73 ?_
  refine EV.sipush (27439) dX11_closeMix_74 (by decide) ?_
  refine EV.iload_n 1 dX11_closeMix_77 rfl rfl ?_
  refine EV.imul dX11_closeMix_78 ?_
  refine EV.isub dX11_closeMix_79 ?_
  refine EV.sipush (5329) dX11_closeMix_80 (by decide) ?_
  refine EV.iload 0 dX11_closeMix_83 rfl ?_
  refine EV.imul dX11_closeMix_85 ?_
  refine EV.isub dX11_closeMix_86 ?_
  refine EV.ldcw (v := 8421375) dX11_closeMix_87 (tb6 (List.mem_of_getElem? (i := 73) rfl)) ?_
  refine EV.iadd dX11_closeMix_90 ?_
  refine EV.bipush (16) dX11_closeMix_91 (by decide) ?_
  refine EV.ishr dX11_closeMix_93 ?_
  obtain ⟨o31, go31, h⟩ := px_bs h
  obtain ⟨q32, gq32, h⟩ := px_bs h
  refine EV.callV (As := [.int a1, .int q30.1, .int (((((((-11059)) * v20) - (21709 * v24)) + (32768 * v28)) + 8421375) >>> (16 &&& 31)), .int (((((32768 * v20) - (27439 * v24)) - (5329 * v28)) + 8421375) >>> (16 &&& 31))]) (rest := []) dX11_closeMix_94 kcX11_closeMix_350 (gO_ok go31) rfl rfl rfl (Nat.le_of_ble_eq_true rfl) (Nat.le_of_ble_eq_true rfl) (eX11_setMix gq32) ?_
  cases h
  exact EV.ret0 dX11_closeMix_97 trivial
/-! WavePictures.invertMix(I)V -/
theorem dX11_invertMix_0 : decode cX11_invertMix 0 = .ok (.aload_n 0, 1) := by decide +kernel
theorem dX11_invertMix_1 : decode cX11_invertMix 1 = .ok (.iload_n 1, 1) := by decide +kernel
theorem dX11_invertMix_2 : decode cX11_invertMix 2 = .ok (.sipush 255, 3) := by decide +kernel
theorem dX11_invertMix_5 : decode cX11_invertMix 5 = .ok (.aload_n 0, 1) := by decide +kernel
theorem dX11_invertMix_6 : decode cX11_invertMix 6 = .ok (.getfield 34, 3) := by decide +kernel
theorem dX11_invertMix_9 : decode cX11_invertMix 9 = .ok (.iconst 0, 1) := by decide +kernel
theorem dX11_invertMix_10 : decode cX11_invertMix 10 = .ok (.aaload, 1) := by decide +kernel
theorem dX11_invertMix_11 : decode cX11_invertMix 11 = .ok (.getfield 329, 3) := by decide +kernel
theorem dX11_invertMix_14 : decode cX11_invertMix 14 = .ok (.iload_n 1, 1) := by decide +kernel
theorem dX11_invertMix_15 : decode cX11_invertMix 15 = .ok (.iaload, 1) := by decide +kernel
theorem dX11_invertMix_16 : decode cX11_invertMix 16 = .ok (.isub, 1) := by decide +kernel
theorem dX11_invertMix_17 : decode cX11_invertMix 17 = .ok (.sipush 255, 3) := by decide +kernel
theorem dX11_invertMix_20 : decode cX11_invertMix 20 = .ok (.aload_n 0, 1) := by decide +kernel
theorem dX11_invertMix_21 : decode cX11_invertMix 21 = .ok (.getfield 34, 3) := by decide +kernel
theorem dX11_invertMix_24 : decode cX11_invertMix 24 = .ok (.iconst 1, 1) := by decide +kernel
theorem dX11_invertMix_25 : decode cX11_invertMix 25 = .ok (.aaload, 1) := by decide +kernel
theorem dX11_invertMix_26 : decode cX11_invertMix 26 = .ok (.getfield 329, 3) := by decide +kernel
theorem dX11_invertMix_29 : decode cX11_invertMix 29 = .ok (.iload_n 1, 1) := by decide +kernel
theorem dX11_invertMix_30 : decode cX11_invertMix 30 = .ok (.iaload, 1) := by decide +kernel
theorem dX11_invertMix_31 : decode cX11_invertMix 31 = .ok (.isub, 1) := by decide +kernel
theorem dX11_invertMix_32 : decode cX11_invertMix 32 = .ok (.sipush 255, 3) := by decide +kernel
theorem dX11_invertMix_35 : decode cX11_invertMix 35 = .ok (.aload_n 0, 1) := by decide +kernel
theorem dX11_invertMix_36 : decode cX11_invertMix 36 = .ok (.getfield 34, 3) := by decide +kernel
theorem dX11_invertMix_39 : decode cX11_invertMix 39 = .ok (.iconst 2, 1) := by decide +kernel
theorem dX11_invertMix_40 : decode cX11_invertMix 40 = .ok (.aaload, 1) := by decide +kernel
theorem dX11_invertMix_41 : decode cX11_invertMix 41 = .ok (.getfield 329, 3) := by decide +kernel
theorem dX11_invertMix_44 : decode cX11_invertMix 44 = .ok (.iload_n 1, 1) := by decide +kernel
theorem dX11_invertMix_45 : decode cX11_invertMix 45 = .ok (.iaload, 1) := by decide +kernel
theorem dX11_invertMix_46 : decode cX11_invertMix 46 = .ok (.isub, 1) := by decide +kernel
theorem dX11_invertMix_47 : decode cX11_invertMix 47 = .ok (.invokevirtual 350, 3) := by decide +kernel
theorem dX11_invertMix_50 : decode cX11_invertMix 50 = .ok (.return_, 1) := by decide +kernel
theorem kcX11_invertMix_350 : px_cV mX11_invertMix 350 mX11_setMix 4 := ⟨⟨mbX11_setMix, by decide, by decide⟩, Or.inl (tb6 (List.mem_of_getElem? (i := 60) rfl)), vbX11_setMix⟩
set_option maxRecDepth 100000 in
set_option maxHeartbeats 4000000 in
theorem eX11_invertMix {X : px_X} {w : px_W} {a0 : Nat} {a1 : Int32} {q : px_W} (h : fX11_invertMix X w a0 a1 = some q) : EV X mX11_invertMix 0 (lv_args 0 [.ref a0, .int a1]) [] w none q := by
  unfold fX11_invertMix at h
  show EV X mX11_invertMix 0 [(0, .ref a0), (1, .int a1)] [] w none q
  refine EV.aload_n 0 dX11_invertMix_0 rfl rfl ?_
  refine EV.iload_n 1 dX11_invertMix_1 rfl rfl ?_
  refine EV.sipush (255) dX11_invertMix_2 (by decide) ?_
  refine EV.aload_n 0 dX11_invertMix_5 rfl rfl ?_
  obtain ⟨v15, gv15, h⟩ := px_bs h
  refine ev_gR dX11_invertMix_6 flRX11_34 gv15 ?_
  refine EV.iconst (0) dX11_invertMix_9 (by decide) ?_
  obtain ⟨v16, gv16, h⟩ := px_bs h
  refine ev_aQ dX11_invertMix_10 (t := 6) rfl gv16 ?_
  obtain ⟨v17, gv17, h⟩ := px_bs h
  refine ev_gR dX11_invertMix_11 flRX11_329 gv17 ?_
  refine EV.iload_n 1 dX11_invertMix_14 rfl rfl ?_
  obtain ⟨v18, gv18, h⟩ := px_bs h
  refine ev_aI dX11_invertMix_15 gv18 ?_
  refine EV.isub dX11_invertMix_16 ?_
  refine EV.sipush (255) dX11_invertMix_17 (by decide) ?_
  refine EV.aload_n 0 dX11_invertMix_20 rfl rfl ?_
  obtain ⟨v19, gv19, h⟩ := px_bs h
  refine ev_gR dX11_invertMix_21 flRX11_34 gv19 ?_
  refine EV.iconst (1) dX11_invertMix_24 (by decide) ?_
  obtain ⟨v20, gv20, h⟩ := px_bs h
  refine ev_aQ dX11_invertMix_25 (t := 6) rfl gv20 ?_
  obtain ⟨v21, gv21, h⟩ := px_bs h
  refine ev_gR dX11_invertMix_26 flRX11_329 gv21 ?_
  refine EV.iload_n 1 dX11_invertMix_29 rfl rfl ?_
  obtain ⟨v22, gv22, h⟩ := px_bs h
  refine ev_aI dX11_invertMix_30 gv22 ?_
  refine EV.isub dX11_invertMix_31 ?_
  refine EV.sipush (255) dX11_invertMix_32 (by decide) ?_
  refine EV.aload_n 0 dX11_invertMix_35 rfl rfl ?_
  obtain ⟨v23, gv23, h⟩ := px_bs h
  refine ev_gR dX11_invertMix_36 flRX11_34 gv23 ?_
  refine EV.iconst (2) dX11_invertMix_39 (by decide) ?_
  obtain ⟨v24, gv24, h⟩ := px_bs h
  refine ev_aQ dX11_invertMix_40 (t := 6) rfl gv24 ?_
  obtain ⟨v25, gv25, h⟩ := px_bs h
  refine ev_gR dX11_invertMix_41 flRX11_329 gv25 ?_
  refine EV.iload_n 1 dX11_invertMix_44 rfl rfl ?_
  obtain ⟨v26, gv26, h⟩ := px_bs h
  refine ev_aI dX11_invertMix_45 gv26 ?_
  refine EV.isub dX11_invertMix_46 ?_
  obtain ⟨o27, go27, h⟩ := px_bs h
  obtain ⟨q28, gq28, h⟩ := px_bs h
  refine EV.callV (As := [.int a1, .int (255 - v18), .int (255 - v22), .int (255 - v26)]) (rest := []) dX11_invertMix_47 kcX11_invertMix_350 (gO_ok go27) rfl rfl rfl (Nat.le_of_ble_eq_true rfl) (Nat.le_of_ble_eq_true rfl) (eX11_setMix gq28) ?_
  cases h
  exact EV.ret0 dX11_invertMix_50 trivial
/-! WavePictures.darkenMix(I)V -/
theorem dX11_darkenMix_0 : decode cX11_darkenMix 0 = .ok (.sipush 255, 3) := by decide +kernel
theorem dX11_darkenMix_3 : decode cX11_darkenMix 3 = .ok (.aload_n 0, 1) := by decide +kernel
theorem dX11_darkenMix_4 : decode cX11_darkenMix 4 = .ok (.getfield 34, 3) := by decide +kernel
theorem dX11_darkenMix_7 : decode cX11_darkenMix 7 = .ok (.iconst 3, 1) := by decide +kernel
theorem dX11_darkenMix_8 : decode cX11_darkenMix 8 = .ok (.aaload, 1) := by decide +kernel
theorem dX11_darkenMix_9 : decode cX11_darkenMix 9 = .ok (.getfield 329, 3) := by decide +kernel
theorem dX11_darkenMix_12 : decode cX11_darkenMix 12 = .ok (.iload_n 1, 1) := by decide +kernel
theorem dX11_darkenMix_13 : decode cX11_darkenMix 13 = .ok (.iaload, 1) := by decide +kernel
theorem dX11_darkenMix_14 : decode cX11_darkenMix 14 = .ok (.isub, 1) := by decide +kernel
theorem dX11_darkenMix_15 : decode cX11_darkenMix 15 = .ok (.istore_n 2, 1) := by decide +kernel
theorem dX11_darkenMix_16 : decode cX11_darkenMix 16 = .ok (.aload_n 0, 1) := by decide +kernel
theorem dX11_darkenMix_17 : decode cX11_darkenMix 17 = .ok (.iload_n 1, 1) := by decide +kernel
theorem dX11_darkenMix_18 : decode cX11_darkenMix 18 = .ok (.aload_n 0, 1) := by decide +kernel
theorem dX11_darkenMix_19 : decode cX11_darkenMix 19 = .ok (.getfield 34, 3) := by decide +kernel
theorem dX11_darkenMix_22 : decode cX11_darkenMix 22 = .ok (.iconst 0, 1) := by decide +kernel
theorem dX11_darkenMix_23 : decode cX11_darkenMix 23 = .ok (.aaload, 1) := by decide +kernel
theorem dX11_darkenMix_24 : decode cX11_darkenMix 24 = .ok (.getfield 329, 3) := by decide +kernel
theorem dX11_darkenMix_27 : decode cX11_darkenMix 27 = .ok (.iload_n 1, 1) := by decide +kernel
theorem dX11_darkenMix_28 : decode cX11_darkenMix 28 = .ok (.iaload, 1) := by decide +kernel
theorem dX11_darkenMix_29 : decode cX11_darkenMix 29 = .ok (.iload_n 2, 1) := by decide +kernel
theorem dX11_darkenMix_30 : decode cX11_darkenMix 30 = .ok (.imul, 1) := by decide +kernel
theorem dX11_darkenMix_31 : decode cX11_darkenMix 31 = .ok (.bipush 127, 2) := by decide +kernel
theorem dX11_darkenMix_33 : decode cX11_darkenMix 33 = .ok (.iadd, 1) := by decide +kernel
theorem dX11_darkenMix_34 : decode cX11_darkenMix 34 = .ok (.sipush 255, 3) := by decide +kernel
theorem dX11_darkenMix_37 : decode cX11_darkenMix 37 = .ok (.idiv, 1) := by decide +kernel
theorem dX11_darkenMix_38 : decode cX11_darkenMix 38 = .ok (.aload_n 0, 1) := by decide +kernel
theorem dX11_darkenMix_39 : decode cX11_darkenMix 39 = .ok (.getfield 34, 3) := by decide +kernel
theorem dX11_darkenMix_42 : decode cX11_darkenMix 42 = .ok (.iconst 1, 1) := by decide +kernel
theorem dX11_darkenMix_43 : decode cX11_darkenMix 43 = .ok (.aaload, 1) := by decide +kernel
theorem dX11_darkenMix_44 : decode cX11_darkenMix 44 = .ok (.getfield 329, 3) := by decide +kernel
theorem dX11_darkenMix_47 : decode cX11_darkenMix 47 = .ok (.iload_n 1, 1) := by decide +kernel
theorem dX11_darkenMix_48 : decode cX11_darkenMix 48 = .ok (.iaload, 1) := by decide +kernel
theorem dX11_darkenMix_49 : decode cX11_darkenMix 49 = .ok (.iload_n 2, 1) := by decide +kernel
theorem dX11_darkenMix_50 : decode cX11_darkenMix 50 = .ok (.imul, 1) := by decide +kernel
theorem dX11_darkenMix_51 : decode cX11_darkenMix 51 = .ok (.bipush 127, 2) := by decide +kernel
theorem dX11_darkenMix_53 : decode cX11_darkenMix 53 = .ok (.iadd, 1) := by decide +kernel
theorem dX11_darkenMix_54 : decode cX11_darkenMix 54 = .ok (.sipush 255, 3) := by decide +kernel
theorem dX11_darkenMix_57 : decode cX11_darkenMix 57 = .ok (.idiv, 1) := by decide +kernel
theorem dX11_darkenMix_58 : decode cX11_darkenMix 58 = .ok (.aload_n 0, 1) := by decide +kernel
theorem dX11_darkenMix_59 : decode cX11_darkenMix 59 = .ok (.getfield 34, 3) := by decide +kernel
theorem dX11_darkenMix_62 : decode cX11_darkenMix 62 = .ok (.iconst 2, 1) := by decide +kernel
theorem dX11_darkenMix_63 : decode cX11_darkenMix 63 = .ok (.aaload, 1) := by decide +kernel
theorem dX11_darkenMix_64 : decode cX11_darkenMix 64 = .ok (.getfield 329, 3) := by decide +kernel
theorem dX11_darkenMix_67 : decode cX11_darkenMix 67 = .ok (.iload_n 1, 1) := by decide +kernel
theorem dX11_darkenMix_68 : decode cX11_darkenMix 68 = .ok (.iaload, 1) := by decide +kernel
theorem dX11_darkenMix_69 : decode cX11_darkenMix 69 = .ok (.iload_n 2, 1) := by decide +kernel
theorem dX11_darkenMix_70 : decode cX11_darkenMix 70 = .ok (.imul, 1) := by decide +kernel
theorem dX11_darkenMix_71 : decode cX11_darkenMix 71 = .ok (.bipush 127, 2) := by decide +kernel
theorem dX11_darkenMix_73 : decode cX11_darkenMix 73 = .ok (.iadd, 1) := by decide +kernel
theorem dX11_darkenMix_74 : decode cX11_darkenMix 74 = .ok (.sipush 255, 3) := by decide +kernel
theorem dX11_darkenMix_77 : decode cX11_darkenMix 77 = .ok (.idiv, 1) := by decide +kernel
theorem dX11_darkenMix_78 : decode cX11_darkenMix 78 = .ok (.invokevirtual 350, 3) := by decide +kernel
theorem dX11_darkenMix_81 : decode cX11_darkenMix 81 = .ok (.return_, 1) := by decide +kernel
theorem kcX11_darkenMix_350 : px_cV mX11_darkenMix 350 mX11_setMix 4 := ⟨⟨mbX11_setMix, by decide, by decide⟩, Or.inl (tb6 (List.mem_of_getElem? (i := 60) rfl)), vbX11_setMix⟩
set_option maxRecDepth 100000 in
set_option maxHeartbeats 4000000 in
theorem eX11_darkenMix {X : px_X} {w : px_W} {a0 : Nat} {a1 : Int32} {q : px_W} (h : fX11_darkenMix X w a0 a1 = some q) : EV X mX11_darkenMix 0 (lv_args 0 [.ref a0, .int a1]) [] w none q := by
  unfold fX11_darkenMix at h
  show EV X mX11_darkenMix 0 [(0, .ref a0), (1, .int a1)] [] w none q
  refine EV.sipush (255) dX11_darkenMix_0 (by decide) ?_
  refine EV.aload_n 0 dX11_darkenMix_3 rfl rfl ?_
  obtain ⟨v22, gv22, h⟩ := px_bs h
  refine ev_gR dX11_darkenMix_4 flRX11_34 gv22 ?_
  refine EV.iconst (3) dX11_darkenMix_7 (by decide) ?_
  obtain ⟨v23, gv23, h⟩ := px_bs h
  refine ev_aQ dX11_darkenMix_8 (t := 6) rfl gv23 ?_
  obtain ⟨v24, gv24, h⟩ := px_bs h
  refine ev_gR dX11_darkenMix_9 flRX11_329 gv24 ?_
  refine EV.iload_n 1 dX11_darkenMix_12 rfl rfl ?_
  obtain ⟨v25, gv25, h⟩ := px_bs h
  refine ev_aI dX11_darkenMix_13 gv25 ?_
  refine EV.isub dX11_darkenMix_14 ?_
  refine EV.istore_n [(2, .int (255 - v25)), (0, .ref a0), (1, .int a1)] dX11_darkenMix_15 rfl (by decide) rfl ?_
  refine EV.aload_n 1 dX11_darkenMix_16 rfl rfl ?_
  refine EV.iload_n 2 dX11_darkenMix_17 rfl rfl ?_
  refine EV.aload_n 1 dX11_darkenMix_18 rfl rfl ?_
  obtain ⟨v26, gv26, h⟩ := px_bs h
  refine ev_gR dX11_darkenMix_19 flRX11_34 gv26 ?_
  refine EV.iconst (0) dX11_darkenMix_22 (by decide) ?_
  obtain ⟨v27, gv27, h⟩ := px_bs h
  refine ev_aQ dX11_darkenMix_23 (t := 6) rfl gv27 ?_
  obtain ⟨v28, gv28, h⟩ := px_bs h
  refine ev_gR dX11_darkenMix_24 flRX11_329 gv28 ?_
  refine EV.iload_n 2 dX11_darkenMix_27 rfl rfl ?_
  obtain ⟨v29, gv29, h⟩ := px_bs h
  refine ev_aI dX11_darkenMix_28 gv29 ?_
  refine EV.iload_n 0 dX11_darkenMix_29 rfl rfl ?_
  refine EV.imul dX11_darkenMix_30 ?_
  refine EV.bipush (127) dX11_darkenMix_31 (by decide) ?_
  refine EV.iadd dX11_darkenMix_33 ?_
  refine EV.sipush (255) dX11_darkenMix_34 (by decide) ?_
  obtain ⟨v30, gv30, h⟩ := px_bs h
  refine ev_dI dX11_darkenMix_37 gv30 ?_
  refine EV.aload_n 1 dX11_darkenMix_38 rfl rfl ?_
  obtain ⟨v31, gv31, h⟩ := px_bs h
  refine ev_gR dX11_darkenMix_39 flRX11_34 gv31 ?_
  refine EV.iconst (1) dX11_darkenMix_42 (by decide) ?_
  obtain ⟨v32, gv32, h⟩ := px_bs h
  refine ev_aQ dX11_darkenMix_43 (t := 6) rfl gv32 ?_
  obtain ⟨v33, gv33, h⟩ := px_bs h
  refine ev_gR dX11_darkenMix_44 flRX11_329 gv33 ?_
  refine EV.iload_n 2 dX11_darkenMix_47 rfl rfl ?_
  obtain ⟨v34, gv34, h⟩ := px_bs h
  refine ev_aI dX11_darkenMix_48 gv34 ?_
  refine EV.iload_n 0 dX11_darkenMix_49 rfl rfl ?_
  refine EV.imul dX11_darkenMix_50 ?_
  refine EV.bipush (127) dX11_darkenMix_51 (by decide) ?_
  refine EV.iadd dX11_darkenMix_53 ?_
  refine EV.sipush (255) dX11_darkenMix_54 (by decide) ?_
  obtain ⟨v35, gv35, h⟩ := px_bs h
  refine ev_dI dX11_darkenMix_57 gv35 ?_
  refine EV.aload_n 1 dX11_darkenMix_58 rfl rfl ?_
  obtain ⟨v36, gv36, h⟩ := px_bs h
  refine ev_gR dX11_darkenMix_59 flRX11_34 gv36 ?_
  refine EV.iconst (2) dX11_darkenMix_62 (by decide) ?_
  obtain ⟨v37, gv37, h⟩ := px_bs h
  refine ev_aQ dX11_darkenMix_63 (t := 6) rfl gv37 ?_
  obtain ⟨v38, gv38, h⟩ := px_bs h
  refine ev_gR dX11_darkenMix_64 flRX11_329 gv38 ?_
  refine EV.iload_n 2 dX11_darkenMix_67 rfl rfl ?_
  obtain ⟨v39, gv39, h⟩ := px_bs h
  refine ev_aI dX11_darkenMix_68 gv39 ?_
  refine EV.iload_n 0 dX11_darkenMix_69 rfl rfl ?_
  refine EV.imul dX11_darkenMix_70 ?_
  refine EV.bipush (127) dX11_darkenMix_71 (by decide) ?_
  refine EV.iadd dX11_darkenMix_73 ?_
  refine EV.sipush (255) dX11_darkenMix_74 (by decide) ?_
  obtain ⟨v40, gv40, h⟩ := px_bs h
  refine ev_dI dX11_darkenMix_77 gv40 ?_
  obtain ⟨o41, go41, h⟩ := px_bs h
  obtain ⟨q42, gq42, h⟩ := px_bs h
  refine EV.callV (As := [.int a1, .int v30, .int v35, .int v40]) (rest := []) dX11_darkenMix_78 kcX11_darkenMix_350 (gO_ok go41) rfl rfl rfl (Nat.le_of_ble_eq_true rfl) (Nat.le_of_ble_eq_true rfl) (eX11_setMix gq42) ?_
  cases h
  exact EV.ret0 dX11_darkenMix_81 trivial
/-! WavePictures.mixPlace(II)V -/
theorem dX11_mixPlace_0 : decode cX11_mixPlace 0 = .ok (.iload_n 1, 1) := by decide +kernel
theorem dX11_mixPlace_1 : decode cX11_mixPlace 1 = .ok (.tableswitch 101 0 5 #[39, 47, 55, 63, 71, 88], 39) := by decide +kernel
theorem dX11_mixPlace_40 : decode cX11_mixPlace 40 = .ok (.aload_n 0, 1) := by decide +kernel
theorem dX11_mixPlace_41 : decode cX11_mixPlace 41 = .ok (.iload_n 2, 1) := by decide +kernel
theorem dX11_mixPlace_42 : decode cX11_mixPlace 42 = .ok (.invokevirtual 335, 3) := by decide +kernel
theorem dX11_mixPlace_45 : decode cX11_mixPlace 45 = .ok (.goto 67, 3) := by decide +kernel
theorem dX11_mixPlace_48 : decode cX11_mixPlace 48 = .ok (.aload_n 0, 1) := by decide +kernel
theorem dX11_mixPlace_49 : decode cX11_mixPlace 49 = .ok (.iload_n 2, 1) := by decide +kernel
theorem dX11_mixPlace_50 : decode cX11_mixPlace 50 = .ok (.invokevirtual 338, 3) := by decide +kernel
theorem dX11_mixPlace_53 : decode cX11_mixPlace 53 = .ok (.goto 59, 3) := by decide +kernel
theorem dX11_mixPlace_56 : decode cX11_mixPlace 56 = .ok (.aload_n 0, 1) := by decide +kernel
theorem dX11_mixPlace_57 : decode cX11_mixPlace 57 = .ok (.iload_n 2, 1) := by decide +kernel
theorem dX11_mixPlace_58 : decode cX11_mixPlace 58 = .ok (.invokevirtual 341, 3) := by decide +kernel
theorem dX11_mixPlace_61 : decode cX11_mixPlace 61 = .ok (.goto 51, 3) := by decide +kernel
theorem dX11_mixPlace_64 : decode cX11_mixPlace 64 = .ok (.aload_n 0, 1) := by decide +kernel
theorem dX11_mixPlace_65 : decode cX11_mixPlace 65 = .ok (.iload_n 2, 1) := by decide +kernel
theorem dX11_mixPlace_66 : decode cX11_mixPlace 66 = .ok (.invokevirtual 344, 3) := by decide +kernel
theorem dX11_mixPlace_69 : decode cX11_mixPlace 69 = .ok (.goto 43, 3) := by decide +kernel
theorem dX11_mixPlace_72 : decode cX11_mixPlace 72 = .ok (.aload_n 0, 1) := by decide +kernel
theorem dX11_mixPlace_73 : decode cX11_mixPlace 73 = .ok (.iload_n 2, 1) := by decide +kernel
theorem dX11_mixPlace_74 : decode cX11_mixPlace 74 = .ok (.invokevirtual 347, 3) := by decide +kernel
theorem dX11_mixPlace_77 : decode cX11_mixPlace 77 = .ok (.istore_n 3, 1) := by decide +kernel
theorem dX11_mixPlace_78 : decode cX11_mixPlace 78 = .ok (.aload_n 0, 1) := by decide +kernel
theorem dX11_mixPlace_79 : decode cX11_mixPlace 79 = .ok (.iload_n 2, 1) := by decide +kernel
theorem dX11_mixPlace_80 : decode cX11_mixPlace 80 = .ok (.iload_n 3, 1) := by decide +kernel
theorem dX11_mixPlace_81 : decode cX11_mixPlace 81 = .ok (.iload_n 3, 1) := by decide +kernel
theorem dX11_mixPlace_82 : decode cX11_mixPlace 82 = .ok (.iload_n 3, 1) := by decide +kernel
theorem dX11_mixPlace_83 : decode cX11_mixPlace 83 = .ok (.invokevirtual 350, 3) := by decide +kernel
theorem dX11_mixPlace_86 : decode cX11_mixPlace 86 = .ok (.goto 26, 3) := by decide +kernel
theorem dX11_mixPlace_89 : decode cX11_mixPlace 89 = .ok (.aload_n 0, 1) := by decide +kernel
theorem dX11_mixPlace_90 : decode cX11_mixPlace 90 = .ok (.iload_n 2, 1) := by decide +kernel
theorem dX11_mixPlace_91 : decode cX11_mixPlace 91 = .ok (.invokevirtual 335, 3) := by decide +kernel
theorem dX11_mixPlace_94 : decode cX11_mixPlace 94 = .ok (.aload_n 0, 1) := by decide +kernel
theorem dX11_mixPlace_95 : decode cX11_mixPlace 95 = .ok (.iload_n 2, 1) := by decide +kernel
theorem dX11_mixPlace_96 : decode cX11_mixPlace 96 = .ok (.invokevirtual 341, 3) := by decide +kernel
theorem dX11_mixPlace_99 : decode cX11_mixPlace 99 = .ok (.goto 13, 3) := by decide +kernel
theorem dX11_mixPlace_102 : decode cX11_mixPlace 102 = .ok (.aload_n 0, 1) := by decide +kernel
theorem dX11_mixPlace_103 : decode cX11_mixPlace 103 = .ok (.iload_n 2, 1) := by decide +kernel
theorem dX11_mixPlace_104 : decode cX11_mixPlace 104 = .ok (.invokevirtual 341, 3) := by decide +kernel
theorem dX11_mixPlace_107 : decode cX11_mixPlace 107 = .ok (.aload_n 0, 1) := by decide +kernel
theorem dX11_mixPlace_108 : decode cX11_mixPlace 108 = .ok (.iload_n 2, 1) := by decide +kernel
theorem dX11_mixPlace_109 : decode cX11_mixPlace 109 = .ok (.invokevirtual 338, 3) := by decide +kernel
theorem dX11_mixPlace_112 : decode cX11_mixPlace 112 = .ok (.return_, 1) := by decide +kernel
theorem mbX11_openMix : px_mB mX11_openMix 1 := ⟨tb6 (List.mem_of_getElem? (i := 51) rfl), by decide +kernel, tb1 (List.mem_of_getElem? (i := 1) rfl), by decide +kernel, by decide +kernel⟩
theorem vbX11_openMix : px_vB mX11_openMix := ⟨tb6 (List.mem_of_getElem? (i := 50) rfl), List.mem_append_left _ (List.mem_of_getElem? (i := 79) (by decide +kernel))⟩
theorem kcX11_mixPlace_335 : px_cV mX11_mixPlace 335 mX11_openMix 1 := ⟨⟨mbX11_openMix, by decide, by decide⟩, Or.inl (tb6 (List.mem_of_getElem? (i := 48) rfl)), vbX11_openMix⟩
theorem mbX11_closeMix : px_mB mX11_closeMix 1 := ⟨tb6 (List.mem_of_getElem? (i := 67) rfl), by decide +kernel, tb1 (List.mem_of_getElem? (i := 1) rfl), by decide +kernel, by decide +kernel⟩
theorem vbX11_closeMix : px_vB mX11_closeMix := ⟨tb6 (List.mem_of_getElem? (i := 66) rfl), List.mem_append_left _ (List.mem_of_getElem? (i := 81) (by decide +kernel))⟩
theorem kcX11_mixPlace_338 : px_cV mX11_mixPlace 338 mX11_closeMix 1 := ⟨⟨mbX11_closeMix, by decide, by decide⟩, Or.inl (tb6 (List.mem_of_getElem? (i := 64) rfl)), vbX11_closeMix⟩
theorem mbX11_invertMix : px_mB mX11_invertMix 1 := ⟨tb6 (List.mem_of_getElem? (i := 77) rfl), by decide +kernel, tb1 (List.mem_of_getElem? (i := 1) rfl), by decide +kernel, by decide +kernel⟩
theorem vbX11_invertMix : px_vB mX11_invertMix := ⟨tb6 (List.mem_of_getElem? (i := 76) rfl), List.mem_append_left _ (List.mem_of_getElem? (i := 83) (by decide +kernel))⟩
theorem kcX11_mixPlace_341 : px_cV mX11_mixPlace 341 mX11_invertMix 1 := ⟨⟨mbX11_invertMix, by decide, by decide⟩, Or.inl (tb6 (List.mem_of_getElem? (i := 74) rfl)), vbX11_invertMix⟩
theorem mbX11_darkenMix : px_mB mX11_darkenMix 1 := ⟨tb6 (List.mem_of_getElem? (i := 81) rfl), by decide +kernel, tb1 (List.mem_of_getElem? (i := 1) rfl), by decide +kernel, by decide +kernel⟩
theorem vbX11_darkenMix : px_vB mX11_darkenMix := ⟨tb6 (List.mem_of_getElem? (i := 80) rfl), List.mem_append_left _ (List.mem_of_getElem? (i := 84) (by decide +kernel))⟩
theorem kcX11_mixPlace_344 : px_cV mX11_mixPlace 344 mX11_darkenMix 1 := ⟨⟨mbX11_darkenMix, by decide, by decide⟩, Or.inl (tb6 (List.mem_of_getElem? (i := 78) rfl)), vbX11_darkenMix⟩
theorem kcX11_mixPlace_347 : px_cV mX11_mixPlace 347 mX11_greyAt 1 := ⟨⟨mbX11_greyAt, by decide, by decide⟩, Or.inl (tb6 (List.mem_of_getElem? (i := 68) rfl)), vbX11_greyAt⟩
theorem kcX11_mixPlace_350 : px_cV mX11_mixPlace 350 mX11_setMix 4 := ⟨⟨mbX11_setMix, by decide, by decide⟩, Or.inl (tb6 (List.mem_of_getElem? (i := 60) rfl)), vbX11_setMix⟩
set_option maxRecDepth 100000 in
set_option maxHeartbeats 4000000 in
theorem eX11_mixPlace {X : px_X} {w : px_W} {a0 : Nat} {a1 : Int32} {a2 : Int32} {q : px_W} (h : fX11_mixPlace X w a0 a1 a2 = some q) : EV X mX11_mixPlace 0 (lv_args 0 [.ref a0, .int a1, .int a2]) [] w none q := by
  unfold fX11_mixPlace at h
  show EV X mX11_mixPlace 0 [(0, .ref a0), (1, .int a1), (2, .int a2)] [] w none q
  refine EV.iload_n 1 dX11_mixPlace_0 rfl rfl ?_
  by_cases c21 : a1 = 0
  · rw [if_pos c21] at h
    refine EV.tableIn 40 dX11_mixPlace_1 (by rw [c21]; decide) (by rw [c21]; decide) (by rw [c21]; rfl) (by decide) ?_
    refine EV.aload_n 0 dX11_mixPlace_40 rfl rfl ?_
    refine EV.iload_n 2 dX11_mixPlace_41 rfl rfl ?_
    obtain ⟨o22, go22, h⟩ := px_bs h
    obtain ⟨q23, gq23, h⟩ := px_bs h
    refine EV.callV (As := [.int a2]) (rest := []) dX11_mixPlace_42 kcX11_mixPlace_335 (gO_ok go22) rfl rfl rfl (Nat.le_of_ble_eq_true rfl) (Nat.le_of_ble_eq_true rfl) (eX11_openMix gq23) ?_
    refine EV.goto 112 dX11_mixPlace_45 (by decide) ?_
    cases h
    exact EV.ret0 dX11_mixPlace_112 trivial
  rw [if_neg c21] at h
  by_cases c24 : a1 = 1
  · rw [if_pos c24] at h
    refine EV.tableIn 48 dX11_mixPlace_1 (by rw [c24]; decide) (by rw [c24]; decide) (by rw [c24]; rfl) (by decide) ?_
    refine EV.aload_n 0 dX11_mixPlace_48 rfl rfl ?_
    refine EV.iload_n 2 dX11_mixPlace_49 rfl rfl ?_
    obtain ⟨o25, go25, h⟩ := px_bs h
    obtain ⟨q26, gq26, h⟩ := px_bs h
    refine EV.callV (As := [.int a2]) (rest := []) dX11_mixPlace_50 kcX11_mixPlace_338 (gO_ok go25) rfl rfl rfl (Nat.le_of_ble_eq_true rfl) (Nat.le_of_ble_eq_true rfl) (eX11_closeMix gq26) ?_
    refine EV.goto 112 dX11_mixPlace_53 (by decide) ?_
    cases h
    exact EV.ret0 dX11_mixPlace_112 trivial
  rw [if_neg c24] at h
  by_cases c27 : a1 = 2
  · rw [if_pos c27] at h
    refine EV.tableIn 56 dX11_mixPlace_1 (by rw [c27]; decide) (by rw [c27]; decide) (by rw [c27]; rfl) (by decide) ?_
    refine EV.aload_n 0 dX11_mixPlace_56 rfl rfl ?_
    refine EV.iload_n 2 dX11_mixPlace_57 rfl rfl ?_
    obtain ⟨o28, go28, h⟩ := px_bs h
    obtain ⟨q29, gq29, h⟩ := px_bs h
    refine EV.callV (As := [.int a2]) (rest := []) dX11_mixPlace_58 kcX11_mixPlace_341 (gO_ok go28) rfl rfl rfl (Nat.le_of_ble_eq_true rfl) (Nat.le_of_ble_eq_true rfl) (eX11_invertMix gq29) ?_
    refine EV.goto 112 dX11_mixPlace_61 (by decide) ?_
    cases h
    exact EV.ret0 dX11_mixPlace_112 trivial
  rw [if_neg c27] at h
  by_cases c30 : a1 = 3
  · rw [if_pos c30] at h
    refine EV.tableIn 64 dX11_mixPlace_1 (by rw [c30]; decide) (by rw [c30]; decide) (by rw [c30]; rfl) (by decide) ?_
    refine EV.aload_n 0 dX11_mixPlace_64 rfl rfl ?_
    refine EV.iload_n 2 dX11_mixPlace_65 rfl rfl ?_
    obtain ⟨o31, go31, h⟩ := px_bs h
    obtain ⟨q32, gq32, h⟩ := px_bs h
    refine EV.callV (As := [.int a2]) (rest := []) dX11_mixPlace_66 kcX11_mixPlace_344 (gO_ok go31) rfl rfl rfl (Nat.le_of_ble_eq_true rfl) (Nat.le_of_ble_eq_true rfl) (eX11_darkenMix gq32) ?_
    refine EV.goto 112 dX11_mixPlace_69 (by decide) ?_
    cases h
    exact EV.ret0 dX11_mixPlace_112 trivial
  rw [if_neg c30] at h
  by_cases c33 : a1 = 4
  · rw [if_pos c33] at h
    refine EV.tableIn 72 dX11_mixPlace_1 (by rw [c33]; decide) (by rw [c33]; decide) (by rw [c33]; rfl) (by decide) ?_
    refine EV.aload_n 0 dX11_mixPlace_72 rfl rfl ?_
    refine EV.iload_n 2 dX11_mixPlace_73 rfl rfl ?_
    obtain ⟨o34, go34, h⟩ := px_bs h
    obtain ⟨q35, gq35, h⟩ := px_bs h
    refine EV.callV (As := [.int a2]) (rest := []) dX11_mixPlace_74 kcX11_mixPlace_347 (gO_ok go34) rfl rfl rfl (Nat.le_of_ble_eq_true rfl) (Nat.le_of_ble_eq_true rfl) (eX11_greyAt gq35) ?_
    refine EV.istore_n [(3, .int q35.1), (0, .ref a0), (1, .int a1), (2, .int a2)] dX11_mixPlace_77 rfl (by decide) rfl ?_
    refine EV.aload_n 1 dX11_mixPlace_78 rfl rfl ?_
    refine EV.iload_n 3 dX11_mixPlace_79 rfl rfl ?_
    refine EV.iload_n 0 dX11_mixPlace_80 rfl rfl ?_
    refine EV.iload_n 0 dX11_mixPlace_81 rfl rfl ?_
    refine EV.iload_n 0 dX11_mixPlace_82 rfl rfl ?_
    obtain ⟨o36, go36, h⟩ := px_bs h
    obtain ⟨q37, gq37, h⟩ := px_bs h
    refine EV.callV (As := [.int a2, .int q35.1, .int q35.1, .int q35.1]) (rest := []) dX11_mixPlace_83 kcX11_mixPlace_350 (gO_ok go36) rfl rfl rfl (Nat.le_of_ble_eq_true rfl) (Nat.le_of_ble_eq_true rfl) (eX11_setMix gq37) ?_
    refine EV.goto 112 dX11_mixPlace_86 (by decide) ?_
    cases h
    exact EV.ret0 dX11_mixPlace_112 trivial
  rw [if_neg c33] at h
  by_cases c38 : a1 = 5
  · rw [if_pos c38] at h
    refine EV.tableIn 89 dX11_mixPlace_1 (by rw [c38]; decide) (by rw [c38]; decide) (by rw [c38]; rfl) (by decide) ?_
    refine EV.aload_n 0 dX11_mixPlace_89 rfl rfl ?_
    refine EV.iload_n 2 dX11_mixPlace_90 rfl rfl ?_
    obtain ⟨o39, go39, h⟩ := px_bs h
    obtain ⟨q40, gq40, h⟩ := px_bs h
    refine EV.callV (As := [.int a2]) (rest := []) dX11_mixPlace_91 kcX11_mixPlace_335 (gO_ok go39) rfl rfl rfl (Nat.le_of_ble_eq_true rfl) (Nat.le_of_ble_eq_true rfl) (eX11_openMix gq40) ?_
    refine EV.aload_n 0 dX11_mixPlace_94 rfl rfl ?_
    refine EV.iload_n 2 dX11_mixPlace_95 rfl rfl ?_
    obtain ⟨o41, go41, h⟩ := px_bs h
    obtain ⟨q42, gq42, h⟩ := px_bs h
    refine EV.callV (As := [.int a2]) (rest := []) dX11_mixPlace_96 kcX11_mixPlace_341 (gO_ok go41) rfl rfl rfl (Nat.le_of_ble_eq_true rfl) (Nat.le_of_ble_eq_true rfl) (eX11_invertMix gq42) ?_
    refine EV.goto 112 dX11_mixPlace_99 (by decide) ?_
    cases h
    exact EV.ret0 dX11_mixPlace_112 trivial
  rw [if_neg c38] at h
  have nc21 : (a1).toInt ≠ 0 := fun z => c21 (Int32.toInt_inj.mp (z.trans (by decide)))
  have nc24 : (a1).toInt ≠ 1 := fun z => c24 (Int32.toInt_inj.mp (z.trans (by decide)))
  have nc27 : (a1).toInt ≠ 2 := fun z => c27 (Int32.toInt_inj.mp (z.trans (by decide)))
  have nc30 : (a1).toInt ≠ 3 := fun z => c30 (Int32.toInt_inj.mp (z.trans (by decide)))
  have nc33 : (a1).toInt ≠ 4 := fun z => c33 (Int32.toInt_inj.mp (z.trans (by decide)))
  have nc38 : (a1).toInt ≠ 5 := fun z => c38 (Int32.toInt_inj.mp (z.trans (by decide)))
  refine EV.tableOut 102 dX11_mixPlace_1 (by omega) (by decide) ?_
  refine EV.aload_n 0 dX11_mixPlace_102 rfl rfl ?_
  refine EV.iload_n 2 dX11_mixPlace_103 rfl rfl ?_
  obtain ⟨o43, go43, h⟩ := px_bs h
  obtain ⟨q44, gq44, h⟩ := px_bs h
  refine EV.callV (As := [.int a2]) (rest := []) dX11_mixPlace_104 kcX11_mixPlace_341 (gO_ok go43) rfl rfl rfl (Nat.le_of_ble_eq_true rfl) (Nat.le_of_ble_eq_true rfl) (eX11_invertMix gq44) ?_
  refine EV.aload_n 0 dX11_mixPlace_107 rfl rfl ?_
  refine EV.iload_n 2 dX11_mixPlace_108 rfl rfl ?_
  obtain ⟨o45, go45, h⟩ := px_bs h
  obtain ⟨q46, gq46, h⟩ := px_bs h
  refine EV.callV (As := [.int a2]) (rest := []) dX11_mixPlace_109 kcX11_mixPlace_338 (gO_ok go45) rfl rfl rfl (Nat.le_of_ble_eq_true rfl) (Nat.le_of_ble_eq_true rfl) (eX11_closeMix gq46) ?_
  cases h
  exact EV.ret0 dX11_mixPlace_112 trivial
