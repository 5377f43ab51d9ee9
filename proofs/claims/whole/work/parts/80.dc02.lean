/-! WavePictures$Picture.samplesDown(I)I -/
theorem dX2_samplesDown_0 : decode cX2_samplesDown 0 = .ok (.aload_n 0, 1) := by decide +kernel
theorem dX2_samplesDown_1 : decode cX2_samplesDown 1 = .ok (.getfield 15, 3) := by decide +kernel
theorem dX2_samplesDown_4 : decode cX2_samplesDown 4 = .ok (.aload_n 0, 1) := by decide +kernel
theorem dX2_samplesDown_5 : decode cX2_samplesDown 5 = .ok (.getfield 28, 3) := by decide +kernel
theorem dX2_samplesDown_8 : decode cX2_samplesDown 8 = .ok (.iload_n 1, 1) := by decide +kernel
theorem dX2_samplesDown_9 : decode cX2_samplesDown 9 = .ok (.iaload, 1) := by decide +kernel
theorem dX2_samplesDown_10 : decode cX2_samplesDown 10 = .ok (.imul, 1) := by decide +kernel
theorem dX2_samplesDown_11 : decode cX2_samplesDown 11 = .ok (.aload_n 0, 1) := by decide +kernel
theorem dX2_samplesDown_12 : decode cX2_samplesDown 12 = .ok (.getfield 21, 3) := by decide +kernel
theorem dX2_samplesDown_15 : decode cX2_samplesDown 15 = .ok (.invokestatic 65, 3) := by decide +kernel
theorem dX2_samplesDown_18 : decode cX2_samplesDown 18 = .ok (.ireturn, 1) := by decide +kernel
theorem kcX2_samplesDown_65 : px_cS mX2_samplesDown 65 mX11_up 2 := ⟨⟨mbX11_up, by decide, by decide⟩, Or.inr ⟨"WavePictures", tT4 (List.mem_of_getElem? (i := 45) rfl)⟩, tb4 (List.mem_of_getElem? (i := 46) rfl)⟩
set_option maxRecDepth 100000 in
set_option maxHeartbeats 4000000 in
theorem eX2_samplesDown {X : px_X} {w : px_W} {a0 : Nat} {a1 : Int32} {q : Int32 × px_W} (h : fX2_samplesDown X w a0 a1 = some q) : EV X mX2_samplesDown 0 (lv_args 0 [.ref a0, .int a1]) [] w (some (.int q.1)) q.2 := by
  unfold fX2_samplesDown at h
  show EV X mX2_samplesDown 0 [(0, .ref a0), (1, .int a1)] [] w (some (.int q.1)) q.2
  refine EV.aload_n 0 dX2_samplesDown_0 rfl rfl ?_
  obtain ⟨v6, gv6, h⟩ := px_bs h
  refine ev_gI dX2_samplesDown_1 flRX2_15 gv6 ?_
  refine EV.aload_n 0 dX2_samplesDown_4 rfl rfl ?_
  obtain ⟨v7, gv7, h⟩ := px_bs h
  refine ev_gR dX2_samplesDown_5 flRX2_28 gv7 ?_
  refine EV.iload_n 1 dX2_samplesDown_8 rfl rfl ?_
  obtain ⟨v8, gv8, h⟩ := px_bs h
  refine ev_aI dX2_samplesDown_9 gv8 ?_
  refine EV.imul dX2_samplesDown_10 ?_
  refine EV.aload_n 0 dX2_samplesDown_11 rfl rfl ?_
  obtain ⟨v9, gv9, h⟩ := px_bs h
  refine ev_gI dX2_samplesDown_12 flRX2_21 gv9 ?_
  obtain ⟨q10, gq10, h⟩ := px_bs h
  refine EV.callS (As := [.int (v6 * v8), .int v9]) (rest := []) dX2_samplesDown_15 kcX2_samplesDown_65 rfl (Nat.le_of_ble_eq_true rfl) (Nat.le_of_ble_eq_true rfl) (eX11_up gq10) ?_
  cases h
  exact EV.reti dX2_samplesDown_18 rfl
/-! WavePictures$Picture.block(III)I -/
theorem dX2_block_0 : decode cX2_block 0 = .ok (.iload_n 2, 1) := by decide +kernel
theorem dX2_block_1 : decode cX2_block 1 = .ok (.ifCond .lt 27, 3) := by decide +kernel
theorem dX2_block_4 : decode cX2_block 4 = .ok (.iload_n 2, 1) := by decide +kernel
theorem dX2_block_5 : decode cX2_block 5 = .ok (.aload_n 0, 1) := by decide +kernel
theorem dX2_block_6 : decode cX2_block 6 = .ok (.getfield 31, 3) := by decide +kernel
theorem dX2_block_9 : decode cX2_block 9 = .ok (.iload_n 1, 1) := by decide +kernel
theorem dX2_block_10 : decode cX2_block 10 = .ok (.iaload, 1) := by decide +kernel
theorem dX2_block_11 : decode cX2_block 11 = .ok (.if_icmp .ge 17, 3) := by decide +kernel
theorem dX2_block_14 : decode cX2_block 14 = .ok (.iload_n 3, 1) := by decide +kernel
theorem dX2_block_15 : decode cX2_block 15 = .ok (.ifCond .lt 13, 3) := by decide +kernel
theorem dX2_block_18 : decode cX2_block 18 = .ok (.iload_n 3, 1) := by decide +kernel
theorem dX2_block_19 : decode cX2_block 19 = .ok (.aload_n 0, 1) := by decide +kernel
theorem dX2_block_20 : decode cX2_block 20 = .ok (.getfield 34, 3) := by decide +kernel
theorem dX2_block_23 : decode cX2_block 23 = .ok (.iload_n 1, 1) := by decide +kernel
theorem dX2_block_24 : decode cX2_block 24 = .ok (.iaload, 1) := by decide +kernel
theorem dX2_block_25 : decode cX2_block 25 = .ok (.if_icmp .lt 5, 3) := by decide +kernel
theorem dX2_block_28 : decode cX2_block 28 = .ok (.iconst (-1), 1) := by decide +kernel
theorem dX2_block_29 : decode cX2_block 29 = .ok (.ireturn, 1) := by decide +kernel
theorem dX2_block_30 : decode cX2_block 30 = .ok (.aload_n 0, 1) := by decide +kernel
theorem dX2_block_31 : decode cX2_block 31 = .ok (.getfield 37, 3) := by decide +kernel
theorem dX2_block_34 : decode cX2_block 34 = .ok (.iload_n 1, 1) := by decide +kernel
theorem dX2_block_35 : decode cX2_block 35 = .ok (.iaload, 1) := by decide +kernel
theorem dX2_block_36 : decode cX2_block 36 = .ok (.iload_n 3, 1) := by decide +kernel
theorem dX2_block_37 : decode cX2_block 37 = .ok (.aload_n 0, 1) := by decide +kernel
theorem dX2_block_38 : decode cX2_block 38 = .ok (.getfield 31, 3) := by decide +kernel
theorem dX2_block_41 : decode cX2_block 41 = .ok (.iload_n 1, 1) := by decide +kernel
theorem dX2_block_42 : decode cX2_block 42 = .ok (.iaload, 1) := by decide +kernel
theorem dX2_block_43 : decode cX2_block 43 = .ok (.imul, 1) := by decide +kernel
theorem dX2_block_44 : decode cX2_block 44 = .ok (.iadd, 1) := by decide +kernel
theorem dX2_block_45 : decode cX2_block 45 = .ok (.iload_n 2, 1) := by decide +kernel
theorem dX2_block_46 : decode cX2_block 46 = .ok (.iadd, 1) := by decide +kernel
theorem dX2_block_47 : decode cX2_block 47 = .ok (.ireturn, 1) := by decide +kernel
set_option maxRecDepth 100000 in
set_option maxHeartbeats 4000000 in
theorem eX2_block {X : px_X} {w : px_W} {a0 : Nat} {a1 : Int32} {a2 : Int32} {a3 : Int32} {q : Int32 × px_W} (h : fX2_block X w a0 a1 a2 a3 = some q) : EV X mX2_block 0 (lv_args 0 [.ref a0, .int a1, .int a2, .int a3]) [] w (some (.int q.1)) q.2 := by
  unfold fX2_block at h
  show EV X mX2_block 0 [(0, .ref a0), (1, .int a1), (2, .int a2), (3, .int a3)] [] w (some (.int q.1)) q.2
  refine EV.iload_n 2 dX2_block_0 rfl rfl ?_
  refine EV.if_lt 28 dX2_block_1 (by decide) (fun c9 => ?_) (fun c9 => ?_)
  · rw [if_pos c9] at h
    refine EV.iconst ((-1)) dX2_block_28 (by decide) ?_
    cases h
    exact EV.reti dX2_block_29 rfl
  · rw [if_neg c9] at h
    refine EV.iload_n 2 dX2_block_4 rfl rfl ?_
    refine EV.aload_n 0 dX2_block_5 rfl rfl ?_
    obtain ⟨v10, gv10, h⟩ := px_bs h
    refine ev_gR dX2_block_6 flRX2_31 gv10 ?_
    refine EV.iload_n 1 dX2_block_9 rfl rfl ?_
    obtain ⟨v11, gv11, h⟩ := px_bs h
    refine ev_aI dX2_block_10 gv11 ?_
    refine EV.icmp_ge 28 dX2_block_11 (by decide) (fun c12 => ?_) (fun c12 => ?_)
    · rw [if_pos c12] at h
      refine EV.iconst ((-1)) dX2_block_28 (by decide) ?_
      cases h
      exact EV.reti dX2_block_29 rfl
    · rw [if_neg c12] at h
      refine EV.iload_n 3 dX2_block_14 rfl rfl ?_
      refine EV.if_lt 28 dX2_block_15 (by decide) (fun c13 => ?_) (fun c13 => ?_)
      · rw [if_pos c13] at h
        refine EV.iconst ((-1)) dX2_block_28 (by decide) ?_
        cases h
        exact EV.reti dX2_block_29 rfl
      · rw [if_neg c13] at h
        refine EV.iload_n 3 dX2_block_18 rfl rfl ?_
        refine EV.aload_n 0 dX2_block_19 rfl rfl ?_
        obtain ⟨v14, gv14, h⟩ := px_bs h
        refine ev_gR dX2_block_20 flRX2_34 gv14 ?_
        refine EV.iload_n 1 dX2_block_23 rfl rfl ?_
        obtain ⟨v15, gv15, h⟩ := px_bs h
        refine ev_aI dX2_block_24 gv15 ?_
        refine EV.icmp_lt 30 dX2_block_25 (by decide) (fun c16 => ?_) (fun c16 => ?_)
        · rw [if_pos c16] at h
          refine EV.aload_n 0 dX2_block_30 rfl rfl ?_
          obtain ⟨v17, gv17, h⟩ := px_bs h
          refine ev_gR dX2_block_31 flRX2_37 gv17 ?_
          refine EV.iload_n 1 dX2_block_34 rfl rfl ?_
          obtain ⟨v18, gv18, h⟩ := px_bs h
          refine ev_aI dX2_block_35 gv18 ?_
          refine EV.iload_n 3 dX2_block_36 rfl rfl ?_
          refine EV.aload_n 0 dX2_block_37 rfl rfl ?_
          obtain ⟨v19, gv19, h⟩ := px_bs h
          refine ev_gR dX2_block_38 flRX2_31 gv19 ?_
          refine EV.iload_n 1 dX2_block_41 rfl rfl ?_
          obtain ⟨v20, gv20, h⟩ := px_bs h
          refine ev_aI dX2_block_42 gv20 ?_
          refine EV.imul dX2_block_43 ?_
          refine EV.iadd dX2_block_44 ?_
          refine EV.iload_n 2 dX2_block_45 rfl rfl ?_
          refine EV.iadd dX2_block_46 ?_
          cases h
          exact EV.reti dX2_block_47 rfl
        · rw [if_neg c16] at h
          refine EV.iconst ((-1)) dX2_block_28 (by decide) ?_
          cases h
          exact EV.reti dX2_block_29 rfl
/-! WavePictures$Picture.countOthersThanZero()I -/
theorem dX2_countOthersThanZero_0 : decode cX2_countOthersThanZero 0 = .ok (.iconst 0, 1) := by decide +kernel
theorem dX2_countOthersThanZero_1 : decode cX2_countOthersThanZero 1 = .ok (.istore_n 1, 1) := by decide +kernel
theorem dX2_countOthersThanZero_2 : decode cX2_countOthersThanZero 2 = .ok (.iconst 0, 1) := by decide +kernel
theorem dX2_countOthersThanZero_3 : decode cX2_countOthersThanZero 3 = .ok (.istore_n 2, 1) := by decide +kernel
theorem dX2_countOthersThanZero_4 : decode cX2_countOthersThanZero 4 = .ok (.iload_n 2, 1) := by decide +kernel
theorem dX2_countOthersThanZero_5 : decode cX2_countOthersThanZero 5 = .ok (.bipush 64, 2) := by decide +kernel
theorem dX2_countOthersThanZero_7 : decode cX2_countOthersThanZero 7 = .ok (.aload_n 0, 1) := by decide +kernel
theorem dX2_countOthersThanZero_8 : decode cX2_countOthersThanZero 8 = .ok (.getfield 55, 3) := by decide +kernel
theorem dX2_countOthersThanZero_11 : decode cX2_countOthersThanZero 11 = .ok (.imul, 1) := by decide +kernel
theorem dX2_countOthersThanZero_12 : decode cX2_countOthersThanZero 12 = .ok (.if_icmp .ge 26, 3) := by decide +kernel
theorem dX2_countOthersThanZero_15 : decode cX2_countOthersThanZero 15 = .ok (.iload_n 1, 1) := by decide +kernel
theorem dX2_countOthersThanZero_16 : decode cX2_countOthersThanZero 16 = .ok (.aload_n 0, 1) := by decide +kernel
theorem dX2_countOthersThanZero_17 : decode cX2_countOthersThanZero 17 = .ok (.getfield 40, 3) := by decide +kernel
theorem dX2_countOthersThanZero_20 : decode cX2_countOthersThanZero 20 = .ok (.iload_n 2, 1) := by decide +kernel
theorem dX2_countOthersThanZero_21 : decode cX2_countOthersThanZero 21 = .ok (.iaload, 1) := by decide +kernel
theorem dX2_countOthersThanZero_22 : decode cX2_countOthersThanZero 22 = .ok (.ifCond .ne 7, 3) := by decide +kernel
theorem dX2_countOthersThanZero_25 : decode cX2_countOthersThanZero 25 = .ok (.iconst 0, 1) := by decide +kernel
theorem dX2_countOthersThanZero_26 : decode cX2_countOthersThanZero 26 = .ok (.goto 4, 3) := by decide +kernel
theorem dX2_countOthersThanZero_29 : decode cX2_countOthersThanZero 29 = .ok (.iconst 1, 1) := by decide +kernel
theorem dX2_countOthersThanZero_30 : decode cX2_countOthersThanZero 30 = .ok (.iadd, 1) := by decide +kernel
theorem dX2_countOthersThanZero_31 : decode cX2_countOthersThanZero 31 = .ok (.istore_n 1, 1) := by decide +kernel
theorem dX2_countOthersThanZero_32 : decode cX2_countOthersThanZero 32 = .ok (.iinc 2 1, 3) := by decide +kernel
theorem dX2_countOthersThanZero_35 : decode cX2_countOthersThanZero 35 = .ok (.goto (-31), 3) := by decide +kernel
theorem dX2_countOthersThanZero_38 : decode cX2_countOthersThanZero 38 = .ok (.iload_n 1, 1) := by decide +kernel
theorem dX2_countOthersThanZero_39 : decode cX2_countOthersThanZero 39 = .ok (.ireturn, 1) := by decide +kernel
theorem flRX2_40 : px_f RX2 40 2 11 := ⟨_, rfl, by decide, Or.inl (tb1 (List.mem_of_getElem? (i := 91) rfl))⟩
set_option maxRecDepth 100000 in
set_option maxHeartbeats 4000000 in
theorem eX2_countOthersThanZero_30 {X : px_X} {k4 : Nat → Int32 → Int32 → px_W → Option (Int32 × px_W)} (hk4 : ∀ (a0 : Nat) (a1 : Int32) (a2 : Int32) (w : px_W) (q : Int32 × px_W), k4 a0 a1 a2 w = some q → EV X mX2_countOthersThanZero 4 [(0, .ref a0), (1, .int a1), (2, .int a2)] [] w (some (.int q.1)) q.2) : ∀ (a0 : Nat) (a2 : Int32) (s0 : Int32) (s1 : Int32) (w : px_W) (q : Int32 × px_W), fX2_countOthersThanZero_30 X k4 a0 a2 s0 s1 w = some q → EV X mX2_countOthersThanZero 30 [(0, .ref a0), (2, .int a2)] [.int s0, .int s1] w (some (.int q.1)) q.2 := by
  intro a0 a2 s0 s1 w q h
  unfold fX2_countOthersThanZero_30 at h
  refine EV.iadd dX2_countOthersThanZero_30 ?_
  refine EV.istore_n [(1, .int (s1 + s0)), (0, .ref a0), (2, .int a2)] dX2_countOthersThanZero_31 rfl (by decide) rfl ?_
  refine EV.iinc 2 (a2 + 1) [(2, .int (a2 + 1)), (1, .int (s1 + s0)), (0, .ref a0)] dX2_countOthersThanZero_32 rfl rfl (by decide) rfl ?_
  refine EV.goto 4 dX2_countOthersThanZero_35 (by decide) ?_
  refine EV.sub [2, 1, 0] rfl ?_
  exact hk4 _ _ _ _ _ h
set_option maxRecDepth 100000 in
set_option maxHeartbeats 4000000 in
theorem eX2_countOthersThanZero_4 {X : px_X}  : ∀ (m : Nat) (a0 : Nat) (a1 : Int32) (a2 : Int32) (w : px_W) (q : Int32 × px_W), fX2_countOthersThanZero_4 X  m a0 a1 a2 w = some q → EV X mX2_countOthersThanZero 4 [(0, .ref a0), (1, .int a1), (2, .int a2)] [] w (some (.int q.1)) q.2 := by
  intro m
  induction m with
  | zero => intro a0 a1 a2 w q h; cases h
  | succ m ih =>
    intro a0 a1 a2 w q h
    rw [fX2_countOthersThanZero_4.eq_2] at h
    refine EV.iload_n 2 dX2_countOthersThanZero_4 rfl rfl ?_
    refine EV.bipush (64) dX2_countOthersThanZero_5 (by decide) ?_
    refine EV.aload_n 0 dX2_countOthersThanZero_7 rfl rfl ?_
    obtain ⟨v4, gv4, h⟩ := px_bs h
    refine ev_gI dX2_countOthersThanZero_8 flRX2_55 gv4 ?_
    refine EV.imul dX2_countOthersThanZero_11 ?_
    refine EV.icmp_ge 38 dX2_countOthersThanZero_12 (by decide) (fun c5 => ?_) (fun c5 => ?_)
    · rw [if_pos c5] at h
      refine EV.iload_n 1 dX2_countOthersThanZero_38 rfl rfl ?_
      cases h
      exact EV.reti dX2_countOthersThanZero_39 rfl
    · rw [if_neg c5] at h
      refine EV.iload_n 1 dX2_countOthersThanZero_15 rfl rfl ?_
      refine EV.aload_n 0 dX2_countOthersThanZero_16 rfl rfl ?_
      obtain ⟨v6, gv6, h⟩ := px_bs h
      refine ev_gR dX2_countOthersThanZero_17 flRX2_40 gv6 ?_
      refine EV.iload_n 2 dX2_countOthersThanZero_20 rfl rfl ?_
      obtain ⟨v7, gv7, h⟩ := px_bs h
      refine ev_aI dX2_countOthersThanZero_21 gv7 ?_
      refine EV.if_ne 29 dX2_countOthersThanZero_22 (by decide) (fun c8 => ?_) (fun c8 => ?_)
      · rw [if_neg c8] at h
        refine EV.iconst (1) dX2_countOthersThanZero_29 (by decide) ?_
        refine EV.sub [0, 2] rfl ?_
        exact eX2_countOthersThanZero_30 ih _ _ _ _ _ _ h
      · rw [if_pos c8] at h
        refine EV.iconst (0) dX2_countOthersThanZero_25 (by decide) ?_
        refine EV.goto 30 dX2_countOthersThanZero_26 (by decide) ?_
        refine EV.sub [0, 2] rfl ?_
        exact eX2_countOthersThanZero_30 ih _ _ _ _ _ _ h
set_option maxRecDepth 100000 in
set_option maxHeartbeats 4000000 in
theorem eX2_countOthersThanZero {X : px_X} {w : px_W} {a0 : Nat} {q : Int32 × px_W} (h : fX2_countOthersThanZero X w a0 = some q) : EV X mX2_countOthersThanZero 0 (lv_args 0 [.ref a0]) [] w (some (.int q.1)) q.2 := by
  unfold fX2_countOthersThanZero at h
  show EV X mX2_countOthersThanZero 0 [(0, .ref a0)] [] w (some (.int q.1)) q.2
  refine EV.iconst (0) dX2_countOthersThanZero_0 (by decide) ?_
  refine EV.istore_n [(1, .int 0), (0, .ref a0)] dX2_countOthersThanZero_1 rfl (by decide) rfl ?_
  refine EV.iconst (0) dX2_countOthersThanZero_2 (by decide) ?_
  refine EV.istore_n [(2, .int 0), (1, .int 0), (0, .ref a0)] dX2_countOthersThanZero_3 rfl (by decide) rfl ?_
  refine EV.sub [2, 1, 0] rfl ?_
  exact eX2_countOthersThanZero_4  FU _ _ _ _ _ h
/-! WavePictures$Picture.sumOfAmounts()I -/
theorem dX2_sumOfAmounts_0 : decode cX2_sumOfAmounts 0 = .ok (.iconst 0, 1) := by decide +kernel
theorem dX2_sumOfAmounts_1 : decode cX2_sumOfAmounts 1 = .ok (.istore_n 1, 1) := by decide +kernel
theorem dX2_sumOfAmounts_2 : decode cX2_sumOfAmounts 2 = .ok (.iconst 0, 1) := by decide +kernel
theorem dX2_sumOfAmounts_3 : decode cX2_sumOfAmounts 3 = .ok (.istore_n 2, 1) := by decide +kernel
theorem dX2_sumOfAmounts_4 : decode cX2_sumOfAmounts 4 = .ok (.iload_n 2, 1) := by decide +kernel
theorem dX2_sumOfAmounts_5 : decode cX2_sumOfAmounts 5 = .ok (.bipush 64, 2) := by decide +kernel
theorem dX2_sumOfAmounts_7 : decode cX2_sumOfAmounts 7 = .ok (.aload_n 0, 1) := by decide +kernel
theorem dX2_sumOfAmounts_8 : decode cX2_sumOfAmounts 8 = .ok (.getfield 55, 3) := by decide +kernel
theorem dX2_sumOfAmounts_11 : decode cX2_sumOfAmounts 11 = .ok (.imul, 1) := by decide +kernel
theorem dX2_sumOfAmounts_12 : decode cX2_sumOfAmounts 12 = .ok (.if_icmp .ge 21, 3) := by decide +kernel
theorem dX2_sumOfAmounts_15 : decode cX2_sumOfAmounts 15 = .ok (.iload_n 1, 1) := by decide +kernel
theorem dX2_sumOfAmounts_16 : decode cX2_sumOfAmounts 16 = .ok (.aload_n 0, 1) := by decide +kernel
theorem dX2_sumOfAmounts_17 : decode cX2_sumOfAmounts 17 = .ok (.getfield 40, 3) := by decide +kernel
theorem dX2_sumOfAmounts_20 : decode cX2_sumOfAmounts 20 = .ok (.iload_n 2, 1) := by decide +kernel
theorem dX2_sumOfAmounts_21 : decode cX2_sumOfAmounts 21 = .ok (.iaload, 1) := by decide +kernel
theorem dX2_sumOfAmounts_22 : decode cX2_sumOfAmounts 22 = .ok (.invokestatic 68, 3) := by decide +kernel
theorem dX2_sumOfAmounts_25 : decode cX2_sumOfAmounts 25 = .ok (.iadd, 1) := by decide +kernel
theorem dX2_sumOfAmounts_26 : decode cX2_sumOfAmounts 26 = .ok (.istore_n 1, 1) := by decide +kernel
theorem dX2_sumOfAmounts_27 : decode cX2_sumOfAmounts 27 = .ok (.iinc 2 1, 3) := by decide +kernel
theorem dX2_sumOfAmounts_30 : decode cX2_sumOfAmounts 30 = .ok (.goto (-26), 3) := by decide +kernel
theorem dX2_sumOfAmounts_33 : decode cX2_sumOfAmounts 33 = .ok (.iload_n 1, 1) := by decide +kernel
theorem dX2_sumOfAmounts_34 : decode cX2_sumOfAmounts 34 = .ok (.ireturn, 1) := by decide +kernel
set_option maxRecDepth 100000 in
set_option maxHeartbeats 4000000 in
theorem eX2_sumOfAmounts_4 {X : px_X}  : ∀ (m : Nat) (a0 : Nat) (a1 : Int32) (a2 : Int32) (w : px_W) (q : Int32 × px_W), fX2_sumOfAmounts_4 X  m a0 a1 a2 w = some q → EV X mX2_sumOfAmounts 4 [(0, .ref a0), (1, .int a1), (2, .int a2)] [] w (some (.int q.1)) q.2 := by
  intro m
  induction m with
  | zero => intro a0 a1 a2 w q h; cases h
  | succ m ih =>
    intro a0 a1 a2 w q h
    rw [fX2_sumOfAmounts_4.eq_2] at h
    refine EV.iload_n 2 dX2_sumOfAmounts_4 rfl rfl ?_
    refine EV.bipush (64) dX2_sumOfAmounts_5 (by decide) ?_
    refine EV.aload_n 0 dX2_sumOfAmounts_7 rfl rfl ?_
    obtain ⟨v4, gv4, h⟩ := px_bs h
    refine ev_gI dX2_sumOfAmounts_8 flRX2_55 gv4 ?_
    refine EV.imul dX2_sumOfAmounts_11 ?_
    refine EV.icmp_ge 33 dX2_sumOfAmounts_12 (by decide) (fun c5 => ?_) (fun c5 => ?_)
    · rw [if_pos c5] at h
      refine EV.iload_n 1 dX2_sumOfAmounts_33 rfl rfl ?_
      cases h
      exact EV.reti dX2_sumOfAmounts_34 rfl
    · rw [if_neg c5] at h
      refine EV.iload_n 1 dX2_sumOfAmounts_15 rfl rfl ?_
      refine EV.aload_n 0 dX2_sumOfAmounts_16 rfl rfl ?_
      obtain ⟨v6, gv6, h⟩ := px_bs h
      refine ev_gR dX2_sumOfAmounts_17 flRX2_40 gv6 ?_
      refine EV.iload_n 2 dX2_sumOfAmounts_20 rfl rfl ?_
      obtain ⟨v7, gv7, h⟩ := px_bs h
      refine ev_aI dX2_sumOfAmounts_21 gv7 ?_
      refine EV.mabs dX2_sumOfAmounts_22 (tb6 (List.mem_of_getElem? (i := 18) rfl)) (by decide) (by decide) (Nat.le_of_ble_eq_true rfl) ?_
      refine EV.iadd dX2_sumOfAmounts_25 ?_
      refine EV.istore_n [(1, .int (a1 + (mabs v7))), (0, .ref a0), (2, .int a2)] dX2_sumOfAmounts_26 rfl (by decide) rfl ?_
      refine EV.iinc 2 (a2 + 1) [(2, .int (a2 + 1)), (1, .int (a1 + (mabs v7))), (0, .ref a0)] dX2_sumOfAmounts_27 rfl rfl (by decide) rfl ?_
      refine EV.goto 4 dX2_sumOfAmounts_30 (by decide) ?_
      refine EV.sub [2, 1, 0] rfl ?_
      exact ih _ _ _ _ _ h
set_option maxRecDepth 100000 in
set_option maxHeartbeats 4000000 in
theorem eX2_sumOfAmounts {X : px_X} {w : px_W} {a0 : Nat} {q : Int32 × px_W} (h : fX2_sumOfAmounts X w a0 = some q) : EV X mX2_sumOfAmounts 0 (lv_args 0 [.ref a0]) [] w (some (.int q.1)) q.2 := by
  unfold fX2_sumOfAmounts at h
  show EV X mX2_sumOfAmounts 0 [(0, .ref a0)] [] w (some (.int q.1)) q.2
  refine EV.iconst (0) dX2_sumOfAmounts_0 (by decide) ?_
  refine EV.istore_n [(1, .int 0), (0, .ref a0)] dX2_sumOfAmounts_1 rfl (by decide) rfl ?_
  refine EV.iconst (0) dX2_sumOfAmounts_2 (by decide) ?_
  refine EV.istore_n [(2, .int 0), (1, .int 0), (0, .ref a0)] dX2_sumOfAmounts_3 rfl (by decide) rfl ?_
  refine EV.sub [2, 1, 0] rfl ?_
  exact eX2_sumOfAmounts_4  FU _ _ _ _ _ h
/-! WavePictures$Picture.setSteps(II)V -/
theorem dX2_setSteps_0 : decode cX2_setSteps 0 = .ok (.iload_n 1, 1) := by decide +kernel
theorem dX2_setSteps_1 : decode cX2_setSteps 1 = .ok (.ifCond .ne 8, 3) := by decide +kernel
theorem dX2_setSteps_4 : decode cX2_setSteps 4 = .ok (.bipush 16, 2) := by decide +kernel
theorem dX2_setSteps_6 : decode cX2_setSteps 6 = .ok (.goto 5, 3) := by decide +kernel
theorem dX2_setSteps_9 : decode cX2_setSteps 9 = .ok (.bipush 17, 2) := by decide +kernel
theorem dX2_setSteps_11 : decode cX2_setSteps 11 = .ok (.istore_n 3, 1) := by decide +kernel
theorem dX2_setSteps_12 : decode cX2_setSteps 12 = .ok (.iload_n 1, 1) := by decide +kernel
theorem dX2_setSteps_13 : decode cX2_setSteps 13 = .ok (.ifCond .ne 8, 3) := by decide +kernel
theorem dX2_setSteps_16 : decode cX2_setSteps 16 = .ok (.bipush 6, 2) := by decide +kernel
theorem dX2_setSteps_18 : decode cX2_setSteps 18 = .ok (.goto 5, 3) := by decide +kernel
theorem dX2_setSteps_21 : decode cX2_setSteps 21 = .ok (.bipush 10, 2) := by decide +kernel
theorem dX2_setSteps_23 : decode cX2_setSteps 23 = .ok (.istore 4, 2) := by decide +kernel
theorem dX2_setSteps_25 : decode cX2_setSteps 25 = .ok (.iconst 0, 1) := by decide +kernel
theorem dX2_setSteps_26 : decode cX2_setSteps 26 = .ok (.istore 5, 2) := by decide +kernel
theorem dX2_setSteps_28 : decode cX2_setSteps 28 = .ok (.iload 5, 2) := by decide +kernel
theorem dX2_setSteps_30 : decode cX2_setSteps 30 = .ok (.bipush 64, 2) := by decide +kernel
theorem dX2_setSteps_32 : decode cX2_setSteps 32 = .ok (.if_icmp .ge 71, 3) := by decide +kernel
theorem dX2_setSteps_35 : decode cX2_setSteps 35 = .ok (.getstatic 72, 3) := by decide +kernel
theorem dX2_setSteps_38 : decode cX2_setSteps 38 = .ok (.iload 5, 2) := by decide +kernel
theorem dX2_setSteps_40 : decode cX2_setSteps 40 = .ok (.iaload, 1) := by decide +kernel
theorem dX2_setSteps_41 : decode cX2_setSteps 41 = .ok (.bipush 8, 2) := by decide +kernel
theorem dX2_setSteps_43 : decode cX2_setSteps 43 = .ok (.idiv, 1) := by decide +kernel
theorem dX2_setSteps_44 : decode cX2_setSteps 44 = .ok (.getstatic 72, 3) := by decide +kernel
theorem dX2_setSteps_47 : decode cX2_setSteps 47 = .ok (.iload 5, 2) := by decide +kernel
theorem dX2_setSteps_49 : decode cX2_setSteps 49 = .ok (.iaload, 1) := by decide +kernel
theorem dX2_setSteps_50 : decode cX2_setSteps 50 = .ok (.bipush 8, 2) := by decide +kernel
theorem dX2_setSteps_52 : decode cX2_setSteps 52 = .ok (.irem, 1) := by decide +kernel
theorem dX2_setSteps_53 : decode cX2_setSteps 53 = .ok (.iadd, 1) := by decide +kernel
theorem dX2_setSteps_54 : decode cX2_setSteps 54 = .ok (.istore 6, 2) := by decide +kernel
theorem dX2_setSteps_56 : decode cX2_setSteps 56 = .ok (.iload_n 3, 1) := by decide +kernel
theorem dX2_setSteps_57 : decode cX2_setSteps 57 = .ok (.iload 4, 2) := by decide +kernel
theorem dX2_setSteps_59 : decode cX2_setSteps 59 = .ok (.iload 6, 2) := by decide +kernel
theorem dX2_setSteps_61 : decode cX2_setSteps 61 = .ok (.imul, 1) := by decide +kernel
theorem dX2_setSteps_62 : decode cX2_setSteps 62 = .ok (.iadd, 1) := by decide +kernel
theorem dX2_setSteps_63 : decode cX2_setSteps 63 = .ok (.iload_n 2, 1) := by decide +kernel
theorem dX2_setSteps_64 : decode cX2_setSteps 64 = .ok (.imul, 1) := by decide +kernel
theorem dX2_setSteps_65 : decode cX2_setSteps 65 = .ok (.bipush 50, 2) := by decide +kernel
theorem dX2_setSteps_67 : decode cX2_setSteps 67 = .ok (.iadd, 1) := by decide +kernel
theorem dX2_setSteps_68 : decode cX2_setSteps 68 = .ok (.bipush 100, 2) := by decide +kernel
theorem dX2_setSteps_70 : decode cX2_setSteps 70 = .ok (.idiv, 1) := by decide +kernel
theorem dX2_setSteps_71 : decode cX2_setSteps 71 = .ok (.istore 7, 2) := by decide +kernel
theorem dX2_setSteps_73 : decode cX2_setSteps 73 = .ok (.aload_n 0, 1) := by decide +kernel
theorem dX2_setSteps_74 : decode cX2_setSteps 74 = .ok (.getfield 43, 3) := by decide +kernel
theorem dX2_setSteps_77 : decode cX2_setSteps 77 = .ok (.bipush 64, 2) := by decide +kernel
theorem dX2_setSteps_79 : decode cX2_setSteps 79 = .ok (.iload_n 1, 1) := by decide +kernel
theorem dX2_setSteps_80 : decode cX2_setSteps 80 = .ok (.imul, 1) := by decide +kernel
theorem dX2_setSteps_81 : decode cX2_setSteps 81 = .ok (.iload 5, 2) := by decide +kernel
theorem dX2_setSteps_83 : decode cX2_setSteps 83 = .ok (.iadd, 1) := by decide +kernel
theorem dX2_setSteps_84 : decode cX2_setSteps 84 = .ok (.iconst 1, 1) := by decide +kernel
theorem dX2_setSteps_85 : decode cX2_setSteps 85 = .ok (.sipush 255, 3) := by decide +kernel
theorem dX2_setSteps_88 : decode cX2_setSteps 88 = .ok (.iload 7, 2) := by decide +kernel
theorem dX2_setSteps_90 : decode cX2_setSteps 90 = .ok (.invokestatic 75, 3) := by decide +kernel
theorem dX2_setSteps_93 : decode cX2_setSteps 93 = .ok (.invokestatic 49, 3) := by decide +kernel
theorem dX2_setSteps_96 : decode cX2_setSteps 96 = .ok (.iastore, 1) := by decide +kernel
theorem dX2_setSteps_97 : decode cX2_setSteps 97 = .ok (.iinc 5 1, 3) := by decide +kernel
theorem dX2_setSteps_100 : decode cX2_setSteps 100 = .ok (.goto (-72), 3) := by decide +kernel
theorem dX2_setSteps_103 : decode cX2_setSteps 103 = .ok (.return_, 1) := by decide +kernel
theorem flRX2_43 : px_f RX2 43 2 12 := ⟨_, rfl, by decide, Or.inl (tb1 (List.mem_of_getElem? (i := 96) rfl))⟩
set_option maxRecDepth 100000 in
set_option maxHeartbeats 4000000 in
theorem eX2_setSteps_28 {X : px_X}  : ∀ (m : Nat) (a0 : Nat) (a1 : Int32) (a2 : Int32) (a3 : Int32) (a4 : Int32) (a5 : Int32) (w : px_W) (q : px_W), fX2_setSteps_28 X  m a0 a1 a2 a3 a4 a5 w = some q → EV X mX2_setSteps 28 [(0, .ref a0), (1, .int a1), (2, .int a2), (3, .int a3), (4, .int a4), (5, .int a5)] [] w none q := by
  intro m
  induction m with
  | zero => intro a0 a1 a2 a3 a4 a5 w q h; cases h
  | succ m ih =>
    intro a0 a1 a2 a3 a4 a5 w q h
    rw [fX2_setSteps_28.eq_2] at h
    refine EV.iload 5 dX2_setSteps_28 rfl ?_
    refine EV.bipush (64) dX2_setSteps_30 (by decide) ?_
    refine EV.icmp_ge 103 dX2_setSteps_32 (by decide) (fun c8 => ?_) (fun c8 => ?_)
    · rw [if_pos c8] at h
      cases h
      exact EV.ret0 dX2_setSteps_103 trivial
    · rw [if_neg c8] at h
      refine EV.getsN (k := 4) dX2_setSteps_35 rfl (tT5 (List.mem_of_getElem? (i := 115) rfl)) ?_
      refine EV.iload 5 dX2_setSteps_38 rfl ?_
      obtain ⟨v9, gv9, h⟩ := px_bs h
      refine ev_aX dX2_setSteps_40 gv9 ?_
      refine EV.bipush (8) dX2_setSteps_41 (by decide) ?_
      obtain ⟨v10, gv10, h⟩ := px_bs h
      refine ev_dI dX2_setSteps_43 gv10 ?_
      refine EV.getsN (k := 4) dX2_setSteps_44 rfl (tT5 (List.mem_of_getElem? (i := 115) rfl)) ?_
      refine EV.iload 5 dX2_setSteps_47 rfl ?_
      obtain ⟨v11, gv11, h⟩ := px_bs h
      refine ev_aX dX2_setSteps_49 gv11 ?_
      refine EV.bipush (8) dX2_setSteps_50 (by decide) ?_
      obtain ⟨v12, gv12, h⟩ := px_bs h
      refine ev_rI dX2_setSteps_52 gv12 ?_
      refine EV.iadd dX2_setSteps_53 ?_
      refine EV.istore [(6, .int (v10 + v12)), (0, .ref a0), (1, .int a1), (2, .int a2), (3, .int a3), (4, .int a4), (5, .int a5)] dX2_setSteps_54 (by decide) rfl ?_
      refine EV.iload_n 4 dX2_setSteps_56 rfl rfl ?_
      refine EV.iload 5 dX2_setSteps_57 rfl ?_
      refine EV.iload 0 dX2_setSteps_59 rfl ?_
      refine EV.imul dX2_setSteps_61 ?_
      refine EV.iadd dX2_setSteps_62 ?_
      refine EV.iload_n 3 dX2_setSteps_63 rfl rfl ?_
      refine EV.imul dX2_setSteps_64 ?_
      refine EV.bipush (50) dX2_setSteps_65 (by decide) ?_
      refine EV.iadd dX2_setSteps_67 ?_
      refine EV.bipush (100) dX2_setSteps_68 (by decide) ?_
      obtain ⟨v13, gv13, h⟩ := px_bs h
      refine ev_dI dX2_setSteps_70 gv13 ?_
      refine EV.istore [(7, .int v13), (6, .int (v10 + v12)), (0, .ref a0), (1, .int a1), (2, .int a2), (3, .int a3), (4, .int a4), (5, .int a5)] dX2_setSteps_71 (by decide) rfl ?_
      refine EV.aload_n 2 dX2_setSteps_73 rfl rfl ?_
      obtain ⟨v14, gv14, h⟩ := px_bs h
      refine ev_gR dX2_setSteps_74 flRX2_43 gv14 ?_
      refine EV.bipush (64) dX2_setSteps_77 (by decide) ?_
      refine EV.iload_n 3 dX2_setSteps_79 rfl rfl ?_
      refine EV.imul dX2_setSteps_80 ?_
      refine EV.iload 7 dX2_setSteps_81 rfl ?_
      refine EV.iadd dX2_setSteps_83 ?_
      refine EV.iconst (1) dX2_setSteps_84 (by decide) ?_
      refine EV.sipush (255) dX2_setSteps_85 (by decide) ?_
      refine EV.iload 0 dX2_setSteps_88 rfl ?_
      refine EV.mmin dX2_setSteps_90 (tb5 (List.mem_of_getElem? (i := 117) rfl)) (by decide) (by decide) (Nat.le_of_ble_eq_true rfl) ?_
      refine EV.mmax dX2_setSteps_93 (tb4 (List.mem_of_getElem? (i := 38) rfl)) (by decide) (by decide) (Nat.le_of_ble_eq_true rfl) ?_
      obtain ⟨w15, gw15, h⟩ := px_bs h
      refine ev_sI dX2_setSteps_96 gw15 ?_
      refine EV.iinc 7 (a5 + 1) [(5, .int (a5 + 1)), (7, .int v13), (6, .int (v10 + v12)), (0, .ref a0), (1, .int a1), (2, .int a2), (3, .int a3), (4, .int a4)] dX2_setSteps_97 rfl rfl (by decide) rfl ?_
      refine EV.goto 28 dX2_setSteps_100 (by decide) ?_
      refine EV.sub [3, 4, 5, 6, 7, 0] rfl ?_
      exact ih _ _ _ _ _ _ _ _ h
set_option maxRecDepth 100000 in
set_option maxHeartbeats 4000000 in
theorem eX2_setSteps_23 {X : px_X}  : ∀ (a0 : Nat) (a1 : Int32) (a2 : Int32) (a3 : Int32) (s0 : Int32) (w : px_W) (q : px_W), fX2_setSteps_23 X  a0 a1 a2 a3 s0 w = some q → EV X mX2_setSteps 23 [(0, .ref a0), (1, .int a1), (2, .int a2), (3, .int a3)] [.int s0] w none q := by
  intro a0 a1 a2 a3 s0 w q h
  unfold fX2_setSteps_23 at h
  refine EV.istore [(4, .int s0), (0, .ref a0), (1, .int a1), (2, .int a2), (3, .int a3)] dX2_setSteps_23 (by decide) rfl ?_
  refine EV.iconst (0) dX2_setSteps_25 (by decide) ?_
  refine EV.istore [(5, .int 0), (4, .int s0), (0, .ref a0), (1, .int a1), (2, .int a2), (3, .int a3)] dX2_setSteps_26 (by decide) rfl ?_
  refine EV.sub [2, 3, 4, 5, 1, 0] rfl ?_
  exact eX2_setSteps_28  FU _ _ _ _ _ _ _ _ h
set_option maxRecDepth 100000 in
set_option maxHeartbeats 4000000 in
theorem eX2_setSteps_11 {X : px_X}  : ∀ (a0 : Nat) (a1 : Int32) (a2 : Int32) (s0 : Int32) (w : px_W) (q : px_W), fX2_setSteps_11 X  a0 a1 a2 s0 w = some q → EV X mX2_setSteps 11 [(0, .ref a0), (1, .int a1), (2, .int a2)] [.int s0] w none q := by
  intro a0 a1 a2 s0 w q h
  unfold fX2_setSteps_11 at h
  refine EV.istore_n [(3, .int s0), (0, .ref a0), (1, .int a1), (2, .int a2)] dX2_setSteps_11 rfl (by decide) rfl ?_
  refine EV.iload_n 2 dX2_setSteps_12 rfl rfl ?_
  refine EV.if_ne 21 dX2_setSteps_13 (by decide) (fun c16 => ?_) (fun c16 => ?_)
  · rw [if_neg c16] at h
    refine EV.bipush (10) dX2_setSteps_21 (by decide) ?_
    refine EV.sub [1, 2, 3, 0] rfl ?_
    exact eX2_setSteps_23  _ _ _ _ _ _ _ h
  · rw [if_pos c16] at h
    refine EV.bipush (6) dX2_setSteps_16 (by decide) ?_
    refine EV.goto 23 dX2_setSteps_18 (by decide) ?_
    refine EV.sub [1, 2, 3, 0] rfl ?_
    exact eX2_setSteps_23  _ _ _ _ _ _ _ h
set_option maxRecDepth 100000 in
set_option maxHeartbeats 4000000 in
theorem eX2_setSteps {X : px_X} {w : px_W} {a0 : Nat} {a1 : Int32} {a2 : Int32} {q : px_W} (h : fX2_setSteps X w a0 a1 a2 = some q) : EV X mX2_setSteps 0 (lv_args 0 [.ref a0, .int a1, .int a2]) [] w none q := by
  unfold fX2_setSteps at h
  show EV X mX2_setSteps 0 [(0, .ref a0), (1, .int a1), (2, .int a2)] [] w none q
  refine EV.iload_n 1 dX2_setSteps_0 rfl rfl ?_
  refine EV.if_ne 9 dX2_setSteps_1 (by decide) (fun c17 => ?_) (fun c17 => ?_)
  · rw [if_neg c17] at h
    refine EV.bipush (17) dX2_setSteps_9 (by decide) ?_
    refine EV.sub [0, 1, 2] rfl ?_
    exact eX2_setSteps_11  _ _ _ _ _ _ h
  · rw [if_pos c17] at h
    refine EV.bipush (16) dX2_setSteps_4 (by decide) ?_
    refine EV.goto 11 dX2_setSteps_6 (by decide) ?_
    refine EV.sub [0, 1, 2] rfl ?_
    exact eX2_setSteps_11  _ _ _ _ _ _ h
/-! WavePictures$Picture.becomeTransposed(LWavePictures$Picture;)V -/
theorem dX2_becomeTransposed_0 : decode cX2_becomeTransposed 0 = .ok (.aload_n 0, 1) := by decide +kernel
theorem dX2_becomeTransposed_1 : decode cX2_becomeTransposed 1 = .ok (.aload_n 1, 1) := by decide +kernel
theorem dX2_becomeTransposed_2 : decode cX2_becomeTransposed 2 = .ok (.getfield 15, 3) := by decide +kernel
theorem dX2_becomeTransposed_5 : decode cX2_becomeTransposed 5 = .ok (.putfield 9, 3) := by decide +kernel
theorem dX2_becomeTransposed_8 : decode cX2_becomeTransposed 8 = .ok (.aload_n 0, 1) := by decide +kernel
theorem dX2_becomeTransposed_9 : decode cX2_becomeTransposed 9 = .ok (.aload_n 1, 1) := by decide +kernel
theorem dX2_becomeTransposed_10 : decode cX2_becomeTransposed 10 = .ok (.getfield 9, 3) := by decide +kernel
theorem dX2_becomeTransposed_13 : decode cX2_becomeTransposed 13 = .ok (.putfield 15, 3) := by decide +kernel
theorem dX2_becomeTransposed_16 : decode cX2_becomeTransposed 16 = .ok (.aload_n 0, 1) := by decide +kernel
theorem dX2_becomeTransposed_17 : decode cX2_becomeTransposed 17 = .ok (.aload_n 1, 1) := by decide +kernel
theorem dX2_becomeTransposed_18 : decode cX2_becomeTransposed 18 = .ok (.getfield 46, 3) := by decide +kernel
theorem dX2_becomeTransposed_21 : decode cX2_becomeTransposed 21 = .ok (.putfield 46, 3) := by decide +kernel
theorem dX2_becomeTransposed_24 : decode cX2_becomeTransposed 24 = .ok (.iconst 0, 1) := by decide +kernel
theorem dX2_becomeTransposed_25 : decode cX2_becomeTransposed 25 = .ok (.istore_n 2, 1) := by decide +kernel
theorem dX2_becomeTransposed_26 : decode cX2_becomeTransposed 26 = .ok (.iload_n 2, 1) := by decide +kernel
theorem dX2_becomeTransposed_27 : decode cX2_becomeTransposed 27 = .ok (.aload_n 0, 1) := by decide +kernel
theorem dX2_becomeTransposed_28 : decode cX2_becomeTransposed 28 = .ok (.getfield 46, 3) := by decide +kernel
theorem dX2_becomeTransposed_31 : decode cX2_becomeTransposed 31 = .ok (.if_icmp .ge 73, 3) := by decide +kernel
theorem dX2_becomeTransposed_34 : decode cX2_becomeTransposed 34 = .ok (.aload_n 0, 1) := by decide +kernel
theorem dX2_becomeTransposed_35 : decode cX2_becomeTransposed 35 = .ok (.getfield 24, 3) := by decide +kernel
theorem dX2_becomeTransposed_38 : decode cX2_becomeTransposed 38 = .ok (.iload_n 2, 1) := by decide +kernel
theorem dX2_becomeTransposed_39 : decode cX2_becomeTransposed 39 = .ok (.aload_n 1, 1) := by decide +kernel
theorem dX2_becomeTransposed_40 : decode cX2_becomeTransposed 40 = .ok (.getfield 28, 3) := by decide +kernel
theorem dX2_becomeTransposed_43 : decode cX2_becomeTransposed 43 = .ok (.iload_n 2, 1) := by decide +kernel
theorem dX2_becomeTransposed_44 : decode cX2_becomeTransposed 44 = .ok (.iaload, 1) := by decide +kernel
theorem dX2_becomeTransposed_45 : decode cX2_becomeTransposed 45 = .ok (.iastore, 1) := by decide +kernel
theorem dX2_becomeTransposed_46 : decode cX2_becomeTransposed 46 = .ok (.aload_n 0, 1) := by decide +kernel
theorem dX2_becomeTransposed_47 : decode cX2_becomeTransposed 47 = .ok (.getfield 28, 3) := by decide +kernel
theorem dX2_becomeTransposed_50 : decode cX2_becomeTransposed 50 = .ok (.iload_n 2, 1) := by decide +kernel
theorem dX2_becomeTransposed_51 : decode cX2_becomeTransposed 51 = .ok (.aload_n 1, 1) := by decide +kernel
theorem dX2_becomeTransposed_52 : decode cX2_becomeTransposed 52 = .ok (.getfield 24, 3) := by decide +kernel
theorem dX2_becomeTransposed_55 : decode cX2_becomeTransposed 55 = .ok (.iload_n 2, 1) := by decide +kernel
theorem dX2_becomeTransposed_56 : decode cX2_becomeTransposed 56 = .ok (.iaload, 1) := by decide +kernel
theorem dX2_becomeTransposed_57 : decode cX2_becomeTransposed 57 = .ok (.iastore, 1) := by decide +kernel
theorem dX2_becomeTransposed_58 : decode cX2_becomeTransposed 58 = .ok (.iconst 0, 1) := by decide +kernel
theorem dX2_becomeTransposed_59 : decode cX2_becomeTransposed 59 = .ok (.istore_n 3, 1) := by decide +kernel
theorem dX2_becomeTransposed_60 : decode cX2_becomeTransposed 60 = .ok (.iload_n 3, 1) := by decide +kernel
theorem dX2_becomeTransposed_61 : decode cX2_becomeTransposed 61 = .ok (.bipush 64, 2) := by decide +kernel
theorem dX2_becomeTransposed_63 : decode cX2_becomeTransposed 63 = .ok (.if_icmp .ge 35, 3) := by decide +kernel
theorem dX2_becomeTransposed_66 : decode cX2_becomeTransposed 66 = .ok (.aload_n 0, 1) := by decide +kernel
theorem dX2_becomeTransposed_67 : decode cX2_becomeTransposed 67 = .ok (.getfield 43, 3) := by decide +kernel
theorem dX2_becomeTransposed_70 : decode cX2_becomeTransposed 70 = .ok (.bipush 64, 2) := by decide +kernel
theorem dX2_becomeTransposed_72 : decode cX2_becomeTransposed 72 = .ok (.iload_n 2, 1) := by decide +kernel
theorem dX2_becomeTransposed_73 : decode cX2_becomeTransposed 73 = .ok (.imul, 1) := by decide +kernel
theorem dX2_becomeTransposed_74 : decode cX2_becomeTransposed 74 = .ok (.iload_n 3, 1) := by decide +kernel
theorem dX2_becomeTransposed_75 : decode cX2_becomeTransposed 75 = .ok (.iadd, 1) := by decide +kernel
theorem dX2_becomeTransposed_76 : decode cX2_becomeTransposed 76 = .ok (.aload_n 1, 1) := by decide +kernel
theorem dX2_becomeTransposed_77 : decode cX2_becomeTransposed 77 = .ok (.getfield 43, 3) := by decide +kernel
theorem dX2_becomeTransposed_80 : decode cX2_becomeTransposed 80 = .ok (.bipush 64, 2) := by decide +kernel
theorem dX2_becomeTransposed_82 : decode cX2_becomeTransposed 82 = .ok (.iload_n 2, 1) := by decide +kernel
theorem dX2_becomeTransposed_83 : decode cX2_becomeTransposed 83 = .ok (.imul, 1) := by decide +kernel
theorem dX2_becomeTransposed_84 : decode cX2_becomeTransposed 84 = .ok (.getstatic 78, 3) := by decide +kernel
theorem dX2_becomeTransposed_87 : decode cX2_becomeTransposed 87 = .ok (.iload_n 3, 1) := by decide +kernel
theorem dX2_becomeTransposed_88 : decode cX2_becomeTransposed 88 = .ok (.iaload, 1) := by decide +kernel
theorem dX2_becomeTransposed_89 : decode cX2_becomeTransposed 89 = .ok (.iadd, 1) := by decide +kernel
theorem dX2_becomeTransposed_90 : decode cX2_becomeTransposed 90 = .ok (.iaload, 1) := by decide +kernel
theorem dX2_becomeTransposed_91 : decode cX2_becomeTransposed 91 = .ok (.iastore, 1) := by decide +kernel
theorem dX2_becomeTransposed_92 : decode cX2_becomeTransposed 92 = .ok (.iinc 3 1, 3) := by decide +kernel
theorem dX2_becomeTransposed_95 : decode cX2_becomeTransposed 95 = .ok (.goto (-35), 3) := by decide +kernel
theorem dX2_becomeTransposed_98 : decode cX2_becomeTransposed 98 = .ok (.iinc 2 1, 3) := by decide +kernel
theorem dX2_becomeTransposed_101 : decode cX2_becomeTransposed 101 = .ok (.goto (-75), 3) := by decide +kernel
theorem dX2_becomeTransposed_104 : decode cX2_becomeTransposed 104 = .ok (.aload_n 0, 1) := by decide +kernel
theorem dX2_becomeTransposed_105 : decode cX2_becomeTransposed 105 = .ok (.invokevirtual 81, 3) := by decide +kernel
theorem dX2_becomeTransposed_108 : decode cX2_becomeTransposed 108 = .ok (.iconst 0, 1) := by decide +kernel
theorem dX2_becomeTransposed_109 : decode cX2_becomeTransposed 109 = .ok (.istore_n 2, 1) := by decide +kernel
theorem dX2_becomeTransposed_110 : decode cX2_becomeTransposed 110 = .ok (.iload_n 2, 1) := by decide +kernel
theorem dX2_becomeTransposed_111 : decode cX2_becomeTransposed 111 = .ok (.aload_n 0, 1) := by decide +kernel
theorem dX2_becomeTransposed_112 : decode cX2_becomeTransposed 112 = .ok (.getfield 46, 3) := by decide +kernel
theorem dX2_becomeTransposed_115 : decode cX2_becomeTransposed 115 = .ok (.if_icmp .ge 123, 3) := by decide +kernel
theorem dX2_becomeTransposed_118 : decode cX2_becomeTransposed 118 = .ok (.iconst 0, 1) := by decide +kernel
theorem dX2_becomeTransposed_119 : decode cX2_becomeTransposed 119 = .ok (.istore_n 3, 1) := by decide +kernel
theorem dX2_becomeTransposed_120 : decode cX2_becomeTransposed 120 = .ok (.iload_n 3, 1) := by decide +kernel
theorem dX2_becomeTransposed_121 : decode cX2_becomeTransposed 121 = .ok (.aload_n 0, 1) := by decide +kernel
theorem dX2_becomeTransposed_122 : decode cX2_becomeTransposed 122 = .ok (.getfield 31, 3) := by decide +kernel
theorem dX2_becomeTransposed_125 : decode cX2_becomeTransposed 125 = .ok (.iload_n 2, 1) := by decide +kernel
theorem dX2_becomeTransposed_126 : decode cX2_becomeTransposed 126 = .ok (.iaload, 1) := by decide +kernel
theorem dX2_becomeTransposed_127 : decode cX2_becomeTransposed 127 = .ok (.aload_n 0, 1) := by decide +kernel
theorem dX2_becomeTransposed_128 : decode cX2_becomeTransposed 128 = .ok (.getfield 34, 3) := by decide +kernel
theorem dX2_becomeTransposed_131 : decode cX2_becomeTransposed 131 = .ok (.iload_n 2, 1) := by decide +kernel
theorem dX2_becomeTransposed_132 : decode cX2_becomeTransposed 132 = .ok (.iaload, 1) := by decide +kernel
theorem dX2_becomeTransposed_133 : decode cX2_becomeTransposed 133 = .ok (.imul, 1) := by decide +kernel
theorem dX2_becomeTransposed_134 : decode cX2_becomeTransposed 134 = .ok (.if_icmp .ge 98, 3) := by decide +kernel
theorem dX2_becomeTransposed_137 : decode cX2_becomeTransposed 137 = .ok (.bipush 64, 2) := by decide +kernel
theorem dX2_becomeTransposed_139 : decode cX2_becomeTransposed 139 = .ok (.aload_n 1, 1) := by decide +kernel
theorem dX2_becomeTransposed_140 : decode cX2_becomeTransposed 140 = .ok (.getfield 37, 3) := by decide +kernel
theorem dX2_becomeTransposed_143 : decode cX2_becomeTransposed 143 = .ok (.iload_n 2, 1) := by decide +kernel
theorem dX2_becomeTransposed_144 : decode cX2_becomeTransposed 144 = .ok (.iaload, 1) := by decide +kernel
theorem dX2_becomeTransposed_145 : decode cX2_becomeTransposed 145 = .ok (.iload_n 3, 1) := by decide +kernel
theorem dX2_becomeTransposed_146 : decode cX2_becomeTransposed 146 = .ok (.aload_n 0, 1) := by decide +kernel
theorem dX2_becomeTransposed_147 : decode cX2_becomeTransposed 147 = .ok (.getfield 31, 3) := by decide +kernel
theorem dX2_becomeTransposed_150 : decode cX2_becomeTransposed 150 = .ok (.iload_n 2, 1) := by decide +kernel
theorem dX2_becomeTransposed_151 : decode cX2_becomeTransposed 151 = .ok (.iaload, 1) := by decide +kernel
theorem dX2_becomeTransposed_152 : decode cX2_becomeTransposed 152 = .ok (.irem, 1) := by decide +kernel
theorem dX2_becomeTransposed_153 : decode cX2_becomeTransposed 153 = .ok (.aload_n 1, 1) := by decide +kernel
theorem dX2_becomeTransposed_154 : decode cX2_becomeTransposed 154 = .ok (.getfield 31, 3) := by decide +kernel
theorem dX2_becomeTransposed_157 : decode cX2_becomeTransposed 157 = .ok (.iload_n 2, 1) := by decide +kernel
theorem dX2_becomeTransposed_158 : decode cX2_becomeTransposed 158 = .ok (.iaload, 1) := by decide +kernel
theorem dX2_becomeTransposed_159 : decode cX2_becomeTransposed 159 = .ok (.imul, 1) := by decide +kernel
theorem dX2_becomeTransposed_160 : decode cX2_becomeTransposed 160 = .ok (.iadd, 1) := by decide +kernel
theorem dX2_becomeTransposed_161 : decode cX2_becomeTransposed 161 = .ok (.iload_n 3, 1) := by decide +kernel
theorem dX2_becomeTransposed_162 : decode cX2_becomeTransposed 162 = .ok (.aload_n 0, 1) := by decide +kernel
theorem dX2_becomeTransposed_163 : decode cX2_becomeTransposed 163 = .ok (.getfield 31, 3) := by decide +kernel
theorem dX2_becomeTransposed_166 : decode cX2_becomeTransposed 166 = .ok (.iload_n 2, 1) := by decide +kernel
theorem dX2_becomeTransposed_167 : decode cX2_becomeTransposed 167 = .ok (.iaload, 1) := by decide +kernel
theorem dX2_becomeTransposed_168 : decode cX2_becomeTransposed 168 = .ok (.idiv, 1) := by decide +kernel
theorem dX2_becomeTransposed_169 : decode cX2_becomeTransposed 169 = .ok (.iadd, 1) := by decide +kernel
theorem dX2_becomeTransposed_170 : decode cX2_becomeTransposed 170 = .ok (.imul, 1) := by decide +kernel
theorem dX2_becomeTransposed_171 : decode cX2_becomeTransposed 171 = .ok (.istore 4, 2) := by decide +kernel
theorem dX2_becomeTransposed_173 : decode cX2_becomeTransposed 173 = .ok (.bipush 64, 2) := by decide +kernel
theorem dX2_becomeTransposed_175 : decode cX2_becomeTransposed 175 = .ok (.aload_n 0, 1) := by decide +kernel
theorem dX2_becomeTransposed_176 : decode cX2_becomeTransposed 176 = .ok (.getfield 37, 3) := by decide +kernel
theorem dX2_becomeTransposed_179 : decode cX2_becomeTransposed 179 = .ok (.iload_n 2, 1) := by decide +kernel
theorem dX2_becomeTransposed_180 : decode cX2_becomeTransposed 180 = .ok (.iaload, 1) := by decide +kernel
theorem dX2_becomeTransposed_181 : decode cX2_becomeTransposed 181 = .ok (.iload_n 3, 1) := by decide +kernel
theorem dX2_becomeTransposed_182 : decode cX2_becomeTransposed 182 = .ok (.iadd, 1) := by decide +kernel
theorem dX2_becomeTransposed_183 : decode cX2_becomeTransposed 183 = .ok (.imul, 1) := by decide +kernel
theorem dX2_becomeTransposed_184 : decode cX2_becomeTransposed 184 = .ok (.istore 5, 2) := by decide +kernel
theorem dX2_becomeTransposed_186 : decode cX2_becomeTransposed 186 = .ok (.iconst 0, 1) := by decide +kernel
theorem dX2_becomeTransposed_187 : decode cX2_becomeTransposed 187 = .ok (.istore 6, 2) := by decide +kernel
theorem dX2_becomeTransposed_189 : decode cX2_becomeTransposed 189 = .ok (.iload 6, 2) := by decide +kernel
theorem dX2_becomeTransposed_191 : decode cX2_becomeTransposed 191 = .ok (.bipush 64, 2) := by decide +kernel
theorem dX2_becomeTransposed_193 : decode cX2_becomeTransposed 193 = .ok (.if_icmp .ge 33, 3) := by decide +kernel
theorem dX2_becomeTransposed_196 : decode cX2_becomeTransposed 196 = .ok (.aload_n 0, 1) := by decide +kernel
theorem dX2_becomeTransposed_197 : decode cX2_becomeTransposed 197 = .ok (.getfield 40, 3) := by decide +kernel
theorem dX2_becomeTransposed_200 : decode cX2_becomeTransposed 200 = .ok (.iload 5, 2) := by decide +kernel
theorem dX2_becomeTransposed_202 : decode cX2_becomeTransposed 202 = .ok (.iload 6, 2) := by decide +kernel
theorem dX2_becomeTransposed_204 : decode cX2_becomeTransposed 204 = .ok (.iadd, 1) := by decide +kernel
theorem dX2_becomeTransposed_205 : decode cX2_becomeTransposed 205 = .ok (.aload_n 1, 1) := by decide +kernel
theorem dX2_becomeTransposed_206 : decode cX2_becomeTransposed 206 = .ok (.getfield 40, 3) := by decide +kernel
theorem dX2_becomeTransposed_209 : decode cX2_becomeTransposed 209 = .ok (.iload 4, 2) := by decide +kernel
theorem dX2_becomeTransposed_211 : decode cX2_becomeTransposed 211 = .ok (.getstatic 78, 3) := by decide +kernel
theorem dX2_becomeTransposed_214 : decode cX2_becomeTransposed 214 = .ok (.iload 6, 2) := by decide +kernel
theorem dX2_becomeTransposed_216 : decode cX2_becomeTransposed 216 = .ok (.iaload, 1) := by decide +kernel
theorem dX2_becomeTransposed_217 : decode cX2_becomeTransposed 217 = .ok (.iadd, 1) := by decide +kernel
theorem dX2_becomeTransposed_218 : decode cX2_becomeTransposed 218 = .ok (.iaload, 1) := by decide +kernel
theorem dX2_becomeTransposed_219 : decode cX2_becomeTransposed 219 = .ok (.iastore, 1) := by decide +kernel
theorem dX2_becomeTransposed_220 : decode cX2_becomeTransposed 220 = .ok (.iinc 6 1, 3) := by decide +kernel
theorem dX2_becomeTransposed_223 : decode cX2_becomeTransposed 223 = .ok (.goto (-34), 3) := by decide +kernel
theorem dX2_becomeTransposed_226 : decode cX2_becomeTransposed 226 = .ok (.iinc 3 1, 3) := by decide +kernel
theorem dX2_becomeTransposed_229 : decode cX2_becomeTransposed 229 = .ok (.goto (-109), 3) := by decide +kernel
theorem dX2_becomeTransposed_232 : decode cX2_becomeTransposed 232 = .ok (.iinc 2 1, 3) := by decide +kernel
theorem dX2_becomeTransposed_235 : decode cX2_becomeTransposed 235 = .ok (.goto (-125), 3) := by decide +kernel
theorem dX2_becomeTransposed_238 : decode cX2_becomeTransposed 238 = .ok (.return_, 1) := by decide +kernel
theorem mbX2_settle : px_mB mX2_settle 0 := ⟨tb4 (List.mem_of_getElem? (i := 37) rfl), by decide +kernel, tb1 (List.mem_of_getElem? (i := 3) rfl), by decide +kernel, by decide +kernel⟩
theorem vbX2_settle : px_vB mX2_settle := ⟨tb4 (List.mem_of_getElem? (i := 35) rfl), tb4 (List.mem_of_getElem? (i := 36) rfl)⟩
theorem kcX2_becomeTransposed_81 : px_cV mX2_becomeTransposed 81 mX2_settle 0 := ⟨⟨mbX2_settle, by decide, by decide⟩, Or.inl (tb5 (List.mem_of_getElem? (i := 204) rfl)), vbX2_settle⟩
set_option maxRecDepth 100000 in
set_option maxHeartbeats 4000000 in
theorem eX2_becomeTransposed_232 {X : px_X} {k110 : Nat → Nat → Int32 → px_W → Option (px_W)} (hk110 : ∀ (a0 : Nat) (a1 : Nat) (a2 : Int32) (w : px_W) (q : px_W), k110 a0 a1 a2 w = some q → EV X mX2_becomeTransposed 110 [(0, .ref a0), (1, .ref a1), (2, .int a2)] [] w none q) : ∀ (a0 : Nat) (a1 : Nat) (a2 : Int32) (w : px_W) (q : px_W), fX2_becomeTransposed_232 X k110 a0 a1 a2 w = some q → EV X mX2_becomeTransposed 232 [(0, .ref a0), (1, .ref a1), (2, .int a2)] [] w none q := by
  intro a0 a1 a2 w q h
  unfold fX2_becomeTransposed_232 at h
  refine EV.iinc 2 (a2 + 1) [(2, .int (a2 + 1)), (0, .ref a0), (1, .ref a1)] dX2_becomeTransposed_232 rfl rfl (by decide) rfl ?_
  refine EV.goto 110 dX2_becomeTransposed_235 (by decide) ?_
  refine EV.sub [1, 2, 0] rfl ?_
  exact hk110 _ _ _ _ _ h
set_option maxRecDepth 100000 in
set_option maxHeartbeats 4000000 in
theorem eX2_becomeTransposed_226 {X : px_X} {k110 : Nat → Nat → Int32 → px_W → Option (px_W)} (hk110 : ∀ (a0 : Nat) (a1 : Nat) (a2 : Int32) (w : px_W) (q : px_W), k110 a0 a1 a2 w = some q → EV X mX2_becomeTransposed 110 [(0, .ref a0), (1, .ref a1), (2, .int a2)] [] w none q) {k120 : Nat → Nat → Int32 → Int32 → px_W → Option (px_W)} (hk120 : ∀ (a0 : Nat) (a1 : Nat) (a2 : Int32) (a3 : Int32) (w : px_W) (q : px_W), k120 a0 a1 a2 a3 w = some q → EV X mX2_becomeTransposed 120 [(0, .ref a0), (1, .ref a1), (2, .int a2), (3, .int a3)] [] w none q) : ∀ (a0 : Nat) (a1 : Nat) (a2 : Int32) (a3 : Int32) (w : px_W) (q : px_W), fX2_becomeTransposed_226 X k110 k120 a0 a1 a2 a3 w = some q → EV X mX2_becomeTransposed 226 [(0, .ref a0), (1, .ref a1), (2, .int a2), (3, .int a3)] [] w none q := by
  intro a0 a1 a2 a3 w q h
  unfold fX2_becomeTransposed_226 at h
  refine EV.iinc 3 (a3 + 1) [(3, .int (a3 + 1)), (0, .ref a0), (1, .ref a1), (2, .int a2)] dX2_becomeTransposed_226 rfl rfl (by decide) rfl ?_
  refine EV.goto 120 dX2_becomeTransposed_229 (by decide) ?_
  refine EV.sub [1, 2, 3, 0] rfl ?_
  exact hk120 _ _ _ _ _ _ h
set_option maxRecDepth 100000 in
set_option maxHeartbeats 4000000 in
theorem eX2_becomeTransposed_189 {X : px_X} {k110 : Nat → Nat → Int32 → px_W → Option (px_W)} (hk110 : ∀ (a0 : Nat) (a1 : Nat) (a2 : Int32) (w : px_W) (q : px_W), k110 a0 a1 a2 w = some q → EV X mX2_becomeTransposed 110 [(0, .ref a0), (1, .ref a1), (2, .int a2)] [] w none q) {k120 : Nat → Nat → Int32 → Int32 → px_W → Option (px_W)} (hk120 : ∀ (a0 : Nat) (a1 : Nat) (a2 : Int32) (a3 : Int32) (w : px_W) (q : px_W), k120 a0 a1 a2 a3 w = some q → EV X mX2_becomeTransposed 120 [(0, .ref a0), (1, .ref a1), (2, .int a2), (3, .int a3)] [] w none q) : ∀ (m : Nat) (a0 : Nat) (a1 : Nat) (a2 : Int32) (a3 : Int32) (a4 : Int32) (a5 : Int32) (a6 : Int32) (w : px_W) (q : px_W), fX2_becomeTransposed_189 X k110 k120 m a0 a1 a2 a3 a4 a5 a6 w = some q → EV X mX2_becomeTransposed 189 [(0, .ref a0), (1, .ref a1), (2, .int a2), (3, .int a3), (4, .int a4), (5, .int a5), (6, .int a6)] [] w none q := by
  intro m
  induction m with
  | zero => intro a0 a1 a2 a3 a4 a5 a6 w q h; cases h
  | succ m ih =>
    intro a0 a1 a2 a3 a4 a5 a6 w q h
    rw [fX2_becomeTransposed_189.eq_2] at h
    refine EV.iload 6 dX2_becomeTransposed_189 rfl ?_
    refine EV.bipush (64) dX2_becomeTransposed_191 (by decide) ?_
    refine EV.icmp_ge 226 dX2_becomeTransposed_193 (by decide) (fun c45 => ?_) (fun c45 => ?_)
    · rw [if_pos c45] at h
      refine EV.sub [0, 1, 2, 3] rfl ?_
      exact eX2_becomeTransposed_226 hk110 hk120 _ _ _ _ _ _ h
    · rw [if_neg c45] at h
      refine EV.aload_n 0 dX2_becomeTransposed_196 rfl rfl ?_
      obtain ⟨v46, gv46, h⟩ := px_bs h
      refine ev_gR dX2_becomeTransposed_197 flRX2_40 gv46 ?_
      refine EV.iload 5 dX2_becomeTransposed_200 rfl ?_
      refine EV.iload 6 dX2_becomeTransposed_202 rfl ?_
      refine EV.iadd dX2_becomeTransposed_204 ?_
      refine EV.aload_n 1 dX2_becomeTransposed_205 rfl rfl ?_
      obtain ⟨v47, gv47, h⟩ := px_bs h
      refine ev_gR dX2_becomeTransposed_206 flRX2_40 gv47 ?_
      refine EV.iload 4 dX2_becomeTransposed_209 rfl ?_
      refine EV.getsN (k := 5) dX2_becomeTransposed_211 rfl (tT5 (List.mem_of_getElem? (i := 202) rfl)) ?_
      refine EV.iload 6 dX2_becomeTransposed_214 rfl ?_
      obtain ⟨v48, gv48, h⟩ := px_bs h
      refine ev_aX dX2_becomeTransposed_216 gv48 ?_
      refine EV.iadd dX2_becomeTransposed_217 ?_
      obtain ⟨v49, gv49, h⟩ := px_bs h
      refine ev_aI dX2_becomeTransposed_218 gv49 ?_
      obtain ⟨w50, gw50, h⟩ := px_bs h
      refine ev_sI dX2_becomeTransposed_219 gw50 ?_
      refine EV.iinc 6 (a6 + 1) [(6, .int (a6 + 1)), (0, .ref a0), (1, .ref a1), (2, .int a2), (3, .int a3), (4, .int a4), (5, .int a5)] dX2_becomeTransposed_220 rfl rfl (by decide) rfl ?_
      refine EV.goto 189 dX2_becomeTransposed_223 (by decide) ?_
      refine EV.sub [1, 2, 3, 4, 5, 6, 0] rfl ?_
      exact ih _ _ _ _ _ _ _ _ _ h
set_option maxRecDepth 100000 in
set_option maxHeartbeats 4000000 in
theorem eX2_becomeTransposed_120 {X : px_X} {k110 : Nat → Nat → Int32 → px_W → Option (px_W)} (hk110 : ∀ (a0 : Nat) (a1 : Nat) (a2 : Int32) (w : px_W) (q : px_W), k110 a0 a1 a2 w = some q → EV X mX2_becomeTransposed 110 [(0, .ref a0), (1, .ref a1), (2, .int a2)] [] w none q) : ∀ (m : Nat) (a0 : Nat) (a1 : Nat) (a2 : Int32) (a3 : Int32) (w : px_W) (q : px_W), fX2_becomeTransposed_120 X k110 m a0 a1 a2 a3 w = some q → EV X mX2_becomeTransposed 120 [(0, .ref a0), (1, .ref a1), (2, .int a2), (3, .int a3)] [] w none q := by
  intro m
  induction m with
  | zero => intro a0 a1 a2 a3 w q h; cases h
  | succ m ih =>
    intro a0 a1 a2 a3 w q h
    rw [fX2_becomeTransposed_120.eq_2] at h
    refine EV.iload_n 3 dX2_becomeTransposed_120 rfl rfl ?_
    refine EV.aload_n 0 dX2_becomeTransposed_121 rfl rfl ?_
    obtain ⟨v51, gv51, h⟩ := px_bs h
    refine ev_gR dX2_becomeTransposed_122 flRX2_31 gv51 ?_
    refine EV.iload_n 2 dX2_becomeTransposed_125 rfl rfl ?_
    obtain ⟨v52, gv52, h⟩ := px_bs h
    refine ev_aI dX2_becomeTransposed_126 gv52 ?_
    refine EV.aload_n 0 dX2_becomeTransposed_127 rfl rfl ?_
    obtain ⟨v53, gv53, h⟩ := px_bs h
    refine ev_gR dX2_becomeTransposed_128 flRX2_34 gv53 ?_
    refine EV.iload_n 2 dX2_becomeTransposed_131 rfl rfl ?_
    obtain ⟨v54, gv54, h⟩ := px_bs h
    refine ev_aI dX2_becomeTransposed_132 gv54 ?_
    refine EV.imul dX2_becomeTransposed_133 ?_
    refine EV.icmp_ge 232 dX2_becomeTransposed_134 (by decide) (fun c55 => ?_) (fun c55 => ?_)
    · rw [if_pos c55] at h
      refine EV.sub [0, 1, 2] rfl ?_
      exact eX2_becomeTransposed_232 hk110 _ _ _ _ _ h
    · rw [if_neg c55] at h
      refine EV.bipush (64) dX2_becomeTransposed_137 (by decide) ?_
      refine EV.aload_n 1 dX2_becomeTransposed_139 rfl rfl ?_
      obtain ⟨v56, gv56, h⟩ := px_bs h
      refine ev_gR dX2_becomeTransposed_140 flRX2_37 gv56 ?_
      refine EV.iload_n 2 dX2_becomeTransposed_143 rfl rfl ?_
      obtain ⟨v57, gv57, h⟩ := px_bs h
      refine ev_aI dX2_becomeTransposed_144 gv57 ?_
      refine EV.iload_n 3 dX2_becomeTransposed_145 rfl rfl ?_
      refine EV.aload_n 0 dX2_becomeTransposed_146 rfl rfl ?_
      obtain ⟨v58, gv58, h⟩ := px_bs h
      refine ev_gR dX2_becomeTransposed_147 flRX2_31 gv58 ?_
      refine EV.iload_n 2 dX2_becomeTransposed_150 rfl rfl ?_
      obtain ⟨v59, gv59, h⟩ := px_bs h
      refine ev_aI dX2_becomeTransposed_151 gv59 ?_
      obtain ⟨v60, gv60, h⟩ := px_bs h
      refine ev_rI dX2_becomeTransposed_152 gv60 ?_
      refine EV.aload_n 1 dX2_becomeTransposed_153 rfl rfl ?_
      obtain ⟨v61, gv61, h⟩ := px_bs h
      refine ev_gR dX2_becomeTransposed_154 flRX2_31 gv61 ?_
      refine EV.iload_n 2 dX2_becomeTransposed_157 rfl rfl ?_
      obtain ⟨v62, gv62, h⟩ := px_bs h
      refine ev_aI dX2_becomeTransposed_158 gv62 ?_
      refine EV.imul dX2_becomeTransposed_159 ?_
      refine EV.iadd dX2_becomeTransposed_160 ?_
      refine EV.iload_n 3 dX2_becomeTransposed_161 rfl rfl ?_
      refine EV.aload_n 0 dX2_becomeTransposed_162 rfl rfl ?_
      obtain ⟨v63, gv63, h⟩ := px_bs h
      refine ev_gR dX2_becomeTransposed_163 flRX2_31 gv63 ?_
      refine EV.iload_n 2 dX2_becomeTransposed_166 rfl rfl ?_
      obtain ⟨v64, gv64, h⟩ := px_bs h
      refine ev_aI dX2_becomeTransposed_167 gv64 ?_
      obtain ⟨v65, gv65, h⟩ := px_bs h
      refine ev_dI dX2_becomeTransposed_168 gv65 ?_
      refine EV.iadd dX2_becomeTransposed_169 ?_
      refine EV.imul dX2_becomeTransposed_170 ?_
      refine EV.istore [(4, .int (64 * ((v57 + (v60 * v62)) + v65))), (0, .ref a0), (1, .ref a1), (2, .int a2), (3, .int a3)] dX2_becomeTransposed_171 (by decide) rfl ?_
      refine EV.bipush (64) dX2_becomeTransposed_173 (by decide) ?_
      refine EV.aload_n 1 dX2_becomeTransposed_175 rfl rfl ?_
      obtain ⟨v66, gv66, h⟩ := px_bs h
      refine ev_gR dX2_becomeTransposed_176 flRX2_37 gv66 ?_
      refine EV.iload_n 3 dX2_becomeTransposed_179 rfl rfl ?_
      obtain ⟨v67, gv67, h⟩ := px_bs h
      refine ev_aI dX2_becomeTransposed_180 gv67 ?_
      refine EV.iload_n 4 dX2_becomeTransposed_181 rfl rfl ?_
      refine EV.iadd dX2_becomeTransposed_182 ?_
      refine EV.imul dX2_becomeTransposed_183 ?_
      refine EV.istore [(5, .int (64 * (v67 + a3))), (4, .int (64 * ((v57 + (v60 * v62)) + v65))), (0, .ref a0), (1, .ref a1), (2, .int a2), (3, .int a3)] dX2_becomeTransposed_184 (by decide) rfl ?_
      refine EV.iconst (0) dX2_becomeTransposed_186 (by decide) ?_
      refine EV.istore [(6, .int 0), (5, .int (64 * (v67 + a3))), (4, .int (64 * ((v57 + (v60 * v62)) + v65))), (0, .ref a0), (1, .ref a1), (2, .int a2), (3, .int a3)] dX2_becomeTransposed_187 (by decide) rfl ?_
      refine EV.sub [3, 4, 5, 6, 2, 1, 0] rfl ?_
      exact eX2_becomeTransposed_189 hk110 ih FU _ _ _ _ _ _ _ _ _ h
set_option maxRecDepth 100000 in
set_option maxHeartbeats 4000000 in
theorem eX2_becomeTransposed_110 {X : px_X}  : ∀ (m : Nat) (a0 : Nat) (a1 : Nat) (a2 : Int32) (w : px_W) (q : px_W), fX2_becomeTransposed_110 X  m a0 a1 a2 w = some q → EV X mX2_becomeTransposed 110 [(0, .ref a0), (1, .ref a1), (2, .int a2)] [] w none q := by
  intro m
  induction m with
  | zero => intro a0 a1 a2 w q h; cases h
  | succ m ih =>
    intro a0 a1 a2 w q h
    rw [fX2_becomeTransposed_110.eq_2] at h
    refine EV.iload_n 2 dX2_becomeTransposed_110 rfl rfl ?_
    refine EV.aload_n 0 dX2_becomeTransposed_111 rfl rfl ?_
    obtain ⟨v68, gv68, h⟩ := px_bs h
    refine ev_gI dX2_becomeTransposed_112 flRX2_46 gv68 ?_
    refine EV.icmp_ge 238 dX2_becomeTransposed_115 (by decide) (fun c69 => ?_) (fun c69 => ?_)
    · rw [if_pos c69] at h
      cases h
      exact EV.ret0 dX2_becomeTransposed_238 trivial
    · rw [if_neg c69] at h
      refine EV.iconst (0) dX2_becomeTransposed_118 (by decide) ?_
      refine EV.istore_n [(3, .int 0), (0, .ref a0), (1, .ref a1), (2, .int a2)] dX2_becomeTransposed_119 rfl (by decide) rfl ?_
      refine EV.sub [1, 2, 3, 0] rfl ?_
      exact eX2_becomeTransposed_120 ih FU _ _ _ _ _ _ h
set_option maxRecDepth 100000 in
set_option maxHeartbeats 4000000 in
theorem eX2_becomeTransposed_104 {X : px_X}  : ∀ (a0 : Nat) (a1 : Nat) (w : px_W) (q : px_W), fX2_becomeTransposed_104 X  a0 a1 w = some q → EV X mX2_becomeTransposed 104 [(0, .ref a0), (1, .ref a1)] [] w none q := by
  intro a0 a1 w q h
  unfold fX2_becomeTransposed_104 at h
  refine EV.aload_n 0 dX2_becomeTransposed_104 rfl rfl ?_
  obtain ⟨o70, go70, h⟩ := px_bs h
  obtain ⟨q71, gq71, h⟩ := px_bs h
  refine EV.callV (As := []) (rest := []) dX2_becomeTransposed_105 kcX2_becomeTransposed_81 (gO_ok go70) rfl rfl rfl (Nat.le_of_ble_eq_true rfl) (Nat.le_of_ble_eq_true rfl) (eX2_settle gq71) ?_
  refine EV.iconst (0) dX2_becomeTransposed_108 (by decide) ?_
  refine EV.istore_n [(2, .int 0), (0, .ref a0), (1, .ref a1)] dX2_becomeTransposed_109 rfl (by decide) rfl ?_
  refine EV.sub [1, 2, 0] rfl ?_
  exact eX2_becomeTransposed_110  FU _ _ _ _ _ h
set_option maxRecDepth 100000 in
set_option maxHeartbeats 4000000 in
theorem eX2_becomeTransposed_98 {X : px_X} {k26 : Nat → Nat → Int32 → px_W → Option (px_W)} (hk26 : ∀ (a0 : Nat) (a1 : Nat) (a2 : Int32) (w : px_W) (q : px_W), k26 a0 a1 a2 w = some q → EV X mX2_becomeTransposed 26 [(0, .ref a0), (1, .ref a1), (2, .int a2)] [] w none q) : ∀ (a0 : Nat) (a1 : Nat) (a2 : Int32) (w : px_W) (q : px_W), fX2_becomeTransposed_98 X k26 a0 a1 a2 w = some q → EV X mX2_becomeTransposed 98 [(0, .ref a0), (1, .ref a1), (2, .int a2)] [] w none q := by
  intro a0 a1 a2 w q h
  unfold fX2_becomeTransposed_98 at h
  refine EV.iinc 2 (a2 + 1) [(2, .int (a2 + 1)), (0, .ref a0), (1, .ref a1)] dX2_becomeTransposed_98 rfl rfl (by decide) rfl ?_
  refine EV.goto 26 dX2_becomeTransposed_101 (by decide) ?_
  refine EV.sub [1, 2, 0] rfl ?_
  exact hk26 _ _ _ _ _ h
set_option maxRecDepth 100000 in
set_option maxHeartbeats 4000000 in
theorem eX2_becomeTransposed_60 {X : px_X} {k26 : Nat → Nat → Int32 → px_W → Option (px_W)} (hk26 : ∀ (a0 : Nat) (a1 : Nat) (a2 : Int32) (w : px_W) (q : px_W), k26 a0 a1 a2 w = some q → EV X mX2_becomeTransposed 26 [(0, .ref a0), (1, .ref a1), (2, .int a2)] [] w none q) : ∀ (m : Nat) (a0 : Nat) (a1 : Nat) (a2 : Int32) (a3 : Int32) (w : px_W) (q : px_W), fX2_becomeTransposed_60 X k26 m a0 a1 a2 a3 w = some q → EV X mX2_becomeTransposed 60 [(0, .ref a0), (1, .ref a1), (2, .int a2), (3, .int a3)] [] w none q := by
  intro m
  induction m with
  | zero => intro a0 a1 a2 a3 w q h; cases h
  | succ m ih =>
    intro a0 a1 a2 a3 w q h
    rw [fX2_becomeTransposed_60.eq_2] at h
    refine EV.iload_n 3 dX2_becomeTransposed_60 rfl rfl ?_
    refine EV.bipush (64) dX2_becomeTransposed_61 (by decide) ?_
    refine EV.icmp_ge 98 dX2_becomeTransposed_63 (by decide) (fun c72 => ?_) (fun c72 => ?_)
    · rw [if_pos c72] at h
      refine EV.sub [0, 1, 2] rfl ?_
      exact eX2_becomeTransposed_98 hk26 _ _ _ _ _ h
    · rw [if_neg c72] at h
      refine EV.aload_n 0 dX2_becomeTransposed_66 rfl rfl ?_
      obtain ⟨v73, gv73, h⟩ := px_bs h
      refine ev_gR dX2_becomeTransposed_67 flRX2_43 gv73 ?_
      refine EV.bipush (64) dX2_becomeTransposed_70 (by decide) ?_
      refine EV.iload_n 2 dX2_becomeTransposed_72 rfl rfl ?_
      refine EV.imul dX2_becomeTransposed_73 ?_
      refine EV.iload_n 3 dX2_becomeTransposed_74 rfl rfl ?_
      refine EV.iadd dX2_becomeTransposed_75 ?_
      refine EV.aload_n 1 dX2_becomeTransposed_76 rfl rfl ?_
      obtain ⟨v74, gv74, h⟩ := px_bs h
      refine ev_gR dX2_becomeTransposed_77 flRX2_43 gv74 ?_
      refine EV.bipush (64) dX2_becomeTransposed_80 (by decide) ?_
      refine EV.iload_n 2 dX2_becomeTransposed_82 rfl rfl ?_
      refine EV.imul dX2_becomeTransposed_83 ?_
      refine EV.getsN (k := 5) dX2_becomeTransposed_84 rfl (tT5 (List.mem_of_getElem? (i := 202) rfl)) ?_
      refine EV.iload_n 3 dX2_becomeTransposed_87 rfl rfl ?_
      obtain ⟨v75, gv75, h⟩ := px_bs h
      refine ev_aX dX2_becomeTransposed_88 gv75 ?_
      refine EV.iadd dX2_becomeTransposed_89 ?_
      obtain ⟨v76, gv76, h⟩ := px_bs h
      refine ev_aI dX2_becomeTransposed_90 gv76 ?_
      obtain ⟨w77, gw77, h⟩ := px_bs h
      refine ev_sI dX2_becomeTransposed_91 gw77 ?_
      refine EV.iinc 3 (a3 + 1) [(3, .int (a3 + 1)), (0, .ref a0), (1, .ref a1), (2, .int a2)] dX2_becomeTransposed_92 rfl rfl (by decide) rfl ?_
      refine EV.goto 60 dX2_becomeTransposed_95 (by decide) ?_
      refine EV.sub [1, 2, 3, 0] rfl ?_
      exact ih _ _ _ _ _ _ h
set_option maxRecDepth 100000 in
set_option maxHeartbeats 4000000 in
theorem eX2_becomeTransposed_26 {X : px_X}  : ∀ (m : Nat) (a0 : Nat) (a1 : Nat) (a2 : Int32) (w : px_W) (q : px_W), fX2_becomeTransposed_26 X  m a0 a1 a2 w = some q → EV X mX2_becomeTransposed 26 [(0, .ref a0), (1, .ref a1), (2, .int a2)] [] w none q := by
  intro m
  induction m with
  | zero => intro a0 a1 a2 w q h; cases h
  | succ m ih =>
    intro a0 a1 a2 w q h
    rw [fX2_becomeTransposed_26.eq_2] at h
    refine EV.iload_n 2 dX2_becomeTransposed_26 rfl rfl ?_
    refine EV.aload_n 0 dX2_becomeTransposed_27 rfl rfl ?_
    obtain ⟨v78, gv78, h⟩ := px_bs h
    refine ev_gI dX2_becomeTransposed_28 flRX2_46 gv78 ?_
    refine EV.icmp_ge 104 dX2_becomeTransposed_31 (by decide) (fun c79 => ?_) (fun c79 => ?_)
    · rw [if_pos c79] at h
      refine EV.sub [0, 1] rfl ?_
      exact eX2_becomeTransposed_104  _ _ _ _ h
    · rw [if_neg c79] at h
      refine EV.aload_n 0 dX2_becomeTransposed_34 rfl rfl ?_
      obtain ⟨v80, gv80, h⟩ := px_bs h
      refine ev_gR dX2_becomeTransposed_35 flRX2_24 gv80 ?_
      refine EV.iload_n 2 dX2_becomeTransposed_38 rfl rfl ?_
      refine EV.aload_n 1 dX2_becomeTransposed_39 rfl rfl ?_
      obtain ⟨v81, gv81, h⟩ := px_bs h
      refine ev_gR dX2_becomeTransposed_40 flRX2_28 gv81 ?_
      refine EV.iload_n 2 dX2_becomeTransposed_43 rfl rfl ?_
      obtain ⟨v82, gv82, h⟩ := px_bs h
      refine ev_aI dX2_becomeTransposed_44 gv82 ?_
      obtain ⟨w83, gw83, h⟩ := px_bs h
      refine ev_sI dX2_becomeTransposed_45 gw83 ?_
      refine EV.aload_n 0 dX2_becomeTransposed_46 rfl rfl ?_
      obtain ⟨v84, gv84, h⟩ := px_bs h
      refine ev_gR dX2_becomeTransposed_47 flRX2_28 gv84 ?_
      refine EV.iload_n 2 dX2_becomeTransposed_50 rfl rfl ?_
      refine EV.aload_n 1 dX2_becomeTransposed_51 rfl rfl ?_
      obtain ⟨v85, gv85, h⟩ := px_bs h
      refine ev_gR dX2_becomeTransposed_52 flRX2_24 gv85 ?_
      refine EV.iload_n 2 dX2_becomeTransposed_55 rfl rfl ?_
      obtain ⟨v86, gv86, h⟩ := px_bs h
      refine ev_aI dX2_becomeTransposed_56 gv86 ?_
      obtain ⟨w87, gw87, h⟩ := px_bs h
      refine ev_sI dX2_becomeTransposed_57 gw87 ?_
      refine EV.iconst (0) dX2_becomeTransposed_58 (by decide) ?_
      refine EV.istore_n [(3, .int 0), (0, .ref a0), (1, .ref a1), (2, .int a2)] dX2_becomeTransposed_59 rfl (by decide) rfl ?_
      refine EV.sub [1, 2, 3, 0] rfl ?_
      exact eX2_becomeTransposed_60 ih FU _ _ _ _ _ _ h
set_option maxRecDepth 100000 in
set_option maxHeartbeats 4000000 in
theorem eX2_becomeTransposed {X : px_X} {w : px_W} {a0 : Nat} {a1 : Nat} {q : px_W} (h : fX2_becomeTransposed X w a0 a1 = some q) : EV X mX2_becomeTransposed 0 (lv_args 0 [.ref a0, .ref a1]) [] w none q := by
  unfold fX2_becomeTransposed at h
  show EV X mX2_becomeTransposed 0 [(0, .ref a0), (1, .ref a1)] [] w none q
  refine EV.aload_n 0 dX2_becomeTransposed_0 rfl rfl ?_
  refine EV.aload_n 1 dX2_becomeTransposed_1 rfl rfl ?_
  obtain ⟨v88, gv88, h⟩ := px_bs h
  refine ev_gI dX2_becomeTransposed_2 flRX2_15 gv88 ?_
  obtain ⟨w89, gw89, h⟩ := px_bs h
  refine ev_pV dX2_becomeTransposed_5 flRX2_9 rfl rfl rfl rfl gw89 ?_
  refine EV.aload_n 0 dX2_becomeTransposed_8 rfl rfl ?_
  refine EV.aload_n 1 dX2_becomeTransposed_9 rfl rfl ?_
  obtain ⟨v90, gv90, h⟩ := px_bs h
  refine ev_gI dX2_becomeTransposed_10 flRX2_9 gv90 ?_
  obtain ⟨w91, gw91, h⟩ := px_bs h
  refine ev_pV dX2_becomeTransposed_13 flRX2_15 rfl rfl rfl rfl gw91 ?_
  refine EV.aload_n 0 dX2_becomeTransposed_16 rfl rfl ?_
  refine EV.aload_n 1 dX2_becomeTransposed_17 rfl rfl ?_
  obtain ⟨v92, gv92, h⟩ := px_bs h
  refine ev_gI dX2_becomeTransposed_18 flRX2_46 gv92 ?_
  obtain ⟨w93, gw93, h⟩ := px_bs h
  refine ev_pV dX2_becomeTransposed_21 flRX2_46 rfl rfl rfl rfl gw93 ?_
  refine EV.iconst (0) dX2_becomeTransposed_24 (by decide) ?_
  refine EV.istore_n [(2, .int 0), (0, .ref a0), (1, .ref a1)] dX2_becomeTransposed_25 rfl (by decide) rfl ?_
  refine EV.sub [1, 2, 0] rfl ?_
  exact eX2_becomeTransposed_26  FU _ _ _ _ _ h
/-! WavePictures$Picture.takeFrame(LWavePictures$Picture;)V -/
theorem dX2_takeFrame_0 : decode cX2_takeFrame 0 = .ok (.aload_n 0, 1) := by decide +kernel
theorem dX2_takeFrame_1 : decode cX2_takeFrame 1 = .ok (.aload_n 1, 1) := by decide +kernel
theorem dX2_takeFrame_2 : decode cX2_takeFrame 2 = .ok (.getfield 46, 3) := by decide +kernel
theorem dX2_takeFrame_5 : decode cX2_takeFrame 5 = .ok (.putfield 46, 3) := by decide +kernel
theorem dX2_takeFrame_8 : decode cX2_takeFrame 8 = .ok (.aload_n 1, 1) := by decide +kernel
theorem dX2_takeFrame_9 : decode cX2_takeFrame 9 = .ok (.getfield 24, 3) := by decide +kernel
theorem dX2_takeFrame_12 : decode cX2_takeFrame 12 = .ok (.iconst 0, 1) := by decide +kernel
theorem dX2_takeFrame_13 : decode cX2_takeFrame 13 = .ok (.aload_n 0, 1) := by decide +kernel
theorem dX2_takeFrame_14 : decode cX2_takeFrame 14 = .ok (.getfield 24, 3) := by decide +kernel
theorem dX2_takeFrame_17 : decode cX2_takeFrame 17 = .ok (.iconst 0, 1) := by decide +kernel
theorem dX2_takeFrame_18 : decode cX2_takeFrame 18 = .ok (.iconst 4, 1) := by decide +kernel
theorem dX2_takeFrame_19 : decode cX2_takeFrame 19 = .ok (.invokestatic 96, 3) := by decide +kernel
theorem dX2_takeFrame_22 : decode cX2_takeFrame 22 = .ok (.aload_n 1, 1) := by decide +kernel
theorem dX2_takeFrame_23 : decode cX2_takeFrame 23 = .ok (.getfield 28, 3) := by decide +kernel
theorem dX2_takeFrame_26 : decode cX2_takeFrame 26 = .ok (.iconst 0, 1) := by decide +kernel
theorem dX2_takeFrame_27 : decode cX2_takeFrame 27 = .ok (.aload_n 0, 1) := by decide +kernel
theorem dX2_takeFrame_28 : decode cX2_takeFrame 28 = .ok (.getfield 28, 3) := by decide +kernel
theorem dX2_takeFrame_31 : decode cX2_takeFrame 31 = .ok (.iconst 0, 1) := by decide +kernel
theorem dX2_takeFrame_32 : decode cX2_takeFrame 32 = .ok (.iconst 4, 1) := by decide +kernel
theorem dX2_takeFrame_33 : decode cX2_takeFrame 33 = .ok (.invokestatic 96, 3) := by decide +kernel
theorem dX2_takeFrame_36 : decode cX2_takeFrame 36 = .ok (.aload_n 1, 1) := by decide +kernel
theorem dX2_takeFrame_37 : decode cX2_takeFrame 37 = .ok (.getfield 43, 3) := by decide +kernel
theorem dX2_takeFrame_40 : decode cX2_takeFrame 40 = .ok (.iconst 0, 1) := by decide +kernel
theorem dX2_takeFrame_41 : decode cX2_takeFrame 41 = .ok (.aload_n 0, 1) := by decide +kernel
theorem dX2_takeFrame_42 : decode cX2_takeFrame 42 = .ok (.getfield 43, 3) := by decide +kernel
theorem dX2_takeFrame_45 : decode cX2_takeFrame 45 = .ok (.iconst 0, 1) := by decide +kernel
theorem dX2_takeFrame_46 : decode cX2_takeFrame 46 = .ok (.sipush 256, 3) := by decide +kernel
theorem dX2_takeFrame_49 : decode cX2_takeFrame 49 = .ok (.invokestatic 96, 3) := by decide +kernel
theorem dX2_takeFrame_52 : decode cX2_takeFrame 52 = .ok (.return_, 1) := by decide +kernel
set_option maxRecDepth 100000 in
set_option maxHeartbeats 4000000 in
theorem eX2_takeFrame {X : px_X} {w : px_W} {a0 : Nat} {a1 : Nat} {q : px_W} (h : fX2_takeFrame X w a0 a1 = some q) : EV X mX2_takeFrame 0 (lv_args 0 [.ref a0, .ref a1]) [] w none q := by
  unfold fX2_takeFrame at h
  show EV X mX2_takeFrame 0 [(0, .ref a0), (1, .ref a1)] [] w none q
  refine EV.aload_n 0 dX2_takeFrame_0 rfl rfl ?_
  refine EV.aload_n 1 dX2_takeFrame_1 rfl rfl ?_
  obtain ⟨v12, gv12, h⟩ := px_bs h
  refine ev_gI dX2_takeFrame_2 flRX2_46 gv12 ?_
  obtain ⟨w13, gw13, h⟩ := px_bs h
  refine ev_pV dX2_takeFrame_5 flRX2_46 rfl rfl rfl rfl gw13 ?_
  refine EV.aload_n 1 dX2_takeFrame_8 rfl rfl ?_
  obtain ⟨v14, gv14, h⟩ := px_bs h
  refine ev_gR dX2_takeFrame_9 flRX2_24 gv14 ?_
  refine EV.iconst (0) dX2_takeFrame_12 (by decide) ?_
  refine EV.aload_n 0 dX2_takeFrame_13 rfl rfl ?_
  obtain ⟨v15, gv15, h⟩ := px_bs h
  refine ev_gR dX2_takeFrame_14 flRX2_24 gv15 ?_
  refine EV.iconst (0) dX2_takeFrame_17 (by decide) ?_
  refine EV.iconst (4) dX2_takeFrame_18 (by decide) ?_
  obtain ⟨w16, gw16, h⟩ := px_bs h
  refine ev_cpI dX2_takeFrame_19 (tb5 (List.mem_of_getElem? (i := 213) rfl)) (by decide) (by decide) (Nat.le_of_ble_eq_true rfl) gw16 ?_
  refine EV.aload_n 1 dX2_takeFrame_22 rfl rfl ?_
  obtain ⟨v17, gv17, h⟩ := px_bs h
  refine ev_gR dX2_takeFrame_23 flRX2_28 gv17 ?_
  refine EV.iconst (0) dX2_takeFrame_26 (by decide) ?_
  refine EV.aload_n 0 dX2_takeFrame_27 rfl rfl ?_
  obtain ⟨v18, gv18, h⟩ := px_bs h
  refine ev_gR dX2_takeFrame_28 flRX2_28 gv18 ?_
  refine EV.iconst (0) dX2_takeFrame_31 (by decide) ?_
  refine EV.iconst (4) dX2_takeFrame_32 (by decide) ?_
  obtain ⟨w19, gw19, h⟩ := px_bs h
  refine ev_cpI dX2_takeFrame_33 (tb5 (List.mem_of_getElem? (i := 213) rfl)) (by decide) (by decide) (Nat.le_of_ble_eq_true rfl) gw19 ?_
  refine EV.aload_n 1 dX2_takeFrame_36 rfl rfl ?_
  obtain ⟨v20, gv20, h⟩ := px_bs h
  refine ev_gR dX2_takeFrame_37 flRX2_43 gv20 ?_
  refine EV.iconst (0) dX2_takeFrame_40 (by decide) ?_
  refine EV.aload_n 0 dX2_takeFrame_41 rfl rfl ?_
  obtain ⟨v21, gv21, h⟩ := px_bs h
  refine ev_gR dX2_takeFrame_42 flRX2_43 gv21 ?_
  refine EV.iconst (0) dX2_takeFrame_45 (by decide) ?_
  refine EV.sipush (256) dX2_takeFrame_46 (by decide) ?_
  obtain ⟨w22, gw22, h⟩ := px_bs h
  refine ev_cpI dX2_takeFrame_49 (tb5 (List.mem_of_getElem? (i := 213) rfl)) (by decide) (by decide) (Nat.le_of_ble_eq_true rfl) gw22 ?_
  cases h
  exact EV.ret0 dX2_takeFrame_52 trivial
/-! WavePictures$Picture.takeBlock(LWavePictures$Picture;IIZZ)V -/
theorem dX2_takeBlock_0 : decode cX2_takeBlock 0 = .ok (.iload_n 2, 1) := by decide +kernel
theorem dX2_takeBlock_1 : decode cX2_takeBlock 1 = .ok (.iconst (-1), 1) := by decide +kernel
theorem dX2_takeBlock_2 : decode cX2_takeBlock 2 = .ok (.if_icmp .eq 8, 3) := by decide +kernel
theorem dX2_takeBlock_5 : decode cX2_takeBlock 5 = .ok (.iload_n 3, 1) := by decide +kernel
theorem dX2_takeBlock_6 : decode cX2_takeBlock 6 = .ok (.iconst (-1), 1) := by decide +kernel
theorem dX2_takeBlock_7 : decode cX2_takeBlock 7 = .ok (.if_icmp .ne 4, 3) := by decide +kernel
theorem dX2_takeBlock_10 : decode cX2_takeBlock 10 = .ok (.return_, 1) := by decide +kernel
theorem dX2_takeBlock_11 : decode cX2_takeBlock 11 = .ok (.iconst 0, 1) := by decide +kernel
theorem dX2_takeBlock_12 : decode cX2_takeBlock 12 = .ok (.istore 6, 2) := by decide +kernel
theorem dX2_takeBlock_14 : decode cX2_takeBlock 14 = .ok (.iload 6, 2) := by decide +kernel
theorem dX2_takeBlock_16 : decode cX2_takeBlock 16 = .ok (.bipush 64, 2) := by decide +kernel
theorem dX2_takeBlock_18 : decode cX2_takeBlock 18 = .ok (.if_icmp .ge 105, 3) := by decide +kernel
theorem dX2_takeBlock_21 : decode cX2_takeBlock 21 = .ok (.aload_n 1, 1) := by decide +kernel
theorem dX2_takeBlock_22 : decode cX2_takeBlock 22 = .ok (.getfield 40, 3) := by decide +kernel
theorem dX2_takeBlock_25 : decode cX2_takeBlock 25 = .ok (.bipush 64, 2) := by decide +kernel
theorem dX2_takeBlock_27 : decode cX2_takeBlock 27 = .ok (.iload_n 2, 1) := by decide +kernel
theorem dX2_takeBlock_28 : decode cX2_takeBlock 28 = .ok (.imul, 1) := by decide +kernel
theorem dX2_takeBlock_29 : decode cX2_takeBlock 29 = .ok (.iload 6, 2) := by decide +kernel
theorem dX2_takeBlock_31 : decode cX2_takeBlock 31 = .ok (.iadd, 1) := by decide +kernel
theorem dX2_takeBlock_32 : decode cX2_takeBlock 32 = .ok (.iaload, 1) := by decide +kernel
theorem dX2_takeBlock_33 : decode cX2_takeBlock 33 = .ok (.istore 7, 2) := by decide +kernel
theorem dX2_takeBlock_35 : decode cX2_takeBlock 35 = .ok (.iload 4, 2) := by decide +kernel
theorem dX2_takeBlock_37 : decode cX2_takeBlock 37 = .ok (.ifCond .eq 19, 3) := by decide +kernel
theorem dX2_takeBlock_40 : decode cX2_takeBlock 40 = .ok (.getstatic 72, 3) := by decide +kernel
theorem dX2_takeBlock_43 : decode cX2_takeBlock 43 = .ok (.iload 6, 2) := by decide +kernel
theorem dX2_takeBlock_45 : decode cX2_takeBlock 45 = .ok (.iaload, 1) := by decide +kernel
theorem dX2_takeBlock_46 : decode cX2_takeBlock 46 = .ok (.iconst 2, 1) := by decide +kernel
theorem dX2_takeBlock_47 : decode cX2_takeBlock 47 = .ok (.irem, 1) := by decide +kernel
theorem dX2_takeBlock_48 : decode cX2_takeBlock 48 = .ok (.iconst 1, 1) := by decide +kernel
theorem dX2_takeBlock_49 : decode cX2_takeBlock 49 = .ok (.if_icmp .ne 7, 3) := by decide +kernel
theorem dX2_takeBlock_52 : decode cX2_takeBlock 52 = .ok (.iconst 1, 1) := by decide +kernel
theorem dX2_takeBlock_53 : decode cX2_takeBlock 53 = .ok (.goto 4, 3) := by decide +kernel
theorem dX2_takeBlock_56 : decode cX2_takeBlock 56 = .ok (.iconst 0, 1) := by decide +kernel
theorem dX2_takeBlock_57 : decode cX2_takeBlock 57 = .ok (.iload 5, 2) := by decide +kernel
theorem dX2_takeBlock_59 : decode cX2_takeBlock 59 = .ok (.ifCond .eq 22, 3) := by decide +kernel
theorem dX2_takeBlock_62 : decode cX2_takeBlock 62 = .ok (.getstatic 72, 3) := by decide +kernel
theorem dX2_takeBlock_65 : decode cX2_takeBlock 65 = .ok (.iload 6, 2) := by decide +kernel
theorem dX2_takeBlock_67 : decode cX2_takeBlock 67 = .ok (.iaload, 1) := by decide +kernel
theorem dX2_takeBlock_68 : decode cX2_takeBlock 68 = .ok (.bipush 8, 2) := by decide +kernel
theorem dX2_takeBlock_70 : decode cX2_takeBlock 70 = .ok (.idiv, 1) := by decide +kernel
theorem dX2_takeBlock_71 : decode cX2_takeBlock 71 = .ok (.iconst 2, 1) := by decide +kernel
theorem dX2_takeBlock_72 : decode cX2_takeBlock 72 = .ok (.irem, 1) := by decide +kernel
theorem dX2_takeBlock_73 : decode cX2_takeBlock 73 = .ok (.iconst 1, 1) := by decide +kernel
theorem dX2_takeBlock_74 : decode cX2_takeBlock 74 = .ok (.if_icmp .ne 7, 3) := by decide +kernel
theorem dX2_takeBlock_77 : decode cX2_takeBlock 77 = .ok (.iconst 1, 1) := by decide +kernel
theorem dX2_takeBlock_78 : decode cX2_takeBlock 78 = .ok (.goto 4, 3) := by decide +kernel
theorem dX2_takeBlock_81 : decode cX2_takeBlock 81 = .ok (.iconst 0, 1) := by decide +kernel
theorem dX2_takeBlock_82 : decode cX2_takeBlock 82 = .ok (.if_icmp .eq 7, 3) := by decide +kernel
theorem dX2_takeBlock_85 : decode cX2_takeBlock 85 = .ok (.iconst 1, 1) := by decide +kernel
theorem dX2_takeBlock_86 : decode cX2_takeBlock 86 = .ok (.goto 4, 3) := by decide +kernel
theorem dX2_takeBlock_89 : decode cX2_takeBlock 89 = .ok (.iconst 0, 1) := by decide +kernel
theorem dX2_takeBlock_90 : decode cX2_takeBlock 90 = .ok (.istore 8, 2) := by decide +kernel
theorem dX2_takeBlock_92 : decode cX2_takeBlock 92 = .ok (.aload_n 0, 1) := by decide +kernel
theorem dX2_takeBlock_93 : decode cX2_takeBlock 93 = .ok (.getfield 40, 3) := by decide +kernel
theorem dX2_takeBlock_96 : decode cX2_takeBlock 96 = .ok (.bipush 64, 2) := by decide +kernel
theorem dX2_takeBlock_98 : decode cX2_takeBlock 98 = .ok (.iload_n 3, 1) := by decide +kernel
theorem dX2_takeBlock_99 : decode cX2_takeBlock 99 = .ok (.imul, 1) := by decide +kernel
theorem dX2_takeBlock_100 : decode cX2_takeBlock 100 = .ok (.iload 6, 2) := by decide +kernel
theorem dX2_takeBlock_102 : decode cX2_takeBlock 102 = .ok (.iadd, 1) := by decide +kernel
theorem dX2_takeBlock_103 : decode cX2_takeBlock 103 = .ok (.iload 8, 2) := by decide +kernel
theorem dX2_takeBlock_105 : decode cX2_takeBlock 105 = .ok (.ifCond .eq 9, 3) := by decide +kernel
theorem dX2_takeBlock_108 : decode cX2_takeBlock 108 = .ok (.iload 7, 2) := by decide +kernel
theorem dX2_takeBlock_110 : decode cX2_takeBlock 110 = .ok (.ineg, 1) := by decide +kernel
theorem dX2_takeBlock_111 : decode cX2_takeBlock 111 = .ok (.goto 5, 3) := by decide +kernel
theorem dX2_takeBlock_114 : decode cX2_takeBlock 114 = .ok (.iload 7, 2) := by decide +kernel
theorem dX2_takeBlock_116 : decode cX2_takeBlock 116 = .ok (.iastore, 1) := by decide +kernel
theorem dX2_takeBlock_117 : decode cX2_takeBlock 117 = .ok (.iinc 6 1, 3) := by decide +kernel
theorem dX2_takeBlock_120 : decode cX2_takeBlock 120 = .ok (.goto (-106), 3) := by decide +kernel
theorem dX2_takeBlock_123 : decode cX2_takeBlock 123 = .ok (.return_, 1) := by decide +kernel
set_option maxRecDepth 100000 in
set_option maxHeartbeats 4000000 in
theorem eX2_takeBlock_116 {X : px_X} {k14 : Nat → Nat → Int32 → Int32 → Int32 → Int32 → Int32 → px_W → Option (px_W)} (hk14 : ∀ (a0 : Nat) (a1 : Nat) (a2 : Int32) (a3 : Int32) (a4 : Int32) (a5 : Int32) (a6 : Int32) (w : px_W) (q : px_W), k14 a0 a1 a2 a3 a4 a5 a6 w = some q → EV X mX2_takeBlock 14 [(0, .ref a0), (1, .ref a1), (2, .int a2), (3, .int a3), (4, .int a4), (5, .int a5), (6, .int a6)] [] w none q) : ∀ (a0 : Nat) (a1 : Nat) (a2 : Int32) (a3 : Int32) (a4 : Int32) (a5 : Int32) (a6 : Int32) (s0 : Int32) (s1 : Int32) (s2 : Nat) (w : px_W) (q : px_W), fX2_takeBlock_116 X k14 a0 a1 a2 a3 a4 a5 a6 s0 s1 s2 w = some q → EV X mX2_takeBlock 116 [(0, .ref a0), (1, .ref a1), (2, .int a2), (3, .int a3), (4, .int a4), (5, .int a5), (6, .int a6)] [.int s0, .int s1, .ref s2] w none q := by
  intro a0 a1 a2 a3 a4 a5 a6 s0 s1 s2 w q h
  unfold fX2_takeBlock_116 at h
  obtain ⟨w10, gw10, h⟩ := px_bs h
  refine ev_sI dX2_takeBlock_116 gw10 ?_
  refine EV.iinc 6 (a6 + 1) [(6, .int (a6 + 1)), (0, .ref a0), (1, .ref a1), (2, .int a2), (3, .int a3), (4, .int a4), (5, .int a5)] dX2_takeBlock_117 rfl rfl (by decide) rfl ?_
  refine EV.goto 14 dX2_takeBlock_120 (by decide) ?_
  refine EV.sub [1, 2, 3, 4, 5, 6, 0] rfl ?_
  exact hk14 _ _ _ _ _ _ _ _ _ h
set_option maxRecDepth 100000 in
set_option maxHeartbeats 4000000 in
theorem eX2_takeBlock_90 {X : px_X} {k14 : Nat → Nat → Int32 → Int32 → Int32 → Int32 → Int32 → px_W → Option (px_W)} (hk14 : ∀ (a0 : Nat) (a1 : Nat) (a2 : Int32) (a3 : Int32) (a4 : Int32) (a5 : Int32) (a6 : Int32) (w : px_W) (q : px_W), k14 a0 a1 a2 a3 a4 a5 a6 w = some q → EV X mX2_takeBlock 14 [(0, .ref a0), (1, .ref a1), (2, .int a2), (3, .int a3), (4, .int a4), (5, .int a5), (6, .int a6)] [] w none q) : ∀ (a0 : Nat) (a1 : Nat) (a2 : Int32) (a3 : Int32) (a4 : Int32) (a5 : Int32) (a6 : Int32) (a7 : Int32) (s0 : Int32) (w : px_W) (q : px_W), fX2_takeBlock_90 X k14 a0 a1 a2 a3 a4 a5 a6 a7 s0 w = some q → EV X mX2_takeBlock 90 [(0, .ref a0), (1, .ref a1), (2, .int a2), (3, .int a3), (4, .int a4), (5, .int a5), (6, .int a6), (7, .int a7)] [.int s0] w none q := by
  intro a0 a1 a2 a3 a4 a5 a6 a7 s0 w q h
  unfold fX2_takeBlock_90 at h
  refine EV.istore [(8, .int s0), (0, .ref a0), (1, .ref a1), (2, .int a2), (3, .int a3), (4, .int a4), (5, .int a5), (6, .int a6), (7, .int a7)] dX2_takeBlock_90 (by decide) rfl ?_
  refine EV.aload_n 1 dX2_takeBlock_92 rfl rfl ?_
  obtain ⟨v11, gv11, h⟩ := px_bs h
  refine ev_gR dX2_takeBlock_93 flRX2_40 gv11 ?_
  refine EV.bipush (64) dX2_takeBlock_96 (by decide) ?_
  refine EV.iload_n 4 dX2_takeBlock_98 rfl rfl ?_
  refine EV.imul dX2_takeBlock_99 ?_
  refine EV.iload 7 dX2_takeBlock_100 rfl ?_
  refine EV.iadd dX2_takeBlock_102 ?_
  refine EV.iload 0 dX2_takeBlock_103 rfl ?_
  refine EV.if_eq 114 dX2_takeBlock_105 (by decide) (fun c12 => ?_) (fun c12 => ?_)
  · rw [if_pos c12] at h
    refine EV.iload 8 dX2_takeBlock_114 rfl ?_
    refine EV.sub [1, 2, 3, 4, 5, 6, 7] rfl ?_
    exact eX2_takeBlock_116 hk14 _ _ _ _ _ _ _ _ _ _ _ _ h
  · rw [if_neg c12] at h
    refine EV.iload 8 dX2_takeBlock_108 rfl ?_
    refine EV.ineg dX2_takeBlock_110 ?_
    refine EV.goto 116 dX2_takeBlock_111 (by decide) ?_
    refine EV.sub [1, 2, 3, 4, 5, 6, 7] rfl ?_
    exact eX2_takeBlock_116 hk14 _ _ _ _ _ _ _ _ _ _ _ _ h
set_option maxRecDepth 100000 in
set_option maxHeartbeats 4000000 in
theorem eX2_takeBlock_82 {X : px_X} {k14 : Nat → Nat → Int32 → Int32 → Int32 → Int32 → Int32 → px_W → Option (px_W)} (hk14 : ∀ (a0 : Nat) (a1 : Nat) (a2 : Int32) (a3 : Int32) (a4 : Int32) (a5 : Int32) (a6 : Int32) (w : px_W) (q : px_W), k14 a0 a1 a2 a3 a4 a5 a6 w = some q → EV X mX2_takeBlock 14 [(0, .ref a0), (1, .ref a1), (2, .int a2), (3, .int a3), (4, .int a4), (5, .int a5), (6, .int a6)] [] w none q) : ∀ (a0 : Nat) (a1 : Nat) (a2 : Int32) (a3 : Int32) (a4 : Int32) (a5 : Int32) (a6 : Int32) (a7 : Int32) (s0 : Int32) (s1 : Int32) (w : px_W) (q : px_W), fX2_takeBlock_82 X k14 a0 a1 a2 a3 a4 a5 a6 a7 s0 s1 w = some q → EV X mX2_takeBlock 82 [(0, .ref a0), (1, .ref a1), (2, .int a2), (3, .int a3), (4, .int a4), (5, .int a5), (6, .int a6), (7, .int a7)] [.int s0, .int s1] w none q := by
  intro a0 a1 a2 a3 a4 a5 a6 a7 s0 s1 w q h
  unfold fX2_takeBlock_82 at h
  refine EV.icmp_eq 89 dX2_takeBlock_82 (by decide) (fun c13 => ?_) (fun c13 => ?_)
  · rw [if_pos c13] at h
    refine EV.iconst (0) dX2_takeBlock_89 (by decide) ?_
    refine EV.sub [0, 1, 2, 3, 4, 5, 6, 7] rfl ?_
    exact eX2_takeBlock_90 hk14 _ _ _ _ _ _ _ _ _ _ _ h
  · rw [if_neg c13] at h
    refine EV.iconst (1) dX2_takeBlock_85 (by decide) ?_
    refine EV.goto 90 dX2_takeBlock_86 (by decide) ?_
    refine EV.sub [0, 1, 2, 3, 4, 5, 6, 7] rfl ?_
    exact eX2_takeBlock_90 hk14 _ _ _ _ _ _ _ _ _ _ _ h
set_option maxRecDepth 100000 in
set_option maxHeartbeats 4000000 in
theorem eX2_takeBlock_81 {X : px_X} {k14 : Nat → Nat → Int32 → Int32 → Int32 → Int32 → Int32 → px_W → Option (px_W)} (hk14 : ∀ (a0 : Nat) (a1 : Nat) (a2 : Int32) (a3 : Int32) (a4 : Int32) (a5 : Int32) (a6 : Int32) (w : px_W) (q : px_W), k14 a0 a1 a2 a3 a4 a5 a6 w = some q → EV X mX2_takeBlock 14 [(0, .ref a0), (1, .ref a1), (2, .int a2), (3, .int a3), (4, .int a4), (5, .int a5), (6, .int a6)] [] w none q) : ∀ (a0 : Nat) (a1 : Nat) (a2 : Int32) (a3 : Int32) (a4 : Int32) (a5 : Int32) (a6 : Int32) (a7 : Int32) (s0 : Int32) (w : px_W) (q : px_W), fX2_takeBlock_81 X k14 a0 a1 a2 a3 a4 a5 a6 a7 s0 w = some q → EV X mX2_takeBlock 81 [(0, .ref a0), (1, .ref a1), (2, .int a2), (3, .int a3), (4, .int a4), (5, .int a5), (6, .int a6), (7, .int a7)] [.int s0] w none q := by
  intro a0 a1 a2 a3 a4 a5 a6 a7 s0 w q h
  unfold fX2_takeBlock_81 at h
  refine EV.iconst (0) dX2_takeBlock_81 (by decide) ?_
  refine EV.sub [0, 1, 2, 3, 4, 5, 6, 7] rfl ?_
  exact eX2_takeBlock_82 hk14 _ _ _ _ _ _ _ _ _ _ _ _ h
set_option maxRecDepth 100000 in
set_option maxHeartbeats 4000000 in
theorem eX2_takeBlock_57 {X : px_X} {k14 : Nat → Nat → Int32 → Int32 → Int32 → Int32 → Int32 → px_W → Option (px_W)} (hk14 : ∀ (a0 : Nat) (a1 : Nat) (a2 : Int32) (a3 : Int32) (a4 : Int32) (a5 : Int32) (a6 : Int32) (w : px_W) (q : px_W), k14 a0 a1 a2 a3 a4 a5 a6 w = some q → EV X mX2_takeBlock 14 [(0, .ref a0), (1, .ref a1), (2, .int a2), (3, .int a3), (4, .int a4), (5, .int a5), (6, .int a6)] [] w none q) : ∀ (a0 : Nat) (a1 : Nat) (a2 : Int32) (a3 : Int32) (a4 : Int32) (a5 : Int32) (a6 : Int32) (a7 : Int32) (s0 : Int32) (w : px_W) (q : px_W), fX2_takeBlock_57 X k14 a0 a1 a2 a3 a4 a5 a6 a7 s0 w = some q → EV X mX2_takeBlock 57 [(0, .ref a0), (1, .ref a1), (2, .int a2), (3, .int a3), (4, .int a4), (5, .int a5), (6, .int a6), (7, .int a7)] [.int s0] w none q := by
  intro a0 a1 a2 a3 a4 a5 a6 a7 s0 w q h
  unfold fX2_takeBlock_57 at h
  refine EV.iload 5 dX2_takeBlock_57 rfl ?_
  refine EV.if_eq 81 dX2_takeBlock_59 (by decide) (fun c14 => ?_) (fun c14 => ?_)
  · rw [if_pos c14] at h
    refine EV.sub [0, 1, 2, 3, 4, 5, 6, 7] rfl ?_
    exact eX2_takeBlock_81 hk14 _ _ _ _ _ _ _ _ _ _ _ h
  · rw [if_neg c14] at h
    refine EV.getsN (k := 4) dX2_takeBlock_62 rfl (tT5 (List.mem_of_getElem? (i := 115) rfl)) ?_
    refine EV.iload 6 dX2_takeBlock_65 rfl ?_
    obtain ⟨v15, gv15, h⟩ := px_bs h
    refine ev_aX dX2_takeBlock_67 gv15 ?_
    refine EV.bipush (8) dX2_takeBlock_68 (by decide) ?_
    obtain ⟨v16, gv16, h⟩ := px_bs h
    refine ev_dI dX2_takeBlock_70 gv16 ?_
    refine EV.iconst (2) dX2_takeBlock_71 (by decide) ?_
    obtain ⟨v17, gv17, h⟩ := px_bs h
    refine ev_rI dX2_takeBlock_72 gv17 ?_
    refine EV.iconst (1) dX2_takeBlock_73 (by decide) ?_
    refine EV.icmp_ne 81 dX2_takeBlock_74 (by decide) (fun c18 => ?_) (fun c18 => ?_)
    · rw [if_neg c18] at h
      refine EV.sub [0, 1, 2, 3, 4, 5, 6, 7] rfl ?_
      exact eX2_takeBlock_81 hk14 _ _ _ _ _ _ _ _ _ _ _ h
    · rw [if_pos c18] at h
      refine EV.iconst (1) dX2_takeBlock_77 (by decide) ?_
      refine EV.goto 82 dX2_takeBlock_78 (by decide) ?_
      refine EV.sub [0, 1, 2, 3, 4, 5, 6, 7] rfl ?_
      exact eX2_takeBlock_82 hk14 _ _ _ _ _ _ _ _ _ _ _ _ h
set_option maxRecDepth 100000 in
set_option maxHeartbeats 4000000 in
theorem eX2_takeBlock_56 {X : px_X} {k14 : Nat → Nat → Int32 → Int32 → Int32 → Int32 → Int32 → px_W → Option (px_W)} (hk14 : ∀ (a0 : Nat) (a1 : Nat) (a2 : Int32) (a3 : Int32) (a4 : Int32) (a5 : Int32) (a6 : Int32) (w : px_W) (q : px_W), k14 a0 a1 a2 a3 a4 a5 a6 w = some q → EV X mX2_takeBlock 14 [(0, .ref a0), (1, .ref a1), (2, .int a2), (3, .int a3), (4, .int a4), (5, .int a5), (6, .int a6)] [] w none q) : ∀ (a0 : Nat) (a1 : Nat) (a2 : Int32) (a3 : Int32) (a4 : Int32) (a5 : Int32) (a6 : Int32) (a7 : Int32) (w : px_W) (q : px_W), fX2_takeBlock_56 X k14 a0 a1 a2 a3 a4 a5 a6 a7 w = some q → EV X mX2_takeBlock 56 [(0, .ref a0), (1, .ref a1), (2, .int a2), (3, .int a3), (4, .int a4), (5, .int a5), (6, .int a6), (7, .int a7)] [] w none q := by
  intro a0 a1 a2 a3 a4 a5 a6 a7 w q h
  unfold fX2_takeBlock_56 at h
  refine EV.iconst (0) dX2_takeBlock_56 (by decide) ?_
  refine EV.sub [0, 1, 2, 3, 4, 5, 6, 7] rfl ?_
  exact eX2_takeBlock_57 hk14 _ _ _ _ _ _ _ _ _ _ _ h
set_option maxRecDepth 100000 in
set_option maxHeartbeats 4000000 in
theorem eX2_takeBlock_14 {X : px_X}  : ∀ (m : Nat) (a0 : Nat) (a1 : Nat) (a2 : Int32) (a3 : Int32) (a4 : Int32) (a5 : Int32) (a6 : Int32) (w : px_W) (q : px_W), fX2_takeBlock_14 X  m a0 a1 a2 a3 a4 a5 a6 w = some q → EV X mX2_takeBlock 14 [(0, .ref a0), (1, .ref a1), (2, .int a2), (3, .int a3), (4, .int a4), (5, .int a5), (6, .int a6)] [] w none q := by
  intro m
  induction m with
  | zero => intro a0 a1 a2 a3 a4 a5 a6 w q h; cases h
  | succ m ih =>
    intro a0 a1 a2 a3 a4 a5 a6 w q h
    rw [fX2_takeBlock_14.eq_2] at h
    refine EV.iload 6 dX2_takeBlock_14 rfl ?_
    refine EV.bipush (64) dX2_takeBlock_16 (by decide) ?_
    refine EV.icmp_ge 123 dX2_takeBlock_18 (by decide) (fun c19 => ?_) (fun c19 => ?_)
    · rw [if_pos c19] at h
      cases h
      exact EV.ret0 dX2_takeBlock_123 trivial
    · rw [if_neg c19] at h
      refine EV.aload_n 1 dX2_takeBlock_21 rfl rfl ?_
      obtain ⟨v20, gv20, h⟩ := px_bs h
      refine ev_gR dX2_takeBlock_22 flRX2_40 gv20 ?_
      refine EV.bipush (64) dX2_takeBlock_25 (by decide) ?_
      refine EV.iload_n 2 dX2_takeBlock_27 rfl rfl ?_
      refine EV.imul dX2_takeBlock_28 ?_
      refine EV.iload 6 dX2_takeBlock_29 rfl ?_
      refine EV.iadd dX2_takeBlock_31 ?_
      obtain ⟨v21, gv21, h⟩ := px_bs h
      refine ev_aI dX2_takeBlock_32 gv21 ?_
      refine EV.istore [(7, .int v21), (0, .ref a0), (1, .ref a1), (2, .int a2), (3, .int a3), (4, .int a4), (5, .int a5), (6, .int a6)] dX2_takeBlock_33 (by decide) rfl ?_
      refine EV.iload 5 dX2_takeBlock_35 rfl ?_
      refine EV.if_eq 56 dX2_takeBlock_37 (by decide) (fun c22 => ?_) (fun c22 => ?_)
      · rw [if_pos c22] at h
        refine EV.sub [1, 2, 3, 4, 5, 6, 7, 0] rfl ?_
        exact eX2_takeBlock_56 ih _ _ _ _ _ _ _ _ _ _ h
      · rw [if_neg c22] at h
        refine EV.getsN (k := 4) dX2_takeBlock_40 rfl (tT5 (List.mem_of_getElem? (i := 115) rfl)) ?_
        refine EV.iload 7 dX2_takeBlock_43 rfl ?_
        obtain ⟨v23, gv23, h⟩ := px_bs h
        refine ev_aX dX2_takeBlock_45 gv23 ?_
        refine EV.iconst (2) dX2_takeBlock_46 (by decide) ?_
        obtain ⟨v24, gv24, h⟩ := px_bs h
        refine ev_rI dX2_takeBlock_47 gv24 ?_
        refine EV.iconst (1) dX2_takeBlock_48 (by decide) ?_
        refine EV.icmp_ne 56 dX2_takeBlock_49 (by decide) (fun c25 => ?_) (fun c25 => ?_)
        · rw [if_neg c25] at h
          refine EV.sub [1, 2, 3, 4, 5, 6, 7, 0] rfl ?_
          exact eX2_takeBlock_56 ih _ _ _ _ _ _ _ _ _ _ h
        · rw [if_pos c25] at h
          refine EV.iconst (1) dX2_takeBlock_52 (by decide) ?_
          refine EV.goto 57 dX2_takeBlock_53 (by decide) ?_
          refine EV.sub [1, 2, 3, 4, 5, 6, 7, 0] rfl ?_
          exact eX2_takeBlock_57 ih _ _ _ _ _ _ _ _ _ _ _ h
set_option maxRecDepth 100000 in
set_option maxHeartbeats 4000000 in
theorem eX2_takeBlock {X : px_X} {w : px_W} {a0 : Nat} {a1 : Nat} {a2 : Int32} {a3 : Int32} {a4 : Int32} {a5 : Int32} {q : px_W} (h : fX2_takeBlock X w a0 a1 a2 a3 a4 a5 = some q) : EV X mX2_takeBlock 0 (lv_args 0 [.ref a0, .ref a1, .int a2, .int a3, .int a4, .int a5]) [] w none q := by
  unfold fX2_takeBlock at h
  show EV X mX2_takeBlock 0 [(0, .ref a0), (1, .ref a1), (2, .int a2), (3, .int a3), (4, .int a4), (5, .int a5)] [] w none q
  refine EV.iload_n 2 dX2_takeBlock_0 rfl rfl ?_
  refine EV.iconst ((-1)) dX2_takeBlock_1 (by decide) ?_
  refine EV.icmp_eq 10 dX2_takeBlock_2 (by decide) (fun c26 => ?_) (fun c26 => ?_)
  · rw [if_pos c26] at h
    cases h
    exact EV.ret0 dX2_takeBlock_10 trivial
  · rw [if_neg c26] at h
    refine EV.iload_n 3 dX2_takeBlock_5 rfl rfl ?_
    refine EV.iconst ((-1)) dX2_takeBlock_6 (by decide) ?_
    refine EV.icmp_ne 11 dX2_takeBlock_7 (by decide) (fun c27 => ?_) (fun c27 => ?_)
    · rw [if_neg c27] at h
      refine EV.iconst (0) dX2_takeBlock_11 (by decide) ?_
      refine EV.istore [(6, .int 0), (0, .ref a0), (1, .ref a1), (2, .int a2), (3, .int a3), (4, .int a4), (5, .int a5)] dX2_takeBlock_12 (by decide) rfl ?_
      refine EV.sub [1, 2, 3, 4, 5, 6, 0] rfl ?_
      exact eX2_takeBlock_14  FU _ _ _ _ _ _ _ _ _ h
    · rw [if_pos c27] at h
      cases h
      exact EV.ret0 dX2_takeBlock_10 trivial
/-! WavePictures$Picture.becomeReflected(LWavePictures$Picture;ZZ)V -/
theorem dX2_becomeReflected_0 : decode cX2_becomeReflected 0 = .ok (.aload_n 0, 1) := by decide +kernel
theorem dX2_becomeReflected_1 : decode cX2_becomeReflected 1 = .ok (.aload_n 1, 1) := by decide +kernel
theorem dX2_becomeReflected_2 : decode cX2_becomeReflected 2 = .ok (.invokevirtual 84, 3) := by decide +kernel
theorem dX2_becomeReflected_5 : decode cX2_becomeReflected 5 = .ok (.aload_n 0, 1) := by decide +kernel
theorem dX2_becomeReflected_6 : decode cX2_becomeReflected 6 = .ok (.iload_n 2, 1) := by decide +kernel
theorem dX2_becomeReflected_7 : decode cX2_becomeReflected 7 = .ok (.ifCond .eq 26, 3) := by decide +kernel
theorem dX2_becomeReflected_10 : decode cX2_becomeReflected 10 = .ok (.aload_n 1, 1) := by decide +kernel
theorem dX2_becomeReflected_11 : decode cX2_becomeReflected 11 = .ok (.getfield 9, 3) := by decide +kernel
theorem dX2_becomeReflected_14 : decode cX2_becomeReflected 14 = .ok (.bipush 8, 2) := by decide +kernel
theorem dX2_becomeReflected_16 : decode cX2_becomeReflected 16 = .ok (.aload_n 1, 1) := by decide +kernel
theorem dX2_becomeReflected_17 : decode cX2_becomeReflected 17 = .ok (.getfield 18, 3) := by decide +kernel
theorem dX2_becomeReflected_20 : decode cX2_becomeReflected 20 = .ok (.imul, 1) := by decide +kernel
theorem dX2_becomeReflected_21 : decode cX2_becomeReflected 21 = .ok (.idiv, 1) := by decide +kernel
theorem dX2_becomeReflected_22 : decode cX2_becomeReflected 22 = .ok (.bipush 8, 2) := by decide +kernel
theorem dX2_becomeReflected_24 : decode cX2_becomeReflected 24 = .ok (.aload_n 1, 1) := by decide +kernel
theorem dX2_becomeReflected_25 : decode cX2_becomeReflected 25 = .ok (.getfield 18, 3) := by decide +kernel
theorem dX2_becomeReflected_28 : decode cX2_becomeReflected 28 = .ok (.imul, 1) := by decide +kernel
theorem dX2_becomeReflected_29 : decode cX2_becomeReflected 29 = .ok (.imul, 1) := by decide +kernel
theorem dX2_becomeReflected_30 : decode cX2_becomeReflected 30 = .ok (.goto 7, 3) := by decide +kernel
theorem dX2_becomeReflected_33 : decode cX2_becomeReflected 33 = .ok (.aload_n 1, 1) := by decide +kernel
theorem dX2_becomeReflected_34 : decode cX2_becomeReflected 34 = .ok (.getfield 9, 3) := by decide +kernel
theorem dX2_becomeReflected_37 : decode cX2_becomeReflected 37 = .ok (.putfield 9, 3) := by decide +kernel
theorem dX2_becomeReflected_40 : decode cX2_becomeReflected 40 = .ok (.aload_n 0, 1) := by decide +kernel
theorem dX2_becomeReflected_41 : decode cX2_becomeReflected 41 = .ok (.iload_n 3, 1) := by decide +kernel
theorem dX2_becomeReflected_42 : decode cX2_becomeReflected 42 = .ok (.ifCond .eq 26, 3) := by decide +kernel
theorem dX2_becomeReflected_45 : decode cX2_becomeReflected 45 = .ok (.aload_n 1, 1) := by decide +kernel
theorem dX2_becomeReflected_46 : decode cX2_becomeReflected 46 = .ok (.getfield 15, 3) := by decide +kernel
theorem dX2_becomeReflected_49 : decode cX2_becomeReflected 49 = .ok (.bipush 8, 2) := by decide +kernel
theorem dX2_becomeReflected_51 : decode cX2_becomeReflected 51 = .ok (.aload_n 1, 1) := by decide +kernel
theorem dX2_becomeReflected_52 : decode cX2_becomeReflected 52 = .ok (.getfield 21, 3) := by decide +kernel
theorem dX2_becomeReflected_55 : decode cX2_becomeReflected 55 = .ok (.imul, 1) := by decide +kernel
theorem dX2_becomeReflected_56 : decode cX2_becomeReflected 56 = .ok (.idiv, 1) := by decide +kernel
theorem dX2_becomeReflected_57 : decode cX2_becomeReflected 57 = .ok (.bipush 8, 2) := by decide +kernel
theorem dX2_becomeReflected_59 : decode cX2_becomeReflected 59 = .ok (.aload_n 1, 1) := by decide +kernel
theorem dX2_becomeReflected_60 : decode cX2_becomeReflected 60 = .ok (.getfield 21, 3) := by decide +kernel
theorem dX2_becomeReflected_63 : decode cX2_becomeReflected 63 = .ok (.imul, 1) := by decide +kernel
theorem dX2_becomeReflected_64 : decode cX2_becomeReflected 64 = .ok (.imul, 1) := by decide +kernel
theorem dX2_becomeReflected_65 : decode cX2_becomeReflected 65 = .ok (.goto 7, 3) := by decide +kernel
theorem dX2_becomeReflected_68 : decode cX2_becomeReflected 68 = .ok (.aload_n 1, 1) := by decide +kernel
theorem dX2_becomeReflected_69 : decode cX2_becomeReflected 69 = .ok (.getfield 15, 3) := by decide +kernel
theorem dX2_becomeReflected_72 : decode cX2_becomeReflected 72 = .ok (.putfield 15, 3) := by decide +kernel
theorem dX2_becomeReflected_75 : decode cX2_becomeReflected 75 = .ok (.aload_n 0, 1) := by decide +kernel
theorem dX2_becomeReflected_76 : decode cX2_becomeReflected 76 = .ok (.invokevirtual 81, 3) := by decide +kernel
theorem dX2_becomeReflected_79 : decode cX2_becomeReflected 79 = .ok (.iconst 0, 1) := by decide +kernel
theorem dX2_becomeReflected_80 : decode cX2_becomeReflected 80 = .ok (.istore 4, 2) := by decide +kernel
theorem dX2_becomeReflected_82 : decode cX2_becomeReflected 82 = .ok (.iload 4, 2) := by decide +kernel
theorem dX2_becomeReflected_84 : decode cX2_becomeReflected 84 = .ok (.aload_n 0, 1) := by decide +kernel
theorem dX2_becomeReflected_85 : decode cX2_becomeReflected 85 = .ok (.getfield 46, 3) := by decide +kernel
theorem dX2_becomeReflected_88 : decode cX2_becomeReflected 88 = .ok (.if_icmp .ge 120, 3) := by decide +kernel
theorem dX2_becomeReflected_91 : decode cX2_becomeReflected 91 = .ok (.iconst 0, 1) := by decide +kernel
theorem dX2_becomeReflected_92 : decode cX2_becomeReflected 92 = .ok (.istore 5, 2) := by decide +kernel
theorem dX2_becomeReflected_94 : decode cX2_becomeReflected 94 = .ok (.iload 5, 2) := by decide +kernel
theorem dX2_becomeReflected_96 : decode cX2_becomeReflected 96 = .ok (.aload_n 0, 1) := by decide +kernel
theorem dX2_becomeReflected_97 : decode cX2_becomeReflected 97 = .ok (.getfield 34, 3) := by decide +kernel
theorem dX2_becomeReflected_100 : decode cX2_becomeReflected 100 = .ok (.iload 4, 2) := by decide +kernel
theorem dX2_becomeReflected_102 : decode cX2_becomeReflected 102 = .ok (.iaload, 1) := by decide +kernel
theorem dX2_becomeReflected_103 : decode cX2_becomeReflected 103 = .ok (.if_icmp .ge 99, 3) := by decide +kernel
theorem dX2_becomeReflected_106 : decode cX2_becomeReflected 106 = .ok (.iconst 0, 1) := by decide +kernel
theorem dX2_becomeReflected_107 : decode cX2_becomeReflected 107 = .ok (.istore 6, 2) := by decide +kernel
theorem dX2_becomeReflected_109 : decode cX2_becomeReflected 109 = .ok (.iload 6, 2) := by decide +kernel
theorem dX2_becomeReflected_111 : decode cX2_becomeReflected 111 = .ok (.aload_n 0, 1) := by decide +kernel
theorem dX2_becomeReflected_112 : decode cX2_becomeReflected 112 = .ok (.getfield 31, 3) := by decide +kernel
theorem dX2_becomeReflected_115 : decode cX2_becomeReflected 115 = .ok (.iload 4, 2) := by decide +kernel
theorem dX2_becomeReflected_117 : decode cX2_becomeReflected 117 = .ok (.iaload, 1) := by decide +kernel
theorem dX2_becomeReflected_118 : decode cX2_becomeReflected 118 = .ok (.if_icmp .ge 78, 3) := by decide +kernel
theorem dX2_becomeReflected_121 : decode cX2_becomeReflected 121 = .ok (.aload_n 1, 1) := by decide +kernel
theorem dX2_becomeReflected_122 : decode cX2_becomeReflected 122 = .ok (.iload 4, 2) := by decide +kernel
theorem dX2_becomeReflected_124 : decode cX2_becomeReflected 124 = .ok (.iload_n 2, 1) := by decide +kernel
theorem dX2_becomeReflected_125 : decode cX2_becomeReflected 125 = .ok (.ifCond .eq 18, 3) := by decide +kernel
theorem dX2_becomeReflected_128 : decode cX2_becomeReflected 128 = .ok (.aload_n 0, 1) := by decide +kernel
theorem dX2_becomeReflected_129 : decode cX2_becomeReflected 129 = .ok (.getfield 31, 3) := by decide +kernel
theorem dX2_becomeReflected_132 : decode cX2_becomeReflected 132 = .ok (.iload 4, 2) := by decide +kernel
theorem dX2_becomeReflected_134 : decode cX2_becomeReflected 134 = .ok (.iaload, 1) := by decide +kernel
theorem dX2_becomeReflected_135 : decode cX2_becomeReflected 135 = .ok (.iconst 1, 1) := by decide +kernel
theorem dX2_becomeReflected_136 : decode cX2_becomeReflected 136 = .ok (.isub, 1) := by decide +kernel
theorem dX2_becomeReflected_137 : decode cX2_becomeReflected 137 = .ok (.iload 6, 2) := by decide +kernel
theorem dX2_becomeReflected_139 : decode cX2_becomeReflected 139 = .ok (.isub, 1) := by decide +kernel
theorem dX2_becomeReflected_140 : decode cX2_becomeReflected 140 = .ok (.goto 5, 3) := by decide +kernel
theorem dX2_becomeReflected_143 : decode cX2_becomeReflected 143 = .ok (.iload 6, 2) := by decide +kernel
theorem dX2_becomeReflected_145 : decode cX2_becomeReflected 145 = .ok (.iload_n 3, 1) := by decide +kernel
theorem dX2_becomeReflected_146 : decode cX2_becomeReflected 146 = .ok (.ifCond .eq 18, 3) := by decide +kernel
theorem dX2_becomeReflected_149 : decode cX2_becomeReflected 149 = .ok (.aload_n 0, 1) := by decide +kernel
theorem dX2_becomeReflected_150 : decode cX2_becomeReflected 150 = .ok (.getfield 34, 3) := by decide +kernel
theorem dX2_becomeReflected_153 : decode cX2_becomeReflected 153 = .ok (.iload 4, 2) := by decide +kernel
theorem dX2_becomeReflected_155 : decode cX2_becomeReflected 155 = .ok (.iaload, 1) := by decide +kernel
theorem dX2_becomeReflected_156 : decode cX2_becomeReflected 156 = .ok (.iconst 1, 1) := by decide +kernel
theorem dX2_becomeReflected_157 : decode cX2_becomeReflected 157 = .ok (.isub, 1) := by decide +kernel
theorem dX2_becomeReflected_158 : decode cX2_becomeReflected 158 = .ok (.iload 5, 2) := by decide +kernel
theorem dX2_becomeReflected_160 : decode cX2_becomeReflected 160 = .ok (.isub, 1) := by decide +kernel
theorem dX2_becomeReflected_161 : decode cX2_becomeReflected 161 = .ok (.goto 5, 3) := by decide +kernel
theorem dX2_becomeReflected_164 : decode cX2_becomeReflected 164 = .ok (.iload 5, 2) := by decide +kernel
theorem dX2_becomeReflected_166 : decode cX2_becomeReflected 166 = .ok (.invokevirtual 88, 3) := by decide +kernel
theorem dX2_becomeReflected_169 : decode cX2_becomeReflected 169 = .ok (.istore 7, 2) := by decide +kernel
theorem dX2_becomeReflected_171 : decode cX2_becomeReflected 171 = .ok (.aload_n 0, 1) := by decide +kernel
theorem dX2_becomeReflected_172 : decode cX2_becomeReflected 172 = .ok (.aload_n 1, 1) := by decide +kernel
theorem dX2_becomeReflected_173 : decode cX2_becomeReflected 173 = .ok (.iload 7, 2) := by decide +kernel
theorem dX2_becomeReflected_175 : decode cX2_becomeReflected 175 = .ok (.aload_n 0, 1) := by decide +kernel
theorem dX2_becomeReflected_176 : decode cX2_becomeReflected 176 = .ok (.iload 4, 2) := by decide +kernel
theorem dX2_becomeReflected_178 : decode cX2_becomeReflected 178 = .ok (.iload 6, 2) := by decide +kernel
theorem dX2_becomeReflected_180 : decode cX2_becomeReflected 180 = .ok (.iload 5, 2) := by decide +kernel
theorem dX2_becomeReflected_182 : decode cX2_becomeReflected 182 = .ok (.invokevirtual 88, 3) := by decide +kernel
theorem dX2_becomeReflected_185 : decode cX2_becomeReflected 185 = .ok (.iload_n 2, 1) := by decide +kernel
theorem dX2_becomeReflected_186 : decode cX2_becomeReflected 186 = .ok (.iload_n 3, 1) := by decide +kernel
theorem dX2_becomeReflected_187 : decode cX2_becomeReflected 187 = .ok (.invokevirtual 92, 3) := by decide +kernel
theorem dX2_becomeReflected_190 : decode cX2_becomeReflected 190 = .ok (.iinc 6 1, 3) := by decide +kernel
theorem dX2_becomeReflected_193 : decode cX2_becomeReflected 193 = .ok (.goto (-84), 3) := by decide +kernel
theorem dX2_becomeReflected_196 : decode cX2_becomeReflected 196 = .ok (.iinc 5 1, 3) := by decide +kernel
theorem dX2_becomeReflected_199 : decode cX2_becomeReflected 199 = .ok (.goto (-105), 3) := by decide +kernel
theorem dX2_becomeReflected_202 : decode cX2_becomeReflected 202 = .ok (.iinc 4 1, 3) := by decide +kernel
theorem dX2_becomeReflected_205 : decode cX2_becomeReflected 205 = .ok (.goto (-123), 3) := by decide +kernel
theorem dX2_becomeReflected_208 : decode cX2_becomeReflected 208 = .ok (.return_, 1) := by decide +kernel
theorem kcX2_becomeReflected_81 : px_cV mX2_becomeReflected 81 mX2_settle 0 := ⟨⟨mbX2_settle, by decide, by decide⟩, Or.inl (tb5 (List.mem_of_getElem? (i := 204) rfl)), vbX2_settle⟩
theorem mbX2_takeFrame : px_mB mX2_takeFrame 1 := ⟨tb5 (List.mem_of_getElem? (i := 212) rfl), by decide +kernel, tb1 (List.mem_of_getElem? (i := 3) rfl), by decide +kernel, by decide +kernel⟩
theorem vbX2_takeFrame : px_vB mX2_takeFrame := ⟨tb5 (List.mem_of_getElem? (i := 211) rfl), List.mem_append_left _ (List.mem_of_getElem? (i := 74) (by decide +kernel))⟩
theorem kcX2_becomeReflected_84 : px_cV mX2_becomeReflected 84 mX2_takeFrame 1 := ⟨⟨mbX2_takeFrame, by decide, by decide⟩, Or.inl (tb5 (List.mem_of_getElem? (i := 209) rfl)), vbX2_takeFrame⟩
theorem mbX2_block : px_mB mX2_block 3 := ⟨tb5 (List.mem_of_getElem? (i := 145) rfl), by decide +kernel, tb1 (List.mem_of_getElem? (i := 3) rfl), by decide +kernel, by decide +kernel⟩
theorem vbX2_block : px_vB mX2_block := ⟨tb5 (List.mem_of_getElem? (i := 143) rfl), tb5 (List.mem_of_getElem? (i := 144) rfl)⟩
theorem kcX2_becomeReflected_88 : px_cV mX2_becomeReflected 88 mX2_block 3 := ⟨⟨mbX2_block, by decide, by decide⟩, Or.inl (tb5 (List.mem_of_getElem? (i := 214) rfl)), vbX2_block⟩
theorem mbX2_takeBlock : px_mB mX2_takeBlock 5 := ⟨tb5 (List.mem_of_getElem? (i := 218) rfl), by decide +kernel, tb1 (List.mem_of_getElem? (i := 3) rfl), by decide +kernel, by decide +kernel⟩
theorem vbX2_takeBlock : px_vB mX2_takeBlock := ⟨tb5 (List.mem_of_getElem? (i := 217) rfl), List.mem_append_left _ (List.mem_of_getElem? (i := 75) (by decide +kernel))⟩
theorem kcX2_becomeReflected_92 : px_cV mX2_becomeReflected 92 mX2_takeBlock 5 := ⟨⟨mbX2_takeBlock, by decide, by decide⟩, Or.inl (tb5 (List.mem_of_getElem? (i := 215) rfl)), vbX2_takeBlock⟩
set_option maxRecDepth 100000 in
set_option maxHeartbeats 4000000 in
theorem eX2_becomeReflected_202 {X : px_X} {k82 : Nat → Nat → Int32 → Int32 → Int32 → px_W → Option (px_W)} (hk82 : ∀ (a0 : Nat) (a1 : Nat) (a2 : Int32) (a3 : Int32) (a4 : Int32) (w : px_W) (q : px_W), k82 a0 a1 a2 a3 a4 w = some q → EV X mX2_becomeReflected 82 [(0, .ref a0), (1, .ref a1), (2, .int a2), (3, .int a3), (4, .int a4)] [] w none q) : ∀ (a0 : Nat) (a1 : Nat) (a2 : Int32) (a3 : Int32) (a4 : Int32) (w : px_W) (q : px_W), fX2_becomeReflected_202 X k82 a0 a1 a2 a3 a4 w = some q → EV X mX2_becomeReflected 202 [(0, .ref a0), (1, .ref a1), (2, .int a2), (3, .int a3), (4, .int a4)] [] w none q := by
  intro a0 a1 a2 a3 a4 w q h
  unfold fX2_becomeReflected_202 at h
  refine EV.iinc 4 (a4 + 1) [(4, .int (a4 + 1)), (0, .ref a0), (1, .ref a1), (2, .int a2), (3, .int a3)] dX2_becomeReflected_202 rfl rfl (by decide) rfl ?_
  refine EV.goto 82 dX2_becomeReflected_205 (by decide) ?_
  refine EV.sub [1, 2, 3, 4, 0] rfl ?_
  exact hk82 _ _ _ _ _ _ _ h
set_option maxRecDepth 100000 in
set_option maxHeartbeats 4000000 in
theorem eX2_becomeReflected_166 {X : px_X} {k82 : Nat → Nat → Int32 → Int32 → Int32 → px_W → Option (px_W)} (hk82 : ∀ (a0 : Nat) (a1 : Nat) (a2 : Int32) (a3 : Int32) (a4 : Int32) (w : px_W) (q : px_W), k82 a0 a1 a2 a3 a4 w = some q → EV X mX2_becomeReflected 82 [(0, .ref a0), (1, .ref a1), (2, .int a2), (3, .int a3), (4, .int a4)] [] w none q) {k94 : Nat → Nat → Int32 → Int32 → Int32 → Int32 → px_W → Option (px_W)} (hk94 : ∀ (a0 : Nat) (a1 : Nat) (a2 : Int32) (a3 : Int32) (a4 : Int32) (a5 : Int32) (w : px_W) (q : px_W), k94 a0 a1 a2 a3 a4 a5 w = some q → EV X mX2_becomeReflected 94 [(0, .ref a0), (1, .ref a1), (2, .int a2), (3, .int a3), (4, .int a4), (5, .int a5)] [] w none q) {k109 : Nat → Nat → Int32 → Int32 → Int32 → Int32 → Int32 → px_W → Option (px_W)} (hk109 : ∀ (a0 : Nat) (a1 : Nat) (a2 : Int32) (a3 : Int32) (a4 : Int32) (a5 : Int32) (a6 : Int32) (w : px_W) (q : px_W), k109 a0 a1 a2 a3 a4 a5 a6 w = some q → EV X mX2_becomeReflected 109 [(0, .ref a0), (1, .ref a1), (2, .int a2), (3, .int a3), (4, .int a4), (5, .int a5), (6, .int a6)] [] w none q) : ∀ (a0 : Nat) (a1 : Nat) (a2 : Int32) (a3 : Int32) (a4 : Int32) (a5 : Int32) (a6 : Int32) (s0 : Int32) (s1 : Int32) (s2 : Int32) (s3 : Nat) (w : px_W) (q : px_W), fX2_becomeReflected_166 X k82 k94 k109 a0 a1 a2 a3 a4 a5 a6 s0 s1 s2 s3 w = some q → EV X mX2_becomeReflected 166 [(0, .ref a0), (1, .ref a1), (2, .int a2), (3, .int a3), (4, .int a4), (5, .int a5), (6, .int a6)] [.int s0, .int s1, .int s2, .ref s3] w none q := by
  intro a0 a1 a2 a3 a4 a5 a6 s0 s1 s2 s3 w q h
  unfold fX2_becomeReflected_166 at h
  obtain ⟨o32, go32, h⟩ := px_bs h
  obtain ⟨q33, gq33, h⟩ := px_bs h
  refine EV.callV (As := [.int s2, .int s1, .int s0]) (rest := []) dX2_becomeReflected_166 kcX2_becomeReflected_88 (gO_ok go32) rfl rfl rfl (Nat.le_of_ble_eq_true rfl) (Nat.le_of_ble_eq_true rfl) (eX2_block gq33) ?_
  refine EV.istore [(7, .int q33.1), (0, .ref a0), (1, .ref a1), (2, .int a2), (3, .int a3), (4, .int a4), (5, .int a5), (6, .int a6)] dX2_becomeReflected_169 (by decide) rfl ?_
  refine EV.aload_n 1 dX2_becomeReflected_171 rfl rfl ?_
  refine EV.aload_n 2 dX2_becomeReflected_172 rfl rfl ?_
  refine EV.iload 0 dX2_becomeReflected_173 rfl ?_
  refine EV.aload_n 1 dX2_becomeReflected_175 rfl rfl ?_
  refine EV.iload 5 dX2_becomeReflected_176 rfl ?_
  refine EV.iload 7 dX2_becomeReflected_178 rfl ?_
  refine EV.iload 6 dX2_becomeReflected_180 rfl ?_
  obtain ⟨o34, go34, h⟩ := px_bs h
  obtain ⟨q35, gq35, h⟩ := px_bs h
  refine EV.callV (As := [.int a4, .int a6, .int a5]) (rest := [.int q33.1, .ref a1, .ref a0]) dX2_becomeReflected_182 kcX2_becomeReflected_88 (gO_ok go34) rfl rfl rfl (Nat.le_of_ble_eq_true rfl) (Nat.le_of_ble_eq_true rfl) (eX2_block gq35) ?_
  refine EV.iload_n 3 dX2_becomeReflected_185 rfl rfl ?_
  refine EV.iload_n 4 dX2_becomeReflected_186 rfl rfl ?_
  obtain ⟨o36, go36, h⟩ := px_bs h
  obtain ⟨q37, gq37, h⟩ := px_bs h
  refine EV.callV (As := [.ref a1, .int q33.1, .int q35.1, .int a2, .int a3]) (rest := []) dX2_becomeReflected_187 kcX2_becomeReflected_92 (gO_ok go36) rfl rfl rfl (Nat.le_of_ble_eq_true rfl) (Nat.le_of_ble_eq_true rfl) (eX2_takeBlock gq37) ?_
  refine EV.iinc 7 (a6 + 1) [(6, .int (a6 + 1)), (7, .int q33.1), (0, .ref a0), (1, .ref a1), (2, .int a2), (3, .int a3), (4, .int a4), (5, .int a5)] dX2_becomeReflected_190 rfl rfl (by decide) rfl ?_
  refine EV.goto 109 dX2_becomeReflected_193 (by decide) ?_
  refine EV.sub [2, 3, 4, 5, 6, 7, 0] rfl ?_
  exact hk109 _ _ _ _ _ _ _ _ _ h
set_option maxRecDepth 100000 in
set_option maxHeartbeats 4000000 in
theorem eX2_becomeReflected_145 {X : px_X} {k82 : Nat → Nat → Int32 → Int32 → Int32 → px_W → Option (px_W)} (hk82 : ∀ (a0 : Nat) (a1 : Nat) (a2 : Int32) (a3 : Int32) (a4 : Int32) (w : px_W) (q : px_W), k82 a0 a1 a2 a3 a4 w = some q → EV X mX2_becomeReflected 82 [(0, .ref a0), (1, .ref a1), (2, .int a2), (3, .int a3), (4, .int a4)] [] w none q) {k94 : Nat → Nat → Int32 → Int32 → Int32 → Int32 → px_W → Option (px_W)} (hk94 : ∀ (a0 : Nat) (a1 : Nat) (a2 : Int32) (a3 : Int32) (a4 : Int32) (a5 : Int32) (w : px_W) (q : px_W), k94 a0 a1 a2 a3 a4 a5 w = some q → EV X mX2_becomeReflected 94 [(0, .ref a0), (1, .ref a1), (2, .int a2), (3, .int a3), (4, .int a4), (5, .int a5)] [] w none q) {k109 : Nat → Nat → Int32 → Int32 → Int32 → Int32 → Int32 → px_W → Option (px_W)} (hk109 : ∀ (a0 : Nat) (a1 : Nat) (a2 : Int32) (a3 : Int32) (a4 : Int32) (a5 : Int32) (a6 : Int32) (w : px_W) (q : px_W), k109 a0 a1 a2 a3 a4 a5 a6 w = some q → EV X mX2_becomeReflected 109 [(0, .ref a0), (1, .ref a1), (2, .int a2), (3, .int a3), (4, .int a4), (5, .int a5), (6, .int a6)] [] w none q) : ∀ (a0 : Nat) (a1 : Nat) (a2 : Int32) (a3 : Int32) (a4 : Int32) (a5 : Int32) (a6 : Int32) (s0 : Int32) (s1 : Int32) (s2 : Nat) (w : px_W) (q : px_W), fX2_becomeReflected_145 X k82 k94 k109 a0 a1 a2 a3 a4 a5 a6 s0 s1 s2 w = some q → EV X mX2_becomeReflected 145 [(0, .ref a0), (1, .ref a1), (2, .int a2), (3, .int a3), (4, .int a4), (5, .int a5), (6, .int a6)] [.int s0, .int s1, .ref s2] w none q := by
  intro a0 a1 a2 a3 a4 a5 a6 s0 s1 s2 w q h
  unfold fX2_becomeReflected_145 at h
  refine EV.iload_n 3 dX2_becomeReflected_145 rfl rfl ?_
  refine EV.if_eq 164 dX2_becomeReflected_146 (by decide) (fun c38 => ?_) (fun c38 => ?_)
  · rw [if_pos c38] at h
    refine EV.iload 5 dX2_becomeReflected_164 rfl ?_
    refine EV.sub [0, 1, 2, 3, 4, 5, 6] rfl ?_
    exact eX2_becomeReflected_166 hk82 hk94 hk109 _ _ _ _ _ _ _ _ _ _ _ _ _ h
  · rw [if_neg c38] at h
    refine EV.aload_n 0 dX2_becomeReflected_149 rfl rfl ?_
    obtain ⟨v39, gv39, h⟩ := px_bs h
    refine ev_gR dX2_becomeReflected_150 flRX2_34 gv39 ?_
    refine EV.iload 4 dX2_becomeReflected_153 rfl ?_
    obtain ⟨v40, gv40, h⟩ := px_bs h
    refine ev_aI dX2_becomeReflected_155 gv40 ?_
    refine EV.iconst (1) dX2_becomeReflected_156 (by decide) ?_
    refine EV.isub dX2_becomeReflected_157 ?_
    refine EV.iload 5 dX2_becomeReflected_158 rfl ?_
    refine EV.isub dX2_becomeReflected_160 ?_
    refine EV.goto 166 dX2_becomeReflected_161 (by decide) ?_
    refine EV.sub [0, 1, 2, 3, 4, 5, 6] rfl ?_
    exact eX2_becomeReflected_166 hk82 hk94 hk109 _ _ _ _ _ _ _ _ _ _ _ _ _ h
set_option maxRecDepth 100000 in
set_option maxHeartbeats 4000000 in
theorem eX2_becomeReflected_196 {X : px_X} {k82 : Nat → Nat → Int32 → Int32 → Int32 → px_W → Option (px_W)} (hk82 : ∀ (a0 : Nat) (a1 : Nat) (a2 : Int32) (a3 : Int32) (a4 : Int32) (w : px_W) (q : px_W), k82 a0 a1 a2 a3 a4 w = some q → EV X mX2_becomeReflected 82 [(0, .ref a0), (1, .ref a1), (2, .int a2), (3, .int a3), (4, .int a4)] [] w none q) {k94 : Nat → Nat → Int32 → Int32 → Int32 → Int32 → px_W → Option (px_W)} (hk94 : ∀ (a0 : Nat) (a1 : Nat) (a2 : Int32) (a3 : Int32) (a4 : Int32) (a5 : Int32) (w : px_W) (q : px_W), k94 a0 a1 a2 a3 a4 a5 w = some q → EV X mX2_becomeReflected 94 [(0, .ref a0), (1, .ref a1), (2, .int a2), (3, .int a3), (4, .int a4), (5, .int a5)] [] w none q) : ∀ (a0 : Nat) (a1 : Nat) (a2 : Int32) (a3 : Int32) (a4 : Int32) (a5 : Int32) (w : px_W) (q : px_W), fX2_becomeReflected_196 X k82 k94 a0 a1 a2 a3 a4 a5 w = some q → EV X mX2_becomeReflected 196 [(0, .ref a0), (1, .ref a1), (2, .int a2), (3, .int a3), (4, .int a4), (5, .int a5)] [] w none q := by
  intro a0 a1 a2 a3 a4 a5 w q h
  unfold fX2_becomeReflected_196 at h
  refine EV.iinc 5 (a5 + 1) [(5, .int (a5 + 1)), (0, .ref a0), (1, .ref a1), (2, .int a2), (3, .int a3), (4, .int a4)] dX2_becomeReflected_196 rfl rfl (by decide) rfl ?_
  refine EV.goto 94 dX2_becomeReflected_199 (by decide) ?_
  refine EV.sub [1, 2, 3, 4, 5, 0] rfl ?_
  exact hk94 _ _ _ _ _ _ _ _ h
set_option maxRecDepth 100000 in
set_option maxHeartbeats 4000000 in
theorem eX2_becomeReflected_109 {X : px_X} {k82 : Nat → Nat → Int32 → Int32 → Int32 → px_W → Option (px_W)} (hk82 : ∀ (a0 : Nat) (a1 : Nat) (a2 : Int32) (a3 : Int32) (a4 : Int32) (w : px_W) (q : px_W), k82 a0 a1 a2 a3 a4 w = some q → EV X mX2_becomeReflected 82 [(0, .ref a0), (1, .ref a1), (2, .int a2), (3, .int a3), (4, .int a4)] [] w none q) {k94 : Nat → Nat → Int32 → Int32 → Int32 → Int32 → px_W → Option (px_W)} (hk94 : ∀ (a0 : Nat) (a1 : Nat) (a2 : Int32) (a3 : Int32) (a4 : Int32) (a5 : Int32) (w : px_W) (q : px_W), k94 a0 a1 a2 a3 a4 a5 w = some q → EV X mX2_becomeReflected 94 [(0, .ref a0), (1, .ref a1), (2, .int a2), (3, .int a3), (4, .int a4), (5, .int a5)] [] w none q) : ∀ (m : Nat) (a0 : Nat) (a1 : Nat) (a2 : Int32) (a3 : Int32) (a4 : Int32) (a5 : Int32) (a6 : Int32) (w : px_W) (q : px_W), fX2_becomeReflected_109 X k82 k94 m a0 a1 a2 a3 a4 a5 a6 w = some q → EV X mX2_becomeReflected 109 [(0, .ref a0), (1, .ref a1), (2, .int a2), (3, .int a3), (4, .int a4), (5, .int a5), (6, .int a6)] [] w none q := by
  intro m
  induction m with
  | zero => intro a0 a1 a2 a3 a4 a5 a6 w q h; cases h
  | succ m ih =>
    intro a0 a1 a2 a3 a4 a5 a6 w q h
    rw [fX2_becomeReflected_109.eq_2] at h
    refine EV.iload 6 dX2_becomeReflected_109 rfl ?_
    refine EV.aload_n 0 dX2_becomeReflected_111 rfl rfl ?_
    obtain ⟨v41, gv41, h⟩ := px_bs h
    refine ev_gR dX2_becomeReflected_112 flRX2_31 gv41 ?_
    refine EV.iload 4 dX2_becomeReflected_115 rfl ?_
    obtain ⟨v42, gv42, h⟩ := px_bs h
    refine ev_aI dX2_becomeReflected_117 gv42 ?_
    refine EV.icmp_ge 196 dX2_becomeReflected_118 (by decide) (fun c43 => ?_) (fun c43 => ?_)
    · rw [if_pos c43] at h
      refine EV.sub [0, 1, 2, 3, 4, 5] rfl ?_
      exact eX2_becomeReflected_196 hk82 hk94 _ _ _ _ _ _ _ _ h
    · rw [if_neg c43] at h
      refine EV.aload_n 1 dX2_becomeReflected_121 rfl rfl ?_
      refine EV.iload 4 dX2_becomeReflected_122 rfl ?_
      refine EV.iload_n 2 dX2_becomeReflected_124 rfl rfl ?_
      refine EV.if_eq 143 dX2_becomeReflected_125 (by decide) (fun c44 => ?_) (fun c44 => ?_)
      · rw [if_pos c44] at h
        refine EV.iload 6 dX2_becomeReflected_143 rfl ?_
        refine EV.sub [0, 1, 2, 3, 4, 5, 6] rfl ?_
        exact eX2_becomeReflected_145 hk82 hk94 ih _ _ _ _ _ _ _ _ _ _ _ _ h
      · rw [if_neg c44] at h
        refine EV.aload_n 0 dX2_becomeReflected_128 rfl rfl ?_
        obtain ⟨v45, gv45, h⟩ := px_bs h
        refine ev_gR dX2_becomeReflected_129 flRX2_31 gv45 ?_
        refine EV.iload 4 dX2_becomeReflected_132 rfl ?_
        obtain ⟨v46, gv46, h⟩ := px_bs h
        refine ev_aI dX2_becomeReflected_134 gv46 ?_
        refine EV.iconst (1) dX2_becomeReflected_135 (by decide) ?_
        refine EV.isub dX2_becomeReflected_136 ?_
        refine EV.iload 6 dX2_becomeReflected_137 rfl ?_
        refine EV.isub dX2_becomeReflected_139 ?_
        refine EV.goto 145 dX2_becomeReflected_140 (by decide) ?_
        refine EV.sub [0, 1, 2, 3, 4, 5, 6] rfl ?_
        exact eX2_becomeReflected_145 hk82 hk94 ih _ _ _ _ _ _ _ _ _ _ _ _ h
set_option maxRecDepth 100000 in
set_option maxHeartbeats 4000000 in
theorem eX2_becomeReflected_94 {X : px_X} {k82 : Nat → Nat → Int32 → Int32 → Int32 → px_W → Option (px_W)} (hk82 : ∀ (a0 : Nat) (a1 : Nat) (a2 : Int32) (a3 : Int32) (a4 : Int32) (w : px_W) (q : px_W), k82 a0 a1 a2 a3 a4 w = some q → EV X mX2_becomeReflected 82 [(0, .ref a0), (1, .ref a1), (2, .int a2), (3, .int a3), (4, .int a4)] [] w none q) : ∀ (m : Nat) (a0 : Nat) (a1 : Nat) (a2 : Int32) (a3 : Int32) (a4 : Int32) (a5 : Int32) (w : px_W) (q : px_W), fX2_becomeReflected_94 X k82 m a0 a1 a2 a3 a4 a5 w = some q → EV X mX2_becomeReflected 94 [(0, .ref a0), (1, .ref a1), (2, .int a2), (3, .int a3), (4, .int a4), (5, .int a5)] [] w none q := by
  intro m
  induction m with
  | zero => intro a0 a1 a2 a3 a4 a5 w q h; cases h
  | succ m ih =>
    intro a0 a1 a2 a3 a4 a5 w q h
    rw [fX2_becomeReflected_94.eq_2] at h
    refine EV.iload 5 dX2_becomeReflected_94 rfl ?_
    refine EV.aload_n 0 dX2_becomeReflected_96 rfl rfl ?_
    obtain ⟨v47, gv47, h⟩ := px_bs h
    refine ev_gR dX2_becomeReflected_97 flRX2_34 gv47 ?_
    refine EV.iload 4 dX2_becomeReflected_100 rfl ?_
    obtain ⟨v48, gv48, h⟩ := px_bs h
    refine ev_aI dX2_becomeReflected_102 gv48 ?_
    refine EV.icmp_ge 202 dX2_becomeReflected_103 (by decide) (fun c49 => ?_) (fun c49 => ?_)
    · rw [if_pos c49] at h
      refine EV.sub [0, 1, 2, 3, 4] rfl ?_
      exact eX2_becomeReflected_202 hk82 _ _ _ _ _ _ _ h
    · rw [if_neg c49] at h
      refine EV.iconst (0) dX2_becomeReflected_106 (by decide) ?_
      refine EV.istore [(6, .int 0), (0, .ref a0), (1, .ref a1), (2, .int a2), (3, .int a3), (4, .int a4), (5, .int a5)] dX2_becomeReflected_107 (by decide) rfl ?_
      refine EV.sub [1, 2, 3, 4, 5, 6, 0] rfl ?_
      exact eX2_becomeReflected_109 hk82 ih FU _ _ _ _ _ _ _ _ _ h
set_option maxRecDepth 100000 in
set_option maxHeartbeats 4000000 in
theorem eX2_becomeReflected_82 {X : px_X}  : ∀ (m : Nat) (a0 : Nat) (a1 : Nat) (a2 : Int32) (a3 : Int32) (a4 : Int32) (w : px_W) (q : px_W), fX2_becomeReflected_82 X  m a0 a1 a2 a3 a4 w = some q → EV X mX2_becomeReflected 82 [(0, .ref a0), (1, .ref a1), (2, .int a2), (3, .int a3), (4, .int a4)] [] w none q := by
  intro m
  induction m with
  | zero => intro a0 a1 a2 a3 a4 w q h; cases h
  | succ m ih =>
    intro a0 a1 a2 a3 a4 w q h
    rw [fX2_becomeReflected_82.eq_2] at h
    refine EV.iload 4 dX2_becomeReflected_82 rfl ?_
    refine EV.aload_n 0 dX2_becomeReflected_84 rfl rfl ?_
    obtain ⟨v50, gv50, h⟩ := px_bs h
    refine ev_gI dX2_becomeReflected_85 flRX2_46 gv50 ?_
    refine EV.icmp_ge 208 dX2_becomeReflected_88 (by decide) (fun c51 => ?_) (fun c51 => ?_)
    · rw [if_pos c51] at h
      cases h
      exact EV.ret0 dX2_becomeReflected_208 trivial
    · rw [if_neg c51] at h
      refine EV.iconst (0) dX2_becomeReflected_91 (by decide) ?_
      refine EV.istore [(5, .int 0), (0, .ref a0), (1, .ref a1), (2, .int a2), (3, .int a3), (4, .int a4)] dX2_becomeReflected_92 (by decide) rfl ?_
      refine EV.sub [1, 2, 3, 4, 5, 0] rfl ?_
      exact eX2_becomeReflected_94 ih FU _ _ _ _ _ _ _ _ h
set_option maxRecDepth 100000 in
set_option maxHeartbeats 4000000 in
theorem eX2_becomeReflected_72 {X : px_X}  : ∀ (a0 : Nat) (a1 : Nat) (a2 : Int32) (a3 : Int32) (s0 : Int32) (s1 : Nat) (w : px_W) (q : px_W), fX2_becomeReflected_72 X  a0 a1 a2 a3 s0 s1 w = some q → EV X mX2_becomeReflected 72 [(0, .ref a0), (1, .ref a1), (2, .int a2), (3, .int a3)] [.int s0, .ref s1] w none q := by
  intro a0 a1 a2 a3 s0 s1 w q h
  unfold fX2_becomeReflected_72 at h
  obtain ⟨w52, gw52, h⟩ := px_bs h
  refine ev_pV dX2_becomeReflected_72 flRX2_15 rfl rfl rfl rfl gw52 ?_
  refine EV.aload_n 0 dX2_becomeReflected_75 rfl rfl ?_
  obtain ⟨o53, go53, h⟩ := px_bs h
  obtain ⟨q54, gq54, h⟩ := px_bs h
  refine EV.callV (As := []) (rest := []) dX2_becomeReflected_76 kcX2_becomeReflected_81 (gO_ok go53) rfl rfl rfl (Nat.le_of_ble_eq_true rfl) (Nat.le_of_ble_eq_true rfl) (eX2_settle gq54) ?_
  refine EV.iconst (0) dX2_becomeReflected_79 (by decide) ?_
  refine EV.istore [(4, .int 0), (0, .ref a0), (1, .ref a1), (2, .int a2), (3, .int a3)] dX2_becomeReflected_80 (by decide) rfl ?_
  refine EV.sub [1, 2, 3, 4, 0] rfl ?_
  exact eX2_becomeReflected_82  FU _ _ _ _ _ _ _ h
set_option maxRecDepth 100000 in
set_option maxHeartbeats 4000000 in
theorem eX2_becomeReflected_37 {X : px_X}  : ∀ (a0 : Nat) (a1 : Nat) (a2 : Int32) (a3 : Int32) (s0 : Int32) (s1 : Nat) (w : px_W) (q : px_W), fX2_becomeReflected_37 X  a0 a1 a2 a3 s0 s1 w = some q → EV X mX2_becomeReflected 37 [(0, .ref a0), (1, .ref a1), (2, .int a2), (3, .int a3)] [.int s0, .ref s1] w none q := by
  intro a0 a1 a2 a3 s0 s1 w q h
  unfold fX2_becomeReflected_37 at h
  obtain ⟨w55, gw55, h⟩ := px_bs h
  refine ev_pV dX2_becomeReflected_37 flRX2_9 rfl rfl rfl rfl gw55 ?_
  refine EV.aload_n 0 dX2_becomeReflected_40 rfl rfl ?_
  refine EV.iload_n 3 dX2_becomeReflected_41 rfl rfl ?_
  refine EV.if_eq 68 dX2_becomeReflected_42 (by decide) (fun c56 => ?_) (fun c56 => ?_)
  · rw [if_pos c56] at h
    refine EV.aload_n 1 dX2_becomeReflected_68 rfl rfl ?_
    obtain ⟨v57, gv57, h⟩ := px_bs h
    refine ev_gI dX2_becomeReflected_69 flRX2_15 gv57 ?_
    refine EV.sub [0, 1, 2, 3] rfl ?_
    exact eX2_becomeReflected_72  _ _ _ _ _ _ _ _ h
  · rw [if_neg c56] at h
    refine EV.aload_n 1 dX2_becomeReflected_45 rfl rfl ?_
    obtain ⟨v58, gv58, h⟩ := px_bs h
    refine ev_gI dX2_becomeReflected_46 flRX2_15 gv58 ?_
    refine EV.bipush (8) dX2_becomeReflected_49 (by decide) ?_
    refine EV.aload_n 1 dX2_becomeReflected_51 rfl rfl ?_
    obtain ⟨v59, gv59, h⟩ := px_bs h
    refine ev_gI dX2_becomeReflected_52 flRX2_21 gv59 ?_
    refine EV.imul dX2_becomeReflected_55 ?_
    obtain ⟨v60, gv60, h⟩ := px_bs h
    refine ev_dI dX2_becomeReflected_56 gv60 ?_
    refine EV.bipush (8) dX2_becomeReflected_57 (by decide) ?_
    refine EV.aload_n 1 dX2_becomeReflected_59 rfl rfl ?_
    obtain ⟨v61, gv61, h⟩ := px_bs h
    refine ev_gI dX2_becomeReflected_60 flRX2_21 gv61 ?_
    refine EV.imul dX2_becomeReflected_63 ?_
    refine EV.imul dX2_becomeReflected_64 ?_
    refine EV.goto 72 dX2_becomeReflected_65 (by decide) ?_
    refine EV.sub [0, 1, 2, 3] rfl ?_
    exact eX2_becomeReflected_72  _ _ _ _ _ _ _ _ h
set_option maxRecDepth 100000 in
set_option maxHeartbeats 4000000 in
theorem eX2_becomeReflected {X : px_X} {w : px_W} {a0 : Nat} {a1 : Nat} {a2 : Int32} {a3 : Int32} {q : px_W} (h : fX2_becomeReflected X w a0 a1 a2 a3 = some q) : EV X mX2_becomeReflected 0 (lv_args 0 [.ref a0, .ref a1, .int a2, .int a3]) [] w none q := by
  unfold fX2_becomeReflected at h
  show EV X mX2_becomeReflected 0 [(0, .ref a0), (1, .ref a1), (2, .int a2), (3, .int a3)] [] w none q
  refine EV.aload_n 0 dX2_becomeReflected_0 rfl rfl ?_
  refine EV.aload_n 1 dX2_becomeReflected_1 rfl rfl ?_
  obtain ⟨o62, go62, h⟩ := px_bs h
  obtain ⟨q63, gq63, h⟩ := px_bs h
  refine EV.callV (As := [.ref a1]) (rest := []) dX2_becomeReflected_2 kcX2_becomeReflected_84 (gO_ok go62) rfl rfl rfl (Nat.le_of_ble_eq_true rfl) (Nat.le_of_ble_eq_true rfl) (eX2_takeFrame gq63) ?_
  refine EV.aload_n 0 dX2_becomeReflected_5 rfl rfl ?_
  refine EV.iload_n 2 dX2_becomeReflected_6 rfl rfl ?_
  refine EV.if_eq 33 dX2_becomeReflected_7 (by decide) (fun c64 => ?_) (fun c64 => ?_)
  · rw [if_pos c64] at h
    refine EV.aload_n 1 dX2_becomeReflected_33 rfl rfl ?_
    obtain ⟨v65, gv65, h⟩ := px_bs h
    refine ev_gI dX2_becomeReflected_34 flRX2_9 gv65 ?_
    refine EV.sub [0, 1, 2, 3] rfl ?_
    exact eX2_becomeReflected_37  _ _ _ _ _ _ _ _ h
  · rw [if_neg c64] at h
    refine EV.aload_n 1 dX2_becomeReflected_10 rfl rfl ?_
    obtain ⟨v66, gv66, h⟩ := px_bs h
    refine ev_gI dX2_becomeReflected_11 flRX2_9 gv66 ?_
    refine EV.bipush (8) dX2_becomeReflected_14 (by decide) ?_
    refine EV.aload_n 1 dX2_becomeReflected_16 rfl rfl ?_
    obtain ⟨v67, gv67, h⟩ := px_bs h
    refine ev_gI dX2_becomeReflected_17 flRX2_18 gv67 ?_
    refine EV.imul dX2_becomeReflected_20 ?_
    obtain ⟨v68, gv68, h⟩ := px_bs h
    refine ev_dI dX2_becomeReflected_21 gv68 ?_
    refine EV.bipush (8) dX2_becomeReflected_22 (by decide) ?_
    refine EV.aload_n 1 dX2_becomeReflected_24 rfl rfl ?_
    obtain ⟨v69, gv69, h⟩ := px_bs h
    refine ev_gI dX2_becomeReflected_25 flRX2_18 gv69 ?_
    refine EV.imul dX2_becomeReflected_28 ?_
    refine EV.imul dX2_becomeReflected_29 ?_
    refine EV.goto 37 dX2_becomeReflected_30 (by decide) ?_
    refine EV.sub [0, 1, 2, 3] rfl ?_
    exact eX2_becomeReflected_37  _ _ _ _ _ _ _ _ h
/-! WavePictures$Picture.becomeCropped(LWavePictures$Picture;IIII)V -/
theorem dX2_becomeCropped_0 : decode cX2_becomeCropped 0 = .ok (.aload_n 0, 1) := by decide +kernel
theorem dX2_becomeCropped_1 : decode cX2_becomeCropped 1 = .ok (.aload_n 1, 1) := by decide +kernel
theorem dX2_becomeCropped_2 : decode cX2_becomeCropped 2 = .ok (.invokevirtual 84, 3) := by decide +kernel
theorem dX2_becomeCropped_5 : decode cX2_becomeCropped 5 = .ok (.aload_n 0, 1) := by decide +kernel
theorem dX2_becomeCropped_6 : decode cX2_becomeCropped 6 = .ok (.aload_n 1, 1) := by decide +kernel
theorem dX2_becomeCropped_7 : decode cX2_becomeCropped 7 = .ok (.getfield 9, 3) := by decide +kernel
theorem dX2_becomeCropped_10 : decode cX2_becomeCropped 10 = .ok (.iload_n 2, 1) := by decide +kernel
theorem dX2_becomeCropped_11 : decode cX2_becomeCropped 11 = .ok (.bipush 8, 2) := by decide +kernel
theorem dX2_becomeCropped_13 : decode cX2_becomeCropped 13 = .ok (.imul, 1) := by decide +kernel
theorem dX2_becomeCropped_14 : decode cX2_becomeCropped 14 = .ok (.aload_n 1, 1) := by decide +kernel
theorem dX2_becomeCropped_15 : decode cX2_becomeCropped 15 = .ok (.getfield 18, 3) := by decide +kernel
theorem dX2_becomeCropped_18 : decode cX2_becomeCropped 18 = .ok (.imul, 1) := by decide +kernel
theorem dX2_becomeCropped_19 : decode cX2_becomeCropped 19 = .ok (.isub, 1) := by decide +kernel
theorem dX2_becomeCropped_20 : decode cX2_becomeCropped 20 = .ok (.iload 4, 2) := by decide +kernel
theorem dX2_becomeCropped_22 : decode cX2_becomeCropped 22 = .ok (.bipush 8, 2) := by decide +kernel
theorem dX2_becomeCropped_24 : decode cX2_becomeCropped 24 = .ok (.imul, 1) := by decide +kernel
theorem dX2_becomeCropped_25 : decode cX2_becomeCropped 25 = .ok (.aload_n 1, 1) := by decide +kernel
theorem dX2_becomeCropped_26 : decode cX2_becomeCropped 26 = .ok (.getfield 18, 3) := by decide +kernel
theorem dX2_becomeCropped_29 : decode cX2_becomeCropped 29 = .ok (.imul, 1) := by decide +kernel
theorem dX2_becomeCropped_30 : decode cX2_becomeCropped 30 = .ok (.invokestatic 75, 3) := by decide +kernel
theorem dX2_becomeCropped_33 : decode cX2_becomeCropped 33 = .ok (.putfield 9, 3) := by decide +kernel
theorem dX2_becomeCropped_36 : decode cX2_becomeCropped 36 = .ok (.aload_n 0, 1) := by decide +kernel
theorem dX2_becomeCropped_37 : decode cX2_becomeCropped 37 = .ok (.aload_n 1, 1) := by decide +kernel
theorem dX2_becomeCropped_38 : decode cX2_becomeCropped 38 = .ok (.getfield 15, 3) := by decide +kernel
theorem dX2_becomeCropped_41 : decode cX2_becomeCropped 41 = .ok (.iload_n 3, 1) := by decide +kernel
theorem dX2_becomeCropped_42 : decode cX2_becomeCropped 42 = .ok (.bipush 8, 2) := by decide +kernel
theorem dX2_becomeCropped_44 : decode cX2_becomeCropped 44 = .ok (.imul, 1) := by decide +kernel
theorem dX2_becomeCropped_45 : decode cX2_becomeCropped 45 = .ok (.aload_n 1, 1) := by decide +kernel
theorem dX2_becomeCropped_46 : decode cX2_becomeCropped 46 = .ok (.getfield 21, 3) := by decide +kernel
theorem dX2_becomeCropped_49 : decode cX2_becomeCropped 49 = .ok (.imul, 1) := by decide +kernel
theorem dX2_becomeCropped_50 : decode cX2_becomeCropped 50 = .ok (.isub, 1) := by decide +kernel
theorem dX2_becomeCropped_51 : decode cX2_becomeCropped 51 = .ok (.iload 5, 2) := by decide +kernel
theorem dX2_becomeCropped_53 : decode cX2_becomeCropped 53 = .ok (.bipush 8, 2) := by decide +kernel
theorem dX2_becomeCropped_55 : decode cX2_becomeCropped 55 = .ok (.imul, 1) := by decide +kernel
theorem dX2_becomeCropped_56 : decode cX2_becomeCropped 56 = .ok (.aload_n 1, 1) := by decide +kernel
theorem dX2_becomeCropped_57 : decode cX2_becomeCropped 57 = .ok (.getfield 21, 3) := by decide +kernel
theorem dX2_becomeCropped_60 : decode cX2_becomeCropped 60 = .ok (.imul, 1) := by decide +kernel
theorem dX2_becomeCropped_61 : decode cX2_becomeCropped 61 = .ok (.invokestatic 75, 3) := by decide +kernel
theorem dX2_becomeCropped_64 : decode cX2_becomeCropped 64 = .ok (.putfield 15, 3) := by decide +kernel
theorem dX2_becomeCropped_67 : decode cX2_becomeCropped 67 = .ok (.aload_n 0, 1) := by decide +kernel
theorem dX2_becomeCropped_68 : decode cX2_becomeCropped 68 = .ok (.invokevirtual 81, 3) := by decide +kernel
theorem dX2_becomeCropped_71 : decode cX2_becomeCropped 71 = .ok (.iconst 0, 1) := by decide +kernel
theorem dX2_becomeCropped_72 : decode cX2_becomeCropped 72 = .ok (.istore 6, 2) := by decide +kernel
theorem dX2_becomeCropped_74 : decode cX2_becomeCropped 74 = .ok (.iload 6, 2) := by decide +kernel
theorem dX2_becomeCropped_76 : decode cX2_becomeCropped 76 = .ok (.aload_n 0, 1) := by decide +kernel
theorem dX2_becomeCropped_77 : decode cX2_becomeCropped 77 = .ok (.getfield 46, 3) := by decide +kernel
theorem dX2_becomeCropped_80 : decode cX2_becomeCropped 80 = .ok (.if_icmp .ge 102, 3) := by decide +kernel
theorem dX2_becomeCropped_83 : decode cX2_becomeCropped 83 = .ok (.iconst 0, 1) := by decide +kernel
theorem dX2_becomeCropped_84 : decode cX2_becomeCropped 84 = .ok (.istore 7, 2) := by decide +kernel
theorem dX2_becomeCropped_86 : decode cX2_becomeCropped 86 = .ok (.iload 7, 2) := by decide +kernel
theorem dX2_becomeCropped_88 : decode cX2_becomeCropped 88 = .ok (.aload_n 0, 1) := by decide +kernel
theorem dX2_becomeCropped_89 : decode cX2_becomeCropped 89 = .ok (.getfield 34, 3) := by decide +kernel
theorem dX2_becomeCropped_92 : decode cX2_becomeCropped 92 = .ok (.iload 6, 2) := by decide +kernel
theorem dX2_becomeCropped_94 : decode cX2_becomeCropped 94 = .ok (.iaload, 1) := by decide +kernel
theorem dX2_becomeCropped_95 : decode cX2_becomeCropped 95 = .ok (.if_icmp .ge 81, 3) := by decide +kernel
theorem dX2_becomeCropped_98 : decode cX2_becomeCropped 98 = .ok (.iconst 0, 1) := by decide +kernel
theorem dX2_becomeCropped_99 : decode cX2_becomeCropped 99 = .ok (.istore 8, 2) := by decide +kernel
theorem dX2_becomeCropped_101 : decode cX2_becomeCropped 101 = .ok (.iload 8, 2) := by decide +kernel
theorem dX2_becomeCropped_103 : decode cX2_becomeCropped 103 = .ok (.aload_n 0, 1) := by decide +kernel
theorem dX2_becomeCropped_104 : decode cX2_becomeCropped 104 = .ok (.getfield 31, 3) := by decide +kernel
theorem dX2_becomeCropped_107 : decode cX2_becomeCropped 107 = .ok (.iload 6, 2) := by decide +kernel
theorem dX2_becomeCropped_109 : decode cX2_becomeCropped 109 = .ok (.iaload, 1) := by decide +kernel
theorem dX2_becomeCropped_110 : decode cX2_becomeCropped 110 = .ok (.if_icmp .ge 60, 3) := by decide +kernel
theorem dX2_becomeCropped_113 : decode cX2_becomeCropped 113 = .ok (.aload_n 1, 1) := by decide +kernel
theorem dX2_becomeCropped_114 : decode cX2_becomeCropped 114 = .ok (.iload 6, 2) := by decide +kernel
theorem dX2_becomeCropped_116 : decode cX2_becomeCropped 116 = .ok (.iload_n 2, 1) := by decide +kernel
theorem dX2_becomeCropped_117 : decode cX2_becomeCropped 117 = .ok (.aload_n 0, 1) := by decide +kernel
theorem dX2_becomeCropped_118 : decode cX2_becomeCropped 118 = .ok (.getfield 24, 3) := by decide +kernel
theorem dX2_becomeCropped_121 : decode cX2_becomeCropped 121 = .ok (.iload 6, 2) := by decide +kernel
theorem dX2_becomeCropped_123 : decode cX2_becomeCropped 123 = .ok (.iaload, 1) := by decide +kernel
theorem dX2_becomeCropped_124 : decode cX2_becomeCropped 124 = .ok (.imul, 1) := by decide +kernel
theorem dX2_becomeCropped_125 : decode cX2_becomeCropped 125 = .ok (.iload 8, 2) := by decide +kernel
theorem dX2_becomeCropped_127 : decode cX2_becomeCropped 127 = .ok (.iadd, 1) := by decide +kernel
theorem dX2_becomeCropped_128 : decode cX2_becomeCropped 128 = .ok (.iload_n 3, 1) := by decide +kernel
theorem dX2_becomeCropped_129 : decode cX2_becomeCropped 129 = .ok (.aload_n 0, 1) := by decide +kernel
theorem dX2_becomeCropped_130 : decode cX2_becomeCropped 130 = .ok (.getfield 28, 3) := by decide +kernel
theorem dX2_becomeCropped_133 : decode cX2_becomeCropped 133 = .ok (.iload 6, 2) := by decide +kernel
theorem dX2_becomeCropped_135 : decode cX2_becomeCropped 135 = .ok (.iaload, 1) := by decide +kernel
theorem dX2_becomeCropped_136 : decode cX2_becomeCropped 136 = .ok (.imul, 1) := by decide +kernel
theorem dX2_becomeCropped_137 : decode cX2_becomeCropped 137 = .ok (.iload 7, 2) := by decide +kernel
theorem dX2_becomeCropped_139 : decode cX2_becomeCropped 139 = .ok (.iadd, 1) := by decide +kernel
theorem dX2_becomeCropped_140 : decode cX2_becomeCropped 140 = .ok (.invokevirtual 88, 3) := by decide +kernel
theorem dX2_becomeCropped_143 : decode cX2_becomeCropped 143 = .ok (.istore 9, 2) := by decide +kernel
theorem dX2_becomeCropped_145 : decode cX2_becomeCropped 145 = .ok (.aload_n 0, 1) := by decide +kernel
theorem dX2_becomeCropped_146 : decode cX2_becomeCropped 146 = .ok (.aload_n 1, 1) := by decide +kernel
theorem dX2_becomeCropped_147 : decode cX2_becomeCropped 147 = .ok (.iload 9, 2) := by decide +kernel
theorem dX2_becomeCropped_149 : decode cX2_becomeCropped 149 = .ok (.aload_n 0, 1) := by decide +kernel
theorem dX2_becomeCropped_150 : decode cX2_becomeCropped 150 = .ok (.iload 6, 2) := by decide +kernel
theorem dX2_becomeCropped_152 : decode cX2_becomeCropped 152 = .ok (.iload 8, 2) := by decide +kernel
theorem dX2_becomeCropped_154 : decode cX2_becomeCropped 154 = .ok (.iload 7, 2) := by decide +kernel
theorem dX2_becomeCropped_156 : decode cX2_becomeCropped 156 = .ok (.invokevirtual 88, 3) := by decide +kernel
theorem dX2_becomeCropped_159 : decode cX2_becomeCropped 159 = .ok (.iconst 0, 1) := by decide +kernel
theorem dX2_becomeCropped_160 : decode cX2_becomeCropped 160 = .ok (.iconst 0, 1) := by decide +kernel
theorem dX2_becomeCropped_161 : decode cX2_becomeCropped 161 = .ok (.invokevirtual 92, 3) := by decide +kernel
theorem dX2_becomeCropped_164 : decode cX2_becomeCropped 164 = .ok (.iinc 8 1, 3) := by decide +kernel
theorem dX2_becomeCropped_167 : decode cX2_becomeCropped 167 = .ok (.goto (-66), 3) := by decide +kernel
theorem dX2_becomeCropped_170 : decode cX2_becomeCropped 170 = .ok (.iinc 7 1, 3) := by decide +kernel
theorem dX2_becomeCropped_173 : decode cX2_becomeCropped 173 = .ok (.goto (-87), 3) := by decide +kernel
theorem dX2_becomeCropped_176 : decode cX2_becomeCropped 176 = .ok (.iinc 6 1, 3) := by decide +kernel
theorem dX2_becomeCropped_179 : decode cX2_becomeCropped 179 = .ok (.goto (-105), 3) := by decide +kernel
theorem dX2_becomeCropped_182 : decode cX2_becomeCropped 182 = .ok (.return_, 1) := by decide +kernel
theorem kcX2_becomeCropped_81 : px_cV mX2_becomeCropped 81 mX2_settle 0 := ⟨⟨mbX2_settle, by decide, by decide⟩, Or.inl (tb5 (List.mem_of_getElem? (i := 204) rfl)), vbX2_settle⟩
theorem kcX2_becomeCropped_84 : px_cV mX2_becomeCropped 84 mX2_takeFrame 1 := ⟨⟨mbX2_takeFrame, by decide, by decide⟩, Or.inl (tb5 (List.mem_of_getElem? (i := 209) rfl)), vbX2_takeFrame⟩
theorem kcX2_becomeCropped_88 : px_cV mX2_becomeCropped 88 mX2_block 3 := ⟨⟨mbX2_block, by decide, by decide⟩, Or.inl (tb5 (List.mem_of_getElem? (i := 214) rfl)), vbX2_block⟩
theorem kcX2_becomeCropped_92 : px_cV mX2_becomeCropped 92 mX2_takeBlock 5 := ⟨⟨mbX2_takeBlock, by decide, by decide⟩, Or.inl (tb5 (List.mem_of_getElem? (i := 215) rfl)), vbX2_takeBlock⟩
set_option maxRecDepth 100000 in
set_option maxHeartbeats 4000000 in
theorem eX2_becomeCropped_176 {X : px_X} {k74 : Nat → Nat → Int32 → Int32 → Int32 → px_W → Option (px_W)} (hk74 : ∀ (a0 : Nat) (a1 : Nat) (a2 : Int32) (a3 : Int32) (a6 : Int32) (w : px_W) (q : px_W), k74 a0 a1 a2 a3 a6 w = some q → EV X mX2_becomeCropped 74 [(0, .ref a0), (1, .ref a1), (2, .int a2), (3, .int a3), (6, .int a6)] [] w none q) : ∀ (a0 : Nat) (a1 : Nat) (a2 : Int32) (a3 : Int32) (a6 : Int32) (w : px_W) (q : px_W), fX2_becomeCropped_176 X k74 a0 a1 a2 a3 a6 w = some q → EV X mX2_becomeCropped 176 [(0, .ref a0), (1, .ref a1), (2, .int a2), (3, .int a3), (6, .int a6)] [] w none q := by
  intro a0 a1 a2 a3 a6 w q h
  unfold fX2_becomeCropped_176 at h
  refine EV.iinc 4 (a6 + 1) [(6, .int (a6 + 1)), (0, .ref a0), (1, .ref a1), (2, .int a2), (3, .int a3)] dX2_becomeCropped_176 rfl rfl (by decide) rfl ?_
  refine EV.goto 74 dX2_becomeCropped_179 (by decide) ?_
  refine EV.sub [1, 2, 3, 4, 0] rfl ?_
  exact hk74 _ _ _ _ _ _ _ h
set_option maxRecDepth 100000 in
set_option maxHeartbeats 4000000 in
theorem eX2_becomeCropped_170 {X : px_X} {k74 : Nat → Nat → Int32 → Int32 → Int32 → px_W → Option (px_W)} (hk74 : ∀ (a0 : Nat) (a1 : Nat) (a2 : Int32) (a3 : Int32) (a6 : Int32) (w : px_W) (q : px_W), k74 a0 a1 a2 a3 a6 w = some q → EV X mX2_becomeCropped 74 [(0, .ref a0), (1, .ref a1), (2, .int a2), (3, .int a3), (6, .int a6)] [] w none q) {k86 : Nat → Nat → Int32 → Int32 → Int32 → Int32 → px_W → Option (px_W)} (hk86 : ∀ (a0 : Nat) (a1 : Nat) (a2 : Int32) (a3 : Int32) (a6 : Int32) (a7 : Int32) (w : px_W) (q : px_W), k86 a0 a1 a2 a3 a6 a7 w = some q → EV X mX2_becomeCropped 86 [(0, .ref a0), (1, .ref a1), (2, .int a2), (3, .int a3), (6, .int a6), (7, .int a7)] [] w none q) : ∀ (a0 : Nat) (a1 : Nat) (a2 : Int32) (a3 : Int32) (a6 : Int32) (a7 : Int32) (w : px_W) (q : px_W), fX2_becomeCropped_170 X k74 k86 a0 a1 a2 a3 a6 a7 w = some q → EV X mX2_becomeCropped 170 [(0, .ref a0), (1, .ref a1), (2, .int a2), (3, .int a3), (6, .int a6), (7, .int a7)] [] w none q := by
  intro a0 a1 a2 a3 a6 a7 w q h
  unfold fX2_becomeCropped_170 at h
  refine EV.iinc 5 (a7 + 1) [(7, .int (a7 + 1)), (0, .ref a0), (1, .ref a1), (2, .int a2), (3, .int a3), (6, .int a6)] dX2_becomeCropped_170 rfl rfl (by decide) rfl ?_
  refine EV.goto 86 dX2_becomeCropped_173 (by decide) ?_
  refine EV.sub [1, 2, 3, 4, 5, 0] rfl ?_
  exact hk86 _ _ _ _ _ _ _ _ h
set_option maxRecDepth 100000 in
set_option maxHeartbeats 4000000 in
theorem eX2_becomeCropped_101 {X : px_X} {k74 : Nat → Nat → Int32 → Int32 → Int32 → px_W → Option (px_W)} (hk74 : ∀ (a0 : Nat) (a1 : Nat) (a2 : Int32) (a3 : Int32) (a6 : Int32) (w : px_W) (q : px_W), k74 a0 a1 a2 a3 a6 w = some q → EV X mX2_becomeCropped 74 [(0, .ref a0), (1, .ref a1), (2, .int a2), (3, .int a3), (6, .int a6)] [] w none q) {k86 : Nat → Nat → Int32 → Int32 → Int32 → Int32 → px_W → Option (px_W)} (hk86 : ∀ (a0 : Nat) (a1 : Nat) (a2 : Int32) (a3 : Int32) (a6 : Int32) (a7 : Int32) (w : px_W) (q : px_W), k86 a0 a1 a2 a3 a6 a7 w = some q → EV X mX2_becomeCropped 86 [(0, .ref a0), (1, .ref a1), (2, .int a2), (3, .int a3), (6, .int a6), (7, .int a7)] [] w none q) : ∀ (m : Nat) (a0 : Nat) (a1 : Nat) (a2 : Int32) (a3 : Int32) (a6 : Int32) (a7 : Int32) (a8 : Int32) (w : px_W) (q : px_W), fX2_becomeCropped_101 X k74 k86 m a0 a1 a2 a3 a6 a7 a8 w = some q → EV X mX2_becomeCropped 101 [(0, .ref a0), (1, .ref a1), (2, .int a2), (3, .int a3), (6, .int a6), (7, .int a7), (8, .int a8)] [] w none q := by
  intro m
  induction m with
  | zero => intro a0 a1 a2 a3 a6 a7 a8 w q h; cases h
  | succ m ih =>
    intro a0 a1 a2 a3 a6 a7 a8 w q h
    rw [fX2_becomeCropped_101.eq_2] at h
    refine EV.iload 6 dX2_becomeCropped_101 rfl ?_
    refine EV.aload_n 0 dX2_becomeCropped_103 rfl rfl ?_
    obtain ⟨v28, gv28, h⟩ := px_bs h
    refine ev_gR dX2_becomeCropped_104 flRX2_31 gv28 ?_
    refine EV.iload 4 dX2_becomeCropped_107 rfl ?_
    obtain ⟨v29, gv29, h⟩ := px_bs h
    refine ev_aI dX2_becomeCropped_109 gv29 ?_
    refine EV.icmp_ge 170 dX2_becomeCropped_110 (by decide) (fun c30 => ?_) (fun c30 => ?_)
    · rw [if_pos c30] at h
      refine EV.sub [0, 1, 2, 3, 4, 5] rfl ?_
      exact eX2_becomeCropped_170 hk74 hk86 _ _ _ _ _ _ _ _ h
    · rw [if_neg c30] at h
      refine EV.aload_n 1 dX2_becomeCropped_113 rfl rfl ?_
      refine EV.iload 4 dX2_becomeCropped_114 rfl ?_
      refine EV.iload_n 2 dX2_becomeCropped_116 rfl rfl ?_
      refine EV.aload_n 0 dX2_becomeCropped_117 rfl rfl ?_
      obtain ⟨v31, gv31, h⟩ := px_bs h
      refine ev_gR dX2_becomeCropped_118 flRX2_24 gv31 ?_
      refine EV.iload 4 dX2_becomeCropped_121 rfl ?_
      obtain ⟨v32, gv32, h⟩ := px_bs h
      refine ev_aI dX2_becomeCropped_123 gv32 ?_
      refine EV.imul dX2_becomeCropped_124 ?_
      refine EV.iload 6 dX2_becomeCropped_125 rfl ?_
      refine EV.iadd dX2_becomeCropped_127 ?_
      refine EV.iload_n 3 dX2_becomeCropped_128 rfl rfl ?_
      refine EV.aload_n 0 dX2_becomeCropped_129 rfl rfl ?_
      obtain ⟨v33, gv33, h⟩ := px_bs h
      refine ev_gR dX2_becomeCropped_130 flRX2_28 gv33 ?_
      refine EV.iload 4 dX2_becomeCropped_133 rfl ?_
      obtain ⟨v34, gv34, h⟩ := px_bs h
      refine ev_aI dX2_becomeCropped_135 gv34 ?_
      refine EV.imul dX2_becomeCropped_136 ?_
      refine EV.iload 5 dX2_becomeCropped_137 rfl ?_
      refine EV.iadd dX2_becomeCropped_139 ?_
      obtain ⟨o35, go35, h⟩ := px_bs h
      obtain ⟨q36, gq36, h⟩ := px_bs h
      refine EV.callV (As := [.int a6, .int ((a2 * v32) + a8), .int ((a3 * v34) + a7)]) (rest := []) dX2_becomeCropped_140 kcX2_becomeCropped_88 (gO_ok go35) rfl rfl rfl (Nat.le_of_ble_eq_true rfl) (Nat.le_of_ble_eq_true rfl) (eX2_block gq36) ?_
      refine EV.istore [(9, .int q36.1), (0, .ref a0), (1, .ref a1), (2, .int a2), (3, .int a3), (6, .int a6), (7, .int a7), (8, .int a8)] dX2_becomeCropped_143 (by decide) rfl ?_
      refine EV.aload_n 1 dX2_becomeCropped_145 rfl rfl ?_
      refine EV.aload_n 2 dX2_becomeCropped_146 rfl rfl ?_
      refine EV.iload 0 dX2_becomeCropped_147 rfl ?_
      refine EV.aload_n 1 dX2_becomeCropped_149 rfl rfl ?_
      refine EV.iload 5 dX2_becomeCropped_150 rfl ?_
      refine EV.iload 7 dX2_becomeCropped_152 rfl ?_
      refine EV.iload 6 dX2_becomeCropped_154 rfl ?_
      obtain ⟨o37, go37, h⟩ := px_bs h
      obtain ⟨q38, gq38, h⟩ := px_bs h
      refine EV.callV (As := [.int a6, .int a8, .int a7]) (rest := [.int q36.1, .ref a1, .ref a0]) dX2_becomeCropped_156 kcX2_becomeCropped_88 (gO_ok go37) rfl rfl rfl (Nat.le_of_ble_eq_true rfl) (Nat.le_of_ble_eq_true rfl) (eX2_block gq38) ?_
      refine EV.iconst (0) dX2_becomeCropped_159 (by decide) ?_
      refine EV.iconst (0) dX2_becomeCropped_160 (by decide) ?_
      obtain ⟨o39, go39, h⟩ := px_bs h
      obtain ⟨q40, gq40, h⟩ := px_bs h
      refine EV.callV (As := [.ref a1, .int q36.1, .int q38.1, .int 0, .int 0]) (rest := []) dX2_becomeCropped_161 kcX2_becomeCropped_92 (gO_ok go39) rfl rfl rfl (Nat.le_of_ble_eq_true rfl) (Nat.le_of_ble_eq_true rfl) (eX2_takeBlock gq40) ?_
      refine EV.iinc 7 (a8 + 1) [(8, .int (a8 + 1)), (9, .int q36.1), (0, .ref a0), (1, .ref a1), (2, .int a2), (3, .int a3), (6, .int a6), (7, .int a7)] dX2_becomeCropped_164 rfl rfl (by decide) rfl ?_
      refine EV.goto 101 dX2_becomeCropped_167 (by decide) ?_
      refine EV.sub [2, 3, 4, 5, 6, 7, 0] rfl ?_
      exact ih _ _ _ _ _ _ _ _ _ h
set_option maxRecDepth 100000 in
set_option maxHeartbeats 4000000 in
theorem eX2_becomeCropped_86 {X : px_X} {k74 : Nat → Nat → Int32 → Int32 → Int32 → px_W → Option (px_W)} (hk74 : ∀ (a0 : Nat) (a1 : Nat) (a2 : Int32) (a3 : Int32) (a6 : Int32) (w : px_W) (q : px_W), k74 a0 a1 a2 a3 a6 w = some q → EV X mX2_becomeCropped 74 [(0, .ref a0), (1, .ref a1), (2, .int a2), (3, .int a3), (6, .int a6)] [] w none q) : ∀ (m : Nat) (a0 : Nat) (a1 : Nat) (a2 : Int32) (a3 : Int32) (a6 : Int32) (a7 : Int32) (w : px_W) (q : px_W), fX2_becomeCropped_86 X k74 m a0 a1 a2 a3 a6 a7 w = some q → EV X mX2_becomeCropped 86 [(0, .ref a0), (1, .ref a1), (2, .int a2), (3, .int a3), (6, .int a6), (7, .int a7)] [] w none q := by
  intro m
  induction m with
  | zero => intro a0 a1 a2 a3 a6 a7 w q h; cases h
  | succ m ih =>
    intro a0 a1 a2 a3 a6 a7 w q h
    rw [fX2_becomeCropped_86.eq_2] at h
    refine EV.iload 5 dX2_becomeCropped_86 rfl ?_
    refine EV.aload_n 0 dX2_becomeCropped_88 rfl rfl ?_
    obtain ⟨v41, gv41, h⟩ := px_bs h
    refine ev_gR dX2_becomeCropped_89 flRX2_34 gv41 ?_
    refine EV.iload 4 dX2_becomeCropped_92 rfl ?_
    obtain ⟨v42, gv42, h⟩ := px_bs h
    refine ev_aI dX2_becomeCropped_94 gv42 ?_
    refine EV.icmp_ge 176 dX2_becomeCropped_95 (by decide) (fun c43 => ?_) (fun c43 => ?_)
    · rw [if_pos c43] at h
      refine EV.sub [0, 1, 2, 3, 4] rfl ?_
      exact eX2_becomeCropped_176 hk74 _ _ _ _ _ _ _ h
    · rw [if_neg c43] at h
      refine EV.iconst (0) dX2_becomeCropped_98 (by decide) ?_
      refine EV.istore [(8, .int 0), (0, .ref a0), (1, .ref a1), (2, .int a2), (3, .int a3), (6, .int a6), (7, .int a7)] dX2_becomeCropped_99 (by decide) rfl ?_
      refine EV.sub [1, 2, 3, 4, 5, 6, 0] rfl ?_
      exact eX2_becomeCropped_101 hk74 ih FU _ _ _ _ _ _ _ _ _ h
set_option maxRecDepth 100000 in
set_option maxHeartbeats 4000000 in
theorem eX2_becomeCropped_74 {X : px_X}  : ∀ (m : Nat) (a0 : Nat) (a1 : Nat) (a2 : Int32) (a3 : Int32) (a6 : Int32) (w : px_W) (q : px_W), fX2_becomeCropped_74 X  m a0 a1 a2 a3 a6 w = some q → EV X mX2_becomeCropped 74 [(0, .ref a0), (1, .ref a1), (2, .int a2), (3, .int a3), (6, .int a6)] [] w none q := by
  intro m
  induction m with
  | zero => intro a0 a1 a2 a3 a6 w q h; cases h
  | succ m ih =>
    intro a0 a1 a2 a3 a6 w q h
    rw [fX2_becomeCropped_74.eq_2] at h
    refine EV.iload 4 dX2_becomeCropped_74 rfl ?_
    refine EV.aload_n 0 dX2_becomeCropped_76 rfl rfl ?_
    obtain ⟨v44, gv44, h⟩ := px_bs h
    refine ev_gI dX2_becomeCropped_77 flRX2_46 gv44 ?_
    refine EV.icmp_ge 182 dX2_becomeCropped_80 (by decide) (fun c45 => ?_) (fun c45 => ?_)
    · rw [if_pos c45] at h
      cases h
      exact EV.ret0 dX2_becomeCropped_182 trivial
    · rw [if_neg c45] at h
      refine EV.iconst (0) dX2_becomeCropped_83 (by decide) ?_
      refine EV.istore [(7, .int 0), (0, .ref a0), (1, .ref a1), (2, .int a2), (3, .int a3), (6, .int a6)] dX2_becomeCropped_84 (by decide) rfl ?_
      refine EV.sub [1, 2, 3, 4, 5, 0] rfl ?_
      exact eX2_becomeCropped_86 ih FU _ _ _ _ _ _ _ _ h
set_option maxRecDepth 100000 in
set_option maxHeartbeats 4000000 in
theorem eX2_becomeCropped {X : px_X} {w : px_W} {a0 : Nat} {a1 : Nat} {a2 : Int32} {a3 : Int32} {a4 : Int32} {a5 : Int32} {q : px_W} (h : fX2_becomeCropped X w a0 a1 a2 a3 a4 a5 = some q) : EV X mX2_becomeCropped 0 (lv_args 0 [.ref a0, .ref a1, .int a2, .int a3, .int a4, .int a5]) [] w none q := by
  unfold fX2_becomeCropped at h
  show EV X mX2_becomeCropped 0 [(0, .ref a0), (1, .ref a1), (2, .int a2), (3, .int a3), (4, .int a4), (5, .int a5)] [] w none q
  refine EV.aload_n 0 dX2_becomeCropped_0 rfl rfl ?_
  refine EV.aload_n 1 dX2_becomeCropped_1 rfl rfl ?_
  obtain ⟨o46, go46, h⟩ := px_bs h
  obtain ⟨q47, gq47, h⟩ := px_bs h
  refine EV.callV (As := [.ref a1]) (rest := []) dX2_becomeCropped_2 kcX2_becomeCropped_84 (gO_ok go46) rfl rfl rfl (Nat.le_of_ble_eq_true rfl) (Nat.le_of_ble_eq_true rfl) (eX2_takeFrame gq47) ?_
  refine EV.aload_n 0 dX2_becomeCropped_5 rfl rfl ?_
  refine EV.aload_n 1 dX2_becomeCropped_6 rfl rfl ?_
  obtain ⟨v48, gv48, h⟩ := px_bs h
  refine ev_gI dX2_becomeCropped_7 flRX2_9 gv48 ?_
  refine EV.iload_n 2 dX2_becomeCropped_10 rfl rfl ?_
  refine EV.bipush (8) dX2_becomeCropped_11 (by decide) ?_
  refine EV.imul dX2_becomeCropped_13 ?_
  refine EV.aload_n 1 dX2_becomeCropped_14 rfl rfl ?_
  obtain ⟨v49, gv49, h⟩ := px_bs h
  refine ev_gI dX2_becomeCropped_15 flRX2_18 gv49 ?_
  refine EV.imul dX2_becomeCropped_18 ?_
  refine EV.isub dX2_becomeCropped_19 ?_
  refine EV.iload 4 dX2_becomeCropped_20 rfl ?_
  refine EV.bipush (8) dX2_becomeCropped_22 (by decide) ?_
  refine EV.imul dX2_becomeCropped_24 ?_
  refine EV.aload_n 1 dX2_becomeCropped_25 rfl rfl ?_
  obtain ⟨v50, gv50, h⟩ := px_bs h
  refine ev_gI dX2_becomeCropped_26 flRX2_18 gv50 ?_
  refine EV.imul dX2_becomeCropped_29 ?_
  refine EV.mmin dX2_becomeCropped_30 (tb5 (List.mem_of_getElem? (i := 117) rfl)) (by decide) (by decide) (Nat.le_of_ble_eq_true rfl) ?_
  obtain ⟨w51, gw51, h⟩ := px_bs h
  refine ev_pV dX2_becomeCropped_33 flRX2_9 rfl rfl rfl rfl gw51 ?_
  refine EV.aload_n 0 dX2_becomeCropped_36 rfl rfl ?_
  refine EV.aload_n 1 dX2_becomeCropped_37 rfl rfl ?_
  obtain ⟨v52, gv52, h⟩ := px_bs h
  refine ev_gI dX2_becomeCropped_38 flRX2_15 gv52 ?_
  refine EV.iload_n 3 dX2_becomeCropped_41 rfl rfl ?_
  refine EV.bipush (8) dX2_becomeCropped_42 (by decide) ?_
  refine EV.imul dX2_becomeCropped_44 ?_
  refine EV.aload_n 1 dX2_becomeCropped_45 rfl rfl ?_
  obtain ⟨v53, gv53, h⟩ := px_bs h
  refine ev_gI dX2_becomeCropped_46 flRX2_21 gv53 ?_
  refine EV.imul dX2_becomeCropped_49 ?_
  refine EV.isub dX2_becomeCropped_50 ?_
  refine EV.iload 5 dX2_becomeCropped_51 rfl ?_
  refine EV.bipush (8) dX2_becomeCropped_53 (by decide) ?_
  refine EV.imul dX2_becomeCropped_55 ?_
  refine EV.aload_n 1 dX2_becomeCropped_56 rfl rfl ?_
  obtain ⟨v54, gv54, h⟩ := px_bs h
  refine ev_gI dX2_becomeCropped_57 flRX2_21 gv54 ?_
  refine EV.imul dX2_becomeCropped_60 ?_
  refine EV.mmin dX2_becomeCropped_61 (tb5 (List.mem_of_getElem? (i := 117) rfl)) (by decide) (by decide) (Nat.le_of_ble_eq_true rfl) ?_
  obtain ⟨w55, gw55, h⟩ := px_bs h
  refine ev_pV dX2_becomeCropped_64 flRX2_15 rfl rfl rfl rfl gw55 ?_
  refine EV.aload_n 0 dX2_becomeCropped_67 rfl rfl ?_
  obtain ⟨o56, go56, h⟩ := px_bs h
  obtain ⟨q57, gq57, h⟩ := px_bs h
  refine EV.callV (As := []) (rest := []) dX2_becomeCropped_68 kcX2_becomeCropped_81 (gO_ok go56) rfl rfl rfl (Nat.le_of_ble_eq_true rfl) (Nat.le_of_ble_eq_true rfl) (eX2_settle gq57) ?_
  refine EV.iconst (0) dX2_becomeCropped_71 (by decide) ?_
  refine EV.istore [(6, .int 0), (0, .ref a0), (1, .ref a1), (2, .int a2), (3, .int a3), (4, .int a4), (5, .int a5)] dX2_becomeCropped_72 (by decide) rfl ?_
  refine EV.sub [1, 2, 3, 4, 0] rfl ?_
  exact eX2_becomeCropped_74  FU _ _ _ _ _ _ _ h
/-! WavePictures$Plane.<init>()V -/
theorem dX3_init_0 : decode cX3_init 0 = .ok (.aload_n 0, 1) := by decide +kernel
theorem dX3_init_1 : decode cX3_init 1 = .ok (.invokespecial 3, 3) := by decide +kernel
theorem dX3_init_4 : decode cX3_init 4 = .ok (.aload_n 0, 1) := by decide +kernel
theorem dX3_init_5 : decode cX3_init 5 = .ok (.iconst 1, 1) := by decide +kernel
theorem dX3_init_6 : decode cX3_init 6 = .ok (.putfield 9, 3) := by decide +kernel
theorem dX3_init_9 : decode cX3_init 9 = .ok (.aload_n 0, 1) := by decide +kernel
theorem dX3_init_10 : decode cX3_init 10 = .ok (.iconst 1, 1) := by decide +kernel
theorem dX3_init_11 : decode cX3_init 11 = .ok (.putfield 15, 3) := by decide +kernel
theorem dX3_init_14 : decode cX3_init 14 = .ok (.aload_n 0, 1) := by decide +kernel
theorem dX3_init_15 : decode cX3_init 15 = .ok (.sipush 1024, 3) := by decide +kernel
theorem dX3_init_18 : decode cX3_init 18 = .ok (.newarray .int, 2) := by decide +kernel
theorem dX3_init_20 : decode cX3_init 20 = .ok (.putfield 18, 3) := by decide +kernel
theorem dX3_init_23 : decode cX3_init 23 = .ok (.return_, 1) := by decide +kernel
theorem flRX3_9 : px_f RX3 9 3 0 := ⟨_, rfl, by decide, Or.inl (tb1 (List.mem_of_getElem? (i := 136) rfl))⟩
theorem flRX3_15 : px_f RX3 15 3 1 := ⟨_, rfl, by decide, Or.inl (tb1 (List.mem_of_getElem? (i := 138) rfl))⟩
set_option maxRecDepth 100000 in
set_option maxHeartbeats 4000000 in
theorem eX3_init {X : px_X} {w : px_W} {a0 : Nat} {q : px_W} (h : fX3_init X w a0 = some q) : EV X mX3_init 0 (lv_args 0 [.ref a0]) [] w none q := by
  unfold fX3_init at h
  show EV X mX3_init 0 [(0, .ref a0)] [] w none q
  refine EV.aload_n 0 dX3_init_0 rfl rfl ?_
  refine EV.objI dX3_init_1 (tb1 (List.mem_of_getElem? (i := 135) rfl)) (by decide) (by decide) (Nat.le_of_ble_eq_true rfl) ?_
  refine EV.aload_n 0 dX3_init_4 rfl rfl ?_
  refine EV.iconst (1) dX3_init_5 (by decide) ?_
  obtain ⟨w5, gw5, h⟩ := px_bs h
  refine ev_pV dX3_init_6 flRX3_9 rfl rfl rfl rfl gw5 ?_
  refine EV.aload_n 0 dX3_init_9 rfl rfl ?_
  refine EV.iconst (1) dX3_init_10 (by decide) ?_
  obtain ⟨w6, gw6, h⟩ := px_bs h
  refine ev_pV dX3_init_11 flRX3_15 rfl rfl rfl rfl gw6 ?_
  refine EV.aload_n 0 dX3_init_14 rfl rfl ?_
  refine EV.sipush (1024) dX3_init_15 (by decide) ?_
  obtain ⟨q7, gq7, h⟩ := px_bs h
  refine ev_nI dX3_init_18 gq7 ?_
  obtain ⟨w8, gw8, h⟩ := px_bs h
  refine ev_pF dX3_init_20 (ci := 3) (k := 2) rfl (by decide) (tb1 (List.mem_of_getElem? (i := 140) rfl)) rfl rfl rfl rfl rfl gw8 ?_
  cases h
  exact EV.ret0 dX3_init_23 trivial
/-! WavePictures$Plane.isOfSize(II)Z -/
theorem dX3_isOfSize_0 : decode cX3_isOfSize 0 = .ok (.aload_n 0, 1) := by decide +kernel
theorem dX3_isOfSize_1 : decode cX3_isOfSize 1 = .ok (.getfield 9, 3) := by decide +kernel
theorem dX3_isOfSize_4 : decode cX3_isOfSize 4 = .ok (.iload_n 1, 1) := by decide +kernel
theorem dX3_isOfSize_5 : decode cX3_isOfSize 5 = .ok (.if_icmp .ne 15, 3) := by decide +kernel
theorem dX3_isOfSize_8 : decode cX3_isOfSize 8 = .ok (.aload_n 0, 1) := by decide +kernel
theorem dX3_isOfSize_9 : decode cX3_isOfSize 9 = .ok (.getfield 15, 3) := by decide +kernel
theorem dX3_isOfSize_12 : decode cX3_isOfSize 12 = .ok (.iload_n 2, 1) := by decide +kernel
theorem dX3_isOfSize_13 : decode cX3_isOfSize 13 = .ok (.if_icmp .ne 7, 3) := by decide +kernel
theorem dX3_isOfSize_16 : decode cX3_isOfSize 16 = .ok (.iconst 1, 1) := by decide +kernel
theorem dX3_isOfSize_17 : decode cX3_isOfSize 17 = .ok (.goto 4, 3) := by decide +kernel
theorem dX3_isOfSize_20 : decode cX3_isOfSize 20 = .ok (.iconst 0, 1) := by decide +kernel
theorem dX3_isOfSize_21 : decode cX3_isOfSize 21 = .ok (.ireturn, 1) := by decide +kernel
set_option maxRecDepth 100000 in
set_option maxHeartbeats 4000000 in
theorem eX3_isOfSize {X : px_X} {w : px_W} {a0 : Nat} {a1 : Int32} {a2 : Int32} {q : Int32 × px_W} (h : fX3_isOfSize X w a0 a1 a2 = some q) : EV X mX3_isOfSize 0 (lv_args 0 [.ref a0, .int a1, .int a2]) [] w (some (.int q.1)) q.2 := by
  unfold fX3_isOfSize at h
  show EV X mX3_isOfSize 0 [(0, .ref a0), (1, .int a1), (2, .int a2)] [] w (some (.int q.1)) q.2
  refine EV.aload_n 0 dX3_isOfSize_0 rfl rfl ?_
  obtain ⟨v3, gv3, h⟩ := px_bs h
  refine ev_gI dX3_isOfSize_1 flRX3_9 gv3 ?_
  refine EV.iload_n 1 dX3_isOfSize_4 rfl rfl ?_
  refine EV.icmp_ne 20 dX3_isOfSize_5 (by decide) (fun c4 => ?_) (fun c4 => ?_)
  · rw [if_neg c4] at h
    refine EV.iconst (0) dX3_isOfSize_20 (by decide) ?_
    cases h
    exact EV.reti dX3_isOfSize_21 rfl
  · rw [if_pos c4] at h
    refine EV.aload_n 0 dX3_isOfSize_8 rfl rfl ?_
    obtain ⟨v5, gv5, h⟩ := px_bs h
    refine ev_gI dX3_isOfSize_9 flRX3_15 gv5 ?_
    refine EV.iload_n 2 dX3_isOfSize_12 rfl rfl ?_
    refine EV.icmp_ne 20 dX3_isOfSize_13 (by decide) (fun c6 => ?_) (fun c6 => ?_)
    · rw [if_neg c6] at h
      refine EV.iconst (0) dX3_isOfSize_20 (by decide) ?_
      cases h
      exact EV.reti dX3_isOfSize_21 rfl
    · rw [if_pos c6] at h
      refine EV.iconst (1) dX3_isOfSize_16 (by decide) ?_
      refine EV.goto 21 dX3_isOfSize_17 (by decide) ?_
      cases h
      exact EV.reti dX3_isOfSize_21 rfl
/-! WavePictures$Plane.setSize(II)V -/
theorem dX3_setSize_0 : decode cX3_setSize 0 = .ok (.aload_n 0, 1) := by decide +kernel
theorem dX3_setSize_1 : decode cX3_setSize 1 = .ok (.iload_n 1, 1) := by decide +kernel
theorem dX3_setSize_2 : decode cX3_setSize 2 = .ok (.putfield 9, 3) := by decide +kernel
theorem dX3_setSize_5 : decode cX3_setSize 5 = .ok (.aload_n 0, 1) := by decide +kernel
theorem dX3_setSize_6 : decode cX3_setSize 6 = .ok (.iload_n 2, 1) := by decide +kernel
theorem dX3_setSize_7 : decode cX3_setSize 7 = .ok (.putfield 15, 3) := by decide +kernel
theorem dX3_setSize_10 : decode cX3_setSize 10 = .ok (.aload_n 0, 1) := by decide +kernel
theorem dX3_setSize_11 : decode cX3_setSize 11 = .ok (.getfield 18, 3) := by decide +kernel
theorem dX3_setSize_14 : decode cX3_setSize 14 = .ok (.iconst 0, 1) := by decide +kernel
theorem dX3_setSize_15 : decode cX3_setSize 15 = .ok (.invokestatic 22, 3) := by decide +kernel
theorem dX3_setSize_18 : decode cX3_setSize 18 = .ok (.return_, 1) := by decide +kernel
theorem flRX3_18 : px_f RX3 18 3 2 := ⟨_, rfl, by decide, Or.inl (tb1 (List.mem_of_getElem? (i := 140) rfl))⟩
theorem kcX3_setSize_22 : px_cS mX3_setSize 22 mJ7_fill_53178 2 := ⟨⟨mbJ7_fill_53178, by decide, by decide⟩, Or.inl (tb6 (List.mem_of_getElem? (i := 31) rfl)), tb3 (List.mem_of_getElem? (i := 141) rfl)⟩
set_option maxRecDepth 100000 in
set_option maxHeartbeats 4000000 in
theorem eX3_setSize {X : px_X} {w : px_W} {a0 : Nat} {a1 : Int32} {a2 : Int32} {q : px_W} (h : fX3_setSize X w a0 a1 a2 = some q) : EV X mX3_setSize 0 (lv_args 0 [.ref a0, .int a1, .int a2]) [] w none q := by
  unfold fX3_setSize at h
  show EV X mX3_setSize 0 [(0, .ref a0), (1, .int a1), (2, .int a2)] [] w none q
  refine EV.aload_n 0 dX3_setSize_0 rfl rfl ?_
  refine EV.iload_n 1 dX3_setSize_1 rfl rfl ?_
  obtain ⟨w5, gw5, h⟩ := px_bs h
  refine ev_pV dX3_setSize_2 flRX3_9 rfl rfl rfl rfl gw5 ?_
  refine EV.aload_n 0 dX3_setSize_5 rfl rfl ?_
  refine EV.iload_n 2 dX3_setSize_6 rfl rfl ?_
  obtain ⟨w6, gw6, h⟩ := px_bs h
  refine ev_pV dX3_setSize_7 flRX3_15 rfl rfl rfl rfl gw6 ?_
  refine EV.aload_n 0 dX3_setSize_10 rfl rfl ?_
  obtain ⟨v7, gv7, h⟩ := px_bs h
  refine ev_gR dX3_setSize_11 flRX3_18 gv7 ?_
  refine EV.iconst (0) dX3_setSize_14 (by decide) ?_
  obtain ⟨q8, gq8, h⟩ := px_bs h
  refine EV.callS (As := [.ref v7, .int 0]) (rest := []) dX3_setSize_15 kcX3_setSize_22 rfl (Nat.le_of_ble_eq_true rfl) (Nat.le_of_ble_eq_true rfl) (eJ7_fill_53178 gq8) ?_
  cases h
  exact EV.ret0 dX3_setSize_18 trivial
/-! WavePictures$Plane.nearest(II)I -/
theorem dX3_nearest_0 : decode cX3_nearest 0 = .ok (.aload_n 0, 1) := by decide +kernel
theorem dX3_nearest_1 : decode cX3_nearest 1 = .ok (.getfield 18, 3) := by decide +kernel
theorem dX3_nearest_4 : decode cX3_nearest 4 = .ok (.bipush 32, 2) := by decide +kernel
theorem dX3_nearest_6 : decode cX3_nearest 6 = .ok (.iconst 0, 1) := by decide +kernel
theorem dX3_nearest_7 : decode cX3_nearest 7 = .ok (.iload_n 2, 1) := by decide +kernel
theorem dX3_nearest_8 : decode cX3_nearest 8 = .ok (.aload_n 0, 1) := by decide +kernel
theorem dX3_nearest_9 : decode cX3_nearest 9 = .ok (.getfield 15, 3) := by decide +kernel
theorem dX3_nearest_12 : decode cX3_nearest 12 = .ok (.iconst 1, 1) := by decide +kernel
theorem dX3_nearest_13 : decode cX3_nearest 13 = .ok (.isub, 1) := by decide +kernel
theorem dX3_nearest_14 : decode cX3_nearest 14 = .ok (.invokestatic 28, 3) := by decide +kernel
theorem dX3_nearest_17 : decode cX3_nearest 17 = .ok (.invokestatic 34, 3) := by decide +kernel
theorem dX3_nearest_20 : decode cX3_nearest 20 = .ok (.imul, 1) := by decide +kernel
theorem dX3_nearest_21 : decode cX3_nearest 21 = .ok (.iconst 0, 1) := by decide +kernel
theorem dX3_nearest_22 : decode cX3_nearest 22 = .ok (.iload_n 1, 1) := by decide +kernel
theorem dX3_nearest_23 : decode cX3_nearest 23 = .ok (.aload_n 0, 1) := by decide +kernel
theorem dX3_nearest_24 : decode cX3_nearest 24 = .ok (.getfield 9, 3) := by decide +kernel
theorem dX3_nearest_27 : decode cX3_nearest 27 = .ok (.iconst 1, 1) := by decide +kernel
theorem dX3_nearest_28 : decode cX3_nearest 28 = .ok (.isub, 1) := by decide +kernel
theorem dX3_nearest_29 : decode cX3_nearest 29 = .ok (.invokestatic 28, 3) := by decide +kernel
theorem dX3_nearest_32 : decode cX3_nearest 32 = .ok (.invokestatic 34, 3) := by decide +kernel
theorem dX3_nearest_35 : decode cX3_nearest 35 = .ok (.iadd, 1) := by decide +kernel
theorem dX3_nearest_36 : decode cX3_nearest 36 = .ok (.iaload, 1) := by decide +kernel
theorem dX3_nearest_37 : decode cX3_nearest 37 = .ok (.ireturn, 1) := by decide +kernel
set_option maxRecDepth 100000 in
set_option maxHeartbeats 4000000 in
theorem eX3_nearest {X : px_X} {w : px_W} {a0 : Nat} {a1 : Int32} {a2 : Int32} {q : Int32 × px_W} (h : fX3_nearest X w a0 a1 a2 = some q) : EV X mX3_nearest 0 (lv_args 0 [.ref a0, .int a1, .int a2]) [] w (some (.int q.1)) q.2 := by
  unfold fX3_nearest at h
  show EV X mX3_nearest 0 [(0, .ref a0), (1, .int a1), (2, .int a2)] [] w (some (.int q.1)) q.2
  refine EV.aload_n 0 dX3_nearest_0 rfl rfl ?_
  obtain ⟨v5, gv5, h⟩ := px_bs h
  refine ev_gR dX3_nearest_1 flRX3_18 gv5 ?_
  refine EV.bipush (32) dX3_nearest_4 (by decide) ?_
  refine EV.iconst (0) dX3_nearest_6 (by decide) ?_
  refine EV.iload_n 2 dX3_nearest_7 rfl rfl ?_
  refine EV.aload_n 0 dX3_nearest_8 rfl rfl ?_
  obtain ⟨v6, gv6, h⟩ := px_bs h
  refine ev_gI dX3_nearest_9 flRX3_15 gv6 ?_
  refine EV.iconst (1) dX3_nearest_12 (by decide) ?_
  refine EV.isub dX3_nearest_13 ?_
  refine EV.mmin dX3_nearest_14 (tb5 (List.mem_of_getElem? (i := 136) rfl)) (by decide) (by decide) (Nat.le_of_ble_eq_true rfl) ?_
  refine EV.mmax dX3_nearest_17 (tb5 (List.mem_of_getElem? (i := 137) rfl)) (by decide) (by decide) (Nat.le_of_ble_eq_true rfl) ?_
  refine EV.imul dX3_nearest_20 ?_
  refine EV.iconst (0) dX3_nearest_21 (by decide) ?_
  refine EV.iload_n 1 dX3_nearest_22 rfl rfl ?_
  refine EV.aload_n 0 dX3_nearest_23 rfl rfl ?_
  obtain ⟨v7, gv7, h⟩ := px_bs h
  refine ev_gI dX3_nearest_24 flRX3_9 gv7 ?_
  refine EV.iconst (1) dX3_nearest_27 (by decide) ?_
  refine EV.isub dX3_nearest_28 ?_
  refine EV.mmin dX3_nearest_29 (tb5 (List.mem_of_getElem? (i := 136) rfl)) (by decide) (by decide) (Nat.le_of_ble_eq_true rfl) ?_
  refine EV.mmax dX3_nearest_32 (tb5 (List.mem_of_getElem? (i := 137) rfl)) (by decide) (by decide) (Nat.le_of_ble_eq_true rfl) ?_
  refine EV.iadd dX3_nearest_35 ?_
  obtain ⟨v8, gv8, h⟩ := px_bs h
  refine ev_aI dX3_nearest_36 gv8 ?_
  cases h
  exact EV.reti dX3_nearest_37 rfl
/-! WavePictures$Plane.becomeFirst(LWavePictures$Plane;II)V -/
theorem dX3_becomeFirst_0 : decode cX3_becomeFirst 0 = .ok (.aload_n 0, 1) := by decide +kernel
theorem dX3_becomeFirst_1 : decode cX3_becomeFirst 1 = .ok (.iload_n 2, 1) := by decide +kernel
theorem dX3_becomeFirst_2 : decode cX3_becomeFirst 2 = .ok (.putfield 9, 3) := by decide +kernel
theorem dX3_becomeFirst_5 : decode cX3_becomeFirst 5 = .ok (.aload_n 0, 1) := by decide +kernel
theorem dX3_becomeFirst_6 : decode cX3_becomeFirst 6 = .ok (.iload_n 3, 1) := by decide +kernel
theorem dX3_becomeFirst_7 : decode cX3_becomeFirst 7 = .ok (.putfield 15, 3) := by decide +kernel
theorem dX3_becomeFirst_10 : decode cX3_becomeFirst 10 = .ok (.aload_n 1, 1) := by decide +kernel
theorem dX3_becomeFirst_11 : decode cX3_becomeFirst 11 = .ok (.getfield 18, 3) := by decide +kernel
theorem dX3_becomeFirst_14 : decode cX3_becomeFirst 14 = .ok (.iconst 0, 1) := by decide +kernel
theorem dX3_becomeFirst_15 : decode cX3_becomeFirst 15 = .ok (.aload_n 0, 1) := by decide +kernel
theorem dX3_becomeFirst_16 : decode cX3_becomeFirst 16 = .ok (.getfield 18, 3) := by decide +kernel
theorem dX3_becomeFirst_19 : decode cX3_becomeFirst 19 = .ok (.iconst 0, 1) := by decide +kernel
theorem dX3_becomeFirst_20 : decode cX3_becomeFirst 20 = .ok (.sipush 1024, 3) := by decide +kernel
theorem dX3_becomeFirst_23 : decode cX3_becomeFirst 23 = .ok (.invokestatic 37, 3) := by decide +kernel
theorem dX3_becomeFirst_26 : decode cX3_becomeFirst 26 = .ok (.return_, 1) := by decide +kernel
set_option maxRecDepth 100000 in
set_option maxHeartbeats 4000000 in
theorem eX3_becomeFirst {X : px_X} {w : px_W} {a0 : Nat} {a1 : Nat} {a2 : Int32} {a3 : Int32} {q : px_W} (h : fX3_becomeFirst X w a0 a1 a2 a3 = some q) : EV X mX3_becomeFirst 0 (lv_args 0 [.ref a0, .ref a1, .int a2, .int a3]) [] w none q := by
  unfold fX3_becomeFirst at h
  show EV X mX3_becomeFirst 0 [(0, .ref a0), (1, .ref a1), (2, .int a2), (3, .int a3)] [] w none q
  refine EV.aload_n 0 dX3_becomeFirst_0 rfl rfl ?_
  refine EV.iload_n 2 dX3_becomeFirst_1 rfl rfl ?_
  obtain ⟨w6, gw6, h⟩ := px_bs h
  refine ev_pV dX3_becomeFirst_2 flRX3_9 rfl rfl rfl rfl gw6 ?_
  refine EV.aload_n 0 dX3_becomeFirst_5 rfl rfl ?_
  refine EV.iload_n 3 dX3_becomeFirst_6 rfl rfl ?_
  obtain ⟨w7, gw7, h⟩ := px_bs h
  refine ev_pV dX3_becomeFirst_7 flRX3_15 rfl rfl rfl rfl gw7 ?_
  refine EV.aload_n 1 dX3_becomeFirst_10 rfl rfl ?_
  obtain ⟨v8, gv8, h⟩ := px_bs h
  refine ev_gR dX3_becomeFirst_11 flRX3_18 gv8 ?_
  refine EV.iconst (0) dX3_becomeFirst_14 (by decide) ?_
  refine EV.aload_n 0 dX3_becomeFirst_15 rfl rfl ?_
  obtain ⟨v9, gv9, h⟩ := px_bs h
  refine ev_gR dX3_becomeFirst_16 flRX3_18 gv9 ?_
  refine EV.iconst (0) dX3_becomeFirst_19 (by decide) ?_
  refine EV.sipush (1024) dX3_becomeFirst_20 (by decide) ?_
  obtain ⟨w10, gw10, h⟩ := px_bs h
  refine ev_cpI dX3_becomeFirst_23 (tb5 (List.mem_of_getElem? (i := 189) rfl)) (by decide) (by decide) (Nat.le_of_ble_eq_true rfl) gw10 ?_
  cases h
  exact EV.ret0 dX3_becomeFirst_26 trivial
