/-! WavePictures$ScanReader.takeSymbol(LWavePictures$Words;)I -/
theorem dX6_takeSymbol_0 : decode cX6_takeSymbol 0 = .ok (.iconst 0, 1) := by decide +kernel
theorem dX6_takeSymbol_1 : decode cX6_takeSymbol 1 = .ok (.istore_n 2, 1) := by decide +kernel
theorem dX6_takeSymbol_2 : decode cX6_takeSymbol 2 = .ok (.iconst 0, 1) := by decide +kernel
theorem dX6_takeSymbol_3 : decode cX6_takeSymbol 3 = .ok (.istore_n 3, 1) := by decide +kernel
theorem dX6_takeSymbol_4 : decode cX6_takeSymbol 4 = .ok (.iload_n 3, 1) := by decide +kernel
theorem dX6_takeSymbol_5 : decode cX6_takeSymbol 5 = .ok (.bipush 16, 2) := by decide +kernel
theorem dX6_takeSymbol_7 : decode cX6_takeSymbol 7 = .ok (.if_icmp .ge 55, 3) := by decide +kernel
theorem dX6_takeSymbol_10 : decode cX6_takeSymbol 10 = .ok (.aload_n 1, 1) := by decide +kernel
theorem dX6_takeSymbol_11 : decode cX6_takeSymbol 11 = .ok (.iload_n 2, 1) := by decide +kernel
theorem dX6_takeSymbol_12 : decode cX6_takeSymbol 12 = .ok (.iload_n 3, 1) := by decide +kernel
theorem dX6_takeSymbol_13 : decode cX6_takeSymbol 13 = .ok (.invokevirtual 132, 3) := by decide +kernel
theorem dX6_takeSymbol_16 : decode cX6_takeSymbol 16 = .ok (.ifCond .eq 46, 3) := by decide +kernel
theorem dX6_takeSymbol_19 : decode cX6_takeSymbol 19 = .ok (.iconst 2, 1) := by decide +kernel
theorem dX6_takeSymbol_20 : decode cX6_takeSymbol 20 = .ok (.iload_n 2, 1) := by decide +kernel
theorem dX6_takeSymbol_21 : decode cX6_takeSymbol 21 = .ok (.imul, 1) := by decide +kernel
theorem dX6_takeSymbol_22 : decode cX6_takeSymbol 22 = .ok (.aload_n 0, 1) := by decide +kernel
theorem dX6_takeSymbol_23 : decode cX6_takeSymbol 23 = .ok (.invokevirtual 125, 3) := by decide +kernel
theorem dX6_takeSymbol_26 : decode cX6_takeSymbol 26 = .ok (.iadd, 1) := by decide +kernel
theorem dX6_takeSymbol_27 : decode cX6_takeSymbol 27 = .ok (.istore_n 2, 1) := by decide +kernel
theorem dX6_takeSymbol_28 : decode cX6_takeSymbol 28 = .ok (.aload_n 0, 1) := by decide +kernel
theorem dX6_takeSymbol_29 : decode cX6_takeSymbol 29 = .ok (.getfield 41, 3) := by decide +kernel
theorem dX6_takeSymbol_32 : decode cX6_takeSymbol 32 = .ok (.ifCond .eq 5, 3) := by decide +kernel
theorem dX6_takeSymbol_35 : decode cX6_takeSymbol 35 = .ok (.iconst (-1), 1) := by decide +kernel
theorem dX6_takeSymbol_36 : decode cX6_takeSymbol 36 = .ok (.ireturn, 1) := by decide +kernel
theorem dX6_takeSymbol_37 : decode cX6_takeSymbol 37 = .ok (.aload_n 1, 1) := by decide +kernel
theorem dX6_takeSymbol_38 : decode cX6_takeSymbol 38 = .ok (.iload_n 2, 1) := by decide +kernel
theorem dX6_takeSymbol_39 : decode cX6_takeSymbol 39 = .ok (.iload_n 3, 1) := by decide +kernel
theorem dX6_takeSymbol_40 : decode cX6_takeSymbol 40 = .ok (.iconst 1, 1) := by decide +kernel
theorem dX6_takeSymbol_41 : decode cX6_takeSymbol 41 = .ok (.iadd, 1) := by decide +kernel
theorem dX6_takeSymbol_42 : decode cX6_takeSymbol 42 = .ok (.invokevirtual 138, 3) := by decide +kernel
theorem dX6_takeSymbol_45 : decode cX6_takeSymbol 45 = .ok (.istore 4, 2) := by decide +kernel
theorem dX6_takeSymbol_47 : decode cX6_takeSymbol 47 = .ok (.iload 4, 2) := by decide +kernel
theorem dX6_takeSymbol_49 : decode cX6_takeSymbol 49 = .ok (.iconst (-1), 1) := by decide +kernel
theorem dX6_takeSymbol_50 : decode cX6_takeSymbol 50 = .ok (.if_icmp .eq 6, 3) := by decide +kernel
theorem dX6_takeSymbol_53 : decode cX6_takeSymbol 53 = .ok (.iload 4, 2) := by decide +kernel
theorem dX6_takeSymbol_55 : decode cX6_takeSymbol 55 = .ok (.ireturn, 1) := by decide +kernel
theorem dX6_takeSymbol_56 : decode cX6_takeSymbol 56 = .ok (.iinc 3 1, 3) := by decide +kernel
theorem dX6_takeSymbol_59 : decode cX6_takeSymbol 59 = .ok (.goto (-55), 3) := by decide +kernel
theorem dX6_takeSymbol_62 : decode cX6_takeSymbol 62 = .ok (.aload_n 0, 1) := by decide +kernel
theorem dX6_takeSymbol_63 : decode cX6_takeSymbol 63 = .ok (.iconst 2, 1) := by decide +kernel
theorem dX6_takeSymbol_64 : decode cX6_takeSymbol 64 = .ok (.putfield 41, 3) := by decide +kernel
theorem dX6_takeSymbol_67 : decode cX6_takeSymbol 67 = .ok (.iconst (-1), 1) := by decide +kernel
theorem dX6_takeSymbol_68 : decode cX6_takeSymbol 68 = .ok (.ireturn, 1) := by decide +kernel
theorem mbX6_takeBit : px_mB mX6_takeBit 0 := ⟨tb4 (List.mem_of_getElem? (i := 106) rfl), by decide +kernel, tb1 (List.mem_of_getElem? (i := 9) rfl), by decide +kernel, by decide +kernel⟩
theorem vbX6_takeBit : px_vB mX6_takeBit := ⟨tb4 (List.mem_of_getElem? (i := 105) rfl), List.mem_append_left _ (List.mem_of_getElem? (i := 35) (by decide +kernel))⟩
theorem kcX6_takeSymbol_125 : px_cV mX6_takeSymbol 125 mX6_takeBit 0 := ⟨⟨mbX6_takeBit, by decide, by decide⟩, Or.inl (tb4 (List.mem_of_getElem? (i := 103) rfl)), vbX6_takeBit⟩
theorem mbX10_begins : px_mB mX10_begins 2 := ⟨tb4 (List.mem_of_getElem? (i := 118) rfl), by decide +kernel, tb1 (List.mem_of_getElem? (i := 8) rfl), by decide +kernel, by decide +kernel⟩
theorem vbX10_begins : px_vB mX10_begins := ⟨tb4 (List.mem_of_getElem? (i := 116) rfl), tb4 (List.mem_of_getElem? (i := 117) rfl)⟩
theorem kcX6_takeSymbol_132 : px_cV mX6_takeSymbol 132 mX10_begins 2 := ⟨⟨mbX10_begins, by decide, by decide⟩, Or.inl (tb4 (List.mem_of_getElem? (i := 115) rfl)), vbX10_begins⟩
theorem mbX10_symbolOf : px_mB mX10_symbolOf 2 := ⟨tb4 (List.mem_of_getElem? (i := 122) rfl), by decide +kernel, tb1 (List.mem_of_getElem? (i := 8) rfl), by decide +kernel, by decide +kernel⟩
theorem vbX10_symbolOf : px_vB mX10_symbolOf := ⟨tb4 (List.mem_of_getElem? (i := 120) rfl), tb4 (List.mem_of_getElem? (i := 121) rfl)⟩
theorem kcX6_takeSymbol_138 : px_cV mX6_takeSymbol 138 mX10_symbolOf 2 := ⟨⟨mbX10_symbolOf, by decide, by decide⟩, Or.inl (tb4 (List.mem_of_getElem? (i := 119) rfl)), vbX10_symbolOf⟩
set_option maxRecDepth 100000 in
set_option maxHeartbeats 4000000 in
theorem eX6_takeSymbol_62 {X : px_X}  : ∀ (a0 : Nat) (w : px_W) (q : Int32 × px_W), fX6_takeSymbol_62 X  a0 w = some q → EV X mX6_takeSymbol 62 [(0, .ref a0)] [] w (some (.int q.1)) q.2 := by
  intro a0 w q h
  unfold fX6_takeSymbol_62 at h
  refine EV.aload_n 0 dX6_takeSymbol_62 rfl rfl ?_
  refine EV.iconst (2) dX6_takeSymbol_63 (by decide) ?_
  obtain ⟨w9, gw9, h⟩ := px_bs h
  refine ev_pV dX6_takeSymbol_64 flRX6_41 rfl rfl rfl rfl gw9 ?_
  refine EV.iconst ((-1)) dX6_takeSymbol_67 (by decide) ?_
  cases h
  exact EV.reti dX6_takeSymbol_68 rfl
set_option maxRecDepth 100000 in
set_option maxHeartbeats 4000000 in
theorem eX6_takeSymbol_4 {X : px_X}  : ∀ (m : Nat) (a0 : Nat) (a1 : Nat) (a2 : Int32) (a3 : Int32) (w : px_W) (q : Int32 × px_W), fX6_takeSymbol_4 X  m a0 a1 a2 a3 w = some q → EV X mX6_takeSymbol 4 [(0, .ref a0), (1, .ref a1), (2, .int a2), (3, .int a3)] [] w (some (.int q.1)) q.2 := by
  intro m
  induction m with
  | zero => intro a0 a1 a2 a3 w q h; cases h
  | succ m ih =>
    intro a0 a1 a2 a3 w q h
    rw [fX6_takeSymbol_4.eq_2] at h
    refine EV.iload_n 3 dX6_takeSymbol_4 rfl rfl ?_
    refine EV.bipush (16) dX6_takeSymbol_5 (by decide) ?_
    refine EV.icmp_ge 62 dX6_takeSymbol_7 (by decide) (fun c10 => ?_) (fun c10 => ?_)
    · rw [if_pos c10] at h
      refine EV.sub [0] rfl ?_
      exact eX6_takeSymbol_62  _ _ _ h
    · rw [if_neg c10] at h
      refine EV.aload_n 1 dX6_takeSymbol_10 rfl rfl ?_
      refine EV.iload_n 2 dX6_takeSymbol_11 rfl rfl ?_
      refine EV.iload_n 3 dX6_takeSymbol_12 rfl rfl ?_
      obtain ⟨o11, go11, h⟩ := px_bs h
      obtain ⟨q12, gq12, h⟩ := px_bs h
      refine EV.callV (As := [.int a2, .int a3]) (rest := []) dX6_takeSymbol_13 kcX6_takeSymbol_132 (gO_ok go11) rfl rfl rfl (Nat.le_of_ble_eq_true rfl) (Nat.le_of_ble_eq_true rfl) (eX10_begins gq12) ?_
      refine EV.if_eq 62 dX6_takeSymbol_16 (by decide) (fun c13 => ?_) (fun c13 => ?_)
      · rw [if_pos c13] at h
        refine EV.sub [0] rfl ?_
        exact eX6_takeSymbol_62  _ _ _ h
      · rw [if_neg c13] at h
        refine EV.iconst (2) dX6_takeSymbol_19 (by decide) ?_
        refine EV.iload_n 2 dX6_takeSymbol_20 rfl rfl ?_
        refine EV.imul dX6_takeSymbol_21 ?_
        refine EV.aload_n 0 dX6_takeSymbol_22 rfl rfl ?_
        obtain ⟨o14, go14, h⟩ := px_bs h
        obtain ⟨q15, gq15, h⟩ := px_bs h
        refine EV.callV (As := []) (rest := [.int (2 * a2)]) dX6_takeSymbol_23 kcX6_takeSymbol_125 (gO_ok go14) rfl rfl rfl (Nat.le_of_ble_eq_true rfl) (Nat.le_of_ble_eq_true rfl) (eX6_takeBit gq15) ?_
        refine EV.iadd dX6_takeSymbol_26 ?_
        refine EV.istore_n [(2, .int ((2 * a2) + q15.1)), (0, .ref a0), (1, .ref a1), (3, .int a3)] dX6_takeSymbol_27 rfl (by decide) rfl ?_
        refine EV.aload_n 1 dX6_takeSymbol_28 rfl rfl ?_
        obtain ⟨v16, gv16, h⟩ := px_bs h
        refine ev_gI dX6_takeSymbol_29 flRX6_41 gv16 ?_
        refine EV.if_eq 37 dX6_takeSymbol_32 (by decide) (fun c17 => ?_) (fun c17 => ?_)
        · rw [if_pos c17] at h
          refine EV.aload_n 2 dX6_takeSymbol_37 rfl rfl ?_
          refine EV.iload_n 0 dX6_takeSymbol_38 rfl rfl ?_
          refine EV.iload_n 3 dX6_takeSymbol_39 rfl rfl ?_
          refine EV.iconst (1) dX6_takeSymbol_40 (by decide) ?_
          refine EV.iadd dX6_takeSymbol_41 ?_
          obtain ⟨o18, go18, h⟩ := px_bs h
          obtain ⟨q19, gq19, h⟩ := px_bs h
          refine EV.callV (As := [.int ((2 * a2) + q15.1), .int (a3 + 1)]) (rest := []) dX6_takeSymbol_42 kcX6_takeSymbol_138 (gO_ok go18) rfl rfl rfl (Nat.le_of_ble_eq_true rfl) (Nat.le_of_ble_eq_true rfl) (eX10_symbolOf gq19) ?_
          refine EV.istore [(4, .int q19.1), (2, .int ((2 * a2) + q15.1)), (0, .ref a0), (1, .ref a1), (3, .int a3)] dX6_takeSymbol_45 (by decide) rfl ?_
          refine EV.iload 0 dX6_takeSymbol_47 rfl ?_
          refine EV.iconst ((-1)) dX6_takeSymbol_49 (by decide) ?_
          refine EV.icmp_eq 56 dX6_takeSymbol_50 (by decide) (fun c20 => ?_) (fun c20 => ?_)
          · rw [if_pos c20] at h
            refine EV.iinc 4 (a3 + 1) [(3, .int (a3 + 1)), (4, .int q19.1), (2, .int ((2 * a2) + q15.1)), (0, .ref a0), (1, .ref a1)] dX6_takeSymbol_56 rfl rfl (by decide) rfl ?_
            refine EV.goto 4 dX6_takeSymbol_59 (by decide) ?_
            refine EV.sub [3, 4, 2, 0] rfl ?_
            exact ih _ _ _ _ _ _ h
          · rw [if_neg c20] at h
            refine EV.iload 0 dX6_takeSymbol_53 rfl ?_
            cases h
            exact EV.reti dX6_takeSymbol_55 rfl
        · rw [if_neg c17] at h
          refine EV.iconst ((-1)) dX6_takeSymbol_35 (by decide) ?_
          cases h
          exact EV.reti dX6_takeSymbol_36 rfl
set_option maxRecDepth 100000 in
set_option maxHeartbeats 4000000 in
theorem eX6_takeSymbol {X : px_X} {w : px_W} {a0 : Nat} {a1 : Nat} {q : Int32 × px_W} (h : fX6_takeSymbol X w a0 a1 = some q) : EV X mX6_takeSymbol 0 (lv_args 0 [.ref a0, .ref a1]) [] w (some (.int q.1)) q.2 := by
  unfold fX6_takeSymbol at h
  show EV X mX6_takeSymbol 0 [(0, .ref a0), (1, .ref a1)] [] w (some (.int q.1)) q.2
  refine EV.iconst (0) dX6_takeSymbol_0 (by decide) ?_
  refine EV.istore_n [(2, .int 0), (0, .ref a0), (1, .ref a1)] dX6_takeSymbol_1 rfl (by decide) rfl ?_
  refine EV.iconst (0) dX6_takeSymbol_2 (by decide) ?_
  refine EV.istore_n [(3, .int 0), (2, .int 0), (0, .ref a0), (1, .ref a1)] dX6_takeSymbol_3 rfl (by decide) rfl ?_
  refine EV.sub [2, 3, 1, 0] rfl ?_
  exact eX6_takeSymbol_4  FU _ _ _ _ _ _ h
/-! WavePictures$ScanReader.takeBits(I)I -/
theorem dX6_takeBits_0 : decode cX6_takeBits 0 = .ok (.iconst 0, 1) := by decide +kernel
theorem dX6_takeBits_1 : decode cX6_takeBits 1 = .ok (.istore_n 2, 1) := by decide +kernel
theorem dX6_takeBits_2 : decode cX6_takeBits 2 = .ok (.iconst 0, 1) := by decide +kernel
theorem dX6_takeBits_3 : decode cX6_takeBits 3 = .ok (.istore_n 3, 1) := by decide +kernel
theorem dX6_takeBits_4 : decode cX6_takeBits 4 = .ok (.iload_n 3, 1) := by decide +kernel
theorem dX6_takeBits_5 : decode cX6_takeBits 5 = .ok (.iload_n 1, 1) := by decide +kernel
theorem dX6_takeBits_6 : decode cX6_takeBits 6 = .ok (.if_icmp .ge 25, 3) := by decide +kernel
theorem dX6_takeBits_9 : decode cX6_takeBits 9 = .ok (.aload_n 0, 1) := by decide +kernel
theorem dX6_takeBits_10 : decode cX6_takeBits 10 = .ok (.getfield 41, 3) := by decide +kernel
theorem dX6_takeBits_13 : decode cX6_takeBits 13 = .ok (.ifCond .ne 18, 3) := by decide +kernel
theorem dX6_takeBits_16 : decode cX6_takeBits 16 = .ok (.iconst 2, 1) := by decide +kernel
theorem dX6_takeBits_17 : decode cX6_takeBits 17 = .ok (.iload_n 2, 1) := by decide +kernel
theorem dX6_takeBits_18 : decode cX6_takeBits 18 = .ok (.imul, 1) := by decide +kernel
theorem dX6_takeBits_19 : decode cX6_takeBits 19 = .ok (.aload_n 0, 1) := by decide +kernel
theorem dX6_takeBits_20 : decode cX6_takeBits 20 = .ok (.invokevirtual 125, 3) := by decide +kernel
theorem dX6_takeBits_23 : decode cX6_takeBits 23 = .ok (.iadd, 1) := by decide +kernel
theorem dX6_takeBits_24 : decode cX6_takeBits 24 = .ok (.istore_n 2, 1) := by decide +kernel
theorem dX6_takeBits_25 : decode cX6_takeBits 25 = .ok (.iinc 3 1, 3) := by decide +kernel
theorem dX6_takeBits_28 : decode cX6_takeBits 28 = .ok (.goto (-24), 3) := by decide +kernel
theorem dX6_takeBits_31 : decode cX6_takeBits 31 = .ok (.iload_n 2, 1) := by decide +kernel
theorem dX6_takeBits_32 : decode cX6_takeBits 32 = .ok (.ireturn, 1) := by decide +kernel
theorem kcX6_takeBits_125 : px_cV mX6_takeBits 125 mX6_takeBit 0 := ⟨⟨mbX6_takeBit, by decide, by decide⟩, Or.inl (tb4 (List.mem_of_getElem? (i := 103) rfl)), vbX6_takeBit⟩
set_option maxRecDepth 100000 in
set_option maxHeartbeats 4000000 in
theorem eX6_takeBits_4 {X : px_X}  : ∀ (m : Nat) (a0 : Nat) (a1 : Int32) (a2 : Int32) (a3 : Int32) (w : px_W) (q : Int32 × px_W), fX6_takeBits_4 X  m a0 a1 a2 a3 w = some q → EV X mX6_takeBits 4 [(0, .ref a0), (1, .int a1), (2, .int a2), (3, .int a3)] [] w (some (.int q.1)) q.2 := by
  intro m
  induction m with
  | zero => intro a0 a1 a2 a3 w q h; cases h
  | succ m ih =>
    intro a0 a1 a2 a3 w q h
    rw [fX6_takeBits_4.eq_2] at h
    refine EV.iload_n 3 dX6_takeBits_4 rfl rfl ?_
    refine EV.iload_n 1 dX6_takeBits_5 rfl rfl ?_
    refine EV.icmp_ge 31 dX6_takeBits_6 (by decide) (fun c4 => ?_) (fun c4 => ?_)
    · rw [if_pos c4] at h
      refine EV.iload_n 2 dX6_takeBits_31 rfl rfl ?_
      cases h
      exact EV.reti dX6_takeBits_32 rfl
    · rw [if_neg c4] at h
      refine EV.aload_n 0 dX6_takeBits_9 rfl rfl ?_
      obtain ⟨v5, gv5, h⟩ := px_bs h
      refine ev_gI dX6_takeBits_10 flRX6_41 gv5 ?_
      refine EV.if_ne 31 dX6_takeBits_13 (by decide) (fun c6 => ?_) (fun c6 => ?_)
      · rw [if_neg c6] at h
        refine EV.iload_n 2 dX6_takeBits_31 rfl rfl ?_
        cases h
        exact EV.reti dX6_takeBits_32 rfl
      · rw [if_pos c6] at h
        refine EV.iconst (2) dX6_takeBits_16 (by decide) ?_
        refine EV.iload_n 2 dX6_takeBits_17 rfl rfl ?_
        refine EV.imul dX6_takeBits_18 ?_
        refine EV.aload_n 0 dX6_takeBits_19 rfl rfl ?_
        obtain ⟨o7, go7, h⟩ := px_bs h
        obtain ⟨q8, gq8, h⟩ := px_bs h
        refine EV.callV (As := []) (rest := [.int (2 * a2)]) dX6_takeBits_20 kcX6_takeBits_125 (gO_ok go7) rfl rfl rfl (Nat.le_of_ble_eq_true rfl) (Nat.le_of_ble_eq_true rfl) (eX6_takeBit gq8) ?_
        refine EV.iadd dX6_takeBits_23 ?_
        refine EV.istore_n [(2, .int ((2 * a2) + q8.1)), (0, .ref a0), (1, .int a1), (3, .int a3)] dX6_takeBits_24 rfl (by decide) rfl ?_
        refine EV.iinc 3 (a3 + 1) [(3, .int (a3 + 1)), (2, .int ((2 * a2) + q8.1)), (0, .ref a0), (1, .int a1)] dX6_takeBits_25 rfl rfl (by decide) rfl ?_
        refine EV.goto 4 dX6_takeBits_28 (by decide) ?_
        refine EV.sub [2, 3, 1, 0] rfl ?_
        exact ih _ _ _ _ _ _ h
set_option maxRecDepth 100000 in
set_option maxHeartbeats 4000000 in
theorem eX6_takeBits {X : px_X} {w : px_W} {a0 : Nat} {a1 : Int32} {q : Int32 × px_W} (h : fX6_takeBits X w a0 a1 = some q) : EV X mX6_takeBits 0 (lv_args 0 [.ref a0, .int a1]) [] w (some (.int q.1)) q.2 := by
  unfold fX6_takeBits at h
  show EV X mX6_takeBits 0 [(0, .ref a0), (1, .int a1)] [] w (some (.int q.1)) q.2
  refine EV.iconst (0) dX6_takeBits_0 (by decide) ?_
  refine EV.istore_n [(2, .int 0), (0, .ref a0), (1, .int a1)] dX6_takeBits_1 rfl (by decide) rfl ?_
  refine EV.iconst (0) dX6_takeBits_2 (by decide) ?_
  refine EV.istore_n [(3, .int 0), (2, .int 0), (0, .ref a0), (1, .int a1)] dX6_takeBits_3 rfl (by decide) rfl ?_
  refine EV.sub [2, 3, 1, 0] rfl ?_
  exact eX6_takeBits_4  FU _ _ _ _ _ _ h
/-! WavePictures$ScanReader.takeNumber(I)I -/
theorem dX6_takeNumber_0 : decode cX6_takeNumber 0 = .ok (.aload_n 0, 1) := by decide +kernel
theorem dX6_takeNumber_1 : decode cX6_takeNumber 1 = .ok (.iload_n 1, 1) := by decide +kernel
theorem dX6_takeNumber_2 : decode cX6_takeNumber 2 = .ok (.invokevirtual 129, 3) := by decide +kernel
theorem dX6_takeNumber_5 : decode cX6_takeNumber 5 = .ok (.istore_n 2, 1) := by decide +kernel
theorem dX6_takeNumber_6 : decode cX6_takeNumber 6 = .ok (.iload_n 1, 1) := by decide +kernel
theorem dX6_takeNumber_7 : decode cX6_takeNumber 7 = .ok (.ifCond .eq 12, 3) := by decide +kernel
theorem dX6_takeNumber_10 : decode cX6_takeNumber 10 = .ok (.iload_n 2, 1) := by decide +kernel
theorem dX6_takeNumber_11 : decode cX6_takeNumber 11 = .ok (.iload_n 1, 1) := by decide +kernel
theorem dX6_takeNumber_12 : decode cX6_takeNumber 12 = .ok (.iconst 1, 1) := by decide +kernel
theorem dX6_takeNumber_13 : decode cX6_takeNumber 13 = .ok (.isub, 1) := by decide +kernel
theorem dX6_takeNumber_14 : decode cX6_takeNumber 14 = .ok (.ishr, 1) := by decide +kernel
theorem dX6_takeNumber_15 : decode cX6_takeNumber 15 = .ok (.iconst 1, 1) := by decide +kernel
theorem dX6_takeNumber_16 : decode cX6_takeNumber 16 = .ok (.if_icmp .ne 7, 3) := by decide +kernel
theorem dX6_takeNumber_19 : decode cX6_takeNumber 19 = .ok (.iload_n 2, 1) := by decide +kernel
theorem dX6_takeNumber_20 : decode cX6_takeNumber 20 = .ok (.goto 10, 3) := by decide +kernel
theorem dX6_takeNumber_23 : decode cX6_takeNumber 23 = .ok (.iload_n 2, 1) := by decide +kernel
theorem dX6_takeNumber_24 : decode cX6_takeNumber 24 = .ok (.iconst 1, 1) := by decide +kernel
theorem dX6_takeNumber_25 : decode cX6_takeNumber 25 = .ok (.iload_n 1, 1) := by decide +kernel
theorem dX6_takeNumber_26 : decode cX6_takeNumber 26 = .ok (.ishl, 1) := by decide +kernel
theorem dX6_takeNumber_27 : decode cX6_takeNumber 27 = .ok (.isub, 1) := by decide +kernel
theorem dX6_takeNumber_28 : decode cX6_takeNumber 28 = .ok (.iconst 1, 1) := by decide +kernel
theorem dX6_takeNumber_29 : decode cX6_takeNumber 29 = .ok (.iadd, 1) := by decide +kernel
theorem dX6_takeNumber_30 : decode cX6_takeNumber 30 = .ok (.ireturn, 1) := by decide +kernel
theorem mbX6_takeBits : px_mB mX6_takeBits 1 := ⟨tb4 (List.mem_of_getElem? (i := 130) rfl), by decide +kernel, tb1 (List.mem_of_getElem? (i := 9) rfl), by decide +kernel, by decide +kernel⟩
theorem vbX6_takeBits : px_vB mX6_takeBits := ⟨tb4 (List.mem_of_getElem? (i := 129) rfl), List.mem_append_left _ (List.mem_of_getElem? (i := 39) (by decide +kernel))⟩
theorem kcX6_takeNumber_129 : px_cV mX6_takeNumber 129 mX6_takeBits 1 := ⟨⟨mbX6_takeBits, by decide, by decide⟩, Or.inl (tb4 (List.mem_of_getElem? (i := 127) rfl)), vbX6_takeBits⟩
set_option maxRecDepth 100000 in
set_option maxHeartbeats 4000000 in
theorem eX6_takeNumber {X : px_X} {w : px_W} {a0 : Nat} {a1 : Int32} {q : Int32 × px_W} (h : fX6_takeNumber X w a0 a1 = some q) : EV X mX6_takeNumber 0 (lv_args 0 [.ref a0, .int a1]) [] w (some (.int q.1)) q.2 := by
  unfold fX6_takeNumber at h
  show EV X mX6_takeNumber 0 [(0, .ref a0), (1, .int a1)] [] w (some (.int q.1)) q.2
  refine EV.aload_n 0 dX6_takeNumber_0 rfl rfl ?_
  refine EV.iload_n 1 dX6_takeNumber_1 rfl rfl ?_
  obtain ⟨o3, go3, h⟩ := px_bs h
  obtain ⟨q4, gq4, h⟩ := px_bs h
  refine EV.callV (As := [.int a1]) (rest := []) dX6_takeNumber_2 kcX6_takeNumber_129 (gO_ok go3) rfl rfl rfl (Nat.le_of_ble_eq_true rfl) (Nat.le_of_ble_eq_true rfl) (eX6_takeBits gq4) ?_
  refine EV.istore_n [(2, .int q4.1), (0, .ref a0), (1, .int a1)] dX6_takeNumber_5 rfl (by decide) rfl ?_
  refine EV.iload_n 2 dX6_takeNumber_6 rfl rfl ?_
  refine EV.if_eq 19 dX6_takeNumber_7 (by decide) (fun c5 => ?_) (fun c5 => ?_)
  · rw [if_pos c5] at h
    refine EV.iload_n 0 dX6_takeNumber_19 rfl rfl ?_
    refine EV.goto 30 dX6_takeNumber_20 (by decide) ?_
    cases h
    exact EV.reti dX6_takeNumber_30 rfl
  · rw [if_neg c5] at h
    refine EV.iload_n 0 dX6_takeNumber_10 rfl rfl ?_
    refine EV.iload_n 2 dX6_takeNumber_11 rfl rfl ?_
    refine EV.iconst (1) dX6_takeNumber_12 (by decide) ?_
    refine EV.isub dX6_takeNumber_13 ?_
    refine EV.ishr dX6_takeNumber_14 ?_
    refine EV.iconst (1) dX6_takeNumber_15 (by decide) ?_
    refine EV.icmp_ne 23 dX6_takeNumber_16 (by decide) (fun c6 => ?_) (fun c6 => ?_)
    · rw [if_neg c6] at h
      refine EV.iload_n 0 dX6_takeNumber_23 rfl rfl ?_
      refine EV.iconst (1) dX6_takeNumber_24 (by decide) ?_
      refine EV.iload_n 2 dX6_takeNumber_25 rfl rfl ?_
      refine EV.ishl dX6_takeNumber_26 ?_
      refine EV.isub dX6_takeNumber_27 ?_
      refine EV.iconst (1) dX6_takeNumber_28 (by decide) ?_
      refine EV.iadd dX6_takeNumber_29 ?_
      cases h
      exact EV.reti dX6_takeNumber_30 rfl
    · rw [if_pos c6] at h
      refine EV.iload_n 0 dX6_takeNumber_19 rfl rfl ?_
      refine EV.goto 30 dX6_takeNumber_20 (by decide) ?_
      cases h
      exact EV.reti dX6_takeNumber_30 rfl
/-! WavePictures$ScanReader.setCoefficientOf(III)V -/
theorem dX6_setCoefficientOf_0 : decode cX6_setCoefficientOf 0 = .ok (.aload_n 0, 1) := by decide +kernel
theorem dX6_setCoefficientOf_1 : decode cX6_setCoefficientOf 1 = .ok (.getfield 41, 3) := by decide +kernel
theorem dX6_setCoefficientOf_4 : decode cX6_setCoefficientOf 4 = .ok (.ifCond .eq 4, 3) := by decide +kernel
theorem dX6_setCoefficientOf_7 : decode cX6_setCoefficientOf 7 = .ok (.return_, 1) := by decide +kernel
theorem dX6_setCoefficientOf_8 : decode cX6_setCoefficientOf 8 = .ok (.iload_n 3, 1) := by decide +kernel
theorem dX6_setCoefficientOf_9 : decode cX6_setCoefficientOf 9 = .ok (.sipush 1023, 3) := by decide +kernel
theorem dX6_setCoefficientOf_12 : decode cX6_setCoefficientOf 12 = .ok (.if_icmp .gt 20, 3) := by decide +kernel
theorem dX6_setCoefficientOf_15 : decode cX6_setCoefficientOf 15 = .ok (.iload_n 3, 1) := by decide +kernel
theorem dX6_setCoefficientOf_16 : decode cX6_setCoefficientOf 16 = .ok (.iload_n 2, 1) := by decide +kernel
theorem dX6_setCoefficientOf_17 : decode cX6_setCoefficientOf 17 = .ok (.ifCond .ne 9, 3) := by decide +kernel
theorem dX6_setCoefficientOf_20 : decode cX6_setCoefficientOf 20 = .ok (.sipush (-1024), 3) := by decide +kernel
theorem dX6_setCoefficientOf_23 : decode cX6_setCoefficientOf 23 = .ok (.goto 6, 3) := by decide +kernel
theorem dX6_setCoefficientOf_26 : decode cX6_setCoefficientOf 26 = .ok (.sipush (-1023), 3) := by decide +kernel
theorem dX6_setCoefficientOf_29 : decode cX6_setCoefficientOf 29 = .ok (.if_icmp .ge 9, 3) := by decide +kernel
theorem dX6_setCoefficientOf_32 : decode cX6_setCoefficientOf 32 = .ok (.aload_n 0, 1) := by decide +kernel
theorem dX6_setCoefficientOf_33 : decode cX6_setCoefficientOf 33 = .ok (.iconst 4, 1) := by decide +kernel
theorem dX6_setCoefficientOf_34 : decode cX6_setCoefficientOf 34 = .ok (.putfield 41, 3) := by decide +kernel
theorem dX6_setCoefficientOf_37 : decode cX6_setCoefficientOf 37 = .ok (.return_, 1) := by decide +kernel
theorem dX6_setCoefficientOf_38 : decode cX6_setCoefficientOf 38 = .ok (.aload_n 0, 1) := by decide +kernel
theorem dX6_setCoefficientOf_39 : decode cX6_setCoefficientOf 39 = .ok (.getfield 26, 3) := by decide +kernel
theorem dX6_setCoefficientOf_42 : decode cX6_setCoefficientOf 42 = .ok (.getfield 142, 3) := by decide +kernel
theorem dX6_setCoefficientOf_45 : decode cX6_setCoefficientOf 45 = .ok (.iload_n 1, 1) := by decide +kernel
theorem dX6_setCoefficientOf_46 : decode cX6_setCoefficientOf 46 = .ok (.iload_n 2, 1) := by decide +kernel
theorem dX6_setCoefficientOf_47 : decode cX6_setCoefficientOf 47 = .ok (.iadd, 1) := by decide +kernel
theorem dX6_setCoefficientOf_48 : decode cX6_setCoefficientOf 48 = .ok (.iload_n 3, 1) := by decide +kernel
theorem dX6_setCoefficientOf_49 : decode cX6_setCoefficientOf 49 = .ok (.iastore, 1) := by decide +kernel
theorem dX6_setCoefficientOf_50 : decode cX6_setCoefficientOf 50 = .ok (.return_, 1) := by decide +kernel
theorem flRX6_142 : px_f RX6 142 2 11 := ⟨_, rfl, by decide, Or.inl (tb1 (List.mem_of_getElem? (i := 95) rfl))⟩
set_option maxRecDepth 100000 in
set_option maxHeartbeats 4000000 in
theorem eX6_setCoefficientOf_32 {X : px_X}  : ∀ (a0 : Nat) (w : px_W) (q : px_W), fX6_setCoefficientOf_32 X  a0 w = some q → EV X mX6_setCoefficientOf 32 [(0, .ref a0)] [] w none q := by
  intro a0 w q h
  unfold fX6_setCoefficientOf_32 at h
  refine EV.aload_n 0 dX6_setCoefficientOf_32 rfl rfl ?_
  refine EV.iconst (4) dX6_setCoefficientOf_33 (by decide) ?_
  obtain ⟨w6, gw6, h⟩ := px_bs h
  refine ev_pV dX6_setCoefficientOf_34 flRX6_41 rfl rfl rfl rfl gw6 ?_
  cases h
  exact EV.ret0 dX6_setCoefficientOf_37 trivial
set_option maxRecDepth 100000 in
set_option maxHeartbeats 4000000 in
theorem eX6_setCoefficientOf_29 {X : px_X}  : ∀ (a0 : Nat) (a1 : Int32) (a2 : Int32) (a3 : Int32) (s0 : Int32) (s1 : Int32) (w : px_W) (q : px_W), fX6_setCoefficientOf_29 X  a0 a1 a2 a3 s0 s1 w = some q → EV X mX6_setCoefficientOf 29 [(0, .ref a0), (1, .int a1), (2, .int a2), (3, .int a3)] [.int s0, .int s1] w none q := by
  intro a0 a1 a2 a3 s0 s1 w q h
  unfold fX6_setCoefficientOf_29 at h
  refine EV.icmp_ge 38 dX6_setCoefficientOf_29 (by decide) (fun c7 => ?_) (fun c7 => ?_)
  · rw [if_pos c7] at h
    refine EV.aload_n 0 dX6_setCoefficientOf_38 rfl rfl ?_
    obtain ⟨v8, gv8, h⟩ := px_bs h
    refine ev_gR dX6_setCoefficientOf_39 flRX6_26 gv8 ?_
    obtain ⟨v9, gv9, h⟩ := px_bs h
    refine ev_gR dX6_setCoefficientOf_42 flRX6_142 gv9 ?_
    refine EV.iload_n 1 dX6_setCoefficientOf_45 rfl rfl ?_
    refine EV.iload_n 2 dX6_setCoefficientOf_46 rfl rfl ?_
    refine EV.iadd dX6_setCoefficientOf_47 ?_
    refine EV.iload_n 3 dX6_setCoefficientOf_48 rfl rfl ?_
    obtain ⟨w10, gw10, h⟩ := px_bs h
    refine ev_sI dX6_setCoefficientOf_49 gw10 ?_
    cases h
    exact EV.ret0 dX6_setCoefficientOf_50 trivial
  · rw [if_neg c7] at h
    refine EV.sub [0] rfl ?_
    exact eX6_setCoefficientOf_32  _ _ _ h
set_option maxRecDepth 100000 in
set_option maxHeartbeats 4000000 in
theorem eX6_setCoefficientOf {X : px_X} {w : px_W} {a0 : Nat} {a1 : Int32} {a2 : Int32} {a3 : Int32} {q : px_W} (h : fX6_setCoefficientOf X w a0 a1 a2 a3 = some q) : EV X mX6_setCoefficientOf 0 (lv_args 0 [.ref a0, .int a1, .int a2, .int a3]) [] w none q := by
  unfold fX6_setCoefficientOf at h
  show EV X mX6_setCoefficientOf 0 [(0, .ref a0), (1, .int a1), (2, .int a2), (3, .int a3)] [] w none q
  refine EV.aload_n 0 dX6_setCoefficientOf_0 rfl rfl ?_
  obtain ⟨v11, gv11, h⟩ := px_bs h
  refine ev_gI dX6_setCoefficientOf_1 flRX6_41 gv11 ?_
  refine EV.if_eq 8 dX6_setCoefficientOf_4 (by decide) (fun c12 => ?_) (fun c12 => ?_)
  · rw [if_pos c12] at h
    refine EV.iload_n 3 dX6_setCoefficientOf_8 rfl rfl ?_
    refine EV.sipush (1023) dX6_setCoefficientOf_9 (by decide) ?_
    refine EV.icmp_gt 32 dX6_setCoefficientOf_12 (by decide) (fun c13 => ?_) (fun c13 => ?_)
    · rw [if_pos c13] at h
      refine EV.sub [0] rfl ?_
      exact eX6_setCoefficientOf_32  _ _ _ h
    · rw [if_neg c13] at h
      refine EV.iload_n 3 dX6_setCoefficientOf_15 rfl rfl ?_
      refine EV.iload_n 2 dX6_setCoefficientOf_16 rfl rfl ?_
      refine EV.if_ne 26 dX6_setCoefficientOf_17 (by decide) (fun c14 => ?_) (fun c14 => ?_)
      · rw [if_neg c14] at h
        refine EV.sipush ((-1023)) dX6_setCoefficientOf_26 (by decide) ?_
        refine EV.sub [0, 1, 2, 3] rfl ?_
        exact eX6_setCoefficientOf_29  _ _ _ _ _ _ _ _ h
      · rw [if_pos c14] at h
        refine EV.sipush ((-1024)) dX6_setCoefficientOf_20 (by decide) ?_
        refine EV.goto 29 dX6_setCoefficientOf_23 (by decide) ?_
        refine EV.sub [0, 1, 2, 3] rfl ?_
        exact eX6_setCoefficientOf_29  _ _ _ _ _ _ _ _ h
  · rw [if_neg c12] at h
    cases h
    exact EV.ret0 dX6_setCoefficientOf_7 trivial
/-! WavePictures$ScanReader.readDirect(IILWavePictures$Words;)V -/
theorem dX6_readDirect_0 : decode cX6_readDirect 0 = .ok (.aload_n 0, 1) := by decide +kernel
theorem dX6_readDirect_1 : decode cX6_readDirect 1 = .ok (.getfield 12, 3) := by decide +kernel
theorem dX6_readDirect_4 : decode cX6_readDirect 4 = .ok (.invokevirtual 80, 3) := by decide +kernel
theorem dX6_readDirect_7 : decode cX6_readDirect 7 = .ok (.ifCond .eq 33, 3) := by decide +kernel
theorem dX6_readDirect_10 : decode cX6_readDirect 10 = .ok (.aload_n 0, 1) := by decide +kernel
theorem dX6_readDirect_11 : decode cX6_readDirect 11 = .ok (.invokevirtual 125, 3) := by decide +kernel
theorem dX6_readDirect_14 : decode cX6_readDirect 14 = .ok (.iconst 1, 1) := by decide +kernel
theorem dX6_readDirect_15 : decode cX6_readDirect 15 = .ok (.if_icmp .ne 24, 3) := by decide +kernel
theorem dX6_readDirect_18 : decode cX6_readDirect 18 = .ok (.aload_n 0, 1) := by decide +kernel
theorem dX6_readDirect_19 : decode cX6_readDirect 19 = .ok (.getfield 26, 3) := by decide +kernel
theorem dX6_readDirect_22 : decode cX6_readDirect 22 = .ok (.getfield 142, 3) := by decide +kernel
theorem dX6_readDirect_25 : decode cX6_readDirect 25 = .ok (.iload_n 1, 1) := by decide +kernel
theorem dX6_readDirect_26 : decode cX6_readDirect 26 = .ok (.dup2, 1) := by decide +kernel
theorem dX6_readDirect_27 : decode cX6_readDirect 27 = .ok (.iaload, 1) := by decide +kernel
theorem dX6_readDirect_28 : decode cX6_readDirect 28 = .ok (.iconst 1, 1) := by decide +kernel
theorem dX6_readDirect_29 : decode cX6_readDirect 29 = .ok (.aload_n 0, 1) := by decide +kernel
theorem dX6_readDirect_30 : decode cX6_readDirect 30 = .ok (.getfield 12, 3) := by decide +kernel
theorem dX6_readDirect_33 : decode cX6_readDirect 33 = .ok (.getfield 147, 3) := by decide +kernel
theorem dX6_readDirect_36 : decode cX6_readDirect 36 = .ok (.ishl, 1) := by decide +kernel
theorem dX6_readDirect_37 : decode cX6_readDirect 37 = .ok (.ior, 1) := by decide +kernel
theorem dX6_readDirect_38 : decode cX6_readDirect 38 = .ok (.iastore, 1) := by decide +kernel
theorem dX6_readDirect_39 : decode cX6_readDirect 39 = .ok (.return_, 1) := by decide +kernel
theorem dX6_readDirect_40 : decode cX6_readDirect 40 = .ok (.aload_n 0, 1) := by decide +kernel
theorem dX6_readDirect_41 : decode cX6_readDirect 41 = .ok (.aload_n 3, 1) := by decide +kernel
theorem dX6_readDirect_42 : decode cX6_readDirect 42 = .ok (.invokevirtual 150, 3) := by decide +kernel
theorem dX6_readDirect_45 : decode cX6_readDirect 45 = .ok (.istore 4, 2) := by decide +kernel
theorem dX6_readDirect_47 : decode cX6_readDirect 47 = .ok (.aload_n 0, 1) := by decide +kernel
theorem dX6_readDirect_48 : decode cX6_readDirect 48 = .ok (.getfield 41, 3) := by decide +kernel
theorem dX6_readDirect_51 : decode cX6_readDirect 51 = .ok (.ifCond .ne 15, 3) := by decide +kernel
theorem dX6_readDirect_54 : decode cX6_readDirect 54 = .ok (.iload 4, 2) := by decide +kernel
theorem dX6_readDirect_56 : decode cX6_readDirect 56 = .ok (.bipush 11, 2) := by decide +kernel
theorem dX6_readDirect_58 : decode cX6_readDirect 58 = .ok (.if_icmp .le 8, 3) := by decide +kernel
theorem dX6_readDirect_61 : decode cX6_readDirect 61 = .ok (.aload_n 0, 1) := by decide +kernel
theorem dX6_readDirect_62 : decode cX6_readDirect 62 = .ok (.iconst 3, 1) := by decide +kernel
theorem dX6_readDirect_63 : decode cX6_readDirect 63 = .ok (.putfield 41, 3) := by decide +kernel
theorem dX6_readDirect_66 : decode cX6_readDirect 66 = .ok (.aload_n 0, 1) := by decide +kernel
theorem dX6_readDirect_67 : decode cX6_readDirect 67 = .ok (.getfield 41, 3) := by decide +kernel
theorem dX6_readDirect_70 : decode cX6_readDirect 70 = .ok (.ifCond .eq 4, 3) := by decide +kernel
theorem dX6_readDirect_73 : decode cX6_readDirect 73 = .ok (.return_, 1) := by decide +kernel
theorem dX6_readDirect_74 : decode cX6_readDirect 74 = .ok (.aload_n 0, 1) := by decide +kernel
theorem dX6_readDirect_75 : decode cX6_readDirect 75 = .ok (.getfield 18, 3) := by decide +kernel
theorem dX6_readDirect_78 : decode cX6_readDirect 78 = .ok (.iload_n 2, 1) := by decide +kernel
theorem dX6_readDirect_79 : decode cX6_readDirect 79 = .ok (.iaload, 1) := by decide +kernel
theorem dX6_readDirect_80 : decode cX6_readDirect 80 = .ok (.aload_n 0, 1) := by decide +kernel
theorem dX6_readDirect_81 : decode cX6_readDirect 81 = .ok (.iload 4, 2) := by decide +kernel
theorem dX6_readDirect_83 : decode cX6_readDirect 83 = .ok (.invokevirtual 154, 3) := by decide +kernel
theorem dX6_readDirect_86 : decode cX6_readDirect 86 = .ok (.iadd, 1) := by decide +kernel
theorem dX6_readDirect_87 : decode cX6_readDirect 87 = .ok (.istore 5, 2) := by decide +kernel
theorem dX6_readDirect_89 : decode cX6_readDirect 89 = .ok (.aload_n 0, 1) := by decide +kernel
theorem dX6_readDirect_90 : decode cX6_readDirect 90 = .ok (.getfield 18, 3) := by decide +kernel
theorem dX6_readDirect_93 : decode cX6_readDirect 93 = .ok (.iload_n 2, 1) := by decide +kernel
theorem dX6_readDirect_94 : decode cX6_readDirect 94 = .ok (.iload 5, 2) := by decide +kernel
theorem dX6_readDirect_96 : decode cX6_readDirect 96 = .ok (.iastore, 1) := by decide +kernel
theorem dX6_readDirect_97 : decode cX6_readDirect 97 = .ok (.aload_n 0, 1) := by decide +kernel
theorem dX6_readDirect_98 : decode cX6_readDirect 98 = .ok (.iload_n 1, 1) := by decide +kernel
theorem dX6_readDirect_99 : decode cX6_readDirect 99 = .ok (.iconst 0, 1) := by decide +kernel
theorem dX6_readDirect_100 : decode cX6_readDirect 100 = .ok (.iload 5, 2) := by decide +kernel
theorem dX6_readDirect_102 : decode cX6_readDirect 102 = .ok (.iconst 1, 1) := by decide +kernel
theorem dX6_readDirect_103 : decode cX6_readDirect 103 = .ok (.aload_n 0, 1) := by decide +kernel
theorem dX6_readDirect_104 : decode cX6_readDirect 104 = .ok (.getfield 12, 3) := by decide +kernel
theorem dX6_readDirect_107 : decode cX6_readDirect 107 = .ok (.getfield 147, 3) := by decide +kernel
theorem dX6_readDirect_110 : decode cX6_readDirect 110 = .ok (.ishl, 1) := by decide +kernel
theorem dX6_readDirect_111 : decode cX6_readDirect 111 = .ok (.imul, 1) := by decide +kernel
theorem dX6_readDirect_112 : decode cX6_readDirect 112 = .ok (.invokevirtual 157, 3) := by decide +kernel
theorem dX6_readDirect_115 : decode cX6_readDirect 115 = .ok (.return_, 1) := by decide +kernel
theorem flRX6_147 : px_f RX6 147 5 4 := ⟨_, rfl, by decide, Or.inl (tb1 (List.mem_of_getElem? (i := 203) rfl))⟩
theorem kcX6_readDirect_80 : px_cV mX6_readDirect 80 mX5_isRefinement 0 := ⟨⟨mbX5_isRefinement, by decide, by decide⟩, Or.inl (tb4 (List.mem_of_getElem? (i := 99) rfl)), vbX5_isRefinement⟩
theorem kcX6_readDirect_125 : px_cV mX6_readDirect 125 mX6_takeBit 0 := ⟨⟨mbX6_takeBit, by decide, by decide⟩, Or.inl (tb4 (List.mem_of_getElem? (i := 103) rfl)), vbX6_takeBit⟩
theorem mbX6_takeSymbol : px_mB mX6_takeSymbol 1 := ⟨tb4 (List.mem_of_getElem? (i := 114) rfl), by decide +kernel, tb1 (List.mem_of_getElem? (i := 9) rfl), by decide +kernel, by decide +kernel⟩
theorem vbX6_takeSymbol : px_vB mX6_takeSymbol := ⟨tb4 (List.mem_of_getElem? (i := 113) rfl), List.mem_append_left _ (List.mem_of_getElem? (i := 37) (by decide +kernel))⟩
theorem kcX6_readDirect_150 : px_cV mX6_readDirect 150 mX6_takeSymbol 1 := ⟨⟨mbX6_takeSymbol, by decide, by decide⟩, Or.inl (tb4 (List.mem_of_getElem? (i := 111) rfl)), vbX6_takeSymbol⟩
theorem mbX6_takeNumber : px_mB mX6_takeNumber 1 := ⟨tb4 (List.mem_of_getElem? (i := 126) rfl), by decide +kernel, tb1 (List.mem_of_getElem? (i := 9) rfl), by decide +kernel, by decide +kernel⟩
theorem vbX6_takeNumber : px_vB mX6_takeNumber := ⟨tb4 (List.mem_of_getElem? (i := 125) rfl), List.mem_append_left _ (List.mem_of_getElem? (i := 38) (by decide +kernel))⟩
theorem kcX6_readDirect_154 : px_cV mX6_readDirect 154 mX6_takeNumber 1 := ⟨⟨mbX6_takeNumber, by decide, by decide⟩, Or.inl (tb4 (List.mem_of_getElem? (i := 123) rfl)), vbX6_takeNumber⟩
theorem mbX6_setCoefficientOf : px_mB mX6_setCoefficientOf 3 := ⟨tb4 (List.mem_of_getElem? (i := 134) rfl), by decide +kernel, tb1 (List.mem_of_getElem? (i := 9) rfl), by decide +kernel, by decide +kernel⟩
theorem vbX6_setCoefficientOf : px_vB mX6_setCoefficientOf := ⟨tb4 (List.mem_of_getElem? (i := 133) rfl), List.mem_append_left _ (List.mem_of_getElem? (i := 40) (by decide +kernel))⟩
theorem kcX6_readDirect_157 : px_cV mX6_readDirect 157 mX6_setCoefficientOf 3 := ⟨⟨mbX6_setCoefficientOf, by decide, by decide⟩, Or.inl (tb4 (List.mem_of_getElem? (i := 131) rfl)), vbX6_setCoefficientOf⟩
set_option maxRecDepth 100000 in
set_option maxHeartbeats 4000000 in
theorem eX6_readDirect_66 {X : px_X}  : ∀ (a0 : Nat) (a1 : Int32) (a2 : Int32) (a4 : Int32) (w : px_W) (q : px_W), fX6_readDirect_66 X  a0 a1 a2 a4 w = some q → EV X mX6_readDirect 66 [(0, .ref a0), (1, .int a1), (2, .int a2), (4, .int a4)] [] w none q := by
  intro a0 a1 a2 a4 w q h
  unfold fX6_readDirect_66 at h
  refine EV.aload_n 0 dX6_readDirect_66 rfl rfl ?_
  obtain ⟨v27, gv27, h⟩ := px_bs h
  refine ev_gI dX6_readDirect_67 flRX6_41 gv27 ?_
  refine EV.if_eq 74 dX6_readDirect_70 (by decide) (fun c28 => ?_) (fun c28 => ?_)
  · rw [if_pos c28] at h
    refine EV.aload_n 0 dX6_readDirect_74 rfl rfl ?_
    obtain ⟨v29, gv29, h⟩ := px_bs h
    refine ev_gR dX6_readDirect_75 flRX6_18 gv29 ?_
    refine EV.iload_n 2 dX6_readDirect_78 rfl rfl ?_
    obtain ⟨v30, gv30, h⟩ := px_bs h
    refine ev_aI dX6_readDirect_79 gv30 ?_
    refine EV.aload_n 0 dX6_readDirect_80 rfl rfl ?_
    refine EV.iload 3 dX6_readDirect_81 rfl ?_
    obtain ⟨o31, go31, h⟩ := px_bs h
    obtain ⟨q32, gq32, h⟩ := px_bs h
    refine EV.callV (As := [.int a4]) (rest := [.int v30]) dX6_readDirect_83 kcX6_readDirect_154 (gO_ok go31) rfl rfl rfl (Nat.le_of_ble_eq_true rfl) (Nat.le_of_ble_eq_true rfl) (eX6_takeNumber gq32) ?_
    refine EV.iadd dX6_readDirect_86 ?_
    refine EV.istore [(5, .int (v30 + q32.1)), (0, .ref a0), (1, .int a1), (2, .int a2), (4, .int a4)] dX6_readDirect_87 (by decide) rfl ?_
    refine EV.aload_n 1 dX6_readDirect_89 rfl rfl ?_
    obtain ⟨v33, gv33, h⟩ := px_bs h
    refine ev_gR dX6_readDirect_90 flRX6_18 gv33 ?_
    refine EV.iload_n 3 dX6_readDirect_93 rfl rfl ?_
    refine EV.iload 0 dX6_readDirect_94 rfl ?_
    obtain ⟨w34, gw34, h⟩ := px_bs h
    refine ev_sI dX6_readDirect_96 gw34 ?_
    refine EV.aload_n 1 dX6_readDirect_97 rfl rfl ?_
    refine EV.iload_n 2 dX6_readDirect_98 rfl rfl ?_
    refine EV.iconst (0) dX6_readDirect_99 (by decide) ?_
    refine EV.iload 0 dX6_readDirect_100 rfl ?_
    refine EV.iconst (1) dX6_readDirect_102 (by decide) ?_
    refine EV.aload_n 1 dX6_readDirect_103 rfl rfl ?_
    obtain ⟨v35, gv35, h⟩ := px_bs h
    refine ev_gR dX6_readDirect_104 flRX6_12 gv35 ?_
    obtain ⟨v36, gv36, h⟩ := px_bs h
    refine ev_gI dX6_readDirect_107 flRX6_147 gv36 ?_
    refine EV.ishl dX6_readDirect_110 ?_
    refine EV.imul dX6_readDirect_111 ?_
    obtain ⟨o37, go37, h⟩ := px_bs h
    obtain ⟨q38, gq38, h⟩ := px_bs h
    refine EV.callV (As := [.int a1, .int 0, .int ((v30 + q32.1) * ((1 : Int32) <<< (v36 &&& 31)))]) (rest := []) dX6_readDirect_112 kcX6_readDirect_157 (gO_ok go37) rfl rfl rfl (Nat.le_of_ble_eq_true rfl) (Nat.le_of_ble_eq_true rfl) (eX6_setCoefficientOf gq38) ?_
    cases h
    exact EV.ret0 dX6_readDirect_115 trivial
  · rw [if_neg c28] at h
    cases h
    exact EV.ret0 dX6_readDirect_73 trivial
set_option maxRecDepth 100000 in
set_option maxHeartbeats 4000000 in
theorem eX6_readDirect {X : px_X} {w : px_W} {a0 : Nat} {a1 : Int32} {a2 : Int32} {a3 : Nat} {q : px_W} (h : fX6_readDirect X w a0 a1 a2 a3 = some q) : EV X mX6_readDirect 0 (lv_args 0 [.ref a0, .int a1, .int a2, .ref a3]) [] w none q := by
  unfold fX6_readDirect at h
  show EV X mX6_readDirect 0 [(0, .ref a0), (1, .int a1), (2, .int a2), (3, .ref a3)] [] w none q
  refine EV.aload_n 0 dX6_readDirect_0 rfl rfl ?_
  obtain ⟨v39, gv39, h⟩ := px_bs h
  refine ev_gR dX6_readDirect_1 flRX6_12 gv39 ?_
  obtain ⟨o40, go40, h⟩ := px_bs h
  obtain ⟨q41, gq41, h⟩ := px_bs h
  refine EV.callV (As := []) (rest := []) dX6_readDirect_4 kcX6_readDirect_80 (gO_ok go40) rfl rfl rfl (Nat.le_of_ble_eq_true rfl) (Nat.le_of_ble_eq_true rfl) (eX5_isRefinement gq41) ?_
  refine EV.if_eq 40 dX6_readDirect_7 (by decide) (fun c42 => ?_) (fun c42 => ?_)
  · rw [if_pos c42] at h
    refine EV.aload_n 0 dX6_readDirect_40 rfl rfl ?_
    refine EV.aload_n 3 dX6_readDirect_41 rfl rfl ?_
    obtain ⟨o43, go43, h⟩ := px_bs h
    obtain ⟨q44, gq44, h⟩ := px_bs h
    refine EV.callV (As := [.ref a3]) (rest := []) dX6_readDirect_42 kcX6_readDirect_150 (gO_ok go43) rfl rfl rfl (Nat.le_of_ble_eq_true rfl) (Nat.le_of_ble_eq_true rfl) (eX6_takeSymbol gq44) ?_
    refine EV.istore [(4, .int q44.1), (0, .ref a0), (1, .int a1), (2, .int a2), (3, .ref a3)] dX6_readDirect_45 (by decide) rfl ?_
    refine EV.aload_n 1 dX6_readDirect_47 rfl rfl ?_
    obtain ⟨v45, gv45, h⟩ := px_bs h
    refine ev_gI dX6_readDirect_48 flRX6_41 gv45 ?_
    refine EV.if_ne 66 dX6_readDirect_51 (by decide) (fun c46 => ?_) (fun c46 => ?_)
    · rw [if_neg c46] at h
      refine EV.sub [1, 2, 3, 0] rfl ?_
      exact eX6_readDirect_66  _ _ _ _ _ _ h
    · rw [if_pos c46] at h
      refine EV.iload 0 dX6_readDirect_54 rfl ?_
      refine EV.bipush (11) dX6_readDirect_56 (by decide) ?_
      refine EV.icmp_le 66 dX6_readDirect_58 (by decide) (fun c47 => ?_) (fun c47 => ?_)
      · rw [if_pos c47] at h
        refine EV.sub [1, 2, 3, 0] rfl ?_
        exact eX6_readDirect_66  _ _ _ _ _ _ h
      · rw [if_neg c47] at h
        refine EV.aload_n 1 dX6_readDirect_61 rfl rfl ?_
        refine EV.iconst (3) dX6_readDirect_62 (by decide) ?_
        obtain ⟨w48, gw48, h⟩ := px_bs h
        refine ev_pV dX6_readDirect_63 flRX6_41 rfl rfl rfl rfl gw48 ?_
        refine EV.sub [1, 2, 3, 0] rfl ?_
        exact eX6_readDirect_66  _ _ _ _ _ _ h
  · rw [if_neg c42] at h
    refine EV.aload_n 0 dX6_readDirect_10 rfl rfl ?_
    obtain ⟨o49, go49, h⟩ := px_bs h
    obtain ⟨q50, gq50, h⟩ := px_bs h
    refine EV.callV (As := []) (rest := []) dX6_readDirect_11 kcX6_readDirect_125 (gO_ok go49) rfl rfl rfl (Nat.le_of_ble_eq_true rfl) (Nat.le_of_ble_eq_true rfl) (eX6_takeBit gq50) ?_
    refine EV.iconst (1) dX6_readDirect_14 (by decide) ?_
    refine EV.icmp_ne 39 dX6_readDirect_15 (by decide) (fun c51 => ?_) (fun c51 => ?_)
    · rw [if_neg c51] at h
      cases h
      exact EV.ret0 dX6_readDirect_39 trivial
    · rw [if_pos c51] at h
      refine EV.aload_n 0 dX6_readDirect_18 rfl rfl ?_
      obtain ⟨v52, gv52, h⟩ := px_bs h
      refine ev_gR dX6_readDirect_19 flRX6_26 gv52 ?_
      obtain ⟨v53, gv53, h⟩ := px_bs h
      refine ev_gR dX6_readDirect_22 flRX6_142 gv53 ?_
      refine EV.iload_n 1 dX6_readDirect_25 rfl rfl ?_
      refine EV.dup2 dX6_readDirect_26 rfl rfl ?_
      obtain ⟨v54, gv54, h⟩ := px_bs h
      refine ev_aI dX6_readDirect_27 gv54 ?_
      refine EV.iconst (1) dX6_readDirect_28 (by decide) ?_
      refine EV.aload_n 0 dX6_readDirect_29 rfl rfl ?_
      obtain ⟨v55, gv55, h⟩ := px_bs h
      refine ev_gR dX6_readDirect_30 flRX6_12 gv55 ?_
      obtain ⟨v56, gv56, h⟩ := px_bs h
      refine ev_gI dX6_readDirect_33 flRX6_147 gv56 ?_
      refine EV.ishl dX6_readDirect_36 ?_
      refine EV.ior dX6_readDirect_37 ?_
      obtain ⟨w57, gw57, h⟩ := px_bs h
      refine ev_sI dX6_readDirect_38 gw57 ?_
      cases h
      exact EV.ret0 dX6_readDirect_39 trivial
/-! WavePictures$ScanReader.startRun(I)V -/
theorem dX6_startRun_0 : decode cX6_startRun 0 = .ok (.aload_n 0, 1) := by decide +kernel
theorem dX6_startRun_1 : decode cX6_startRun 1 = .ok (.iconst 1, 1) := by decide +kernel
theorem dX6_startRun_2 : decode cX6_startRun 2 = .ok (.iload_n 1, 1) := by decide +kernel
theorem dX6_startRun_3 : decode cX6_startRun 3 = .ok (.ishl, 1) := by decide +kernel
theorem dX6_startRun_4 : decode cX6_startRun 4 = .ok (.aload_n 0, 1) := by decide +kernel
theorem dX6_startRun_5 : decode cX6_startRun 5 = .ok (.iload_n 1, 1) := by decide +kernel
theorem dX6_startRun_6 : decode cX6_startRun 6 = .ok (.invokevirtual 129, 3) := by decide +kernel
theorem dX6_startRun_9 : decode cX6_startRun 9 = .ok (.iadd, 1) := by decide +kernel
theorem dX6_startRun_10 : decode cX6_startRun 10 = .ok (.putfield 100, 3) := by decide +kernel
theorem dX6_startRun_13 : decode cX6_startRun 13 = .ok (.return_, 1) := by decide +kernel
theorem kcX6_startRun_129 : px_cV mX6_startRun 129 mX6_takeBits 1 := ⟨⟨mbX6_takeBits, by decide, by decide⟩, Or.inl (tb4 (List.mem_of_getElem? (i := 127) rfl)), vbX6_takeBits⟩
set_option maxRecDepth 100000 in
set_option maxHeartbeats 4000000 in
theorem eX6_startRun {X : px_X} {w : px_W} {a0 : Nat} {a1 : Int32} {q : px_W} (h : fX6_startRun X w a0 a1 = some q) : EV X mX6_startRun 0 (lv_args 0 [.ref a0, .int a1]) [] w none q := by
  unfold fX6_startRun at h
  show EV X mX6_startRun 0 [(0, .ref a0), (1, .int a1)] [] w none q
  refine EV.aload_n 0 dX6_startRun_0 rfl rfl ?_
  refine EV.iconst (1) dX6_startRun_1 (by decide) ?_
  refine EV.iload_n 1 dX6_startRun_2 rfl rfl ?_
  refine EV.ishl dX6_startRun_3 ?_
  refine EV.aload_n 0 dX6_startRun_4 rfl rfl ?_
  refine EV.iload_n 1 dX6_startRun_5 rfl rfl ?_
  obtain ⟨o4, go4, h⟩ := px_bs h
  obtain ⟨q5, gq5, h⟩ := px_bs h
  refine EV.callV (As := [.int a1]) (rest := [.int ((1 : Int32) <<< (a1 &&& 31)), .ref a0]) dX6_startRun_6 kcX6_startRun_129 (gO_ok go4) rfl rfl rfl (Nat.le_of_ble_eq_true rfl) (Nat.le_of_ble_eq_true rfl) (eX6_takeBits gq5) ?_
  refine EV.iadd dX6_startRun_9 ?_
  obtain ⟨w6, gw6, h⟩ := px_bs h
  refine ev_pV dX6_startRun_10 flRX6_100 rfl rfl rfl rfl gw6 ?_
  cases h
  exact EV.ret0 dX6_startRun_13 trivial
/-! WavePictures$ScanReader.refineOne(I)V -/
theorem dX6_refineOne_0 : decode cX6_refineOne 0 = .ok (.aload_n 0, 1) := by decide +kernel
theorem dX6_refineOne_1 : decode cX6_refineOne 1 = .ok (.getfield 26, 3) := by decide +kernel
theorem dX6_refineOne_4 : decode cX6_refineOne 4 = .ok (.getfield 142, 3) := by decide +kernel
theorem dX6_refineOne_7 : decode cX6_refineOne 7 = .ok (.iload_n 1, 1) := by decide +kernel
theorem dX6_refineOne_8 : decode cX6_refineOne 8 = .ok (.iaload, 1) := by decide +kernel
theorem dX6_refineOne_9 : decode cX6_refineOne 9 = .ok (.istore_n 2, 1) := by decide +kernel
theorem dX6_refineOne_10 : decode cX6_refineOne 10 = .ok (.iconst 1, 1) := by decide +kernel
theorem dX6_refineOne_11 : decode cX6_refineOne 11 = .ok (.aload_n 0, 1) := by decide +kernel
theorem dX6_refineOne_12 : decode cX6_refineOne 12 = .ok (.getfield 12, 3) := by decide +kernel
theorem dX6_refineOne_15 : decode cX6_refineOne 15 = .ok (.getfield 147, 3) := by decide +kernel
theorem dX6_refineOne_18 : decode cX6_refineOne 18 = .ok (.ishl, 1) := by decide +kernel
theorem dX6_refineOne_19 : decode cX6_refineOne 19 = .ok (.istore_n 3, 1) := by decide +kernel
theorem dX6_refineOne_20 : decode cX6_refineOne 20 = .ok (.aload_n 0, 1) := by decide +kernel
theorem dX6_refineOne_21 : decode cX6_refineOne 21 = .ok (.invokevirtual 125, 3) := by decide +kernel
theorem dX6_refineOne_24 : decode cX6_refineOne 24 = .ok (.iconst 1, 1) := by decide +kernel
theorem dX6_refineOne_25 : decode cX6_refineOne 25 = .ok (.if_icmp .ne 34, 3) := by decide +kernel
theorem dX6_refineOne_28 : decode cX6_refineOne 28 = .ok (.iload_n 2, 1) := by decide +kernel
theorem dX6_refineOne_29 : decode cX6_refineOne 29 = .ok (.invokestatic 182, 3) := by decide +kernel
theorem dX6_refineOne_32 : decode cX6_refineOne 32 = .ok (.iload_n 3, 1) := by decide +kernel
theorem dX6_refineOne_33 : decode cX6_refineOne 33 = .ok (.iand, 1) := by decide +kernel
theorem dX6_refineOne_34 : decode cX6_refineOne 34 = .ok (.ifCond .ne 25, 3) := by decide +kernel
theorem dX6_refineOne_37 : decode cX6_refineOne 37 = .ok (.aload_n 0, 1) := by decide +kernel
theorem dX6_refineOne_38 : decode cX6_refineOne 38 = .ok (.getfield 26, 3) := by decide +kernel
theorem dX6_refineOne_41 : decode cX6_refineOne 41 = .ok (.getfield 142, 3) := by decide +kernel
theorem dX6_refineOne_44 : decode cX6_refineOne 44 = .ok (.iload_n 1, 1) := by decide +kernel
theorem dX6_refineOne_45 : decode cX6_refineOne 45 = .ok (.iload_n 2, 1) := by decide +kernel
theorem dX6_refineOne_46 : decode cX6_refineOne 46 = .ok (.ifCond .le 9, 3) := by decide +kernel
theorem dX6_refineOne_49 : decode cX6_refineOne 49 = .ok (.iload_n 2, 1) := by decide +kernel
theorem dX6_refineOne_50 : decode cX6_refineOne 50 = .ok (.iload_n 3, 1) := by decide +kernel
theorem dX6_refineOne_51 : decode cX6_refineOne 51 = .ok (.iadd, 1) := by decide +kernel
theorem dX6_refineOne_52 : decode cX6_refineOne 52 = .ok (.goto 6, 3) := by decide +kernel
theorem dX6_refineOne_55 : decode cX6_refineOne 55 = .ok (.iload_n 2, 1) := by decide +kernel
theorem dX6_refineOne_56 : decode cX6_refineOne 56 = .ok (.iload_n 3, 1) := by decide +kernel
theorem dX6_refineOne_57 : decode cX6_refineOne 57 = .ok (.isub, 1) := by decide +kernel
theorem dX6_refineOne_58 : decode cX6_refineOne 58 = .ok (.iastore, 1) := by decide +kernel
theorem dX6_refineOne_59 : decode cX6_refineOne 59 = .ok (.return_, 1) := by decide +kernel
theorem kcX6_refineOne_125 : px_cV mX6_refineOne 125 mX6_takeBit 0 := ⟨⟨mbX6_takeBit, by decide, by decide⟩, Or.inl (tb4 (List.mem_of_getElem? (i := 103) rfl)), vbX6_takeBit⟩
set_option maxRecDepth 100000 in
set_option maxHeartbeats 4000000 in
theorem eX6_refineOne_58 {X : px_X}  : ∀ (s0 : Int32) (s1 : Int32) (s2 : Nat) (w : px_W) (q : px_W), fX6_refineOne_58 X  s0 s1 s2 w = some q → EV X mX6_refineOne 58 [] [.int s0, .int s1, .ref s2] w none q := by
  intro s0 s1 s2 w q h
  unfold fX6_refineOne_58 at h
  obtain ⟨w11, gw11, h⟩ := px_bs h
  refine ev_sI dX6_refineOne_58 gw11 ?_
  cases h
  exact EV.ret0 dX6_refineOne_59 trivial
set_option maxRecDepth 100000 in
set_option maxHeartbeats 4000000 in
theorem eX6_refineOne {X : px_X} {w : px_W} {a0 : Nat} {a1 : Int32} {q : px_W} (h : fX6_refineOne X w a0 a1 = some q) : EV X mX6_refineOne 0 (lv_args 0 [.ref a0, .int a1]) [] w none q := by
  unfold fX6_refineOne at h
  show EV X mX6_refineOne 0 [(0, .ref a0), (1, .int a1)] [] w none q
  refine EV.aload_n 0 dX6_refineOne_0 rfl rfl ?_
  obtain ⟨v12, gv12, h⟩ := px_bs h
  refine ev_gR dX6_refineOne_1 flRX6_26 gv12 ?_
  obtain ⟨v13, gv13, h⟩ := px_bs h
  refine ev_gR dX6_refineOne_4 flRX6_142 gv13 ?_
  refine EV.iload_n 1 dX6_refineOne_7 rfl rfl ?_
  obtain ⟨v14, gv14, h⟩ := px_bs h
  refine ev_aI dX6_refineOne_8 gv14 ?_
  refine EV.istore_n [(2, .int v14), (0, .ref a0), (1, .int a1)] dX6_refineOne_9 rfl (by decide) rfl ?_
  refine EV.iconst (1) dX6_refineOne_10 (by decide) ?_
  refine EV.aload_n 1 dX6_refineOne_11 rfl rfl ?_
  obtain ⟨v15, gv15, h⟩ := px_bs h
  refine ev_gR dX6_refineOne_12 flRX6_12 gv15 ?_
  obtain ⟨v16, gv16, h⟩ := px_bs h
  refine ev_gI dX6_refineOne_15 flRX6_147 gv16 ?_
  refine EV.ishl dX6_refineOne_18 ?_
  refine EV.istore_n [(3, .int ((1 : Int32) <<< (v16 &&& 31))), (2, .int v14), (0, .ref a0), (1, .int a1)] dX6_refineOne_19 rfl (by decide) rfl ?_
  refine EV.aload_n 2 dX6_refineOne_20 rfl rfl ?_
  obtain ⟨o17, go17, h⟩ := px_bs h
  obtain ⟨q18, gq18, h⟩ := px_bs h
  refine EV.callV (As := []) (rest := []) dX6_refineOne_21 kcX6_refineOne_125 (gO_ok go17) rfl rfl rfl (Nat.le_of_ble_eq_true rfl) (Nat.le_of_ble_eq_true rfl) (eX6_takeBit gq18) ?_
  refine EV.iconst (1) dX6_refineOne_24 (by decide) ?_
  refine EV.icmp_ne 59 dX6_refineOne_25 (by decide) (fun c19 => ?_) (fun c19 => ?_)
  · rw [if_neg c19] at h
    cases h
    exact EV.ret0 dX6_refineOne_59 trivial
  · rw [if_pos c19] at h
    refine EV.iload_n 1 dX6_refineOne_28 rfl rfl ?_
    refine EV.mabs dX6_refineOne_29 (tb4 (List.mem_of_getElem? (i := 151) rfl)) (by decide) (by decide) (Nat.le_of_ble_eq_true rfl) ?_
    refine EV.iload_n 0 dX6_refineOne_32 rfl rfl ?_
    refine EV.iand dX6_refineOne_33 ?_
    refine EV.if_ne 59 dX6_refineOne_34 (by decide) (fun c20 => ?_) (fun c20 => ?_)
    · rw [if_neg c20] at h
      cases h
      exact EV.ret0 dX6_refineOne_59 trivial
    · rw [if_pos c20] at h
      refine EV.aload_n 2 dX6_refineOne_37 rfl rfl ?_
      obtain ⟨v21, gv21, h⟩ := px_bs h
      refine ev_gR dX6_refineOne_38 flRX6_26 gv21 ?_
      obtain ⟨v22, gv22, h⟩ := px_bs h
      refine ev_gR dX6_refineOne_41 flRX6_142 gv22 ?_
      refine EV.iload_n 3 dX6_refineOne_44 rfl rfl ?_
      refine EV.iload_n 1 dX6_refineOne_45 rfl rfl ?_
      refine EV.if_le 55 dX6_refineOne_46 (by decide) (fun c23 => ?_) (fun c23 => ?_)
      · rw [if_pos c23] at h
        refine EV.iload_n 1 dX6_refineOne_55 rfl rfl ?_
        refine EV.iload_n 0 dX6_refineOne_56 rfl rfl ?_
        refine EV.isub dX6_refineOne_57 ?_
        refine EV.sub [] rfl ?_
        exact eX6_refineOne_58  _ _ _ _ _ h
      · rw [if_neg c23] at h
        refine EV.iload_n 1 dX6_refineOne_49 rfl rfl ?_
        refine EV.iload_n 0 dX6_refineOne_50 rfl rfl ?_
        refine EV.iadd dX6_refineOne_51 ?_
        refine EV.goto 58 dX6_refineOne_52 (by decide) ?_
        refine EV.sub [] rfl ?_
        exact eX6_refineOne_58  _ _ _ _ _ h
/-! WavePictures$ScanReader.refineUpTo(III)I -/
theorem dX6_refineUpTo_0 : decode cX6_refineUpTo 0 = .ok (.iload_n 3, 1) := by decide +kernel
theorem dX6_refineUpTo_1 : decode cX6_refineUpTo 1 = .ok (.istore 4, 2) := by decide +kernel
theorem dX6_refineUpTo_3 : decode cX6_refineUpTo 3 = .ok (.iload_n 2, 1) := by decide +kernel
theorem dX6_refineUpTo_4 : decode cX6_refineUpTo 4 = .ok (.istore 5, 2) := by decide +kernel
theorem dX6_refineUpTo_6 : decode cX6_refineUpTo 6 = .ok (.iload 5, 2) := by decide +kernel
theorem dX6_refineUpTo_8 : decode cX6_refineUpTo 8 = .ok (.aload_n 0, 1) := by decide +kernel
theorem dX6_refineUpTo_9 : decode cX6_refineUpTo 9 = .ok (.getfield 12, 3) := by decide +kernel
theorem dX6_refineUpTo_12 : decode cX6_refineUpTo 12 = .ok (.getfield 77, 3) := by decide +kernel
theorem dX6_refineUpTo_15 : decode cX6_refineUpTo 15 = .ok (.if_icmp .gt 53, 3) := by decide +kernel
theorem dX6_refineUpTo_18 : decode cX6_refineUpTo 18 = .ok (.aload_n 0, 1) := by decide +kernel
theorem dX6_refineUpTo_19 : decode cX6_refineUpTo 19 = .ok (.getfield 41, 3) := by decide +kernel
theorem dX6_refineUpTo_22 : decode cX6_refineUpTo 22 = .ok (.ifCond .ne 46, 3) := by decide +kernel
theorem dX6_refineUpTo_25 : decode cX6_refineUpTo 25 = .ok (.aload_n 0, 1) := by decide +kernel
theorem dX6_refineUpTo_26 : decode cX6_refineUpTo 26 = .ok (.getfield 26, 3) := by decide +kernel
theorem dX6_refineUpTo_29 : decode cX6_refineUpTo 29 = .ok (.getfield 142, 3) := by decide +kernel
theorem dX6_refineUpTo_32 : decode cX6_refineUpTo 32 = .ok (.iload_n 1, 1) := by decide +kernel
theorem dX6_refineUpTo_33 : decode cX6_refineUpTo 33 = .ok (.iload 5, 2) := by decide +kernel
theorem dX6_refineUpTo_35 : decode cX6_refineUpTo 35 = .ok (.iadd, 1) := by decide +kernel
theorem dX6_refineUpTo_36 : decode cX6_refineUpTo 36 = .ok (.iaload, 1) := by decide +kernel
theorem dX6_refineUpTo_37 : decode cX6_refineUpTo 37 = .ok (.ifCond .eq 14, 3) := by decide +kernel
theorem dX6_refineUpTo_40 : decode cX6_refineUpTo 40 = .ok (.aload_n 0, 1) := by decide +kernel
theorem dX6_refineUpTo_41 : decode cX6_refineUpTo 41 = .ok (.iload_n 1, 1) := by decide +kernel
theorem dX6_refineUpTo_42 : decode cX6_refineUpTo 42 = .ok (.iload 5, 2) := by decide +kernel
theorem dX6_refineUpTo_44 : decode cX6_refineUpTo 44 = .ok (.iadd, 1) := by decide +kernel
theorem dX6_refineUpTo_45 : decode cX6_refineUpTo 45 = .ok (.invokevirtual 179, 3) := by decide +kernel
theorem dX6_refineUpTo_48 : decode cX6_refineUpTo 48 = .ok (.goto 14, 3) := by decide +kernel
theorem dX6_refineUpTo_51 : decode cX6_refineUpTo 51 = .ok (.iload 4, 2) := by decide +kernel
theorem dX6_refineUpTo_53 : decode cX6_refineUpTo 53 = .ok (.ifCond .ne 6, 3) := by decide +kernel
theorem dX6_refineUpTo_56 : decode cX6_refineUpTo 56 = .ok (.iload 5, 2) := by decide +kernel
theorem dX6_refineUpTo_58 : decode cX6_refineUpTo 58 = .ok (.ireturn, 1) := by decide +kernel
theorem dX6_refineUpTo_59 : decode cX6_refineUpTo 59 = .ok (.iinc 4 (-1), 3) := by decide +kernel
theorem dX6_refineUpTo_62 : decode cX6_refineUpTo 62 = .ok (.iinc 5 1, 3) := by decide +kernel
theorem dX6_refineUpTo_65 : decode cX6_refineUpTo 65 = .ok (.goto (-59), 3) := by decide +kernel
theorem dX6_refineUpTo_68 : decode cX6_refineUpTo 68 = .ok (.iload 5, 2) := by decide +kernel
theorem dX6_refineUpTo_70 : decode cX6_refineUpTo 70 = .ok (.ireturn, 1) := by decide +kernel
theorem flRX6_77 : px_f RX6 77 5 2 := ⟨_, rfl, by decide, Or.inl (tb1 (List.mem_of_getElem? (i := 193) rfl))⟩
theorem mbX6_refineOne : px_mB mX6_refineOne 1 := ⟨tb4 (List.mem_of_getElem? (i := 150) rfl), by decide +kernel, tb1 (List.mem_of_getElem? (i := 9) rfl), by decide +kernel, by decide +kernel⟩
theorem vbX6_refineOne : px_vB mX6_refineOne := ⟨tb4 (List.mem_of_getElem? (i := 149) rfl), List.mem_append_left _ (List.mem_of_getElem? (i := 44) (by decide +kernel))⟩
theorem kcX6_refineUpTo_179 : px_cV mX6_refineUpTo 179 mX6_refineOne 1 := ⟨⟨mbX6_refineOne, by decide, by decide⟩, Or.inl (tb4 (List.mem_of_getElem? (i := 147) rfl)), vbX6_refineOne⟩
set_option maxRecDepth 100000 in
set_option maxHeartbeats 4000000 in
theorem eX6_refineUpTo_62 {X : px_X} {k6 : Nat → Int32 → Int32 → Int32 → px_W → Option (Int32 × px_W)} (hk6 : ∀ (a0 : Nat) (a1 : Int32) (a4 : Int32) (a5 : Int32) (w : px_W) (q : Int32 × px_W), k6 a0 a1 a4 a5 w = some q → EV X mX6_refineUpTo 6 [(0, .ref a0), (1, .int a1), (4, .int a4), (5, .int a5)] [] w (some (.int q.1)) q.2) : ∀ (a0 : Nat) (a1 : Int32) (a4 : Int32) (a5 : Int32) (w : px_W) (q : Int32 × px_W), fX6_refineUpTo_62 X k6 a0 a1 a4 a5 w = some q → EV X mX6_refineUpTo 62 [(0, .ref a0), (1, .int a1), (4, .int a4), (5, .int a5)] [] w (some (.int q.1)) q.2 := by
  intro a0 a1 a4 a5 w q h
  unfold fX6_refineUpTo_62 at h
  refine EV.iinc 3 (a5 + 1) [(5, .int (a5 + 1)), (0, .ref a0), (1, .int a1), (4, .int a4)] dX6_refineUpTo_62 rfl rfl (by decide) rfl ?_
  refine EV.goto 6 dX6_refineUpTo_65 (by decide) ?_
  refine EV.sub [1, 2, 3, 0] rfl ?_
  exact hk6 _ _ _ _ _ _ h
set_option maxRecDepth 100000 in
set_option maxHeartbeats 4000000 in
theorem eX6_refineUpTo_6 {X : px_X}  : ∀ (m : Nat) (a0 : Nat) (a1 : Int32) (a4 : Int32) (a5 : Int32) (w : px_W) (q : Int32 × px_W), fX6_refineUpTo_6 X  m a0 a1 a4 a5 w = some q → EV X mX6_refineUpTo 6 [(0, .ref a0), (1, .int a1), (4, .int a4), (5, .int a5)] [] w (some (.int q.1)) q.2 := by
  intro m
  induction m with
  | zero => intro a0 a1 a4 a5 w q h; cases h
  | succ m ih =>
    intro a0 a1 a4 a5 w q h
    rw [fX6_refineUpTo_6.eq_2] at h
    refine EV.iload 3 dX6_refineUpTo_6 rfl ?_
    refine EV.aload_n 0 dX6_refineUpTo_8 rfl rfl ?_
    obtain ⟨v9, gv9, h⟩ := px_bs h
    refine ev_gR dX6_refineUpTo_9 flRX6_12 gv9 ?_
    obtain ⟨v10, gv10, h⟩ := px_bs h
    refine ev_gI dX6_refineUpTo_12 flRX6_77 gv10 ?_
    refine EV.icmp_gt 68 dX6_refineUpTo_15 (by decide) (fun c11 => ?_) (fun c11 => ?_)
    · rw [if_pos c11] at h
      refine EV.iload 3 dX6_refineUpTo_68 rfl ?_
      cases h
      exact EV.reti dX6_refineUpTo_70 rfl
    · rw [if_neg c11] at h
      refine EV.aload_n 0 dX6_refineUpTo_18 rfl rfl ?_
      obtain ⟨v12, gv12, h⟩ := px_bs h
      refine ev_gI dX6_refineUpTo_19 flRX6_41 gv12 ?_
      refine EV.if_ne 68 dX6_refineUpTo_22 (by decide) (fun c13 => ?_) (fun c13 => ?_)
      · rw [if_neg c13] at h
        refine EV.iload 3 dX6_refineUpTo_68 rfl ?_
        cases h
        exact EV.reti dX6_refineUpTo_70 rfl
      · rw [if_pos c13] at h
        refine EV.aload_n 0 dX6_refineUpTo_25 rfl rfl ?_
        obtain ⟨v14, gv14, h⟩ := px_bs h
        refine ev_gR dX6_refineUpTo_26 flRX6_26 gv14 ?_
        obtain ⟨v15, gv15, h⟩ := px_bs h
        refine ev_gR dX6_refineUpTo_29 flRX6_142 gv15 ?_
        refine EV.iload_n 1 dX6_refineUpTo_32 rfl rfl ?_
        refine EV.iload 3 dX6_refineUpTo_33 rfl ?_
        refine EV.iadd dX6_refineUpTo_35 ?_
        obtain ⟨v16, gv16, h⟩ := px_bs h
        refine ev_aI dX6_refineUpTo_36 gv16 ?_
        refine EV.if_eq 51 dX6_refineUpTo_37 (by decide) (fun c17 => ?_) (fun c17 => ?_)
        · rw [if_pos c17] at h
          refine EV.iload 2 dX6_refineUpTo_51 rfl ?_
          refine EV.if_ne 59 dX6_refineUpTo_53 (by decide) (fun c18 => ?_) (fun c18 => ?_)
          · rw [if_neg c18] at h
            refine EV.iinc 2 (a4 + (-1)) [(4, .int (a4 + (-1))), (0, .ref a0), (1, .int a1), (5, .int a5)] dX6_refineUpTo_59 rfl rfl (by decide) rfl ?_
            refine EV.sub [1, 2, 0, 3] rfl ?_
            exact eX6_refineUpTo_62 ih _ _ _ _ _ _ h
          · rw [if_pos c18] at h
            refine EV.iload 3 dX6_refineUpTo_56 rfl ?_
            cases h
            exact EV.reti dX6_refineUpTo_58 rfl
        · rw [if_neg c17] at h
          refine EV.aload_n 0 dX6_refineUpTo_40 rfl rfl ?_
          refine EV.iload_n 1 dX6_refineUpTo_41 rfl rfl ?_
          refine EV.iload 3 dX6_refineUpTo_42 rfl ?_
          refine EV.iadd dX6_refineUpTo_44 ?_
          obtain ⟨o19, go19, h⟩ := px_bs h
          obtain ⟨q20, gq20, h⟩ := px_bs h
          refine EV.callV (As := [.int (a1 + a5)]) (rest := []) dX6_refineUpTo_45 kcX6_refineUpTo_179 (gO_ok go19) rfl rfl rfl (Nat.le_of_ble_eq_true rfl) (Nat.le_of_ble_eq_true rfl) (eX6_refineOne gq20) ?_
          refine EV.goto 62 dX6_refineUpTo_48 (by decide) ?_
          refine EV.sub [0, 1, 2, 3] rfl ?_
          exact eX6_refineUpTo_62 ih _ _ _ _ _ _ h
set_option maxRecDepth 100000 in
set_option maxHeartbeats 4000000 in
theorem eX6_refineUpTo {X : px_X} {w : px_W} {a0 : Nat} {a1 : Int32} {a2 : Int32} {a3 : Int32} {q : Int32 × px_W} (h : fX6_refineUpTo X w a0 a1 a2 a3 = some q) : EV X mX6_refineUpTo 0 (lv_args 0 [.ref a0, .int a1, .int a2, .int a3]) [] w (some (.int q.1)) q.2 := by
  unfold fX6_refineUpTo at h
  show EV X mX6_refineUpTo 0 [(0, .ref a0), (1, .int a1), (2, .int a2), (3, .int a3)] [] w (some (.int q.1)) q.2
  refine EV.iload_n 3 dX6_refineUpTo_0 rfl rfl ?_
  refine EV.istore [(4, .int a3), (0, .ref a0), (1, .int a1), (2, .int a2), (3, .int a3)] dX6_refineUpTo_1 (by decide) rfl ?_
  refine EV.iload_n 3 dX6_refineUpTo_3 rfl rfl ?_
  refine EV.istore [(5, .int a2), (4, .int a3), (0, .ref a0), (1, .int a1), (2, .int a2), (3, .int a3)] dX6_refineUpTo_4 (by decide) rfl ?_
  refine EV.sub [2, 3, 1, 0] rfl ?_
  exact eX6_refineUpTo_6  FU _ _ _ _ _ _ h
/-! WavePictures$ScanReader.refineOthers(ILWavePictures$Words;)V -/
theorem dX6_refineOthers_0 : decode cX6_refineOthers 0 = .ok (.aload_n 0, 1) := by decide +kernel
theorem dX6_refineOthers_1 : decode cX6_refineOthers 1 = .ok (.getfield 12, 3) := by decide +kernel
theorem dX6_refineOthers_4 : decode cX6_refineOthers 4 = .ok (.getfield 67, 3) := by decide +kernel
theorem dX6_refineOthers_7 : decode cX6_refineOthers 7 = .ok (.istore_n 3, 1) := by decide +kernel
theorem dX6_refineOthers_8 : decode cX6_refineOthers 8 = .ok (.aload_n 0, 1) := by decide +kernel
theorem dX6_refineOthers_9 : decode cX6_refineOthers 9 = .ok (.getfield 100, 3) := by decide +kernel
theorem dX6_refineOthers_12 : decode cX6_refineOthers 12 = .ok (.ifCond .ne 182, 3) := by decide +kernel
theorem dX6_refineOthers_15 : decode cX6_refineOthers 15 = .ok (.iload_n 3, 1) := by decide +kernel
theorem dX6_refineOthers_16 : decode cX6_refineOthers 16 = .ok (.aload_n 0, 1) := by decide +kernel
theorem dX6_refineOthers_17 : decode cX6_refineOthers 17 = .ok (.getfield 12, 3) := by decide +kernel
theorem dX6_refineOthers_20 : decode cX6_refineOthers 20 = .ok (.getfield 77, 3) := by decide +kernel
theorem dX6_refineOthers_23 : decode cX6_refineOthers 23 = .ok (.if_icmp .gt 171, 3) := by decide +kernel
theorem dX6_refineOthers_26 : decode cX6_refineOthers 26 = .ok (.aload_n 0, 1) := by decide +kernel
theorem dX6_refineOthers_27 : decode cX6_refineOthers 27 = .ok (.aload_n 2, 1) := by decide +kernel
theorem dX6_refineOthers_28 : decode cX6_refineOthers 28 = .ok (.invokevirtual 150, 3) := by decide +kernel
theorem dX6_refineOthers_31 : decode cX6_refineOthers 31 = .ok (.istore 4, 2) := by decide +kernel
theorem dX6_refineOthers_33 : decode cX6_refineOthers 33 = .ok (.iload 4, 2) := by decide +kernel
theorem dX6_refineOthers_35 : decode cX6_refineOthers 35 = .ok (.bipush 16, 2) := by decide +kernel
theorem dX6_refineOthers_37 : decode cX6_refineOthers 37 = .ok (.idiv, 1) := by decide +kernel
theorem dX6_refineOthers_38 : decode cX6_refineOthers 38 = .ok (.istore 5, 2) := by decide +kernel
theorem dX6_refineOthers_40 : decode cX6_refineOthers 40 = .ok (.iload 4, 2) := by decide +kernel
theorem dX6_refineOthers_42 : decode cX6_refineOthers 42 = .ok (.bipush 16, 2) := by decide +kernel
theorem dX6_refineOthers_44 : decode cX6_refineOthers 44 = .ok (.irem, 1) := by decide +kernel
theorem dX6_refineOthers_45 : decode cX6_refineOthers 45 = .ok (.istore 6, 2) := by decide +kernel
theorem dX6_refineOthers_47 : decode cX6_refineOthers 47 = .ok (.aload_n 0, 1) := by decide +kernel
theorem dX6_refineOthers_48 : decode cX6_refineOthers 48 = .ok (.getfield 41, 3) := by decide +kernel
theorem dX6_refineOthers_51 : decode cX6_refineOthers 51 = .ok (.ifCond .ne 14, 3) := by decide +kernel
theorem dX6_refineOthers_54 : decode cX6_refineOthers 54 = .ok (.iload 6, 2) := by decide +kernel
theorem dX6_refineOthers_56 : decode cX6_refineOthers 56 = .ok (.iconst 1, 1) := by decide +kernel
theorem dX6_refineOthers_57 : decode cX6_refineOthers 57 = .ok (.if_icmp .le 8, 3) := by decide +kernel
theorem dX6_refineOthers_60 : decode cX6_refineOthers 60 = .ok (.aload_n 0, 1) := by decide +kernel
theorem dX6_refineOthers_61 : decode cX6_refineOthers 61 = .ok (.iconst 3, 1) := by decide +kernel
theorem dX6_refineOthers_62 : decode cX6_refineOthers 62 = .ok (.putfield 41, 3) := by decide +kernel
theorem dX6_refineOthers_65 : decode cX6_refineOthers 65 = .ok (.aload_n 0, 1) := by decide +kernel
theorem dX6_refineOthers_66 : decode cX6_refineOthers 66 = .ok (.getfield 41, 3) := by decide +kernel
theorem dX6_refineOthers_69 : decode cX6_refineOthers 69 = .ok (.ifCond .eq 4, 3) := by decide +kernel
theorem dX6_refineOthers_72 : decode cX6_refineOthers 72 = .ok (.return_, 1) := by decide +kernel
theorem dX6_refineOthers_73 : decode cX6_refineOthers 73 = .ok (.iload 6, 2) := by decide +kernel
theorem dX6_refineOthers_75 : decode cX6_refineOthers 75 = .ok (.ifCond .ne 19, 3) := by decide +kernel
theorem dX6_refineOthers_78 : decode cX6_refineOthers 78 = .ok (.iload 5, 2) := by decide +kernel
theorem dX6_refineOthers_80 : decode cX6_refineOthers 80 = .ok (.bipush 15, 2) := by decide +kernel
theorem dX6_refineOthers_82 : decode cX6_refineOthers 82 = .ok (.if_icmp .ge 12, 3) := by decide +kernel
theorem dX6_refineOthers_85 : decode cX6_refineOthers 85 = .ok (.aload_n 0, 1) := by decide +kernel
theorem dX6_refineOthers_86 : decode cX6_refineOthers 86 = .ok (.iload 5, 2) := by decide +kernel
theorem dX6_refineOthers_88 : decode cX6_refineOthers 88 = .ok (.invokevirtual 172, 3) := by decide +kernel
theorem dX6_refineOthers_91 : decode cX6_refineOthers 91 = .ok (.goto 103, 3) := by decide +kernel
theorem dX6_refineOthers_94 : decode cX6_refineOthers 94 = .ok (.iload 6, 2) := by decide +kernel
theorem dX6_refineOthers_96 : decode cX6_refineOthers 96 = .ok (.ifCond .ne 7, 3) := by decide +kernel
theorem dX6_refineOthers_99 : decode cX6_refineOthers 99 = .ok (.iconst 0, 1) := by decide +kernel
theorem dX6_refineOthers_100 : decode cX6_refineOthers 100 = .ok (.goto 33, 3) := by decide +kernel
theorem dX6_refineOthers_103 : decode cX6_refineOthers 103 = .ok (.aload_n 0, 1) := by decide +kernel
theorem dX6_refineOthers_104 : decode cX6_refineOthers 104 = .ok (.invokevirtual 125, 3) := by decide +kernel
theorem dX6_refineOthers_107 : decode cX6_refineOthers 107 = .ok (.iconst 1, 1) := by decide +kernel
theorem dX6_refineOthers_108 : decode cX6_refineOthers 108 = .ok (.if_icmp .ne 15, 3) := by decide +kernel
theorem dX6_refineOthers_111 : decode cX6_refineOthers 111 = .ok (.iconst 1, 1) := by decide +kernel
theorem dX6_refineOthers_112 : decode cX6_refineOthers 112 = .ok (.aload_n 0, 1) := by decide +kernel
theorem dX6_refineOthers_113 : decode cX6_refineOthers 113 = .ok (.getfield 12, 3) := by decide +kernel
theorem dX6_refineOthers_116 : decode cX6_refineOthers 116 = .ok (.getfield 147, 3) := by decide +kernel
theorem dX6_refineOthers_119 : decode cX6_refineOthers 119 = .ok (.ishl, 1) := by decide +kernel
theorem dX6_refineOthers_120 : decode cX6_refineOthers 120 = .ok (.goto 13, 3) := by decide +kernel
theorem dX6_refineOthers_123 : decode cX6_refineOthers 123 = .ok (.iconst 1, 1) := by decide +kernel
theorem dX6_refineOthers_124 : decode cX6_refineOthers 124 = .ok (.aload_n 0, 1) := by decide +kernel
theorem dX6_refineOthers_125 : decode cX6_refineOthers 125 = .ok (.getfield 12, 3) := by decide +kernel
theorem dX6_refineOthers_128 : decode cX6_refineOthers 128 = .ok (.getfield 147, 3) := by decide +kernel
theorem dX6_refineOthers_131 : decode cX6_refineOthers 131 = .ok (.ishl, 1) := by decide +kernel
theorem dX6_refineOthers_132 : decode cX6_refineOthers 132 = .ok (.ineg, 1) := by decide +kernel
theorem dX6_refineOthers_133 : decode cX6_refineOthers 133 = .ok (.istore 7, 2) := by decide +kernel
theorem dX6_refineOthers_135 : decode cX6_refineOthers 135 = .ok (.aload_n 0, 1) := by decide +kernel
theorem dX6_refineOthers_136 : decode cX6_refineOthers 136 = .ok (.iload_n 1, 1) := by decide +kernel
theorem dX6_refineOthers_137 : decode cX6_refineOthers 137 = .ok (.iload_n 3, 1) := by decide +kernel
theorem dX6_refineOthers_138 : decode cX6_refineOthers 138 = .ok (.iload 5, 2) := by decide +kernel
theorem dX6_refineOthers_140 : decode cX6_refineOthers 140 = .ok (.invokevirtual 175, 3) := by decide +kernel
theorem dX6_refineOthers_143 : decode cX6_refineOthers 143 = .ok (.istore_n 3, 1) := by decide +kernel
theorem dX6_refineOthers_144 : decode cX6_refineOthers 144 = .ok (.aload_n 0, 1) := by decide +kernel
theorem dX6_refineOthers_145 : decode cX6_refineOthers 145 = .ok (.getfield 41, 3) := by decide +kernel
theorem dX6_refineOthers_148 : decode cX6_refineOthers 148 = .ok (.ifCond .ne 19, 3) := by decide +kernel
theorem dX6_refineOthers_151 : decode cX6_refineOthers 151 = .ok (.iload_n 3, 1) := by decide +kernel
theorem dX6_refineOthers_152 : decode cX6_refineOthers 152 = .ok (.aload_n 0, 1) := by decide +kernel
theorem dX6_refineOthers_153 : decode cX6_refineOthers 153 = .ok (.getfield 12, 3) := by decide +kernel
theorem dX6_refineOthers_156 : decode cX6_refineOthers 156 = .ok (.getfield 77, 3) := by decide +kernel
theorem dX6_refineOthers_159 : decode cX6_refineOthers 159 = .ok (.if_icmp .le 8, 3) := by decide +kernel
theorem dX6_refineOthers_162 : decode cX6_refineOthers 162 = .ok (.aload_n 0, 1) := by decide +kernel
theorem dX6_refineOthers_163 : decode cX6_refineOthers 163 = .ok (.iconst 3, 1) := by decide +kernel
theorem dX6_refineOthers_164 : decode cX6_refineOthers 164 = .ok (.putfield 41, 3) := by decide +kernel
theorem dX6_refineOthers_167 : decode cX6_refineOthers 167 = .ok (.aload_n 0, 1) := by decide +kernel
theorem dX6_refineOthers_168 : decode cX6_refineOthers 168 = .ok (.getfield 41, 3) := by decide +kernel
theorem dX6_refineOthers_171 : decode cX6_refineOthers 171 = .ok (.ifCond .eq 4, 3) := by decide +kernel
theorem dX6_refineOthers_174 : decode cX6_refineOthers 174 = .ok (.return_, 1) := by decide +kernel
theorem dX6_refineOthers_175 : decode cX6_refineOthers 175 = .ok (.aload_n 0, 1) := by decide +kernel
theorem dX6_refineOthers_176 : decode cX6_refineOthers 176 = .ok (.getfield 26, 3) := by decide +kernel
theorem dX6_refineOthers_179 : decode cX6_refineOthers 179 = .ok (.getfield 142, 3) := by decide +kernel
theorem dX6_refineOthers_182 : decode cX6_refineOthers 182 = .ok (.iload_n 1, 1) := by decide +kernel
theorem dX6_refineOthers_183 : decode cX6_refineOthers 183 = .ok (.iload_n 3, 1) := by decide +kernel
theorem dX6_refineOthers_184 : decode cX6_refineOthers 184 = .ok (.iadd, 1) := by decide +kernel
theorem dX6_refineOthers_185 : decode cX6_refineOthers 185 = .ok (.iload 7, 2) := by decide +kernel
theorem dX6_refineOthers_187 : decode cX6_refineOthers 187 = .ok (.iastore, 1) := by decide +kernel
theorem dX6_refineOthers_188 : decode cX6_refineOthers 188 = .ok (.iinc 3 1, 3) := by decide +kernel
theorem dX6_refineOthers_191 : decode cX6_refineOthers 191 = .ok (.goto (-183), 3) := by decide +kernel
theorem dX6_refineOthers_194 : decode cX6_refineOthers 194 = .ok (.aload_n 0, 1) := by decide +kernel
theorem dX6_refineOthers_195 : decode cX6_refineOthers 195 = .ok (.getfield 100, 3) := by decide +kernel
theorem dX6_refineOthers_198 : decode cX6_refineOthers 198 = .ok (.ifCond .le 29, 3) := by decide +kernel
theorem dX6_refineOthers_201 : decode cX6_refineOthers 201 = .ok (.aload_n 0, 1) := by decide +kernel
theorem dX6_refineOthers_202 : decode cX6_refineOthers 202 = .ok (.getfield 41, 3) := by decide +kernel
theorem dX6_refineOthers_205 : decode cX6_refineOthers 205 = .ok (.ifCond .ne 22, 3) := by decide +kernel
theorem dX6_refineOthers_208 : decode cX6_refineOthers 208 = .ok (.aload_n 0, 1) := by decide +kernel
theorem dX6_refineOthers_209 : decode cX6_refineOthers 209 = .ok (.iload_n 1, 1) := by decide +kernel
theorem dX6_refineOthers_210 : decode cX6_refineOthers 210 = .ok (.iload_n 3, 1) := by decide +kernel
theorem dX6_refineOthers_211 : decode cX6_refineOthers 211 = .ok (.bipush 64, 2) := by decide +kernel
theorem dX6_refineOthers_213 : decode cX6_refineOthers 213 = .ok (.invokevirtual 175, 3) := by decide +kernel
theorem dX6_refineOthers_216 : decode cX6_refineOthers 216 = .ok (.pop, 1) := by decide +kernel
theorem dX6_refineOthers_217 : decode cX6_refineOthers 217 = .ok (.aload_n 0, 1) := by decide +kernel
theorem dX6_refineOthers_218 : decode cX6_refineOthers 218 = .ok (.dup, 1) := by decide +kernel
theorem dX6_refineOthers_219 : decode cX6_refineOthers 219 = .ok (.getfield 100, 3) := by decide +kernel
theorem dX6_refineOthers_222 : decode cX6_refineOthers 222 = .ok (.iconst 1, 1) := by decide +kernel
theorem dX6_refineOthers_223 : decode cX6_refineOthers 223 = .ok (.isub, 1) := by decide +kernel
theorem dX6_refineOthers_224 : decode cX6_refineOthers 224 = .ok (.putfield 100, 3) := by decide +kernel
theorem dX6_refineOthers_227 : decode cX6_refineOthers 227 = .ok (.return_, 1) := by decide +kernel
theorem flRX6_67 : px_f RX6 67 5 1 := ⟨_, rfl, by decide, Or.inl (tb1 (List.mem_of_getElem? (i := 188) rfl))⟩
theorem kcX6_refineOthers_125 : px_cV mX6_refineOthers 125 mX6_takeBit 0 := ⟨⟨mbX6_takeBit, by decide, by decide⟩, Or.inl (tb4 (List.mem_of_getElem? (i := 103) rfl)), vbX6_takeBit⟩
theorem kcX6_refineOthers_150 : px_cV mX6_refineOthers 150 mX6_takeSymbol 1 := ⟨⟨mbX6_takeSymbol, by decide, by decide⟩, Or.inl (tb4 (List.mem_of_getElem? (i := 111) rfl)), vbX6_takeSymbol⟩
theorem mbX6_startRun : px_mB mX6_startRun 1 := ⟨tb4 (List.mem_of_getElem? (i := 142) rfl), by decide +kernel, tb1 (List.mem_of_getElem? (i := 9) rfl), by decide +kernel, by decide +kernel⟩
theorem vbX6_startRun : px_vB mX6_startRun := ⟨tb4 (List.mem_of_getElem? (i := 141) rfl), List.mem_append_left _ (List.mem_of_getElem? (i := 42) (by decide +kernel))⟩
theorem kcX6_refineOthers_172 : px_cV mX6_refineOthers 172 mX6_startRun 1 := ⟨⟨mbX6_startRun, by decide, by decide⟩, Or.inl (tb4 (List.mem_of_getElem? (i := 139) rfl)), vbX6_startRun⟩
theorem mbX6_refineUpTo : px_mB mX6_refineUpTo 3 := ⟨tb4 (List.mem_of_getElem? (i := 146) rfl), by decide +kernel, tb1 (List.mem_of_getElem? (i := 9) rfl), by decide +kernel, by decide +kernel⟩
theorem vbX6_refineUpTo : px_vB mX6_refineUpTo := ⟨tb4 (List.mem_of_getElem? (i := 145) rfl), List.mem_append_left _ (List.mem_of_getElem? (i := 43) (by decide +kernel))⟩
theorem kcX6_refineOthers_175 : px_cV mX6_refineOthers 175 mX6_refineUpTo 3 := ⟨⟨mbX6_refineUpTo, by decide, by decide⟩, Or.inl (tb4 (List.mem_of_getElem? (i := 143) rfl)), vbX6_refineUpTo⟩
set_option maxRecDepth 100000 in
set_option maxHeartbeats 4000000 in
theorem eX6_refineOthers_194 {X : px_X}  : ∀ (a0 : Nat) (a1 : Int32) (a3 : Int32) (w : px_W) (q : px_W), fX6_refineOthers_194 X  a0 a1 a3 w = some q → EV X mX6_refineOthers 194 [(0, .ref a0), (1, .int a1), (3, .int a3)] [] w none q := by
  intro a0 a1 a3 w q h
  unfold fX6_refineOthers_194 at h
  refine EV.aload_n 0 dX6_refineOthers_194 rfl rfl ?_
  obtain ⟨v37, gv37, h⟩ := px_bs h
  refine ev_gI dX6_refineOthers_195 flRX6_100 gv37 ?_
  refine EV.if_le 227 dX6_refineOthers_198 (by decide) (fun c38 => ?_) (fun c38 => ?_)
  · rw [if_pos c38] at h
    cases h
    exact EV.ret0 dX6_refineOthers_227 trivial
  · rw [if_neg c38] at h
    refine EV.aload_n 0 dX6_refineOthers_201 rfl rfl ?_
    obtain ⟨v39, gv39, h⟩ := px_bs h
    refine ev_gI dX6_refineOthers_202 flRX6_41 gv39 ?_
    refine EV.if_ne 227 dX6_refineOthers_205 (by decide) (fun c40 => ?_) (fun c40 => ?_)
    · rw [if_neg c40] at h
      cases h
      exact EV.ret0 dX6_refineOthers_227 trivial
    · rw [if_pos c40] at h
      refine EV.aload_n 0 dX6_refineOthers_208 rfl rfl ?_
      refine EV.iload_n 1 dX6_refineOthers_209 rfl rfl ?_
      refine EV.iload_n 2 dX6_refineOthers_210 rfl rfl ?_
      refine EV.bipush (64) dX6_refineOthers_211 (by decide) ?_
      obtain ⟨o41, go41, h⟩ := px_bs h
      obtain ⟨q42, gq42, h⟩ := px_bs h
      refine EV.callV (As := [.int a1, .int a3, .int 64]) (rest := []) dX6_refineOthers_213 kcX6_refineOthers_175 (gO_ok go41) rfl rfl rfl (Nat.le_of_ble_eq_true rfl) (Nat.le_of_ble_eq_true rfl) (eX6_refineUpTo gq42) ?_
      refine EV.pop dX6_refineOthers_216 rfl ?_
      refine EV.aload_n 0 dX6_refineOthers_217 rfl rfl ?_
      refine EV.dup dX6_refineOthers_218 rfl ?_
      obtain ⟨v43, gv43, h⟩ := px_bs h
      refine ev_gI dX6_refineOthers_219 flRX6_100 gv43 ?_
      refine EV.iconst (1) dX6_refineOthers_222 (by decide) ?_
      refine EV.isub dX6_refineOthers_223 ?_
      obtain ⟨w44, gw44, h⟩ := px_bs h
      refine ev_pV dX6_refineOthers_224 flRX6_100 rfl rfl rfl rfl gw44 ?_
      cases h
      exact EV.ret0 dX6_refineOthers_227 trivial
set_option maxRecDepth 100000 in
set_option maxHeartbeats 4000000 in
theorem eX6_refineOthers_85 {X : px_X}  : ∀ (a0 : Nat) (a1 : Int32) (a3 : Int32) (a5 : Int32) (w : px_W) (q : px_W), fX6_refineOthers_85 X  a0 a1 a3 a5 w = some q → EV X mX6_refineOthers 85 [(0, .ref a0), (1, .int a1), (3, .int a3), (5, .int a5)] [] w none q := by
  intro a0 a1 a3 a5 w q h
  unfold fX6_refineOthers_85 at h
  refine EV.aload_n 0 dX6_refineOthers_85 rfl rfl ?_
  refine EV.iload 3 dX6_refineOthers_86 rfl ?_
  obtain ⟨o45, go45, h⟩ := px_bs h
  obtain ⟨q46, gq46, h⟩ := px_bs h
  refine EV.callV (As := [.int a5]) (rest := []) dX6_refineOthers_88 kcX6_refineOthers_172 (gO_ok go45) rfl rfl rfl (Nat.le_of_ble_eq_true rfl) (Nat.le_of_ble_eq_true rfl) (eX6_startRun gq46) ?_
  refine EV.goto 194 dX6_refineOthers_91 (by decide) ?_
  refine EV.sub [0, 1, 2] rfl ?_
  exact eX6_refineOthers_194  _ _ _ _ _ h
set_option maxRecDepth 100000 in
set_option maxHeartbeats 4000000 in
theorem eX6_refineOthers_167 {X : px_X} {k8 : Nat → Int32 → Nat → Int32 → px_W → Option (px_W)} (hk8 : ∀ (a0 : Nat) (a1 : Int32) (a2 : Nat) (a3 : Int32) (w : px_W) (q : px_W), k8 a0 a1 a2 a3 w = some q → EV X mX6_refineOthers 8 [(0, .ref a0), (1, .int a1), (2, .ref a2), (3, .int a3)] [] w none q) : ∀ (a0 : Nat) (a1 : Int32) (a2 : Nat) (a3 : Int32) (a7 : Int32) (w : px_W) (q : px_W), fX6_refineOthers_167 X k8 a0 a1 a2 a3 a7 w = some q → EV X mX6_refineOthers 167 [(0, .ref a0), (1, .int a1), (2, .ref a2), (3, .int a3), (7, .int a7)] [] w none q := by
  intro a0 a1 a2 a3 a7 w q h
  unfold fX6_refineOthers_167 at h
  refine EV.aload_n 0 dX6_refineOthers_167 rfl rfl ?_
  obtain ⟨v47, gv47, h⟩ := px_bs h
  refine ev_gI dX6_refineOthers_168 flRX6_41 gv47 ?_
  refine EV.if_eq 175 dX6_refineOthers_171 (by decide) (fun c48 => ?_) (fun c48 => ?_)
  · rw [if_pos c48] at h
    refine EV.aload_n 0 dX6_refineOthers_175 rfl rfl ?_
    obtain ⟨v49, gv49, h⟩ := px_bs h
    refine ev_gR dX6_refineOthers_176 flRX6_26 gv49 ?_
    obtain ⟨v50, gv50, h⟩ := px_bs h
    refine ev_gR dX6_refineOthers_179 flRX6_142 gv50 ?_
    refine EV.iload_n 1 dX6_refineOthers_182 rfl rfl ?_
    refine EV.iload_n 3 dX6_refineOthers_183 rfl rfl ?_
    refine EV.iadd dX6_refineOthers_184 ?_
    refine EV.iload 4 dX6_refineOthers_185 rfl ?_
    obtain ⟨w51, gw51, h⟩ := px_bs h
    refine ev_sI dX6_refineOthers_187 gw51 ?_
    refine EV.iinc 3 (a3 + 1) [(3, .int (a3 + 1)), (0, .ref a0), (1, .int a1), (2, .ref a2), (7, .int a7)] dX6_refineOthers_188 rfl rfl (by decide) rfl ?_
    refine EV.goto 8 dX6_refineOthers_191 (by decide) ?_
    refine EV.sub [1, 2, 3, 0] rfl ?_
    exact hk8 _ _ _ _ _ _ h
  · rw [if_neg c48] at h
    cases h
    exact EV.ret0 dX6_refineOthers_174 trivial
set_option maxRecDepth 100000 in
set_option maxHeartbeats 4000000 in
theorem eX6_refineOthers_133 {X : px_X} {k8 : Nat → Int32 → Nat → Int32 → px_W → Option (px_W)} (hk8 : ∀ (a0 : Nat) (a1 : Int32) (a2 : Nat) (a3 : Int32) (w : px_W) (q : px_W), k8 a0 a1 a2 a3 w = some q → EV X mX6_refineOthers 8 [(0, .ref a0), (1, .int a1), (2, .ref a2), (3, .int a3)] [] w none q) : ∀ (a0 : Nat) (a1 : Int32) (a2 : Nat) (a3 : Int32) (a5 : Int32) (s0 : Int32) (w : px_W) (q : px_W), fX6_refineOthers_133 X k8 a0 a1 a2 a3 a5 s0 w = some q → EV X mX6_refineOthers 133 [(0, .ref a0), (1, .int a1), (2, .ref a2), (3, .int a3), (5, .int a5)] [.int s0] w none q := by
  intro a0 a1 a2 a3 a5 s0 w q h
  unfold fX6_refineOthers_133 at h
  refine EV.istore [(7, .int s0), (0, .ref a0), (1, .int a1), (2, .ref a2), (3, .int a3), (5, .int a5)] dX6_refineOthers_133 (by decide) rfl ?_
  refine EV.aload_n 1 dX6_refineOthers_135 rfl rfl ?_
  refine EV.iload_n 2 dX6_refineOthers_136 rfl rfl ?_
  refine EV.iload_n 4 dX6_refineOthers_137 rfl rfl ?_
  refine EV.iload 5 dX6_refineOthers_138 rfl ?_
  obtain ⟨o52, go52, h⟩ := px_bs h
  obtain ⟨q53, gq53, h⟩ := px_bs h
  refine EV.callV (As := [.int a1, .int a3, .int a5]) (rest := []) dX6_refineOthers_140 kcX6_refineOthers_175 (gO_ok go52) rfl rfl rfl (Nat.le_of_ble_eq_true rfl) (Nat.le_of_ble_eq_true rfl) (eX6_refineUpTo gq53) ?_
  refine EV.istore_n [(3, .int q53.1), (7, .int s0), (0, .ref a0), (1, .int a1), (2, .ref a2), (5, .int a5)] dX6_refineOthers_143 rfl (by decide) rfl ?_
  refine EV.aload_n 2 dX6_refineOthers_144 rfl rfl ?_
  obtain ⟨v54, gv54, h⟩ := px_bs h
  refine ev_gI dX6_refineOthers_145 flRX6_41 gv54 ?_
  refine EV.if_ne 167 dX6_refineOthers_148 (by decide) (fun c55 => ?_) (fun c55 => ?_)
  · rw [if_neg c55] at h
    refine EV.sub [2, 3, 4, 0, 1] rfl ?_
    exact eX6_refineOthers_167 hk8 _ _ _ _ _ _ _ h
  · rw [if_pos c55] at h
    refine EV.iload_n 0 dX6_refineOthers_151 rfl rfl ?_
    refine EV.aload_n 2 dX6_refineOthers_152 rfl rfl ?_
    obtain ⟨v56, gv56, h⟩ := px_bs h
    refine ev_gR dX6_refineOthers_153 flRX6_12 gv56 ?_
    obtain ⟨v57, gv57, h⟩ := px_bs h
    refine ev_gI dX6_refineOthers_156 flRX6_77 gv57 ?_
    refine EV.icmp_le 167 dX6_refineOthers_159 (by decide) (fun c58 => ?_) (fun c58 => ?_)
    · rw [if_pos c58] at h
      refine EV.sub [2, 3, 4, 0, 1] rfl ?_
      exact eX6_refineOthers_167 hk8 _ _ _ _ _ _ _ h
    · rw [if_neg c58] at h
      refine EV.aload_n 2 dX6_refineOthers_162 rfl rfl ?_
      refine EV.iconst (3) dX6_refineOthers_163 (by decide) ?_
      obtain ⟨w59, gw59, h⟩ := px_bs h
      refine ev_pV dX6_refineOthers_164 flRX6_41 rfl rfl rfl rfl gw59 ?_
      refine EV.sub [2, 3, 4, 0, 1] rfl ?_
      exact eX6_refineOthers_167 hk8 _ _ _ _ _ _ _ h
set_option maxRecDepth 100000 in
set_option maxHeartbeats 4000000 in
theorem eX6_refineOthers_94 {X : px_X} {k8 : Nat → Int32 → Nat → Int32 → px_W → Option (px_W)} (hk8 : ∀ (a0 : Nat) (a1 : Int32) (a2 : Nat) (a3 : Int32) (w : px_W) (q : px_W), k8 a0 a1 a2 a3 w = some q → EV X mX6_refineOthers 8 [(0, .ref a0), (1, .int a1), (2, .ref a2), (3, .int a3)] [] w none q) : ∀ (a0 : Nat) (a1 : Int32) (a2 : Nat) (a3 : Int32) (a5 : Int32) (a6 : Int32) (w : px_W) (q : px_W), fX6_refineOthers_94 X k8 a0 a1 a2 a3 a5 a6 w = some q → EV X mX6_refineOthers 94 [(0, .ref a0), (1, .int a1), (2, .ref a2), (3, .int a3), (5, .int a5), (6, .int a6)] [] w none q := by
  intro a0 a1 a2 a3 a5 a6 w q h
  unfold fX6_refineOthers_94 at h
  refine EV.iload 5 dX6_refineOthers_94 rfl ?_
  refine EV.if_ne 103 dX6_refineOthers_96 (by decide) (fun c60 => ?_) (fun c60 => ?_)
  · rw [if_neg c60] at h
    refine EV.aload_n 0 dX6_refineOthers_103 rfl rfl ?_
    obtain ⟨o61, go61, h⟩ := px_bs h
    obtain ⟨q62, gq62, h⟩ := px_bs h
    refine EV.callV (As := []) (rest := []) dX6_refineOthers_104 kcX6_refineOthers_125 (gO_ok go61) rfl rfl rfl (Nat.le_of_ble_eq_true rfl) (Nat.le_of_ble_eq_true rfl) (eX6_takeBit gq62) ?_
    refine EV.iconst (1) dX6_refineOthers_107 (by decide) ?_
    refine EV.icmp_ne 123 dX6_refineOthers_108 (by decide) (fun c63 => ?_) (fun c63 => ?_)
    · rw [if_neg c63] at h
      refine EV.iconst (1) dX6_refineOthers_123 (by decide) ?_
      refine EV.aload_n 0 dX6_refineOthers_124 rfl rfl ?_
      obtain ⟨v64, gv64, h⟩ := px_bs h
      refine ev_gR dX6_refineOthers_125 flRX6_12 gv64 ?_
      obtain ⟨v65, gv65, h⟩ := px_bs h
      refine ev_gI dX6_refineOthers_128 flRX6_147 gv65 ?_
      refine EV.ishl dX6_refineOthers_131 ?_
      refine EV.ineg dX6_refineOthers_132 ?_
      refine EV.sub [0, 1, 2, 3, 4] rfl ?_
      exact eX6_refineOthers_133 hk8 _ _ _ _ _ _ _ _ h
    · rw [if_pos c63] at h
      refine EV.iconst (1) dX6_refineOthers_111 (by decide) ?_
      refine EV.aload_n 0 dX6_refineOthers_112 rfl rfl ?_
      obtain ⟨v66, gv66, h⟩ := px_bs h
      refine ev_gR dX6_refineOthers_113 flRX6_12 gv66 ?_
      obtain ⟨v67, gv67, h⟩ := px_bs h
      refine ev_gI dX6_refineOthers_116 flRX6_147 gv67 ?_
      refine EV.ishl dX6_refineOthers_119 ?_
      refine EV.goto 133 dX6_refineOthers_120 (by decide) ?_
      refine EV.sub [0, 1, 2, 3, 4] rfl ?_
      exact eX6_refineOthers_133 hk8 _ _ _ _ _ _ _ _ h
  · rw [if_pos c60] at h
    refine EV.iconst (0) dX6_refineOthers_99 (by decide) ?_
    refine EV.goto 133 dX6_refineOthers_100 (by decide) ?_
    refine EV.sub [0, 1, 2, 3, 4] rfl ?_
    exact eX6_refineOthers_133 hk8 _ _ _ _ _ _ _ _ h
set_option maxRecDepth 100000 in
set_option maxHeartbeats 4000000 in
theorem eX6_refineOthers_65 {X : px_X} {k8 : Nat → Int32 → Nat → Int32 → px_W → Option (px_W)} (hk8 : ∀ (a0 : Nat) (a1 : Int32) (a2 : Nat) (a3 : Int32) (w : px_W) (q : px_W), k8 a0 a1 a2 a3 w = some q → EV X mX6_refineOthers 8 [(0, .ref a0), (1, .int a1), (2, .ref a2), (3, .int a3)] [] w none q) : ∀ (a0 : Nat) (a1 : Int32) (a2 : Nat) (a3 : Int32) (a5 : Int32) (a6 : Int32) (w : px_W) (q : px_W), fX6_refineOthers_65 X k8 a0 a1 a2 a3 a5 a6 w = some q → EV X mX6_refineOthers 65 [(0, .ref a0), (1, .int a1), (2, .ref a2), (3, .int a3), (5, .int a5), (6, .int a6)] [] w none q := by
  intro a0 a1 a2 a3 a5 a6 w q h
  unfold fX6_refineOthers_65 at h
  refine EV.aload_n 0 dX6_refineOthers_65 rfl rfl ?_
  obtain ⟨v68, gv68, h⟩ := px_bs h
  refine ev_gI dX6_refineOthers_66 flRX6_41 gv68 ?_
  refine EV.if_eq 73 dX6_refineOthers_69 (by decide) (fun c69 => ?_) (fun c69 => ?_)
  · rw [if_pos c69] at h
    refine EV.iload 5 dX6_refineOthers_73 rfl ?_
    refine EV.if_ne 94 dX6_refineOthers_75 (by decide) (fun c70 => ?_) (fun c70 => ?_)
    · rw [if_neg c70] at h
      refine EV.sub [0, 1, 2, 3, 4, 5] rfl ?_
      exact eX6_refineOthers_94 hk8 _ _ _ _ _ _ _ _ h
    · rw [if_pos c70] at h
      refine EV.iload 4 dX6_refineOthers_78 rfl ?_
      refine EV.bipush (15) dX6_refineOthers_80 (by decide) ?_
      refine EV.icmp_ge 94 dX6_refineOthers_82 (by decide) (fun c71 => ?_) (fun c71 => ?_)
      · rw [if_pos c71] at h
        refine EV.sub [0, 1, 2, 3, 4, 5] rfl ?_
        exact eX6_refineOthers_94 hk8 _ _ _ _ _ _ _ _ h
      · rw [if_neg c71] at h
        refine EV.sub [0, 1, 3, 4] rfl ?_
        exact eX6_refineOthers_85  _ _ _ _ _ _ h
  · rw [if_neg c69] at h
    cases h
    exact EV.ret0 dX6_refineOthers_72 trivial
set_option maxRecDepth 100000 in
set_option maxHeartbeats 4000000 in
theorem eX6_refineOthers_8 {X : px_X}  : ∀ (m : Nat) (a0 : Nat) (a1 : Int32) (a2 : Nat) (a3 : Int32) (w : px_W) (q : px_W), fX6_refineOthers_8 X  m a0 a1 a2 a3 w = some q → EV X mX6_refineOthers 8 [(0, .ref a0), (1, .int a1), (2, .ref a2), (3, .int a3)] [] w none q := by
  intro m
  induction m with
  | zero => intro a0 a1 a2 a3 w q h; cases h
  | succ m ih =>
    intro a0 a1 a2 a3 w q h
    rw [fX6_refineOthers_8.eq_2] at h
    refine EV.aload_n 0 dX6_refineOthers_8 rfl rfl ?_
    obtain ⟨v72, gv72, h⟩ := px_bs h
    refine ev_gI dX6_refineOthers_9 flRX6_100 gv72 ?_
    refine EV.if_ne 194 dX6_refineOthers_12 (by decide) (fun c73 => ?_) (fun c73 => ?_)
    · rw [if_neg c73] at h
      refine EV.sub [0, 1, 3] rfl ?_
      exact eX6_refineOthers_194  _ _ _ _ _ h
    · rw [if_pos c73] at h
      refine EV.iload_n 3 dX6_refineOthers_15 rfl rfl ?_
      refine EV.aload_n 0 dX6_refineOthers_16 rfl rfl ?_
      obtain ⟨v74, gv74, h⟩ := px_bs h
      refine ev_gR dX6_refineOthers_17 flRX6_12 gv74 ?_
      obtain ⟨v75, gv75, h⟩ := px_bs h
      refine ev_gI dX6_refineOthers_20 flRX6_77 gv75 ?_
      refine EV.icmp_gt 194 dX6_refineOthers_23 (by decide) (fun c76 => ?_) (fun c76 => ?_)
      · rw [if_pos c76] at h
        refine EV.sub [0, 1, 3] rfl ?_
        exact eX6_refineOthers_194  _ _ _ _ _ h
      · rw [if_neg c76] at h
        refine EV.aload_n 0 dX6_refineOthers_26 rfl rfl ?_
        refine EV.aload_n 2 dX6_refineOthers_27 rfl rfl ?_
        obtain ⟨o77, go77, h⟩ := px_bs h
        obtain ⟨q78, gq78, h⟩ := px_bs h
        refine EV.callV (As := [.ref a2]) (rest := []) dX6_refineOthers_28 kcX6_refineOthers_150 (gO_ok go77) rfl rfl rfl (Nat.le_of_ble_eq_true rfl) (Nat.le_of_ble_eq_true rfl) (eX6_takeSymbol gq78) ?_
        refine EV.istore [(4, .int q78.1), (0, .ref a0), (1, .int a1), (2, .ref a2), (3, .int a3)] dX6_refineOthers_31 (by decide) rfl ?_
        refine EV.iload 0 dX6_refineOthers_33 rfl ?_
        refine EV.bipush (16) dX6_refineOthers_35 (by decide) ?_
        obtain ⟨v79, gv79, h⟩ := px_bs h
        refine ev_dI dX6_refineOthers_37 gv79 ?_
        refine EV.istore [(5, .int v79), (4, .int q78.1), (0, .ref a0), (1, .int a1), (2, .ref a2), (3, .int a3)] dX6_refineOthers_38 (by decide) rfl ?_
        refine EV.iload 1 dX6_refineOthers_40 rfl ?_
        refine EV.bipush (16) dX6_refineOthers_42 (by decide) ?_
        obtain ⟨v80, gv80, h⟩ := px_bs h
        refine ev_rI dX6_refineOthers_44 gv80 ?_
        refine EV.istore [(6, .int v80), (5, .int v79), (4, .int q78.1), (0, .ref a0), (1, .int a1), (2, .ref a2), (3, .int a3)] dX6_refineOthers_45 (by decide) rfl ?_
        refine EV.aload_n 3 dX6_refineOthers_47 rfl rfl ?_
        obtain ⟨v81, gv81, h⟩ := px_bs h
        refine ev_gI dX6_refineOthers_48 flRX6_41 gv81 ?_
        refine EV.if_ne 65 dX6_refineOthers_51 (by decide) (fun c82 => ?_) (fun c82 => ?_)
        · rw [if_neg c82] at h
          refine EV.sub [3, 4, 5, 6, 1, 0] rfl ?_
          exact eX6_refineOthers_65 ih _ _ _ _ _ _ _ _ h
        · rw [if_pos c82] at h
          refine EV.iload 0 dX6_refineOthers_54 rfl ?_
          refine EV.iconst (1) dX6_refineOthers_56 (by decide) ?_
          refine EV.icmp_le 65 dX6_refineOthers_57 (by decide) (fun c83 => ?_) (fun c83 => ?_)
          · rw [if_pos c83] at h
            refine EV.sub [3, 4, 5, 6, 1, 0] rfl ?_
            exact eX6_refineOthers_65 ih _ _ _ _ _ _ _ _ h
          · rw [if_neg c83] at h
            refine EV.aload_n 3 dX6_refineOthers_60 rfl rfl ?_
            refine EV.iconst (3) dX6_refineOthers_61 (by decide) ?_
            obtain ⟨w84, gw84, h⟩ := px_bs h
            refine ev_pV dX6_refineOthers_62 flRX6_41 rfl rfl rfl rfl gw84 ?_
            refine EV.sub [3, 4, 5, 6, 1, 0] rfl ?_
            exact eX6_refineOthers_65 ih _ _ _ _ _ _ _ _ h
set_option maxRecDepth 100000 in
set_option maxHeartbeats 4000000 in
theorem eX6_refineOthers {X : px_X} {w : px_W} {a0 : Nat} {a1 : Int32} {a2 : Nat} {q : px_W} (h : fX6_refineOthers X w a0 a1 a2 = some q) : EV X mX6_refineOthers 0 (lv_args 0 [.ref a0, .int a1, .ref a2]) [] w none q := by
  unfold fX6_refineOthers at h
  show EV X mX6_refineOthers 0 [(0, .ref a0), (1, .int a1), (2, .ref a2)] [] w none q
  refine EV.aload_n 0 dX6_refineOthers_0 rfl rfl ?_
  obtain ⟨v85, gv85, h⟩ := px_bs h
  refine ev_gR dX6_refineOthers_1 flRX6_12 gv85 ?_
  obtain ⟨v86, gv86, h⟩ := px_bs h
  refine ev_gI dX6_refineOthers_4 flRX6_67 gv86 ?_
  refine EV.istore_n [(3, .int v86), (0, .ref a0), (1, .int a1), (2, .ref a2)] dX6_refineOthers_7 rfl (by decide) rfl ?_
  refine EV.sub [1, 2, 3, 0] rfl ?_
  exact eX6_refineOthers_8  FU _ _ _ _ _ _ h
/-! WavePictures$ScanReader.endBlock(I)V -/
theorem dX6_endBlock_0 : decode cX6_endBlock 0 = .ok (.aload_n 0, 1) := by decide +kernel
theorem dX6_endBlock_1 : decode cX6_endBlock 1 = .ok (.getfield 12, 3) := by decide +kernel
theorem dX6_endBlock_4 : decode cX6_endBlock 4 = .ok (.invokevirtual 169, 3) := by decide +kernel
theorem dX6_endBlock_7 : decode cX6_endBlock 7 = .ok (.ifCond .ne 21, 3) := by decide +kernel
theorem dX6_endBlock_10 : decode cX6_endBlock 10 = .ok (.aload_n 0, 1) := by decide +kernel
theorem dX6_endBlock_11 : decode cX6_endBlock 11 = .ok (.iload_n 1, 1) := by decide +kernel
theorem dX6_endBlock_12 : decode cX6_endBlock 12 = .ok (.invokevirtual 172, 3) := by decide +kernel
theorem dX6_endBlock_15 : decode cX6_endBlock 15 = .ok (.aload_n 0, 1) := by decide +kernel
theorem dX6_endBlock_16 : decode cX6_endBlock 16 = .ok (.dup, 1) := by decide +kernel
theorem dX6_endBlock_17 : decode cX6_endBlock 17 = .ok (.getfield 100, 3) := by decide +kernel
theorem dX6_endBlock_20 : decode cX6_endBlock 20 = .ok (.iconst 1, 1) := by decide +kernel
theorem dX6_endBlock_21 : decode cX6_endBlock 21 = .ok (.isub, 1) := by decide +kernel
theorem dX6_endBlock_22 : decode cX6_endBlock 22 = .ok (.putfield 100, 3) := by decide +kernel
theorem dX6_endBlock_25 : decode cX6_endBlock 25 = .ok (.goto 12, 3) := by decide +kernel
theorem dX6_endBlock_28 : decode cX6_endBlock 28 = .ok (.iload_n 1, 1) := by decide +kernel
theorem dX6_endBlock_29 : decode cX6_endBlock 29 = .ok (.ifCond .le 8, 3) := by decide +kernel
theorem dX6_endBlock_32 : decode cX6_endBlock 32 = .ok (.aload_n 0, 1) := by decide +kernel
theorem dX6_endBlock_33 : decode cX6_endBlock 33 = .ok (.iconst 3, 1) := by decide +kernel
theorem dX6_endBlock_34 : decode cX6_endBlock 34 = .ok (.putfield 41, 3) := by decide +kernel
theorem dX6_endBlock_37 : decode cX6_endBlock 37 = .ok (.return_, 1) := by decide +kernel
theorem kcX6_endBlock_169 : px_cV mX6_endBlock 169 mX5_isWhole 0 := ⟨⟨mbX5_isWhole, by decide, by decide⟩, Or.inl (tb4 (List.mem_of_getElem? (i := 163) rfl)), vbX5_isWhole⟩
theorem kcX6_endBlock_172 : px_cV mX6_endBlock 172 mX6_startRun 1 := ⟨⟨mbX6_startRun, by decide, by decide⟩, Or.inl (tb4 (List.mem_of_getElem? (i := 139) rfl)), vbX6_startRun⟩
set_option maxRecDepth 100000 in
set_option maxHeartbeats 4000000 in
theorem eX6_endBlock {X : px_X} {w : px_W} {a0 : Nat} {a1 : Int32} {q : px_W} (h : fX6_endBlock X w a0 a1 = some q) : EV X mX6_endBlock 0 (lv_args 0 [.ref a0, .int a1]) [] w none q := by
  unfold fX6_endBlock at h
  show EV X mX6_endBlock 0 [(0, .ref a0), (1, .int a1)] [] w none q
  refine EV.aload_n 0 dX6_endBlock_0 rfl rfl ?_
  obtain ⟨v9, gv9, h⟩ := px_bs h
  refine ev_gR dX6_endBlock_1 flRX6_12 gv9 ?_
  obtain ⟨o10, go10, h⟩ := px_bs h
  obtain ⟨q11, gq11, h⟩ := px_bs h
  refine EV.callV (As := []) (rest := []) dX6_endBlock_4 kcX6_endBlock_169 (gO_ok go10) rfl rfl rfl (Nat.le_of_ble_eq_true rfl) (Nat.le_of_ble_eq_true rfl) (eX5_isWhole gq11) ?_
  refine EV.if_ne 28 dX6_endBlock_7 (by decide) (fun c12 => ?_) (fun c12 => ?_)
  · rw [if_neg c12] at h
    refine EV.iload_n 1 dX6_endBlock_28 rfl rfl ?_
    refine EV.if_le 37 dX6_endBlock_29 (by decide) (fun c13 => ?_) (fun c13 => ?_)
    · rw [if_pos c13] at h
      cases h
      exact EV.ret0 dX6_endBlock_37 trivial
    · rw [if_neg c13] at h
      refine EV.aload_n 0 dX6_endBlock_32 rfl rfl ?_
      refine EV.iconst (3) dX6_endBlock_33 (by decide) ?_
      obtain ⟨w14, gw14, h⟩ := px_bs h
      refine ev_pV dX6_endBlock_34 flRX6_41 rfl rfl rfl rfl gw14 ?_
      cases h
      exact EV.ret0 dX6_endBlock_37 trivial
  · rw [if_pos c12] at h
    refine EV.aload_n 0 dX6_endBlock_10 rfl rfl ?_
    refine EV.iload_n 1 dX6_endBlock_11 rfl rfl ?_
    obtain ⟨o15, go15, h⟩ := px_bs h
    obtain ⟨q16, gq16, h⟩ := px_bs h
    refine EV.callV (As := [.int a1]) (rest := []) dX6_endBlock_12 kcX6_endBlock_172 (gO_ok go15) rfl rfl rfl (Nat.le_of_ble_eq_true rfl) (Nat.le_of_ble_eq_true rfl) (eX6_startRun gq16) ?_
    refine EV.aload_n 0 dX6_endBlock_15 rfl rfl ?_
    refine EV.dup dX6_endBlock_16 rfl ?_
    obtain ⟨v17, gv17, h⟩ := px_bs h
    refine ev_gI dX6_endBlock_17 flRX6_100 gv17 ?_
    refine EV.iconst (1) dX6_endBlock_20 (by decide) ?_
    refine EV.isub dX6_endBlock_21 ?_
    obtain ⟨w18, gw18, h⟩ := px_bs h
    refine ev_pV dX6_endBlock_22 flRX6_100 rfl rfl rfl rfl gw18 ?_
    refine EV.goto 37 dX6_endBlock_25 (by decide) ?_
    cases h
    exact EV.ret0 dX6_endBlock_37 trivial
/-! WavePictures$ScanReader.readOthers(ILWavePictures$Words;)V -/
theorem dX6_readOthers_0 : decode cX6_readOthers 0 = .ok (.aload_n 0, 1) := by decide +kernel
theorem dX6_readOthers_1 : decode cX6_readOthers 1 = .ok (.getfield 100, 3) := by decide +kernel
theorem dX6_readOthers_4 : decode cX6_readOthers 4 = .ok (.ifCond .le 14, 3) := by decide +kernel
theorem dX6_readOthers_7 : decode cX6_readOthers 7 = .ok (.aload_n 0, 1) := by decide +kernel
theorem dX6_readOthers_8 : decode cX6_readOthers 8 = .ok (.dup, 1) := by decide +kernel
theorem dX6_readOthers_9 : decode cX6_readOthers 9 = .ok (.getfield 100, 3) := by decide +kernel
theorem dX6_readOthers_12 : decode cX6_readOthers 12 = .ok (.iconst 1, 1) := by decide +kernel
theorem dX6_readOthers_13 : decode cX6_readOthers 13 = .ok (.isub, 1) := by decide +kernel
theorem dX6_readOthers_14 : decode cX6_readOthers 14 = .ok (.putfield 100, 3) := by decide +kernel
theorem dX6_readOthers_17 : decode cX6_readOthers 17 = .ok (.return_, 1) := by decide +kernel
theorem dX6_readOthers_18 : decode cX6_readOthers 18 = .ok (.iconst 1, 1) := by decide +kernel
theorem dX6_readOthers_19 : decode cX6_readOthers 19 = .ok (.aload_n 0, 1) := by decide +kernel
theorem dX6_readOthers_20 : decode cX6_readOthers 20 = .ok (.getfield 12, 3) := by decide +kernel
theorem dX6_readOthers_23 : decode cX6_readOthers 23 = .ok (.getfield 67, 3) := by decide +kernel
theorem dX6_readOthers_26 : decode cX6_readOthers 26 = .ok (.invokestatic 161, 3) := by decide +kernel
theorem dX6_readOthers_29 : decode cX6_readOthers 29 = .ok (.istore_n 3, 1) := by decide +kernel
theorem dX6_readOthers_30 : decode cX6_readOthers 30 = .ok (.iload_n 3, 1) := by decide +kernel
theorem dX6_readOthers_31 : decode cX6_readOthers 31 = .ok (.aload_n 0, 1) := by decide +kernel
theorem dX6_readOthers_32 : decode cX6_readOthers 32 = .ok (.getfield 12, 3) := by decide +kernel
theorem dX6_readOthers_35 : decode cX6_readOthers 35 = .ok (.getfield 77, 3) := by decide +kernel
theorem dX6_readOthers_38 : decode cX6_readOthers 38 = .ok (.if_icmp .gt 123, 3) := by decide +kernel
theorem dX6_readOthers_41 : decode cX6_readOthers 41 = .ok (.aload_n 0, 1) := by decide +kernel
theorem dX6_readOthers_42 : decode cX6_readOthers 42 = .ok (.getfield 41, 3) := by decide +kernel
theorem dX6_readOthers_45 : decode cX6_readOthers 45 = .ok (.ifCond .ne 116, 3) := by decide +kernel
theorem dX6_readOthers_48 : decode cX6_readOthers 48 = .ok (.aload_n 0, 1) := by decide +kernel
theorem dX6_readOthers_49 : decode cX6_readOthers 49 = .ok (.aload_n 2, 1) := by decide +kernel
theorem dX6_readOthers_50 : decode cX6_readOthers 50 = .ok (.invokevirtual 150, 3) := by decide +kernel
theorem dX6_readOthers_53 : decode cX6_readOthers 53 = .ok (.istore 4, 2) := by decide +kernel
theorem dX6_readOthers_55 : decode cX6_readOthers 55 = .ok (.aload_n 0, 1) := by decide +kernel
theorem dX6_readOthers_56 : decode cX6_readOthers 56 = .ok (.getfield 41, 3) := by decide +kernel
theorem dX6_readOthers_59 : decode cX6_readOthers 59 = .ok (.ifCond .eq 4, 3) := by decide +kernel
theorem dX6_readOthers_62 : decode cX6_readOthers 62 = .ok (.return_, 1) := by decide +kernel
theorem dX6_readOthers_63 : decode cX6_readOthers 63 = .ok (.iload 4, 2) := by decide +kernel
theorem dX6_readOthers_65 : decode cX6_readOthers 65 = .ok (.bipush 16, 2) := by decide +kernel
theorem dX6_readOthers_67 : decode cX6_readOthers 67 = .ok (.idiv, 1) := by decide +kernel
theorem dX6_readOthers_68 : decode cX6_readOthers 68 = .ok (.istore 5, 2) := by decide +kernel
theorem dX6_readOthers_70 : decode cX6_readOthers 70 = .ok (.iload 4, 2) := by decide +kernel
theorem dX6_readOthers_72 : decode cX6_readOthers 72 = .ok (.bipush 16, 2) := by decide +kernel
theorem dX6_readOthers_74 : decode cX6_readOthers 74 = .ok (.irem, 1) := by decide +kernel
theorem dX6_readOthers_75 : decode cX6_readOthers 75 = .ok (.istore 6, 2) := by decide +kernel
theorem dX6_readOthers_77 : decode cX6_readOthers 77 = .ok (.iload 6, 2) := by decide +kernel
theorem dX6_readOthers_79 : decode cX6_readOthers 79 = .ok (.ifCond .ne 17, 3) := by decide +kernel
theorem dX6_readOthers_82 : decode cX6_readOthers 82 = .ok (.iload 5, 2) := by decide +kernel
theorem dX6_readOthers_84 : decode cX6_readOthers 84 = .ok (.bipush 15, 2) := by decide +kernel
theorem dX6_readOthers_86 : decode cX6_readOthers 86 = .ok (.if_icmp .ge 10, 3) := by decide +kernel
theorem dX6_readOthers_89 : decode cX6_readOthers 89 = .ok (.aload_n 0, 1) := by decide +kernel
theorem dX6_readOthers_90 : decode cX6_readOthers 90 = .ok (.iload 5, 2) := by decide +kernel
theorem dX6_readOthers_92 : decode cX6_readOthers 92 = .ok (.invokevirtual 166, 3) := by decide +kernel
theorem dX6_readOthers_95 : decode cX6_readOthers 95 = .ok (.return_, 1) := by decide +kernel
theorem dX6_readOthers_96 : decode cX6_readOthers 96 = .ok (.iload 6, 2) := by decide +kernel
theorem dX6_readOthers_98 : decode cX6_readOthers 98 = .ok (.bipush 10, 2) := by decide +kernel
theorem dX6_readOthers_100 : decode cX6_readOthers 100 = .ok (.if_icmp .gt 17, 3) := by decide +kernel
theorem dX6_readOthers_103 : decode cX6_readOthers 103 = .ok (.iload_n 3, 1) := by decide +kernel
theorem dX6_readOthers_104 : decode cX6_readOthers 104 = .ok (.iload 5, 2) := by decide +kernel
theorem dX6_readOthers_106 : decode cX6_readOthers 106 = .ok (.iadd, 1) := by decide +kernel
theorem dX6_readOthers_107 : decode cX6_readOthers 107 = .ok (.aload_n 0, 1) := by decide +kernel
theorem dX6_readOthers_108 : decode cX6_readOthers 108 = .ok (.getfield 12, 3) := by decide +kernel
theorem dX6_readOthers_111 : decode cX6_readOthers 111 = .ok (.getfield 77, 3) := by decide +kernel
theorem dX6_readOthers_114 : decode cX6_readOthers 114 = .ok (.if_icmp .le 9, 3) := by decide +kernel
theorem dX6_readOthers_117 : decode cX6_readOthers 117 = .ok (.aload_n 0, 1) := by decide +kernel
theorem dX6_readOthers_118 : decode cX6_readOthers 118 = .ok (.iconst 3, 1) := by decide +kernel
theorem dX6_readOthers_119 : decode cX6_readOthers 119 = .ok (.putfield 41, 3) := by decide +kernel
theorem dX6_readOthers_122 : decode cX6_readOthers 122 = .ok (.return_, 1) := by decide +kernel
theorem dX6_readOthers_123 : decode cX6_readOthers 123 = .ok (.iload_n 3, 1) := by decide +kernel
theorem dX6_readOthers_124 : decode cX6_readOthers 124 = .ok (.iload 5, 2) := by decide +kernel
theorem dX6_readOthers_126 : decode cX6_readOthers 126 = .ok (.iadd, 1) := by decide +kernel
theorem dX6_readOthers_127 : decode cX6_readOthers 127 = .ok (.istore_n 3, 1) := by decide +kernel
theorem dX6_readOthers_128 : decode cX6_readOthers 128 = .ok (.iload 6, 2) := by decide +kernel
theorem dX6_readOthers_130 : decode cX6_readOthers 130 = .ok (.ifCond .le 25, 3) := by decide +kernel
theorem dX6_readOthers_133 : decode cX6_readOthers 133 = .ok (.aload_n 0, 1) := by decide +kernel
theorem dX6_readOthers_134 : decode cX6_readOthers 134 = .ok (.iload_n 1, 1) := by decide +kernel
theorem dX6_readOthers_135 : decode cX6_readOthers 135 = .ok (.iload_n 3, 1) := by decide +kernel
theorem dX6_readOthers_136 : decode cX6_readOthers 136 = .ok (.aload_n 0, 1) := by decide +kernel
theorem dX6_readOthers_137 : decode cX6_readOthers 137 = .ok (.iload 6, 2) := by decide +kernel
theorem dX6_readOthers_139 : decode cX6_readOthers 139 = .ok (.invokevirtual 154, 3) := by decide +kernel
theorem dX6_readOthers_142 : decode cX6_readOthers 142 = .ok (.iconst 1, 1) := by decide +kernel
theorem dX6_readOthers_143 : decode cX6_readOthers 143 = .ok (.aload_n 0, 1) := by decide +kernel
theorem dX6_readOthers_144 : decode cX6_readOthers 144 = .ok (.getfield 12, 3) := by decide +kernel
theorem dX6_readOthers_147 : decode cX6_readOthers 147 = .ok (.getfield 147, 3) := by decide +kernel
theorem dX6_readOthers_150 : decode cX6_readOthers 150 = .ok (.ishl, 1) := by decide +kernel
theorem dX6_readOthers_151 : decode cX6_readOthers 151 = .ok (.imul, 1) := by decide +kernel
theorem dX6_readOthers_152 : decode cX6_readOthers 152 = .ok (.invokevirtual 157, 3) := by decide +kernel
theorem dX6_readOthers_155 : decode cX6_readOthers 155 = .ok (.iinc 3 1, 3) := by decide +kernel
theorem dX6_readOthers_158 : decode cX6_readOthers 158 = .ok (.goto (-128), 3) := by decide +kernel
theorem dX6_readOthers_161 : decode cX6_readOthers 161 = .ok (.return_, 1) := by decide +kernel
theorem kcX6_readOthers_150 : px_cV mX6_readOthers 150 mX6_takeSymbol 1 := ⟨⟨mbX6_takeSymbol, by decide, by decide⟩, Or.inl (tb4 (List.mem_of_getElem? (i := 111) rfl)), vbX6_takeSymbol⟩
theorem kcX6_readOthers_154 : px_cV mX6_readOthers 154 mX6_takeNumber 1 := ⟨⟨mbX6_takeNumber, by decide, by decide⟩, Or.inl (tb4 (List.mem_of_getElem? (i := 123) rfl)), vbX6_takeNumber⟩
theorem kcX6_readOthers_157 : px_cV mX6_readOthers 157 mX6_setCoefficientOf 3 := ⟨⟨mbX6_setCoefficientOf, by decide, by decide⟩, Or.inl (tb4 (List.mem_of_getElem? (i := 131) rfl)), vbX6_setCoefficientOf⟩
theorem mbX6_endBlock : px_mB mX6_endBlock 1 := ⟨tb4 (List.mem_of_getElem? (i := 162) rfl), by decide +kernel, tb1 (List.mem_of_getElem? (i := 9) rfl), by decide +kernel, by decide +kernel⟩
theorem vbX6_endBlock : px_vB mX6_endBlock := ⟨tb4 (List.mem_of_getElem? (i := 161) rfl), List.mem_append_left _ (List.mem_of_getElem? (i := 46) (by decide +kernel))⟩
theorem kcX6_readOthers_166 : px_cV mX6_readOthers 166 mX6_endBlock 1 := ⟨⟨mbX6_endBlock, by decide, by decide⟩, Or.inl (tb4 (List.mem_of_getElem? (i := 159) rfl)), vbX6_endBlock⟩
set_option maxRecDepth 100000 in
set_option maxHeartbeats 4000000 in
theorem eX6_readOthers_155 {X : px_X} {k30 : Nat → Int32 → Nat → Int32 → px_W → Option (px_W)} (hk30 : ∀ (a0 : Nat) (a1 : Int32) (a2 : Nat) (a3 : Int32) (w : px_W) (q : px_W), k30 a0 a1 a2 a3 w = some q → EV X mX6_readOthers 30 [(0, .ref a0), (1, .int a1), (2, .ref a2), (3, .int a3)] [] w none q) : ∀ (a0 : Nat) (a1 : Int32) (a2 : Nat) (a3 : Int32) (w : px_W) (q : px_W), fX6_readOthers_155 X k30 a0 a1 a2 a3 w = some q → EV X mX6_readOthers 155 [(0, .ref a0), (1, .int a1), (2, .ref a2), (3, .int a3)] [] w none q := by
  intro a0 a1 a2 a3 w q h
  unfold fX6_readOthers_155 at h
  refine EV.iinc 3 (a3 + 1) [(3, .int (a3 + 1)), (0, .ref a0), (1, .int a1), (2, .ref a2)] dX6_readOthers_155 rfl rfl (by decide) rfl ?_
  refine EV.goto 30 dX6_readOthers_158 (by decide) ?_
  refine EV.sub [1, 2, 3, 0] rfl ?_
  exact hk30 _ _ _ _ _ _ h
set_option maxRecDepth 100000 in
set_option maxHeartbeats 4000000 in
theorem eX6_readOthers_117 {X : px_X}  : ∀ (a0 : Nat) (w : px_W) (q : px_W), fX6_readOthers_117 X  a0 w = some q → EV X mX6_readOthers 117 [(0, .ref a0)] [] w none q := by
  intro a0 w q h
  unfold fX6_readOthers_117 at h
  refine EV.aload_n 0 dX6_readOthers_117 rfl rfl ?_
  refine EV.iconst (3) dX6_readOthers_118 (by decide) ?_
  obtain ⟨w25, gw25, h⟩ := px_bs h
  refine ev_pV dX6_readOthers_119 flRX6_41 rfl rfl rfl rfl gw25 ?_
  cases h
  exact EV.ret0 dX6_readOthers_122 trivial
set_option maxRecDepth 100000 in
set_option maxHeartbeats 4000000 in
theorem eX6_readOthers_96 {X : px_X} {k30 : Nat → Int32 → Nat → Int32 → px_W → Option (px_W)} (hk30 : ∀ (a0 : Nat) (a1 : Int32) (a2 : Nat) (a3 : Int32) (w : px_W) (q : px_W), k30 a0 a1 a2 a3 w = some q → EV X mX6_readOthers 30 [(0, .ref a0), (1, .int a1), (2, .ref a2), (3, .int a3)] [] w none q) : ∀ (a0 : Nat) (a1 : Int32) (a2 : Nat) (a3 : Int32) (a5 : Int32) (a6 : Int32) (w : px_W) (q : px_W), fX6_readOthers_96 X k30 a0 a1 a2 a3 a5 a6 w = some q → EV X mX6_readOthers 96 [(0, .ref a0), (1, .int a1), (2, .ref a2), (3, .int a3), (5, .int a5), (6, .int a6)] [] w none q := by
  intro a0 a1 a2 a3 a5 a6 w q h
  unfold fX6_readOthers_96 at h
  refine EV.iload 5 dX6_readOthers_96 rfl ?_
  refine EV.bipush (10) dX6_readOthers_98 (by decide) ?_
  refine EV.icmp_gt 117 dX6_readOthers_100 (by decide) (fun c26 => ?_) (fun c26 => ?_)
  · rw [if_pos c26] at h
    refine EV.sub [0] rfl ?_
    exact eX6_readOthers_117  _ _ _ h
  · rw [if_neg c26] at h
    refine EV.iload_n 3 dX6_readOthers_103 rfl rfl ?_
    refine EV.iload 4 dX6_readOthers_104 rfl ?_
    refine EV.iadd dX6_readOthers_106 ?_
    refine EV.aload_n 0 dX6_readOthers_107 rfl rfl ?_
    obtain ⟨v27, gv27, h⟩ := px_bs h
    refine ev_gR dX6_readOthers_108 flRX6_12 gv27 ?_
    obtain ⟨v28, gv28, h⟩ := px_bs h
    refine ev_gI dX6_readOthers_111 flRX6_77 gv28 ?_
    refine EV.icmp_le 123 dX6_readOthers_114 (by decide) (fun c29 => ?_) (fun c29 => ?_)
    · rw [if_pos c29] at h
      refine EV.iload_n 3 dX6_readOthers_123 rfl rfl ?_
      refine EV.iload 4 dX6_readOthers_124 rfl ?_
      refine EV.iadd dX6_readOthers_126 ?_
      refine EV.istore_n [(3, .int (a3 + a5)), (0, .ref a0), (1, .int a1), (2, .ref a2), (5, .int a5), (6, .int a6)] dX6_readOthers_127 rfl (by decide) rfl ?_
      refine EV.iload 5 dX6_readOthers_128 rfl ?_
      refine EV.if_le 155 dX6_readOthers_130 (by decide) (fun c30 => ?_) (fun c30 => ?_)
      · rw [if_pos c30] at h
        refine EV.sub [1, 2, 3, 0] rfl ?_
        exact eX6_readOthers_155 hk30 _ _ _ _ _ _ h
      · rw [if_neg c30] at h
        refine EV.aload_n 1 dX6_readOthers_133 rfl rfl ?_
        refine EV.iload_n 2 dX6_readOthers_134 rfl rfl ?_
        refine EV.iload_n 0 dX6_readOthers_135 rfl rfl ?_
        refine EV.aload_n 1 dX6_readOthers_136 rfl rfl ?_
        refine EV.iload 5 dX6_readOthers_137 rfl ?_
        obtain ⟨o31, go31, h⟩ := px_bs h
        obtain ⟨q32, gq32, h⟩ := px_bs h
        refine EV.callV (As := [.int a6]) (rest := [.int (a3 + a5), .int a1, .ref a0]) dX6_readOthers_139 kcX6_readOthers_154 (gO_ok go31) rfl rfl rfl (Nat.le_of_ble_eq_true rfl) (Nat.le_of_ble_eq_true rfl) (eX6_takeNumber gq32) ?_
        refine EV.iconst (1) dX6_readOthers_142 (by decide) ?_
        refine EV.aload_n 1 dX6_readOthers_143 rfl rfl ?_
        obtain ⟨v33, gv33, h⟩ := px_bs h
        refine ev_gR dX6_readOthers_144 flRX6_12 gv33 ?_
        obtain ⟨v34, gv34, h⟩ := px_bs h
        refine ev_gI dX6_readOthers_147 flRX6_147 gv34 ?_
        refine EV.ishl dX6_readOthers_150 ?_
        refine EV.imul dX6_readOthers_151 ?_
        obtain ⟨o35, go35, h⟩ := px_bs h
        obtain ⟨q36, gq36, h⟩ := px_bs h
        refine EV.callV (As := [.int a1, .int (a3 + a5), .int (q32.1 * ((1 : Int32) <<< (v34 &&& 31)))]) (rest := []) dX6_readOthers_152 kcX6_readOthers_157 (gO_ok go35) rfl rfl rfl (Nat.le_of_ble_eq_true rfl) (Nat.le_of_ble_eq_true rfl) (eX6_setCoefficientOf gq36) ?_
        refine EV.sub [1, 2, 3, 0] rfl ?_
        exact eX6_readOthers_155 hk30 _ _ _ _ _ _ h
    · rw [if_neg c29] at h
      refine EV.sub [0] rfl ?_
      exact eX6_readOthers_117  _ _ _ h
set_option maxRecDepth 100000 in
set_option maxHeartbeats 4000000 in
theorem eX6_readOthers_89 {X : px_X}  : ∀ (a0 : Nat) (a5 : Int32) (w : px_W) (q : px_W), fX6_readOthers_89 X  a0 a5 w = some q → EV X mX6_readOthers 89 [(0, .ref a0), (5, .int a5)] [] w none q := by
  intro a0 a5 w q h
  unfold fX6_readOthers_89 at h
  refine EV.aload_n 0 dX6_readOthers_89 rfl rfl ?_
  refine EV.iload 1 dX6_readOthers_90 rfl ?_
  obtain ⟨o37, go37, h⟩ := px_bs h
  obtain ⟨q38, gq38, h⟩ := px_bs h
  refine EV.callV (As := [.int a5]) (rest := []) dX6_readOthers_92 kcX6_readOthers_166 (gO_ok go37) rfl rfl rfl (Nat.le_of_ble_eq_true rfl) (Nat.le_of_ble_eq_true rfl) (eX6_endBlock gq38) ?_
  cases h
  exact EV.ret0 dX6_readOthers_95 trivial
set_option maxRecDepth 100000 in
set_option maxHeartbeats 4000000 in
theorem eX6_readOthers_30 {X : px_X}  : ∀ (m : Nat) (a0 : Nat) (a1 : Int32) (a2 : Nat) (a3 : Int32) (w : px_W) (q : px_W), fX6_readOthers_30 X  m a0 a1 a2 a3 w = some q → EV X mX6_readOthers 30 [(0, .ref a0), (1, .int a1), (2, .ref a2), (3, .int a3)] [] w none q := by
  intro m
  induction m with
  | zero => intro a0 a1 a2 a3 w q h; cases h
  | succ m ih =>
    intro a0 a1 a2 a3 w q h
    rw [fX6_readOthers_30.eq_2] at h
    refine EV.iload_n 3 dX6_readOthers_30 rfl rfl ?_
    refine EV.aload_n 0 dX6_readOthers_31 rfl rfl ?_
    obtain ⟨v39, gv39, h⟩ := px_bs h
    refine ev_gR dX6_readOthers_32 flRX6_12 gv39 ?_
    obtain ⟨v40, gv40, h⟩ := px_bs h
    refine ev_gI dX6_readOthers_35 flRX6_77 gv40 ?_
    refine EV.icmp_gt 161 dX6_readOthers_38 (by decide) (fun c41 => ?_) (fun c41 => ?_)
    · rw [if_pos c41] at h
      cases h
      exact EV.ret0 dX6_readOthers_161 trivial
    · rw [if_neg c41] at h
      refine EV.aload_n 0 dX6_readOthers_41 rfl rfl ?_
      obtain ⟨v42, gv42, h⟩ := px_bs h
      refine ev_gI dX6_readOthers_42 flRX6_41 gv42 ?_
      refine EV.if_ne 161 dX6_readOthers_45 (by decide) (fun c43 => ?_) (fun c43 => ?_)
      · rw [if_neg c43] at h
        cases h
        exact EV.ret0 dX6_readOthers_161 trivial
      · rw [if_pos c43] at h
        refine EV.aload_n 0 dX6_readOthers_48 rfl rfl ?_
        refine EV.aload_n 2 dX6_readOthers_49 rfl rfl ?_
        obtain ⟨o44, go44, h⟩ := px_bs h
        obtain ⟨q45, gq45, h⟩ := px_bs h
        refine EV.callV (As := [.ref a2]) (rest := []) dX6_readOthers_50 kcX6_readOthers_150 (gO_ok go44) rfl rfl rfl (Nat.le_of_ble_eq_true rfl) (Nat.le_of_ble_eq_true rfl) (eX6_takeSymbol gq45) ?_
        refine EV.istore [(4, .int q45.1), (0, .ref a0), (1, .int a1), (2, .ref a2), (3, .int a3)] dX6_readOthers_53 (by decide) rfl ?_
        refine EV.aload_n 1 dX6_readOthers_55 rfl rfl ?_
        obtain ⟨v46, gv46, h⟩ := px_bs h
        refine ev_gI dX6_readOthers_56 flRX6_41 gv46 ?_
        refine EV.if_eq 63 dX6_readOthers_59 (by decide) (fun c47 => ?_) (fun c47 => ?_)
        · rw [if_pos c47] at h
          refine EV.iload 0 dX6_readOthers_63 rfl ?_
          refine EV.bipush (16) dX6_readOthers_65 (by decide) ?_
          obtain ⟨v48, gv48, h⟩ := px_bs h
          refine ev_dI dX6_readOthers_67 gv48 ?_
          refine EV.istore [(5, .int v48), (4, .int q45.1), (0, .ref a0), (1, .int a1), (2, .ref a2), (3, .int a3)] dX6_readOthers_68 (by decide) rfl ?_
          refine EV.iload 1 dX6_readOthers_70 rfl ?_
          refine EV.bipush (16) dX6_readOthers_72 (by decide) ?_
          obtain ⟨v49, gv49, h⟩ := px_bs h
          refine ev_rI dX6_readOthers_74 gv49 ?_
          refine EV.istore [(6, .int v49), (5, .int v48), (4, .int q45.1), (0, .ref a0), (1, .int a1), (2, .ref a2), (3, .int a3)] dX6_readOthers_75 (by decide) rfl ?_
          refine EV.iload 0 dX6_readOthers_77 rfl ?_
          refine EV.if_ne 96 dX6_readOthers_79 (by decide) (fun c50 => ?_) (fun c50 => ?_)
          · rw [if_neg c50] at h
            refine EV.sub [3, 4, 5, 6, 1, 0] rfl ?_
            exact eX6_readOthers_96 ih _ _ _ _ _ _ _ _ h
          · rw [if_pos c50] at h
            refine EV.iload 1 dX6_readOthers_82 rfl ?_
            refine EV.bipush (15) dX6_readOthers_84 (by decide) ?_
            refine EV.icmp_ge 96 dX6_readOthers_86 (by decide) (fun c51 => ?_) (fun c51 => ?_)
            · rw [if_pos c51] at h
              refine EV.sub [3, 4, 5, 6, 1, 0] rfl ?_
              exact eX6_readOthers_96 ih _ _ _ _ _ _ _ _ h
            · rw [if_neg c51] at h
              refine EV.sub [3, 1] rfl ?_
              exact eX6_readOthers_89  _ _ _ _ h
        · rw [if_neg c47] at h
          cases h
          exact EV.ret0 dX6_readOthers_62 trivial
set_option maxRecDepth 100000 in
set_option maxHeartbeats 4000000 in
theorem eX6_readOthers {X : px_X} {w : px_W} {a0 : Nat} {a1 : Int32} {a2 : Nat} {q : px_W} (h : fX6_readOthers X w a0 a1 a2 = some q) : EV X mX6_readOthers 0 (lv_args 0 [.ref a0, .int a1, .ref a2]) [] w none q := by
  unfold fX6_readOthers at h
  show EV X mX6_readOthers 0 [(0, .ref a0), (1, .int a1), (2, .ref a2)] [] w none q
  refine EV.aload_n 0 dX6_readOthers_0 rfl rfl ?_
  obtain ⟨v52, gv52, h⟩ := px_bs h
  refine ev_gI dX6_readOthers_1 flRX6_100 gv52 ?_
  refine EV.if_le 18 dX6_readOthers_4 (by decide) (fun c53 => ?_) (fun c53 => ?_)
  · rw [if_pos c53] at h
    refine EV.iconst (1) dX6_readOthers_18 (by decide) ?_
    refine EV.aload_n 0 dX6_readOthers_19 rfl rfl ?_
    obtain ⟨v54, gv54, h⟩ := px_bs h
    refine ev_gR dX6_readOthers_20 flRX6_12 gv54 ?_
    obtain ⟨v55, gv55, h⟩ := px_bs h
    refine ev_gI dX6_readOthers_23 flRX6_67 gv55 ?_
    refine EV.mmax dX6_readOthers_26 (tb4 (List.mem_of_getElem? (i := 158) rfl)) (by decide) (by decide) (Nat.le_of_ble_eq_true rfl) ?_
    refine EV.istore_n [(3, .int (mmax 1 v55)), (0, .ref a0), (1, .int a1), (2, .ref a2)] dX6_readOthers_29 rfl (by decide) rfl ?_
    refine EV.sub [1, 2, 3, 0] rfl ?_
    exact eX6_readOthers_30  FU _ _ _ _ _ _ h
  · rw [if_neg c53] at h
    refine EV.aload_n 0 dX6_readOthers_7 rfl rfl ?_
    refine EV.dup dX6_readOthers_8 rfl ?_
    obtain ⟨v56, gv56, h⟩ := px_bs h
    refine ev_gI dX6_readOthers_9 flRX6_100 gv56 ?_
    refine EV.iconst (1) dX6_readOthers_12 (by decide) ?_
    refine EV.isub dX6_readOthers_13 ?_
    obtain ⟨w57, gw57, h⟩ := px_bs h
    refine ev_pV dX6_readOthers_14 flRX6_100 rfl rfl rfl rfl gw57 ?_
    cases h
    exact EV.ret0 dX6_readOthers_17 trivial
/-! WavePictures$ScanReader.read(LWavePictures$Picture;LWavePictures$Scan;[LWavePictures$Words;I)I -/
theorem dX6_read_0 : decode cX6_read 0 = .ok (.aload_n 0, 1) := by decide +kernel
theorem dX6_read_1 : decode cX6_read 1 = .ok (.aload_n 1, 1) := by decide +kernel
theorem dX6_read_2 : decode cX6_read 2 = .ok (.putfield 26, 3) := by decide +kernel
theorem dX6_read_5 : decode cX6_read 5 = .ok (.aload_n 0, 1) := by decide +kernel
theorem dX6_read_6 : decode cX6_read 6 = .ok (.aload_n 2, 1) := by decide +kernel
theorem dX6_read_7 : decode cX6_read 7 = .ok (.putfield 12, 3) := by decide +kernel
theorem dX6_read_10 : decode cX6_read 10 = .ok (.aload_n 0, 1) := by decide +kernel
theorem dX6_read_11 : decode cX6_read 11 = .ok (.getfield 12, 3) := by decide +kernel
theorem dX6_read_14 : decode cX6_read 14 = .ok (.aload_n 0, 1) := by decide +kernel
theorem dX6_read_15 : decode cX6_read 15 = .ok (.getfield 26, 3) := by decide +kernel
theorem dX6_read_18 : decode cX6_read 18 = .ok (.invokevirtual 30, 3) := by decide +kernel
theorem dX6_read_21 : decode cX6_read 21 = .ok (.aload_n 0, 1) := by decide +kernel
theorem dX6_read_22 : decode cX6_read 22 = .ok (.aload_n 0, 1) := by decide +kernel
theorem dX6_read_23 : decode cX6_read 23 = .ok (.getfield 12, 3) := by decide +kernel
theorem dX6_read_26 : decode cX6_read 26 = .ok (.getfield 34, 3) := by decide +kernel
theorem dX6_read_29 : decode cX6_read 29 = .ok (.putfield 38, 3) := by decide +kernel
theorem dX6_read_32 : decode cX6_read 32 = .ok (.aload_n 0, 1) := by decide +kernel
theorem dX6_read_33 : decode cX6_read 33 = .ok (.iconst 0, 1) := by decide +kernel
theorem dX6_read_34 : decode cX6_read 34 = .ok (.putfield 41, 3) := by decide +kernel
theorem dX6_read_37 : decode cX6_read 37 = .ok (.aload_n 0, 1) := by decide +kernel
theorem dX6_read_38 : decode cX6_read 38 = .ok (.iconst 0, 1) := by decide +kernel
theorem dX6_read_39 : decode cX6_read 39 = .ok (.putfield 44, 3) := by decide +kernel
theorem dX6_read_42 : decode cX6_read 42 = .ok (.aload_n 0, 1) := by decide +kernel
theorem dX6_read_43 : decode cX6_read 43 = .ok (.invokevirtual 47, 3) := by decide +kernel
theorem dX6_read_46 : decode cX6_read 46 = .ok (.iconst 0, 1) := by decide +kernel
theorem dX6_read_47 : decode cX6_read 47 = .ok (.istore 5, 2) := by decide +kernel
theorem dX6_read_49 : decode cX6_read 49 = .ok (.iload 5, 2) := by decide +kernel
theorem dX6_read_51 : decode cX6_read 51 = .ok (.aload_n 0, 1) := by decide +kernel
theorem dX6_read_52 : decode cX6_read 52 = .ok (.getfield 12, 3) := by decide +kernel
theorem dX6_read_55 : decode cX6_read 55 = .ok (.getfield 50, 3) := by decide +kernel
theorem dX6_read_58 : decode cX6_read 58 = .ok (.if_icmp .ge 222, 3) := by decide +kernel
theorem dX6_read_61 : decode cX6_read 61 = .ok (.aload_n 0, 1) := by decide +kernel
theorem dX6_read_62 : decode cX6_read 62 = .ok (.getfield 41, 3) := by decide +kernel
theorem dX6_read_65 : decode cX6_read 65 = .ok (.ifCond .ne 215, 3) := by decide +kernel
theorem dX6_read_68 : decode cX6_read 68 = .ok (.iload 4, 2) := by decide +kernel
theorem dX6_read_70 : decode cX6_read 70 = .ok (.ifCond .le 34, 3) := by decide +kernel
theorem dX6_read_73 : decode cX6_read 73 = .ok (.iload 5, 2) := by decide +kernel
theorem dX6_read_75 : decode cX6_read 75 = .ok (.ifCond .le 29, 3) := by decide +kernel
theorem dX6_read_78 : decode cX6_read 78 = .ok (.iload 5, 2) := by decide +kernel
theorem dX6_read_80 : decode cX6_read 80 = .ok (.iload 4, 2) := by decide +kernel
theorem dX6_read_82 : decode cX6_read 82 = .ok (.irem, 1) := by decide +kernel
theorem dX6_read_83 : decode cX6_read 83 = .ok (.ifCond .ne 21, 3) := by decide +kernel
theorem dX6_read_86 : decode cX6_read 86 = .ok (.aload_n 0, 1) := by decide +kernel
theorem dX6_read_87 : decode cX6_read 87 = .ok (.sipush 208, 3) := by decide +kernel
theorem dX6_read_90 : decode cX6_read 90 = .ok (.iload 5, 2) := by decide +kernel
theorem dX6_read_92 : decode cX6_read 92 = .ok (.iload 4, 2) := by decide +kernel
theorem dX6_read_94 : decode cX6_read 94 = .ok (.idiv, 1) := by decide +kernel
theorem dX6_read_95 : decode cX6_read 95 = .ok (.iconst 1, 1) := by decide +kernel
theorem dX6_read_96 : decode cX6_read 96 = .ok (.isub, 1) := by decide +kernel
theorem dX6_read_97 : decode cX6_read 97 = .ok (.bipush 8, 2) := by decide +kernel
theorem dX6_read_99 : decode cX6_read 99 = .ok (.irem, 1) := by decide +kernel
theorem dX6_read_100 : decode cX6_read 100 = .ok (.iadd, 1) := by decide +kernel
theorem dX6_read_101 : decode cX6_read 101 = .ok (.invokevirtual 53, 3) := by decide +kernel
theorem dX6_read_104 : decode cX6_read 104 = .ok (.iconst 0, 1) := by decide +kernel
theorem dX6_read_105 : decode cX6_read 105 = .ok (.istore 6, 2) := by decide +kernel
theorem dX6_read_107 : decode cX6_read 107 = .ok (.iload 6, 2) := by decide +kernel
theorem dX6_read_109 : decode cX6_read 109 = .ok (.aload_n 0, 1) := by decide +kernel
theorem dX6_read_110 : decode cX6_read 110 = .ok (.getfield 12, 3) := by decide +kernel
theorem dX6_read_113 : decode cX6_read 113 = .ok (.getfield 57, 3) := by decide +kernel
theorem dX6_read_116 : decode cX6_read 116 = .ok (.if_icmp .ge 158, 3) := by decide +kernel
theorem dX6_read_119 : decode cX6_read 119 = .ok (.aload_n 0, 1) := by decide +kernel
theorem dX6_read_120 : decode cX6_read 120 = .ok (.getfield 41, 3) := by decide +kernel
theorem dX6_read_123 : decode cX6_read 123 = .ok (.ifCond .ne 151, 3) := by decide +kernel
theorem dX6_read_126 : decode cX6_read 126 = .ok (.aload_n 0, 1) := by decide +kernel
theorem dX6_read_127 : decode cX6_read 127 = .ok (.getfield 12, 3) := by decide +kernel
theorem dX6_read_130 : decode cX6_read 130 = .ok (.getfield 60, 3) := by decide +kernel
theorem dX6_read_133 : decode cX6_read 133 = .ok (.iload 6, 2) := by decide +kernel
theorem dX6_read_135 : decode cX6_read 135 = .ok (.iaload, 1) := by decide +kernel
theorem dX6_read_136 : decode cX6_read 136 = .ok (.istore 7, 2) := by decide +kernel
theorem dX6_read_138 : decode cX6_read 138 = .ok (.bipush 64, 2) := by decide +kernel
theorem dX6_read_140 : decode cX6_read 140 = .ok (.aload_n 0, 1) := by decide +kernel
theorem dX6_read_141 : decode cX6_read 141 = .ok (.getfield 12, 3) := by decide +kernel
theorem dX6_read_144 : decode cX6_read 144 = .ok (.aload_n 0, 1) := by decide +kernel
theorem dX6_read_145 : decode cX6_read 145 = .ok (.getfield 26, 3) := by decide +kernel
theorem dX6_read_148 : decode cX6_read 148 = .ok (.iload 5, 2) := by decide +kernel
theorem dX6_read_150 : decode cX6_read 150 = .ok (.iload 6, 2) := by decide +kernel
theorem dX6_read_152 : decode cX6_read 152 = .ok (.invokevirtual 63, 3) := by decide +kernel
theorem dX6_read_155 : decode cX6_read 155 = .ok (.imul, 1) := by decide +kernel
theorem dX6_read_156 : decode cX6_read 156 = .ok (.istore 8, 2) := by decide +kernel
theorem dX6_read_158 : decode cX6_read 158 = .ok (.aload_n 0, 1) := by decide +kernel
theorem dX6_read_159 : decode cX6_read 159 = .ok (.getfield 12, 3) := by decide +kernel
theorem dX6_read_162 : decode cX6_read 162 = .ok (.getfield 67, 3) := by decide +kernel
theorem dX6_read_165 : decode cX6_read 165 = .ok (.ifCond .ne 23, 3) := by decide +kernel
theorem dX6_read_168 : decode cX6_read 168 = .ok (.aload_n 0, 1) := by decide +kernel
theorem dX6_read_169 : decode cX6_read 169 = .ok (.iload 8, 2) := by decide +kernel
theorem dX6_read_171 : decode cX6_read 171 = .ok (.iload 7, 2) := by decide +kernel
theorem dX6_read_173 : decode cX6_read 173 = .ok (.aload_n 3, 1) := by decide +kernel
theorem dX6_read_174 : decode cX6_read 174 = .ok (.aload_n 0, 1) := by decide +kernel
theorem dX6_read_175 : decode cX6_read 175 = .ok (.getfield 12, 3) := by decide +kernel
theorem dX6_read_178 : decode cX6_read 178 = .ok (.getfield 70, 3) := by decide +kernel
theorem dX6_read_181 : decode cX6_read 181 = .ok (.iload 7, 2) := by decide +kernel
theorem dX6_read_183 : decode cX6_read 183 = .ok (.iaload, 1) := by decide +kernel
theorem dX6_read_184 : decode cX6_read 184 = .ok (.aaload, 1) := by decide +kernel
theorem dX6_read_185 : decode cX6_read 185 = .ok (.invokevirtual 73, 3) := by decide +kernel
theorem dX6_read_188 : decode cX6_read 188 = .ok (.aload_n 0, 1) := by decide +kernel
theorem dX6_read_189 : decode cX6_read 189 = .ok (.getfield 12, 3) := by decide +kernel
theorem dX6_read_192 : decode cX6_read 192 = .ok (.getfield 77, 3) := by decide +kernel
theorem dX6_read_195 : decode cX6_read 195 = .ok (.ifCond .le 36, 3) := by decide +kernel
theorem dX6_read_198 : decode cX6_read 198 = .ok (.aload_n 0, 1) := by decide +kernel
theorem dX6_read_199 : decode cX6_read 199 = .ok (.getfield 12, 3) := by decide +kernel
theorem dX6_read_202 : decode cX6_read 202 = .ok (.invokevirtual 80, 3) := by decide +kernel
theorem dX6_read_205 : decode cX6_read 205 = .ok (.ifCond .eq 26, 3) := by decide +kernel
theorem dX6_read_208 : decode cX6_read 208 = .ok (.aload_n 0, 1) := by decide +kernel
theorem dX6_read_209 : decode cX6_read 209 = .ok (.iload 8, 2) := by decide +kernel
theorem dX6_read_211 : decode cX6_read 211 = .ok (.aload_n 3, 1) := by decide +kernel
theorem dX6_read_212 : decode cX6_read 212 = .ok (.iconst 4, 1) := by decide +kernel
theorem dX6_read_213 : decode cX6_read 213 = .ok (.aload_n 0, 1) := by decide +kernel
theorem dX6_read_214 : decode cX6_read 214 = .ok (.getfield 12, 3) := by decide +kernel
theorem dX6_read_217 : decode cX6_read 217 = .ok (.getfield 84, 3) := by decide +kernel
theorem dX6_read_220 : decode cX6_read 220 = .ok (.iload 7, 2) := by decide +kernel
theorem dX6_read_222 : decode cX6_read 222 = .ok (.iaload, 1) := by decide +kernel
theorem dX6_read_223 : decode cX6_read 223 = .ok (.iadd, 1) := by decide +kernel
theorem dX6_read_224 : decode cX6_read 224 = .ok (.aaload, 1) := by decide +kernel
theorem dX6_read_225 : decode cX6_read 225 = .ok (.invokevirtual 87, 3) := by decide +kernel
theorem dX6_read_228 : decode cX6_read 228 = .ok (.goto 40, 3) := by decide +kernel
theorem dX6_read_231 : decode cX6_read 231 = .ok (.aload_n 0, 1) := by decide +kernel
theorem dX6_read_232 : decode cX6_read 232 = .ok (.getfield 12, 3) := by decide +kernel
theorem dX6_read_235 : decode cX6_read 235 = .ok (.getfield 77, 3) := by decide +kernel
theorem dX6_read_238 : decode cX6_read 238 = .ok (.ifCond .le 30, 3) := by decide +kernel
theorem dX6_read_241 : decode cX6_read 241 = .ok (.aload_n 0, 1) := by decide +kernel
theorem dX6_read_242 : decode cX6_read 242 = .ok (.getfield 41, 3) := by decide +kernel
theorem dX6_read_245 : decode cX6_read 245 = .ok (.ifCond .ne 23, 3) := by decide +kernel
theorem dX6_read_248 : decode cX6_read 248 = .ok (.aload_n 0, 1) := by decide +kernel
theorem dX6_read_249 : decode cX6_read 249 = .ok (.iload 8, 2) := by decide +kernel
theorem dX6_read_251 : decode cX6_read 251 = .ok (.aload_n 3, 1) := by decide +kernel
theorem dX6_read_252 : decode cX6_read 252 = .ok (.iconst 4, 1) := by decide +kernel
theorem dX6_read_253 : decode cX6_read 253 = .ok (.aload_n 0, 1) := by decide +kernel
theorem dX6_read_254 : decode cX6_read 254 = .ok (.getfield 12, 3) := by decide +kernel
theorem dX6_read_257 : decode cX6_read 257 = .ok (.getfield 84, 3) := by decide +kernel
theorem dX6_read_260 : decode cX6_read 260 = .ok (.iload 7, 2) := by decide +kernel
theorem dX6_read_262 : decode cX6_read 262 = .ok (.iaload, 1) := by decide +kernel
theorem dX6_read_263 : decode cX6_read 263 = .ok (.iadd, 1) := by decide +kernel
theorem dX6_read_264 : decode cX6_read 264 = .ok (.aaload, 1) := by decide +kernel
theorem dX6_read_265 : decode cX6_read 265 = .ok (.invokevirtual 91, 3) := by decide +kernel
theorem dX6_read_268 : decode cX6_read 268 = .ok (.iinc 6 1, 3) := by decide +kernel
theorem dX6_read_271 : decode cX6_read 271 = .ok (.goto (-164), 3) := by decide +kernel
theorem dX6_read_274 : decode cX6_read 274 = .ok (.iinc 5 1, 3) := by decide +kernel
theorem dX6_read_277 : decode cX6_read 277 = .ok (.goto (-228), 3) := by decide +kernel
theorem dX6_read_280 : decode cX6_read 280 = .ok (.aload_n 0, 1) := by decide +kernel
theorem dX6_read_281 : decode cX6_read 281 = .ok (.getfield 41, 3) := by decide +kernel
theorem dX6_read_284 : decode cX6_read 284 = .ok (.ifCond .ne 7, 3) := by decide +kernel
theorem dX6_read_287 : decode cX6_read 287 = .ok (.aload_n 0, 1) := by decide +kernel
theorem dX6_read_288 : decode cX6_read 288 = .ok (.invokevirtual 94, 3) := by decide +kernel
theorem dX6_read_291 : decode cX6_read 291 = .ok (.aload_n 0, 1) := by decide +kernel
theorem dX6_read_292 : decode cX6_read 292 = .ok (.getfield 41, 3) := by decide +kernel
theorem dX6_read_295 : decode cX6_read 295 = .ok (.ifCond .ne 22, 3) := by decide +kernel
theorem dX6_read_298 : decode cX6_read 298 = .ok (.aload_n 0, 1) := by decide +kernel
theorem dX6_read_299 : decode cX6_read 299 = .ok (.getfield 38, 3) := by decide +kernel
theorem dX6_read_302 : decode cX6_read 302 = .ok (.aload_n 0, 1) := by decide +kernel
theorem dX6_read_303 : decode cX6_read 303 = .ok (.getfield 12, 3) := by decide +kernel
theorem dX6_read_306 : decode cX6_read 306 = .ok (.getfield 97, 3) := by decide +kernel
theorem dX6_read_309 : decode cX6_read 309 = .ok (.if_icmp .eq 8, 3) := by decide +kernel
theorem dX6_read_312 : decode cX6_read 312 = .ok (.aload_n 0, 1) := by decide +kernel
theorem dX6_read_313 : decode cX6_read 313 = .ok (.iconst 5, 1) := by decide +kernel
theorem dX6_read_314 : decode cX6_read 314 = .ok (.putfield 41, 3) := by decide +kernel
theorem dX6_read_317 : decode cX6_read 317 = .ok (.aload_n 0, 1) := by decide +kernel
theorem dX6_read_318 : decode cX6_read 318 = .ok (.getfield 41, 3) := by decide +kernel
theorem dX6_read_321 : decode cX6_read 321 = .ok (.ifCond .ne 7, 3) := by decide +kernel
theorem dX6_read_324 : decode cX6_read 324 = .ok (.iconst 0, 1) := by decide +kernel
theorem dX6_read_325 : decode cX6_read 325 = .ok (.goto 10, 3) := by decide +kernel
theorem dX6_read_328 : decode cX6_read 328 = .ok (.bipush 10, 2) := by decide +kernel
theorem dX6_read_330 : decode cX6_read 330 = .ok (.aload_n 0, 1) := by decide +kernel
theorem dX6_read_331 : decode cX6_read 331 = .ok (.getfield 41, 3) := by decide +kernel
theorem dX6_read_334 : decode cX6_read 334 = .ok (.iadd, 1) := by decide +kernel
theorem dX6_read_335 : decode cX6_read 335 = .ok (.ireturn, 1) := by decide +kernel
theorem flRX6_34 : px_f RX6 34 5 9 := ⟨_, rfl, by decide, Or.inl (tb1 (List.mem_of_getElem? (i := 217) rfl))⟩
theorem flRX6_50 : px_f RX6 50 5 11 := ⟨_, rfl, by decide, Or.inl (tb1 (List.mem_of_getElem? (i := 221) rfl))⟩
theorem flRX6_57 : px_f RX6 57 5 13 := ⟨_, rfl, by decide, Or.inl (tb1 (List.mem_of_getElem? (i := 225) rfl))⟩
theorem flRX6_60 : px_f RX6 60 5 14 := ⟨_, rfl, by decide, Or.inl (tb1 (List.mem_of_getElem? (i := 229) rfl))⟩
theorem flRX6_70 : px_f RX6 70 5 6 := ⟨_, rfl, by decide, Or.inl (tb1 (List.mem_of_getElem? (i := 210) rfl))⟩
theorem flRX6_84 : px_f RX6 84 5 7 := ⟨_, rfl, by decide, Or.inl (tb1 (List.mem_of_getElem? (i := 213) rfl))⟩
theorem kcX6_read_30 : px_cV mX6_read 30 mX5_layOut 1 := ⟨⟨mbX5_layOut, by decide, by decide⟩, Or.inl (tb4 (List.mem_of_getElem? (i := 58) rfl)), vbX5_layOut⟩
theorem kcX6_read_47 : px_cV mX6_read 47 mX6_begin 0 := ⟨⟨mbX6_begin, by decide, by decide⟩, Or.inl (tb4 (List.mem_of_getElem? (i := 77) rfl)), vbX6_begin⟩
theorem mbX6_passRestart : px_mB mX6_passRestart 1 := ⟨tb4 (List.mem_of_getElem? (i := 85) rfl), by decide +kernel, tb1 (List.mem_of_getElem? (i := 9) rfl), by decide +kernel, by decide +kernel⟩
theorem vbX6_passRestart : px_vB mX6_passRestart := ⟨tb4 (List.mem_of_getElem? (i := 84) rfl), List.mem_append_left _ (List.mem_of_getElem? (i := 32) (by decide +kernel))⟩
theorem kcX6_read_53 : px_cV mX6_read 53 mX6_passRestart 1 := ⟨⟨mbX6_passRestart, by decide, by decide⟩, Or.inl (tb4 (List.mem_of_getElem? (i := 82) rfl)), vbX6_passRestart⟩
theorem kcX6_read_63 : px_cV mX6_read 63 mX5_blockAt 3 := ⟨⟨mbX5_blockAt, by decide, by decide⟩, Or.inl (tb4 (List.mem_of_getElem? (i := 91) rfl)), vbX5_blockAt⟩
theorem mbX6_readDirect : px_mB mX6_readDirect 3 := ⟨tb4 (List.mem_of_getElem? (i := 98) rfl), by decide +kernel, tb1 (List.mem_of_getElem? (i := 9) rfl), by decide +kernel, by decide +kernel⟩
theorem vbX6_readDirect : px_vB mX6_readDirect := ⟨tb4 (List.mem_of_getElem? (i := 97) rfl), List.mem_append_left _ (List.mem_of_getElem? (i := 34) (by decide +kernel))⟩
theorem kcX6_read_73 : px_cV mX6_read 73 mX6_readDirect 3 := ⟨⟨mbX6_readDirect, by decide, by decide⟩, Or.inl (tb4 (List.mem_of_getElem? (i := 95) rfl)), vbX6_readDirect⟩
theorem kcX6_read_80 : px_cV mX6_read 80 mX5_isRefinement 0 := ⟨⟨mbX5_isRefinement, by decide, by decide⟩, Or.inl (tb4 (List.mem_of_getElem? (i := 99) rfl)), vbX5_isRefinement⟩
theorem mbX6_refineOthers : px_mB mX6_refineOthers 2 := ⟨tb4 (List.mem_of_getElem? (i := 138) rfl), by decide +kernel, tb1 (List.mem_of_getElem? (i := 9) rfl), by decide +kernel, by decide +kernel⟩
theorem vbX6_refineOthers : px_vB mX6_refineOthers := ⟨tb4 (List.mem_of_getElem? (i := 137) rfl), List.mem_append_left _ (List.mem_of_getElem? (i := 41) (by decide +kernel))⟩
theorem kcX6_read_87 : px_cV mX6_read 87 mX6_refineOthers 2 := ⟨⟨mbX6_refineOthers, by decide, by decide⟩, Or.inl (tb4 (List.mem_of_getElem? (i := 135) rfl)), vbX6_refineOthers⟩
theorem mbX6_readOthers : px_mB mX6_readOthers 2 := ⟨tb4 (List.mem_of_getElem? (i := 157) rfl), by decide +kernel, tb1 (List.mem_of_getElem? (i := 9) rfl), by decide +kernel, by decide +kernel⟩
theorem vbX6_readOthers : px_vB mX6_readOthers := ⟨tb4 (List.mem_of_getElem? (i := 156) rfl), List.mem_append_left _ (List.mem_of_getElem? (i := 45) (by decide +kernel))⟩
theorem kcX6_read_91 : px_cV mX6_read 91 mX6_readOthers 2 := ⟨⟨mbX6_readOthers, by decide, by decide⟩, Or.inl (tb4 (List.mem_of_getElem? (i := 154) rfl)), vbX6_readOthers⟩
theorem kcX6_read_94 : px_cV mX6_read 94 mX6_endBits 0 := ⟨⟨mbX6_endBits, by decide, by decide⟩, Or.inl (tb4 (List.mem_of_getElem? (i := 86) rfl)), vbX6_endBits⟩
set_option maxRecDepth 100000 in
set_option maxHeartbeats 4000000 in
theorem eX6_read_317 {X : px_X}  : ∀ (a0 : Nat) (w : px_W) (q : Int32 × px_W), fX6_read_317 X  a0 w = some q → EV X mX6_read 317 [(0, .ref a0)] [] w (some (.int q.1)) q.2 := by
  intro a0 w q h
  unfold fX6_read_317 at h
  refine EV.aload_n 0 dX6_read_317 rfl rfl ?_
  obtain ⟨v70, gv70, h⟩ := px_bs h
  refine ev_gI dX6_read_318 flRX6_41 gv70 ?_
  refine EV.if_ne 328 dX6_read_321 (by decide) (fun c71 => ?_) (fun c71 => ?_)
  · rw [if_neg c71] at h
    refine EV.bipush (10) dX6_read_328 (by decide) ?_
    refine EV.aload_n 0 dX6_read_330 rfl rfl ?_
    obtain ⟨v72, gv72, h⟩ := px_bs h
    refine ev_gI dX6_read_331 flRX6_41 gv72 ?_
    refine EV.iadd dX6_read_334 ?_
    cases h
    exact EV.reti dX6_read_335 rfl
  · rw [if_pos c71] at h
    refine EV.iconst (0) dX6_read_324 (by decide) ?_
    refine EV.goto 335 dX6_read_325 (by decide) ?_
    cases h
    exact EV.reti dX6_read_335 rfl
set_option maxRecDepth 100000 in
set_option maxHeartbeats 4000000 in
theorem eX6_read_291 {X : px_X}  : ∀ (a0 : Nat) (w : px_W) (q : Int32 × px_W), fX6_read_291 X  a0 w = some q → EV X mX6_read 291 [(0, .ref a0)] [] w (some (.int q.1)) q.2 := by
  intro a0 w q h
  unfold fX6_read_291 at h
  refine EV.aload_n 0 dX6_read_291 rfl rfl ?_
  obtain ⟨v73, gv73, h⟩ := px_bs h
  refine ev_gI dX6_read_292 flRX6_41 gv73 ?_
  refine EV.if_ne 317 dX6_read_295 (by decide) (fun c74 => ?_) (fun c74 => ?_)
  · rw [if_neg c74] at h
    refine EV.sub [0] rfl ?_
    exact eX6_read_317  _ _ _ h
  · rw [if_pos c74] at h
    refine EV.aload_n 0 dX6_read_298 rfl rfl ?_
    obtain ⟨v75, gv75, h⟩ := px_bs h
    refine ev_gI dX6_read_299 flRX6_38 gv75 ?_
    refine EV.aload_n 0 dX6_read_302 rfl rfl ?_
    obtain ⟨v76, gv76, h⟩ := px_bs h
    refine ev_gR dX6_read_303 flRX6_12 gv76 ?_
    obtain ⟨v77, gv77, h⟩ := px_bs h
    refine ev_gI dX6_read_306 flRX6_97 gv77 ?_
    refine EV.icmp_eq 317 dX6_read_309 (by decide) (fun c78 => ?_) (fun c78 => ?_)
    · rw [if_pos c78] at h
      refine EV.sub [0] rfl ?_
      exact eX6_read_317  _ _ _ h
    · rw [if_neg c78] at h
      refine EV.aload_n 0 dX6_read_312 rfl rfl ?_
      refine EV.iconst (5) dX6_read_313 (by decide) ?_
      obtain ⟨w79, gw79, h⟩ := px_bs h
      refine ev_pV dX6_read_314 flRX6_41 rfl rfl rfl rfl gw79 ?_
      refine EV.sub [0] rfl ?_
      exact eX6_read_317  _ _ _ h
set_option maxRecDepth 100000 in
set_option maxHeartbeats 4000000 in
theorem eX6_read_280 {X : px_X}  : ∀ (a0 : Nat) (w : px_W) (q : Int32 × px_W), fX6_read_280 X  a0 w = some q → EV X mX6_read 280 [(0, .ref a0)] [] w (some (.int q.1)) q.2 := by
  intro a0 w q h
  unfold fX6_read_280 at h
  refine EV.aload_n 0 dX6_read_280 rfl rfl ?_
  obtain ⟨v80, gv80, h⟩ := px_bs h
  refine ev_gI dX6_read_281 flRX6_41 gv80 ?_
  refine EV.if_ne 291 dX6_read_284 (by decide) (fun c81 => ?_) (fun c81 => ?_)
  · rw [if_neg c81] at h
    refine EV.sub [0] rfl ?_
    exact eX6_read_291  _ _ _ h
  · rw [if_pos c81] at h
    refine EV.aload_n 0 dX6_read_287 rfl rfl ?_
    obtain ⟨o82, go82, h⟩ := px_bs h
    obtain ⟨q83, gq83, h⟩ := px_bs h
    refine EV.callV (As := []) (rest := []) dX6_read_288 kcX6_read_94 (gO_ok go82) rfl rfl rfl (Nat.le_of_ble_eq_true rfl) (Nat.le_of_ble_eq_true rfl) (eX6_endBits gq83) ?_
    refine EV.sub [0] rfl ?_
    exact eX6_read_291  _ _ _ h
set_option maxRecDepth 100000 in
set_option maxHeartbeats 4000000 in
theorem eX6_read_274 {X : px_X} {k49 : Nat → Nat → Int32 → Int32 → px_W → Option (Int32 × px_W)} (hk49 : ∀ (a0 : Nat) (a3 : Nat) (a4 : Int32) (a5 : Int32) (w : px_W) (q : Int32 × px_W), k49 a0 a3 a4 a5 w = some q → EV X mX6_read 49 [(0, .ref a0), (3, .ref a3), (4, .int a4), (5, .int a5)] [] w (some (.int q.1)) q.2) : ∀ (a0 : Nat) (a3 : Nat) (a4 : Int32) (a5 : Int32) (w : px_W) (q : Int32 × px_W), fX6_read_274 X k49 a0 a3 a4 a5 w = some q → EV X mX6_read 274 [(0, .ref a0), (3, .ref a3), (4, .int a4), (5, .int a5)] [] w (some (.int q.1)) q.2 := by
  intro a0 a3 a4 a5 w q h
  unfold fX6_read_274 at h
  refine EV.iinc 3 (a5 + 1) [(5, .int (a5 + 1)), (0, .ref a0), (3, .ref a3), (4, .int a4)] dX6_read_274 rfl rfl (by decide) rfl ?_
  refine EV.goto 49 dX6_read_277 (by decide) ?_
  refine EV.sub [1, 2, 3, 0] rfl ?_
  exact hk49 _ _ _ _ _ _ h
set_option maxRecDepth 100000 in
set_option maxHeartbeats 4000000 in
theorem eX6_read_268 {X : px_X} {k49 : Nat → Nat → Int32 → Int32 → px_W → Option (Int32 × px_W)} (hk49 : ∀ (a0 : Nat) (a3 : Nat) (a4 : Int32) (a5 : Int32) (w : px_W) (q : Int32 × px_W), k49 a0 a3 a4 a5 w = some q → EV X mX6_read 49 [(0, .ref a0), (3, .ref a3), (4, .int a4), (5, .int a5)] [] w (some (.int q.1)) q.2) {k107 : Nat → Nat → Int32 → Int32 → Int32 → px_W → Option (Int32 × px_W)} (hk107 : ∀ (a0 : Nat) (a3 : Nat) (a4 : Int32) (a5 : Int32) (a6 : Int32) (w : px_W) (q : Int32 × px_W), k107 a0 a3 a4 a5 a6 w = some q → EV X mX6_read 107 [(0, .ref a0), (3, .ref a3), (4, .int a4), (5, .int a5), (6, .int a6)] [] w (some (.int q.1)) q.2) : ∀ (a0 : Nat) (a3 : Nat) (a4 : Int32) (a5 : Int32) (a6 : Int32) (w : px_W) (q : Int32 × px_W), fX6_read_268 X k49 k107 a0 a3 a4 a5 a6 w = some q → EV X mX6_read 268 [(0, .ref a0), (3, .ref a3), (4, .int a4), (5, .int a5), (6, .int a6)] [] w (some (.int q.1)) q.2 := by
  intro a0 a3 a4 a5 a6 w q h
  unfold fX6_read_268 at h
  refine EV.iinc 4 (a6 + 1) [(6, .int (a6 + 1)), (0, .ref a0), (3, .ref a3), (4, .int a4), (5, .int a5)] dX6_read_268 rfl rfl (by decide) rfl ?_
  refine EV.goto 107 dX6_read_271 (by decide) ?_
  refine EV.sub [1, 2, 3, 4, 0] rfl ?_
  exact hk107 _ _ _ _ _ _ _ h
set_option maxRecDepth 100000 in
set_option maxHeartbeats 4000000 in
theorem eX6_read_231 {X : px_X} {k49 : Nat → Nat → Int32 → Int32 → px_W → Option (Int32 × px_W)} (hk49 : ∀ (a0 : Nat) (a3 : Nat) (a4 : Int32) (a5 : Int32) (w : px_W) (q : Int32 × px_W), k49 a0 a3 a4 a5 w = some q → EV X mX6_read 49 [(0, .ref a0), (3, .ref a3), (4, .int a4), (5, .int a5)] [] w (some (.int q.1)) q.2) {k107 : Nat → Nat → Int32 → Int32 → Int32 → px_W → Option (Int32 × px_W)} (hk107 : ∀ (a0 : Nat) (a3 : Nat) (a4 : Int32) (a5 : Int32) (a6 : Int32) (w : px_W) (q : Int32 × px_W), k107 a0 a3 a4 a5 a6 w = some q → EV X mX6_read 107 [(0, .ref a0), (3, .ref a3), (4, .int a4), (5, .int a5), (6, .int a6)] [] w (some (.int q.1)) q.2) : ∀ (a0 : Nat) (a3 : Nat) (a4 : Int32) (a5 : Int32) (a6 : Int32) (a7 : Int32) (a8 : Int32) (w : px_W) (q : Int32 × px_W), fX6_read_231 X k49 k107 a0 a3 a4 a5 a6 a7 a8 w = some q → EV X mX6_read 231 [(0, .ref a0), (3, .ref a3), (4, .int a4), (5, .int a5), (6, .int a6), (7, .int a7), (8, .int a8)] [] w (some (.int q.1)) q.2 := by
  intro a0 a3 a4 a5 a6 a7 a8 w q h
  unfold fX6_read_231 at h
  refine EV.aload_n 0 dX6_read_231 rfl rfl ?_
  obtain ⟨v84, gv84, h⟩ := px_bs h
  refine ev_gR dX6_read_232 flRX6_12 gv84 ?_
  obtain ⟨v85, gv85, h⟩ := px_bs h
  refine ev_gI dX6_read_235 flRX6_77 gv85 ?_
  refine EV.if_le 268 dX6_read_238 (by decide) (fun c86 => ?_) (fun c86 => ?_)
  · rw [if_pos c86] at h
    refine EV.sub [0, 1, 2, 3, 4] rfl ?_
    exact eX6_read_268 hk49 hk107 _ _ _ _ _ _ _ h
  · rw [if_neg c86] at h
    refine EV.aload_n 0 dX6_read_241 rfl rfl ?_
    obtain ⟨v87, gv87, h⟩ := px_bs h
    refine ev_gI dX6_read_242 flRX6_41 gv87 ?_
    refine EV.if_ne 268 dX6_read_245 (by decide) (fun c88 => ?_) (fun c88 => ?_)
    · rw [if_neg c88] at h
      refine EV.sub [0, 1, 2, 3, 4] rfl ?_
      exact eX6_read_268 hk49 hk107 _ _ _ _ _ _ _ h
    · rw [if_pos c88] at h
      refine EV.aload_n 0 dX6_read_248 rfl rfl ?_
      refine EV.iload 6 dX6_read_249 rfl ?_
      refine EV.aload_n 1 dX6_read_251 rfl rfl ?_
      refine EV.iconst (4) dX6_read_252 (by decide) ?_
      refine EV.aload_n 0 dX6_read_253 rfl rfl ?_
      obtain ⟨v89, gv89, h⟩ := px_bs h
      refine ev_gR dX6_read_254 flRX6_12 gv89 ?_
      obtain ⟨v90, gv90, h⟩ := px_bs h
      refine ev_gR dX6_read_257 flRX6_84 gv90 ?_
      refine EV.iload 5 dX6_read_260 rfl ?_
      obtain ⟨v91, gv91, h⟩ := px_bs h
      refine ev_aI dX6_read_262 gv91 ?_
      refine EV.iadd dX6_read_263 ?_
      obtain ⟨v92, gv92, h⟩ := px_bs h
      refine ev_aQ dX6_read_264 (t := 7) rfl gv92 ?_
      obtain ⟨o93, go93, h⟩ := px_bs h
      obtain ⟨q94, gq94, h⟩ := px_bs h
      refine EV.callV (As := [.int a8, .ref v92]) (rest := []) dX6_read_265 kcX6_read_91 (gO_ok go93) rfl rfl rfl (Nat.le_of_ble_eq_true rfl) (Nat.le_of_ble_eq_true rfl) (eX6_readOthers gq94) ?_
      refine EV.sub [0, 1, 2, 3, 4] rfl ?_
      exact eX6_read_268 hk49 hk107 _ _ _ _ _ _ _ h
set_option maxRecDepth 100000 in
set_option maxHeartbeats 4000000 in
theorem eX6_read_188 {X : px_X} {k49 : Nat → Nat → Int32 → Int32 → px_W → Option (Int32 × px_W)} (hk49 : ∀ (a0 : Nat) (a3 : Nat) (a4 : Int32) (a5 : Int32) (w : px_W) (q : Int32 × px_W), k49 a0 a3 a4 a5 w = some q → EV X mX6_read 49 [(0, .ref a0), (3, .ref a3), (4, .int a4), (5, .int a5)] [] w (some (.int q.1)) q.2) {k107 : Nat → Nat → Int32 → Int32 → Int32 → px_W → Option (Int32 × px_W)} (hk107 : ∀ (a0 : Nat) (a3 : Nat) (a4 : Int32) (a5 : Int32) (a6 : Int32) (w : px_W) (q : Int32 × px_W), k107 a0 a3 a4 a5 a6 w = some q → EV X mX6_read 107 [(0, .ref a0), (3, .ref a3), (4, .int a4), (5, .int a5), (6, .int a6)] [] w (some (.int q.1)) q.2) : ∀ (a0 : Nat) (a3 : Nat) (a4 : Int32) (a5 : Int32) (a6 : Int32) (a7 : Int32) (a8 : Int32) (w : px_W) (q : Int32 × px_W), fX6_read_188 X k49 k107 a0 a3 a4 a5 a6 a7 a8 w = some q → EV X mX6_read 188 [(0, .ref a0), (3, .ref a3), (4, .int a4), (5, .int a5), (6, .int a6), (7, .int a7), (8, .int a8)] [] w (some (.int q.1)) q.2 := by
  intro a0 a3 a4 a5 a6 a7 a8 w q h
  unfold fX6_read_188 at h
  refine EV.aload_n 0 dX6_read_188 rfl rfl ?_
  obtain ⟨v95, gv95, h⟩ := px_bs h
  refine ev_gR dX6_read_189 flRX6_12 gv95 ?_
  obtain ⟨v96, gv96, h⟩ := px_bs h
  refine ev_gI dX6_read_192 flRX6_77 gv96 ?_
  refine EV.if_le 231 dX6_read_195 (by decide) (fun c97 => ?_) (fun c97 => ?_)
  · rw [if_pos c97] at h
    refine EV.sub [0, 1, 2, 3, 4, 5, 6] rfl ?_
    exact eX6_read_231 hk49 hk107 _ _ _ _ _ _ _ _ _ h
  · rw [if_neg c97] at h
    refine EV.aload_n 0 dX6_read_198 rfl rfl ?_
    obtain ⟨v98, gv98, h⟩ := px_bs h
    refine ev_gR dX6_read_199 flRX6_12 gv98 ?_
    obtain ⟨o99, go99, h⟩ := px_bs h
    obtain ⟨q100, gq100, h⟩ := px_bs h
    refine EV.callV (As := []) (rest := []) dX6_read_202 kcX6_read_80 (gO_ok go99) rfl rfl rfl (Nat.le_of_ble_eq_true rfl) (Nat.le_of_ble_eq_true rfl) (eX5_isRefinement gq100) ?_
    refine EV.if_eq 231 dX6_read_205 (by decide) (fun c101 => ?_) (fun c101 => ?_)
    · rw [if_pos c101] at h
      refine EV.sub [0, 1, 2, 3, 4, 5, 6] rfl ?_
      exact eX6_read_231 hk49 hk107 _ _ _ _ _ _ _ _ _ h
    · rw [if_neg c101] at h
      refine EV.aload_n 0 dX6_read_208 rfl rfl ?_
      refine EV.iload 6 dX6_read_209 rfl ?_
      refine EV.aload_n 1 dX6_read_211 rfl rfl ?_
      refine EV.iconst (4) dX6_read_212 (by decide) ?_
      refine EV.aload_n 0 dX6_read_213 rfl rfl ?_
      obtain ⟨v102, gv102, h⟩ := px_bs h
      refine ev_gR dX6_read_214 flRX6_12 gv102 ?_
      obtain ⟨v103, gv103, h⟩ := px_bs h
      refine ev_gR dX6_read_217 flRX6_84 gv103 ?_
      refine EV.iload 5 dX6_read_220 rfl ?_
      obtain ⟨v104, gv104, h⟩ := px_bs h
      refine ev_aI dX6_read_222 gv104 ?_
      refine EV.iadd dX6_read_223 ?_
      obtain ⟨v105, gv105, h⟩ := px_bs h
      refine ev_aQ dX6_read_224 (t := 7) rfl gv105 ?_
      obtain ⟨o106, go106, h⟩ := px_bs h
      obtain ⟨q107, gq107, h⟩ := px_bs h
      refine EV.callV (As := [.int a8, .ref v105]) (rest := []) dX6_read_225 kcX6_read_87 (gO_ok go106) rfl rfl rfl (Nat.le_of_ble_eq_true rfl) (Nat.le_of_ble_eq_true rfl) (eX6_refineOthers gq107) ?_
      refine EV.goto 268 dX6_read_228 (by decide) ?_
      refine EV.sub [0, 1, 2, 3, 4] rfl ?_
      exact eX6_read_268 hk49 hk107 _ _ _ _ _ _ _ h
set_option maxRecDepth 100000 in
set_option maxHeartbeats 4000000 in
theorem eX6_read_107 {X : px_X} {k49 : Nat → Nat → Int32 → Int32 → px_W → Option (Int32 × px_W)} (hk49 : ∀ (a0 : Nat) (a3 : Nat) (a4 : Int32) (a5 : Int32) (w : px_W) (q : Int32 × px_W), k49 a0 a3 a4 a5 w = some q → EV X mX6_read 49 [(0, .ref a0), (3, .ref a3), (4, .int a4), (5, .int a5)] [] w (some (.int q.1)) q.2) : ∀ (m : Nat) (a0 : Nat) (a3 : Nat) (a4 : Int32) (a5 : Int32) (a6 : Int32) (w : px_W) (q : Int32 × px_W), fX6_read_107 X k49 m a0 a3 a4 a5 a6 w = some q → EV X mX6_read 107 [(0, .ref a0), (3, .ref a3), (4, .int a4), (5, .int a5), (6, .int a6)] [] w (some (.int q.1)) q.2 := by
  intro m
  induction m with
  | zero => intro a0 a3 a4 a5 a6 w q h; cases h
  | succ m ih =>
    intro a0 a3 a4 a5 a6 w q h
    rw [fX6_read_107.eq_2] at h
    refine EV.iload 4 dX6_read_107 rfl ?_
    refine EV.aload_n 0 dX6_read_109 rfl rfl ?_
    obtain ⟨v108, gv108, h⟩ := px_bs h
    refine ev_gR dX6_read_110 flRX6_12 gv108 ?_
    obtain ⟨v109, gv109, h⟩ := px_bs h
    refine ev_gI dX6_read_113 flRX6_57 gv109 ?_
    refine EV.icmp_ge 274 dX6_read_116 (by decide) (fun c110 => ?_) (fun c110 => ?_)
    · rw [if_pos c110] at h
      refine EV.sub [0, 1, 2, 3] rfl ?_
      exact eX6_read_274 hk49 _ _ _ _ _ _ h
    · rw [if_neg c110] at h
      refine EV.aload_n 0 dX6_read_119 rfl rfl ?_
      obtain ⟨v111, gv111, h⟩ := px_bs h
      refine ev_gI dX6_read_120 flRX6_41 gv111 ?_
      refine EV.if_ne 274 dX6_read_123 (by decide) (fun c112 => ?_) (fun c112 => ?_)
      · rw [if_neg c112] at h
        refine EV.sub [0, 1, 2, 3] rfl ?_
        exact eX6_read_274 hk49 _ _ _ _ _ _ h
      · rw [if_pos c112] at h
        refine EV.aload_n 0 dX6_read_126 rfl rfl ?_
        obtain ⟨v113, gv113, h⟩ := px_bs h
        refine ev_gR dX6_read_127 flRX6_12 gv113 ?_
        obtain ⟨v114, gv114, h⟩ := px_bs h
        refine ev_gR dX6_read_130 flRX6_60 gv114 ?_
        refine EV.iload 4 dX6_read_133 rfl ?_
        obtain ⟨v115, gv115, h⟩ := px_bs h
        refine ev_aI dX6_read_135 gv115 ?_
        refine EV.istore [(7, .int v115), (0, .ref a0), (3, .ref a3), (4, .int a4), (5, .int a5), (6, .int a6)] dX6_read_136 (by decide) rfl ?_
        refine EV.bipush (64) dX6_read_138 (by decide) ?_
        refine EV.aload_n 1 dX6_read_140 rfl rfl ?_
        obtain ⟨v116, gv116, h⟩ := px_bs h
        refine ev_gR dX6_read_141 flRX6_12 gv116 ?_
        refine EV.aload_n 1 dX6_read_144 rfl rfl ?_
        obtain ⟨v117, gv117, h⟩ := px_bs h
        refine ev_gR dX6_read_145 flRX6_26 gv117 ?_
        refine EV.iload 4 dX6_read_148 rfl ?_
        refine EV.iload 5 dX6_read_150 rfl ?_
        obtain ⟨o118, go118, h⟩ := px_bs h
        obtain ⟨q119, gq119, h⟩ := px_bs h
        refine EV.callV (As := [.ref v117, .int a5, .int a6]) (rest := [.int 64]) dX6_read_152 kcX6_read_63 (gO_ok go118) rfl rfl rfl (Nat.le_of_ble_eq_true rfl) (Nat.le_of_ble_eq_true rfl) (eX5_blockAt gq119) ?_
        refine EV.imul dX6_read_155 ?_
        refine EV.istore [(8, .int (64 * q119.1)), (7, .int v115), (0, .ref a0), (3, .ref a3), (4, .int a4), (5, .int a5), (6, .int a6)] dX6_read_156 (by decide) rfl ?_
        refine EV.aload_n 2 dX6_read_158 rfl rfl ?_
        obtain ⟨v120, gv120, h⟩ := px_bs h
        refine ev_gR dX6_read_159 flRX6_12 gv120 ?_
        obtain ⟨v121, gv121, h⟩ := px_bs h
        refine ev_gI dX6_read_162 flRX6_67 gv121 ?_
        refine EV.if_ne 188 dX6_read_165 (by decide) (fun c122 => ?_) (fun c122 => ?_)
        · rw [if_neg c122] at h
          refine EV.sub [2, 3, 4, 5, 6, 1, 0] rfl ?_
          exact eX6_read_188 hk49 ih _ _ _ _ _ _ _ _ _ h
        · rw [if_pos c122] at h
          refine EV.aload_n 2 dX6_read_168 rfl rfl ?_
          refine EV.iload 0 dX6_read_169 rfl ?_
          refine EV.iload 1 dX6_read_171 rfl ?_
          refine EV.aload_n 3 dX6_read_173 rfl rfl ?_
          refine EV.aload_n 2 dX6_read_174 rfl rfl ?_
          obtain ⟨v123, gv123, h⟩ := px_bs h
          refine ev_gR dX6_read_175 flRX6_12 gv123 ?_
          obtain ⟨v124, gv124, h⟩ := px_bs h
          refine ev_gR dX6_read_178 flRX6_70 gv124 ?_
          refine EV.iload 1 dX6_read_181 rfl ?_
          obtain ⟨v125, gv125, h⟩ := px_bs h
          refine ev_aI dX6_read_183 gv125 ?_
          obtain ⟨v126, gv126, h⟩ := px_bs h
          refine ev_aQ dX6_read_184 (t := 7) rfl gv126 ?_
          obtain ⟨o127, go127, h⟩ := px_bs h
          obtain ⟨q128, gq128, h⟩ := px_bs h
          refine EV.callV (As := [.int (64 * q119.1), .int v115, .ref v126]) (rest := []) dX6_read_185 kcX6_read_73 (gO_ok go127) rfl rfl rfl (Nat.le_of_ble_eq_true rfl) (Nat.le_of_ble_eq_true rfl) (eX6_readDirect gq128) ?_
          refine EV.sub [2, 3, 4, 5, 6, 1, 0] rfl ?_
          exact eX6_read_188 hk49 ih _ _ _ _ _ _ _ _ _ h
set_option maxRecDepth 100000 in
set_option maxHeartbeats 4000000 in
theorem eX6_read_104 {X : px_X} {k49 : Nat → Nat → Int32 → Int32 → px_W → Option (Int32 × px_W)} (hk49 : ∀ (a0 : Nat) (a3 : Nat) (a4 : Int32) (a5 : Int32) (w : px_W) (q : Int32 × px_W), k49 a0 a3 a4 a5 w = some q → EV X mX6_read 49 [(0, .ref a0), (3, .ref a3), (4, .int a4), (5, .int a5)] [] w (some (.int q.1)) q.2) : ∀ (a0 : Nat) (a3 : Nat) (a4 : Int32) (a5 : Int32) (w : px_W) (q : Int32 × px_W), fX6_read_104 X k49 a0 a3 a4 a5 w = some q → EV X mX6_read 104 [(0, .ref a0), (3, .ref a3), (4, .int a4), (5, .int a5)] [] w (some (.int q.1)) q.2 := by
  intro a0 a3 a4 a5 w q h
  unfold fX6_read_104 at h
  refine EV.iconst (0) dX6_read_104 (by decide) ?_
  refine EV.istore [(6, .int 0), (0, .ref a0), (3, .ref a3), (4, .int a4), (5, .int a5)] dX6_read_105 (by decide) rfl ?_
  refine EV.sub [1, 2, 3, 4, 0] rfl ?_
  exact eX6_read_107 hk49 FU _ _ _ _ _ _ _ h
set_option maxRecDepth 100000 in
set_option maxHeartbeats 4000000 in
theorem eX6_read_49 {X : px_X}  : ∀ (m : Nat) (a0 : Nat) (a3 : Nat) (a4 : Int32) (a5 : Int32) (w : px_W) (q : Int32 × px_W), fX6_read_49 X  m a0 a3 a4 a5 w = some q → EV X mX6_read 49 [(0, .ref a0), (3, .ref a3), (4, .int a4), (5, .int a5)] [] w (some (.int q.1)) q.2 := by
  intro m
  induction m with
  | zero => intro a0 a3 a4 a5 w q h; cases h
  | succ m ih =>
    intro a0 a3 a4 a5 w q h
    rw [fX6_read_49.eq_2] at h
    refine EV.iload 3 dX6_read_49 rfl ?_
    refine EV.aload_n 0 dX6_read_51 rfl rfl ?_
    obtain ⟨v129, gv129, h⟩ := px_bs h
    refine ev_gR dX6_read_52 flRX6_12 gv129 ?_
    obtain ⟨v130, gv130, h⟩ := px_bs h
    refine ev_gI dX6_read_55 flRX6_50 gv130 ?_
    refine EV.icmp_ge 280 dX6_read_58 (by decide) (fun c131 => ?_) (fun c131 => ?_)
    · rw [if_pos c131] at h
      refine EV.sub [0] rfl ?_
      exact eX6_read_280  _ _ _ h
    · rw [if_neg c131] at h
      refine EV.aload_n 0 dX6_read_61 rfl rfl ?_
      obtain ⟨v132, gv132, h⟩ := px_bs h
      refine ev_gI dX6_read_62 flRX6_41 gv132 ?_
      refine EV.if_ne 280 dX6_read_65 (by decide) (fun c133 => ?_) (fun c133 => ?_)
      · rw [if_neg c133] at h
        refine EV.sub [0] rfl ?_
        exact eX6_read_280  _ _ _ h
      · rw [if_pos c133] at h
        refine EV.iload 2 dX6_read_68 rfl ?_
        refine EV.if_le 104 dX6_read_70 (by decide) (fun c134 => ?_) (fun c134 => ?_)
        · rw [if_pos c134] at h
          refine EV.sub [0, 1, 2, 3] rfl ?_
          exact eX6_read_104 ih _ _ _ _ _ _ h
        · rw [if_neg c134] at h
          refine EV.iload 3 dX6_read_73 rfl ?_
          refine EV.if_le 104 dX6_read_75 (by decide) (fun c135 => ?_) (fun c135 => ?_)
          · rw [if_pos c135] at h
            refine EV.sub [0, 1, 2, 3] rfl ?_
            exact eX6_read_104 ih _ _ _ _ _ _ h
          · rw [if_neg c135] at h
            refine EV.iload 3 dX6_read_78 rfl ?_
            refine EV.iload 2 dX6_read_80 rfl ?_
            obtain ⟨v136, gv136, h⟩ := px_bs h
            refine ev_rI dX6_read_82 gv136 ?_
            refine EV.if_ne 104 dX6_read_83 (by decide) (fun c137 => ?_) (fun c137 => ?_)
            · rw [if_neg c137] at h
              refine EV.sub [0, 1, 2, 3] rfl ?_
              exact eX6_read_104 ih _ _ _ _ _ _ h
            · rw [if_pos c137] at h
              refine EV.aload_n 0 dX6_read_86 rfl rfl ?_
              refine EV.sipush (208) dX6_read_87 (by decide) ?_
              refine EV.iload 3 dX6_read_90 rfl ?_
              refine EV.iload 2 dX6_read_92 rfl ?_
              obtain ⟨v138, gv138, h⟩ := px_bs h
              refine ev_dI dX6_read_94 gv138 ?_
              refine EV.iconst (1) dX6_read_95 (by decide) ?_
              refine EV.isub dX6_read_96 ?_
              refine EV.bipush (8) dX6_read_97 (by decide) ?_
              obtain ⟨v139, gv139, h⟩ := px_bs h
              refine ev_rI dX6_read_99 gv139 ?_
              refine EV.iadd dX6_read_100 ?_
              obtain ⟨o140, go140, h⟩ := px_bs h
              obtain ⟨q141, gq141, h⟩ := px_bs h
              refine EV.callV (As := [.int (208 + v139)]) (rest := []) dX6_read_101 kcX6_read_53 (gO_ok go140) rfl rfl rfl (Nat.le_of_ble_eq_true rfl) (Nat.le_of_ble_eq_true rfl) (eX6_passRestart gq141) ?_
              refine EV.sub [0, 1, 2, 3] rfl ?_
              exact eX6_read_104 ih _ _ _ _ _ _ h
set_option maxRecDepth 100000 in
set_option maxHeartbeats 4000000 in
theorem eX6_read {X : px_X} {w : px_W} {a0 : Nat} {a1 : Nat} {a2 : Nat} {a3 : Nat} {a4 : Int32} {q : Int32 × px_W} (h : fX6_read X w a0 a1 a2 a3 a4 = some q) : EV X mX6_read 0 (lv_args 0 [.ref a0, .ref a1, .ref a2, .ref a3, .int a4]) [] w (some (.int q.1)) q.2 := by
  unfold fX6_read at h
  show EV X mX6_read 0 [(0, .ref a0), (1, .ref a1), (2, .ref a2), (3, .ref a3), (4, .int a4)] [] w (some (.int q.1)) q.2
  refine EV.aload_n 0 dX6_read_0 rfl rfl ?_
  refine EV.aload_n 1 dX6_read_1 rfl rfl ?_
  obtain ⟨w142, gw142, h⟩ := px_bs h
  refine ev_pV dX6_read_2 flRX6_26 rfl rfl rfl rfl gw142 ?_
  refine EV.aload_n 0 dX6_read_5 rfl rfl ?_
  refine EV.aload_n 2 dX6_read_6 rfl rfl ?_
  obtain ⟨w143, gw143, h⟩ := px_bs h
  refine ev_pV dX6_read_7 flRX6_12 rfl rfl rfl rfl gw143 ?_
  refine EV.aload_n 0 dX6_read_10 rfl rfl ?_
  obtain ⟨v144, gv144, h⟩ := px_bs h
  refine ev_gR dX6_read_11 flRX6_12 gv144 ?_
  refine EV.aload_n 0 dX6_read_14 rfl rfl ?_
  obtain ⟨v145, gv145, h⟩ := px_bs h
  refine ev_gR dX6_read_15 flRX6_26 gv145 ?_
  obtain ⟨o146, go146, h⟩ := px_bs h
  obtain ⟨q147, gq147, h⟩ := px_bs h
  refine EV.callV (As := [.ref v145]) (rest := []) dX6_read_18 kcX6_read_30 (gO_ok go146) rfl rfl rfl (Nat.le_of_ble_eq_true rfl) (Nat.le_of_ble_eq_true rfl) (eX5_layOut gq147) ?_
  refine EV.aload_n 0 dX6_read_21 rfl rfl ?_
  refine EV.aload_n 0 dX6_read_22 rfl rfl ?_
  obtain ⟨v148, gv148, h⟩ := px_bs h
  refine ev_gR dX6_read_23 flRX6_12 gv148 ?_
  obtain ⟨v149, gv149, h⟩ := px_bs h
  refine ev_gI dX6_read_26 flRX6_34 gv149 ?_
  obtain ⟨w150, gw150, h⟩ := px_bs h
  refine ev_pV dX6_read_29 flRX6_38 rfl rfl rfl rfl gw150 ?_
  refine EV.aload_n 0 dX6_read_32 rfl rfl ?_
  refine EV.iconst (0) dX6_read_33 (by decide) ?_
  obtain ⟨w151, gw151, h⟩ := px_bs h
  refine ev_pV dX6_read_34 flRX6_41 rfl rfl rfl rfl gw151 ?_
  refine EV.aload_n 0 dX6_read_37 rfl rfl ?_
  refine EV.iconst (0) dX6_read_38 (by decide) ?_
  obtain ⟨w152, gw152, h⟩ := px_bs h
  refine ev_pV dX6_read_39 flRX6_44 rfl rfl rfl rfl gw152 ?_
  refine EV.aload_n 0 dX6_read_42 rfl rfl ?_
  obtain ⟨o153, go153, h⟩ := px_bs h
  obtain ⟨q154, gq154, h⟩ := px_bs h
  refine EV.callV (As := []) (rest := []) dX6_read_43 kcX6_read_47 (gO_ok go153) rfl rfl rfl (Nat.le_of_ble_eq_true rfl) (Nat.le_of_ble_eq_true rfl) (eX6_begin gq154) ?_
  refine EV.iconst (0) dX6_read_46 (by decide) ?_
  refine EV.istore [(5, .int 0), (0, .ref a0), (1, .ref a1), (2, .ref a2), (3, .ref a3), (4, .int a4)] dX6_read_47 (by decide) rfl ?_
  refine EV.sub [1, 4, 5, 0] rfl ?_
  exact eX6_read_49  FU _ _ _ _ _ _ h
/-! WavePictures$Words.<init>()V -/
theorem dX10_init_0 : decode cX10_init 0 = .ok (.aload_n 0, 1) := by decide +kernel
theorem dX10_init_1 : decode cX10_init 1 = .ok (.invokespecial 3, 3) := by decide +kernel
theorem dX10_init_4 : decode cX10_init 4 = .ok (.aload_n 0, 1) := by decide +kernel
theorem dX10_init_5 : decode cX10_init 5 = .ok (.bipush 17, 2) := by decide +kernel
theorem dX10_init_7 : decode cX10_init 7 = .ok (.newarray .int, 2) := by decide +kernel
theorem dX10_init_9 : decode cX10_init 9 = .ok (.putfield 9, 3) := by decide +kernel
theorem dX10_init_12 : decode cX10_init 12 = .ok (.aload_n 0, 1) := by decide +kernel
theorem dX10_init_13 : decode cX10_init 13 = .ok (.bipush 17, 2) := by decide +kernel
theorem dX10_init_15 : decode cX10_init 15 = .ok (.newarray .int, 2) := by decide +kernel
theorem dX10_init_17 : decode cX10_init 17 = .ok (.putfield 15, 3) := by decide +kernel
theorem dX10_init_20 : decode cX10_init 20 = .ok (.aload_n 0, 1) := by decide +kernel
theorem dX10_init_21 : decode cX10_init 21 = .ok (.bipush 17, 2) := by decide +kernel
theorem dX10_init_23 : decode cX10_init 23 = .ok (.newarray .int, 2) := by decide +kernel
theorem dX10_init_25 : decode cX10_init 25 = .ok (.putfield 18, 3) := by decide +kernel
theorem dX10_init_28 : decode cX10_init 28 = .ok (.aload_n 0, 1) := by decide +kernel
theorem dX10_init_29 : decode cX10_init 29 = .ok (.sipush 256, 3) := by decide +kernel
theorem dX10_init_32 : decode cX10_init 32 = .ok (.newarray .int, 2) := by decide +kernel
theorem dX10_init_34 : decode cX10_init 34 = .ok (.putfield 21, 3) := by decide +kernel
theorem dX10_init_37 : decode cX10_init 37 = .ok (.return_, 1) := by decide +kernel
set_option maxRecDepth 100000 in
set_option maxHeartbeats 4000000 in
theorem eX10_init {X : px_X} {w : px_W} {a0 : Nat} {q : px_W} (h : fX10_init X w a0 = some q) : EV X mX10_init 0 (lv_args 0 [.ref a0]) [] w none q := by
  unfold fX10_init at h
  show EV X mX10_init 0 [(0, .ref a0)] [] w none q
  refine EV.aload_n 0 dX10_init_0 rfl rfl ?_
  refine EV.objI dX10_init_1 (tb2 (List.mem_of_getElem? (i := 34) rfl)) (by decide) (by decide) (Nat.le_of_ble_eq_true rfl) ?_
  refine EV.aload_n 0 dX10_init_4 rfl rfl ?_
  refine EV.bipush (17) dX10_init_5 (by decide) ?_
  obtain ⟨q9, gq9, h⟩ := px_bs h
  refine ev_nI dX10_init_7 gq9 ?_
  obtain ⟨w10, gw10, h⟩ := px_bs h
  refine ev_pF dX10_init_9 (ci := 10) (k := 0) rfl (by decide) (tb2 (List.mem_of_getElem? (i := 35) rfl)) rfl rfl rfl rfl rfl gw10 ?_
  refine EV.aload_n 0 dX10_init_12 rfl rfl ?_
  refine EV.bipush (17) dX10_init_13 (by decide) ?_
  obtain ⟨q11, gq11, h⟩ := px_bs h
  refine ev_nI dX10_init_15 gq11 ?_
  obtain ⟨w12, gw12, h⟩ := px_bs h
  refine ev_pF dX10_init_17 (ci := 10) (k := 1) rfl (by decide) (tb2 (List.mem_of_getElem? (i := 37) rfl)) rfl rfl rfl rfl rfl gw12 ?_
  refine EV.aload_n 0 dX10_init_20 rfl rfl ?_
  refine EV.bipush (17) dX10_init_21 (by decide) ?_
  obtain ⟨q13, gq13, h⟩ := px_bs h
  refine ev_nI dX10_init_23 gq13 ?_
  obtain ⟨w14, gw14, h⟩ := px_bs h
  refine ev_pF dX10_init_25 (ci := 10) (k := 2) rfl (by decide) (tb2 (List.mem_of_getElem? (i := 38) rfl)) rfl rfl rfl rfl rfl gw14 ?_
  refine EV.aload_n 0 dX10_init_28 rfl rfl ?_
  refine EV.sipush (256) dX10_init_29 (by decide) ?_
  obtain ⟨q15, gq15, h⟩ := px_bs h
  refine ev_nI dX10_init_32 gq15 ?_
  obtain ⟨w16, gw16, h⟩ := px_bs h
  refine ev_pF dX10_init_34 (ci := 10) (k := 3) rfl (by decide) (tb2 (List.mem_of_getElem? (i := 40) rfl)) rfl rfl rfl rfl rfl gw16 ?_
  cases h
  exact EV.ret0 dX10_init_37 trivial
