/-! WavePictures$SegmentReader.numberIn(II)I -/
theorem dX8_numberIn_0 : decode cX8_numberIn 0 = .ok (.aload_n 0, 1) := by decide +kernel
theorem dX8_numberIn_1 : decode cX8_numberIn 1 = .ok (.invokevirtual 150, 3) := by decide +kernel
theorem dX8_numberIn_4 : decode cX8_numberIn 4 = .ok (.istore_n 3, 1) := by decide +kernel
theorem dX8_numberIn_5 : decode cX8_numberIn 5 = .ok (.iload_n 3, 1) := by decide +kernel
theorem dX8_numberIn_6 : decode cX8_numberIn 6 = .ok (.iconst (-1), 1) := by decide +kernel
theorem dX8_numberIn_7 : decode cX8_numberIn 7 = .ok (.if_icmp .ne 7, 3) := by decide +kernel
theorem dX8_numberIn_10 : decode cX8_numberIn 10 = .ok (.iconst (-1), 1) := by decide +kernel
theorem dX8_numberIn_11 : decode cX8_numberIn 11 = .ok (.goto 7, 3) := by decide +kernel
theorem dX8_numberIn_14 : decode cX8_numberIn 14 = .ok (.aload_n 0, 1) := by decide +kernel
theorem dX8_numberIn_15 : decode cX8_numberIn 15 = .ok (.invokevirtual 150, 3) := by decide +kernel
theorem dX8_numberIn_18 : decode cX8_numberIn 18 = .ok (.istore 4, 2) := by decide +kernel
theorem dX8_numberIn_20 : decode cX8_numberIn 20 = .ok (.iload 4, 2) := by decide +kernel
theorem dX8_numberIn_22 : decode cX8_numberIn 22 = .ok (.iconst (-1), 1) := by decide +kernel
theorem dX8_numberIn_23 : decode cX8_numberIn 23 = .ok (.if_icmp .ne 5, 3) := by decide +kernel
theorem dX8_numberIn_26 : decode cX8_numberIn 26 = .ok (.iconst (-1), 1) := by decide +kernel
theorem dX8_numberIn_27 : decode cX8_numberIn 27 = .ok (.ireturn, 1) := by decide +kernel
theorem dX8_numberIn_28 : decode cX8_numberIn 28 = .ok (.sipush 256, 3) := by decide +kernel
theorem dX8_numberIn_31 : decode cX8_numberIn 31 = .ok (.iload_n 3, 1) := by decide +kernel
theorem dX8_numberIn_32 : decode cX8_numberIn 32 = .ok (.imul, 1) := by decide +kernel
theorem dX8_numberIn_33 : decode cX8_numberIn 33 = .ok (.iload 4, 2) := by decide +kernel
theorem dX8_numberIn_35 : decode cX8_numberIn 35 = .ok (.iadd, 1) := by decide +kernel
theorem dX8_numberIn_36 : decode cX8_numberIn 36 = .ok (.istore 5, 2) := by decide +kernel
theorem dX8_numberIn_38 : decode cX8_numberIn 38 = .ok (.iload 5, 2) := by decide +kernel
theorem dX8_numberIn_40 : decode cX8_numberIn 40 = .ok (.iload_n 1, 1) := by decide +kernel
theorem dX8_numberIn_41 : decode cX8_numberIn 41 = .ok (.if_icmp .lt 9, 3) := by decide +kernel
theorem dX8_numberIn_44 : decode cX8_numberIn 44 = .ok (.iload 5, 2) := by decide +kernel
theorem dX8_numberIn_46 : decode cX8_numberIn 46 = .ok (.iload_n 2, 1) := by decide +kernel
theorem dX8_numberIn_47 : decode cX8_numberIn 47 = .ok (.if_icmp .le 18, 3) := by decide +kernel
theorem dX8_numberIn_50 : decode cX8_numberIn 50 = .ok (.aload_n 0, 1) := by decide +kernel
theorem dX8_numberIn_51 : decode cX8_numberIn 51 = .ok (.bipush 6, 2) := by decide +kernel
theorem dX8_numberIn_53 : decode cX8_numberIn 53 = .ok (.aload_n 0, 1) := by decide +kernel
theorem dX8_numberIn_54 : decode cX8_numberIn 54 = .ok (.getfield 92, 3) := by decide +kernel
theorem dX8_numberIn_57 : decode cX8_numberIn 57 = .ok (.iconst 1, 1) := by decide +kernel
theorem dX8_numberIn_58 : decode cX8_numberIn 58 = .ok (.isub, 1) := by decide +kernel
theorem dX8_numberIn_59 : decode cX8_numberIn 59 = .ok (.invokevirtual 100, 3) := by decide +kernel
theorem dX8_numberIn_62 : decode cX8_numberIn 62 = .ok (.goto 5, 3) := by decide +kernel
theorem dX8_numberIn_65 : decode cX8_numberIn 65 = .ok (.iload 5, 2) := by decide +kernel
theorem dX8_numberIn_67 : decode cX8_numberIn 67 = .ok (.ireturn, 1) := by decide +kernel
theorem kcX8_numberIn_100 : px_cV mX8_numberIn 100 mX8_fail 2 := ⟨⟨mbX8_fail, by decide, by decide⟩, Or.inl (tb3 (List.mem_of_getElem? (i := 143) rfl)), vbX8_fail⟩
theorem kcX8_numberIn_150 : px_cV mX8_numberIn 150 mX8_contentByte 0 := ⟨⟨mbX8_contentByte, by decide, by decide⟩, Or.inl (tb3 (List.mem_of_getElem? (i := 180) rfl)), vbX8_contentByte⟩
set_option maxRecDepth 100000 in
set_option maxHeartbeats 4000000 in
theorem eX8_numberIn_50 {X : px_X}  : ∀ (a0 : Nat) (w : px_W) (q : Int32 × px_W), fX8_numberIn_50 X  a0 w = some q → EV X mX8_numberIn 50 [(0, .ref a0)] [] w (some (.int q.1)) q.2 := by
  intro a0 w q h
  unfold fX8_numberIn_50 at h
  refine EV.aload_n 0 dX8_numberIn_50 rfl rfl ?_
  refine EV.bipush (6) dX8_numberIn_51 (by decide) ?_
  refine EV.aload_n 0 dX8_numberIn_53 rfl rfl ?_
  obtain ⟨v8, gv8, h⟩ := px_bs h
  refine ev_gI dX8_numberIn_54 flRX8_92 gv8 ?_
  refine EV.iconst (1) dX8_numberIn_57 (by decide) ?_
  refine EV.isub dX8_numberIn_58 ?_
  obtain ⟨o9, go9, h⟩ := px_bs h
  obtain ⟨q10, gq10, h⟩ := px_bs h
  refine EV.callV (As := [.int 6, .int (v8 - 1)]) (rest := []) dX8_numberIn_59 kcX8_numberIn_100 (gO_ok go9) rfl rfl rfl (Nat.le_of_ble_eq_true rfl) (Nat.le_of_ble_eq_true rfl) (eX8_fail gq10) ?_
  refine EV.goto 67 dX8_numberIn_62 (by decide) ?_
  cases h
  exact EV.reti dX8_numberIn_67 rfl
set_option maxRecDepth 100000 in
set_option maxHeartbeats 4000000 in
theorem eX8_numberIn_18 {X : px_X}  : ∀ (a0 : Nat) (a1 : Int32) (a2 : Int32) (a3 : Int32) (s0 : Int32) (w : px_W) (q : Int32 × px_W), fX8_numberIn_18 X  a0 a1 a2 a3 s0 w = some q → EV X mX8_numberIn 18 [(0, .ref a0), (1, .int a1), (2, .int a2), (3, .int a3)] [.int s0] w (some (.int q.1)) q.2 := by
  intro a0 a1 a2 a3 s0 w q h
  unfold fX8_numberIn_18 at h
  refine EV.istore [(4, .int s0), (0, .ref a0), (1, .int a1), (2, .int a2), (3, .int a3)] dX8_numberIn_18 (by decide) rfl ?_
  refine EV.iload 0 dX8_numberIn_20 rfl ?_
  refine EV.iconst ((-1)) dX8_numberIn_22 (by decide) ?_
  refine EV.icmp_ne 28 dX8_numberIn_23 (by decide) (fun c11 => ?_) (fun c11 => ?_)
  · rw [if_neg c11] at h
    refine EV.sipush (256) dX8_numberIn_28 (by decide) ?_
    refine EV.iload_n 4 dX8_numberIn_31 rfl rfl ?_
    refine EV.imul dX8_numberIn_32 ?_
    refine EV.iload 0 dX8_numberIn_33 rfl ?_
    refine EV.iadd dX8_numberIn_35 ?_
    refine EV.istore [(5, .int ((256 * a3) + s0)), (4, .int s0), (0, .ref a0), (1, .int a1), (2, .int a2), (3, .int a3)] dX8_numberIn_36 (by decide) rfl ?_
    refine EV.iload 0 dX8_numberIn_38 rfl ?_
    refine EV.iload_n 3 dX8_numberIn_40 rfl rfl ?_
    refine EV.icmp_lt 50 dX8_numberIn_41 (by decide) (fun c12 => ?_) (fun c12 => ?_)
    · rw [if_pos c12] at h
      refine EV.sub [2] rfl ?_
      exact eX8_numberIn_50  _ _ _ h
    · rw [if_neg c12] at h
      refine EV.iload 0 dX8_numberIn_44 rfl ?_
      refine EV.iload_n 4 dX8_numberIn_46 rfl rfl ?_
      refine EV.icmp_le 65 dX8_numberIn_47 (by decide) (fun c13 => ?_) (fun c13 => ?_)
      · rw [if_pos c13] at h
        refine EV.iload 0 dX8_numberIn_65 rfl ?_
        cases h
        exact EV.reti dX8_numberIn_67 rfl
      · rw [if_neg c13] at h
        refine EV.sub [2] rfl ?_
        exact eX8_numberIn_50  _ _ _ h
  · rw [if_pos c11] at h
    refine EV.iconst ((-1)) dX8_numberIn_26 (by decide) ?_
    cases h
    exact EV.reti dX8_numberIn_27 rfl
set_option maxRecDepth 100000 in
set_option maxHeartbeats 4000000 in
theorem eX8_numberIn {X : px_X} {w : px_W} {a0 : Nat} {a1 : Int32} {a2 : Int32} {q : Int32 × px_W} (h : fX8_numberIn X w a0 a1 a2 = some q) : EV X mX8_numberIn 0 (lv_args 0 [.ref a0, .int a1, .int a2]) [] w (some (.int q.1)) q.2 := by
  unfold fX8_numberIn at h
  show EV X mX8_numberIn 0 [(0, .ref a0), (1, .int a1), (2, .int a2)] [] w (some (.int q.1)) q.2
  refine EV.aload_n 0 dX8_numberIn_0 rfl rfl ?_
  obtain ⟨o14, go14, h⟩ := px_bs h
  obtain ⟨q15, gq15, h⟩ := px_bs h
  refine EV.callV (As := []) (rest := []) dX8_numberIn_1 kcX8_numberIn_150 (gO_ok go14) rfl rfl rfl (Nat.le_of_ble_eq_true rfl) (Nat.le_of_ble_eq_true rfl) (eX8_contentByte gq15) ?_
  refine EV.istore_n [(3, .int q15.1), (0, .ref a0), (1, .int a1), (2, .int a2)] dX8_numberIn_4 rfl (by decide) rfl ?_
  refine EV.iload_n 0 dX8_numberIn_5 rfl rfl ?_
  refine EV.iconst ((-1)) dX8_numberIn_6 (by decide) ?_
  refine EV.icmp_ne 14 dX8_numberIn_7 (by decide) (fun c16 => ?_) (fun c16 => ?_)
  · rw [if_neg c16] at h
    refine EV.aload_n 1 dX8_numberIn_14 rfl rfl ?_
    obtain ⟨o17, go17, h⟩ := px_bs h
    obtain ⟨q18, gq18, h⟩ := px_bs h
    refine EV.callV (As := []) (rest := []) dX8_numberIn_15 kcX8_numberIn_150 (gO_ok go17) rfl rfl rfl (Nat.le_of_ble_eq_true rfl) (Nat.le_of_ble_eq_true rfl) (eX8_contentByte gq18) ?_
    refine EV.sub [1, 2, 3, 0] rfl ?_
    exact eX8_numberIn_18  _ _ _ _ _ _ _ h
  · rw [if_pos c16] at h
    refine EV.iconst ((-1)) dX8_numberIn_10 (by decide) ?_
    refine EV.goto 18 dX8_numberIn_11 (by decide) ?_
    refine EV.sub [1, 2, 3, 0] rfl ?_
    exact eX8_numberIn_18  _ _ _ _ _ _ _ h
/-! WavePictures$SegmentReader.endsHere()Z -/
theorem dX8_endsHere_0 : decode cX8_endsHere 0 = .ok (.aload_n 0, 1) := by decide +kernel
theorem dX8_endsHere_1 : decode cX8_endsHere 1 = .ok (.getfield 92, 3) := by decide +kernel
theorem dX8_endsHere_4 : decode cX8_endsHere 4 = .ok (.aload_n 0, 1) := by decide +kernel
theorem dX8_endsHere_5 : decode cX8_endsHere 5 = .ok (.getfield 126, 3) := by decide +kernel
theorem dX8_endsHere_8 : decode cX8_endsHere 8 = .ok (.if_icmp .eq 15, 3) := by decide +kernel
theorem dX8_endsHere_11 : decode cX8_endsHere 11 = .ok (.aload_n 0, 1) := by decide +kernel
theorem dX8_endsHere_12 : decode cX8_endsHere 12 = .ok (.iconst 5, 1) := by decide +kernel
theorem dX8_endsHere_13 : decode cX8_endsHere 13 = .ok (.aload_n 0, 1) := by decide +kernel
theorem dX8_endsHere_14 : decode cX8_endsHere 14 = .ok (.getfield 123, 3) := by decide +kernel
theorem dX8_endsHere_17 : decode cX8_endsHere 17 = .ok (.invokevirtual 100, 3) := by decide +kernel
theorem dX8_endsHere_20 : decode cX8_endsHere 20 = .ok (.pop, 1) := by decide +kernel
theorem dX8_endsHere_21 : decode cX8_endsHere 21 = .ok (.iconst 0, 1) := by decide +kernel
theorem dX8_endsHere_22 : decode cX8_endsHere 22 = .ok (.ireturn, 1) := by decide +kernel
theorem dX8_endsHere_23 : decode cX8_endsHere 23 = .ok (.iconst 1, 1) := by decide +kernel
theorem dX8_endsHere_24 : decode cX8_endsHere 24 = .ok (.ireturn, 1) := by decide +kernel
theorem kcX8_endsHere_100 : px_cV mX8_endsHere 100 mX8_fail 2 := ⟨⟨mbX8_fail, by decide, by decide⟩, Or.inl (tb3 (List.mem_of_getElem? (i := 143) rfl)), vbX8_fail⟩
set_option maxRecDepth 100000 in
set_option maxHeartbeats 4000000 in
theorem eX8_endsHere {X : px_X} {w : px_W} {a0 : Nat} {q : Int32 × px_W} (h : fX8_endsHere X w a0 = some q) : EV X mX8_endsHere 0 (lv_args 0 [.ref a0]) [] w (some (.int q.1)) q.2 := by
  unfold fX8_endsHere at h
  show EV X mX8_endsHere 0 [(0, .ref a0)] [] w (some (.int q.1)) q.2
  refine EV.aload_n 0 dX8_endsHere_0 rfl rfl ?_
  obtain ⟨v6, gv6, h⟩ := px_bs h
  refine ev_gI dX8_endsHere_1 flRX8_92 gv6 ?_
  refine EV.aload_n 0 dX8_endsHere_4 rfl rfl ?_
  obtain ⟨v7, gv7, h⟩ := px_bs h
  refine ev_gI dX8_endsHere_5 flRX8_126 gv7 ?_
  refine EV.icmp_eq 23 dX8_endsHere_8 (by decide) (fun c8 => ?_) (fun c8 => ?_)
  · rw [if_pos c8] at h
    refine EV.iconst (1) dX8_endsHere_23 (by decide) ?_
    cases h
    exact EV.reti dX8_endsHere_24 rfl
  · rw [if_neg c8] at h
    refine EV.aload_n 0 dX8_endsHere_11 rfl rfl ?_
    refine EV.iconst (5) dX8_endsHere_12 (by decide) ?_
    refine EV.aload_n 0 dX8_endsHere_13 rfl rfl ?_
    obtain ⟨v9, gv9, h⟩ := px_bs h
    refine ev_gI dX8_endsHere_14 flRX8_123 gv9 ?_
    obtain ⟨o10, go10, h⟩ := px_bs h
    obtain ⟨q11, gq11, h⟩ := px_bs h
    refine EV.callV (As := [.int 5, .int v9]) (rest := []) dX8_endsHere_17 kcX8_endsHere_100 (gO_ok go10) rfl rfl rfl (Nat.le_of_ble_eq_true rfl) (Nat.le_of_ble_eq_true rfl) (eX8_fail gq11) ?_
    refine EV.pop dX8_endsHere_20 rfl ?_
    refine EV.iconst (0) dX8_endsHere_21 (by decide) ?_
    cases h
    exact EV.reti dX8_endsHere_22 rfl
/-! WavePictures$SegmentReader.readInterval()Z -/
theorem dX8_readInterval_0 : decode cX8_readInterval 0 = .ok (.aload_n 0, 1) := by decide +kernel
theorem dX8_readInterval_1 : decode cX8_readInterval 1 = .ok (.iconst 0, 1) := by decide +kernel
theorem dX8_readInterval_2 : decode cX8_readInterval 2 = .ok (.ldc 182, 2) := by decide +kernel
theorem dX8_readInterval_4 : decode cX8_readInterval 4 = .ok (.invokevirtual 183, 3) := by decide +kernel
theorem dX8_readInterval_7 : decode cX8_readInterval 7 = .ok (.istore_n 1, 1) := by decide +kernel
theorem dX8_readInterval_8 : decode cX8_readInterval 8 = .ok (.iload_n 1, 1) := by decide +kernel
theorem dX8_readInterval_9 : decode cX8_readInterval 9 = .ok (.iconst (-1), 1) := by decide +kernel
theorem dX8_readInterval_10 : decode cX8_readInterval 10 = .ok (.if_icmp .ne 5, 3) := by decide +kernel
theorem dX8_readInterval_13 : decode cX8_readInterval 13 = .ok (.iconst 0, 1) := by decide +kernel
theorem dX8_readInterval_14 : decode cX8_readInterval 14 = .ok (.ireturn, 1) := by decide +kernel
theorem dX8_readInterval_15 : decode cX8_readInterval 15 = .ok (.aload_n 0, 1) := by decide +kernel
theorem dX8_readInterval_16 : decode cX8_readInterval 16 = .ok (.iload_n 1, 1) := by decide +kernel
theorem dX8_readInterval_17 : decode cX8_readInterval 17 = .ok (.putfield 56, 3) := by decide +kernel
theorem dX8_readInterval_20 : decode cX8_readInterval 20 = .ok (.aload_n 0, 1) := by decide +kernel
theorem dX8_readInterval_21 : decode cX8_readInterval 21 = .ok (.invokevirtual 186, 3) := by decide +kernel
theorem dX8_readInterval_24 : decode cX8_readInterval 24 = .ok (.ireturn, 1) := by decide +kernel
theorem mbX8_numberIn : px_mB mX8_numberIn 2 := ⟨tb3 (List.mem_of_getElem? (i := 212) rfl), by decide +kernel, tb1 (List.mem_of_getElem? (i := 6) rfl), by decide +kernel, by decide +kernel⟩
theorem vbX8_numberIn : px_vB mX8_numberIn := ⟨tb3 (List.mem_of_getElem? (i := 211) rfl), List.mem_append_left _ (List.mem_of_getElem? (i := 14) (by decide +kernel))⟩
theorem kcX8_readInterval_183 : px_cV mX8_readInterval 183 mX8_numberIn 2 := ⟨⟨mbX8_numberIn, by decide, by decide⟩, Or.inl (tb3 (List.mem_of_getElem? (i := 209) rfl)), vbX8_numberIn⟩
theorem mbX8_endsHere : px_mB mX8_endsHere 0 := ⟨tb3 (List.mem_of_getElem? (i := 216) rfl), by decide +kernel, tb1 (List.mem_of_getElem? (i := 6) rfl), by decide +kernel, by decide +kernel⟩
theorem vbX8_endsHere : px_vB mX8_endsHere := ⟨tb3 (List.mem_of_getElem? (i := 215) rfl), List.mem_append_left _ (List.mem_of_getElem? (i := 15) (by decide +kernel))⟩
theorem kcX8_readInterval_186 : px_cV mX8_readInterval 186 mX8_endsHere 0 := ⟨⟨mbX8_endsHere, by decide, by decide⟩, Or.inl (tb3 (List.mem_of_getElem? (i := 213) rfl)), vbX8_endsHere⟩
set_option maxRecDepth 100000 in
set_option maxHeartbeats 4000000 in
theorem eX8_readInterval {X : px_X} {w : px_W} {a0 : Nat} {q : Int32 × px_W} (h : fX8_readInterval X w a0 = some q) : EV X mX8_readInterval 0 (lv_args 0 [.ref a0]) [] w (some (.int q.1)) q.2 := by
  unfold fX8_readInterval at h
  show EV X mX8_readInterval 0 [(0, .ref a0)] [] w (some (.int q.1)) q.2
  refine EV.aload_n 0 dX8_readInterval_0 rfl rfl ?_
  refine EV.iconst (0) dX8_readInterval_1 (by decide) ?_
  refine EV.ldc (v := 65535) dX8_readInterval_2 (tb3 (List.mem_of_getElem? (i := 208) rfl)) ?_
  obtain ⟨o6, go6, h⟩ := px_bs h
  obtain ⟨q7, gq7, h⟩ := px_bs h
  refine EV.callV (As := [.int 0, .int 65535]) (rest := []) dX8_readInterval_4 kcX8_readInterval_183 (gO_ok go6) rfl rfl rfl (Nat.le_of_ble_eq_true rfl) (Nat.le_of_ble_eq_true rfl) (eX8_numberIn gq7) ?_
  refine EV.istore_n [(1, .int q7.1), (0, .ref a0)] dX8_readInterval_7 rfl (by decide) rfl ?_
  refine EV.iload_n 0 dX8_readInterval_8 rfl rfl ?_
  refine EV.iconst ((-1)) dX8_readInterval_9 (by decide) ?_
  refine EV.icmp_ne 15 dX8_readInterval_10 (by decide) (fun c8 => ?_) (fun c8 => ?_)
  · rw [if_neg c8] at h
    refine EV.aload_n 1 dX8_readInterval_15 rfl rfl ?_
    refine EV.iload_n 0 dX8_readInterval_16 rfl rfl ?_
    obtain ⟨w9, gw9, h⟩ := px_bs h
    refine ev_pV dX8_readInterval_17 flRX8_56 rfl rfl rfl rfl gw9 ?_
    refine EV.aload_n 1 dX8_readInterval_20 rfl rfl ?_
    obtain ⟨o10, go10, h⟩ := px_bs h
    obtain ⟨q11, gq11, h⟩ := px_bs h
    refine EV.callV (As := []) (rest := []) dX8_readInterval_21 kcX8_readInterval_186 (gO_ok go10) rfl rfl rfl (Nat.le_of_ble_eq_true rfl) (Nat.le_of_ble_eq_true rfl) (eX8_endsHere gq11) ?_
    exact ev_retZ dX8_readInterval_24 rfl h
  · rw [if_pos c8] at h
    refine EV.iconst (0) dX8_readInterval_13 (by decide) ?_
    cases h
    exact EV.reti dX8_readInterval_14 rfl
/-! WavePictures$SegmentReader.readComponent(I)Z -/
theorem dX8_readComponent_0 : decode cX8_readComponent 0 = .ok (.aload_n 0, 1) := by decide +kernel
theorem dX8_readComponent_1 : decode cX8_readComponent 1 = .ok (.invokevirtual 150, 3) := by decide +kernel
theorem dX8_readComponent_4 : decode cX8_readComponent 4 = .ok (.istore_n 2, 1) := by decide +kernel
theorem dX8_readComponent_5 : decode cX8_readComponent 5 = .ok (.iload_n 2, 1) := by decide +kernel
theorem dX8_readComponent_6 : decode cX8_readComponent 6 = .ok (.iconst (-1), 1) := by decide +kernel
theorem dX8_readComponent_7 : decode cX8_readComponent 7 = .ok (.if_icmp .ne 5, 3) := by decide +kernel
theorem dX8_readComponent_10 : decode cX8_readComponent 10 = .ok (.iconst 0, 1) := by decide +kernel
theorem dX8_readComponent_11 : decode cX8_readComponent 11 = .ok (.ireturn, 1) := by decide +kernel
theorem dX8_readComponent_12 : decode cX8_readComponent 12 = .ok (.iconst 0, 1) := by decide +kernel
theorem dX8_readComponent_13 : decode cX8_readComponent 13 = .ok (.istore_n 3, 1) := by decide +kernel
theorem dX8_readComponent_14 : decode cX8_readComponent 14 = .ok (.iload_n 3, 1) := by decide +kernel
theorem dX8_readComponent_15 : decode cX8_readComponent 15 = .ok (.iload_n 1, 1) := by decide +kernel
theorem dX8_readComponent_16 : decode cX8_readComponent 16 = .ok (.if_icmp .ge 24, 3) := by decide +kernel
theorem dX8_readComponent_19 : decode cX8_readComponent 19 = .ok (.aload_n 0, 1) := by decide +kernel
theorem dX8_readComponent_20 : decode cX8_readComponent 20 = .ok (.getfield 24, 3) := by decide +kernel
theorem dX8_readComponent_23 : decode cX8_readComponent 23 = .ok (.iload_n 3, 1) := by decide +kernel
theorem dX8_readComponent_24 : decode cX8_readComponent 24 = .ok (.iaload, 1) := by decide +kernel
theorem dX8_readComponent_25 : decode cX8_readComponent 25 = .ok (.iload_n 2, 1) := by decide +kernel
theorem dX8_readComponent_26 : decode cX8_readComponent 26 = .ok (.if_icmp .ne 8, 3) := by decide +kernel
theorem dX8_readComponent_29 : decode cX8_readComponent 29 = .ok (.aload_n 0, 1) := by decide +kernel
theorem dX8_readComponent_30 : decode cX8_readComponent 30 = .ok (.invokevirtual 159, 3) := by decide +kernel
theorem dX8_readComponent_33 : decode cX8_readComponent 33 = .ok (.ireturn, 1) := by decide +kernel
theorem dX8_readComponent_34 : decode cX8_readComponent 34 = .ok (.iinc 3 1, 3) := by decide +kernel
theorem dX8_readComponent_37 : decode cX8_readComponent 37 = .ok (.goto (-23), 3) := by decide +kernel
theorem dX8_readComponent_40 : decode cX8_readComponent 40 = .ok (.aload_n 0, 1) := by decide +kernel
theorem dX8_readComponent_41 : decode cX8_readComponent 41 = .ok (.getfield 24, 3) := by decide +kernel
theorem dX8_readComponent_44 : decode cX8_readComponent 44 = .ok (.iload_n 1, 1) := by decide +kernel
theorem dX8_readComponent_45 : decode cX8_readComponent 45 = .ok (.iload_n 2, 1) := by decide +kernel
theorem dX8_readComponent_46 : decode cX8_readComponent 46 = .ok (.iastore, 1) := by decide +kernel
theorem dX8_readComponent_47 : decode cX8_readComponent 47 = .ok (.aload_n 0, 1) := by decide +kernel
theorem dX8_readComponent_48 : decode cX8_readComponent 48 = .ok (.invokevirtual 150, 3) := by decide +kernel
theorem dX8_readComponent_51 : decode cX8_readComponent 51 = .ok (.istore_n 3, 1) := by decide +kernel
theorem dX8_readComponent_52 : decode cX8_readComponent 52 = .ok (.iload_n 3, 1) := by decide +kernel
theorem dX8_readComponent_53 : decode cX8_readComponent 53 = .ok (.iconst (-1), 1) := by decide +kernel
theorem dX8_readComponent_54 : decode cX8_readComponent 54 = .ok (.if_icmp .ne 5, 3) := by decide +kernel
theorem dX8_readComponent_57 : decode cX8_readComponent 57 = .ok (.iconst 0, 1) := by decide +kernel
theorem dX8_readComponent_58 : decode cX8_readComponent 58 = .ok (.ireturn, 1) := by decide +kernel
theorem dX8_readComponent_59 : decode cX8_readComponent 59 = .ok (.iload_n 3, 1) := by decide +kernel
theorem dX8_readComponent_60 : decode cX8_readComponent 60 = .ok (.bipush 17, 2) := by decide +kernel
theorem dX8_readComponent_62 : decode cX8_readComponent 62 = .ok (.if_icmp .eq 26, 3) := by decide +kernel
theorem dX8_readComponent_65 : decode cX8_readComponent 65 = .ok (.iload_n 3, 1) := by decide +kernel
theorem dX8_readComponent_66 : decode cX8_readComponent 66 = .ok (.bipush 18, 2) := by decide +kernel
theorem dX8_readComponent_68 : decode cX8_readComponent 68 = .ok (.if_icmp .eq 20, 3) := by decide +kernel
theorem dX8_readComponent_71 : decode cX8_readComponent 71 = .ok (.iload_n 3, 1) := by decide +kernel
theorem dX8_readComponent_72 : decode cX8_readComponent 72 = .ok (.bipush 33, 2) := by decide +kernel
theorem dX8_readComponent_74 : decode cX8_readComponent 74 = .ok (.if_icmp .eq 14, 3) := by decide +kernel
theorem dX8_readComponent_77 : decode cX8_readComponent 77 = .ok (.iload_n 3, 1) := by decide +kernel
theorem dX8_readComponent_78 : decode cX8_readComponent 78 = .ok (.bipush 34, 2) := by decide +kernel
theorem dX8_readComponent_80 : decode cX8_readComponent 80 = .ok (.if_icmp .eq 8, 3) := by decide +kernel
theorem dX8_readComponent_83 : decode cX8_readComponent 83 = .ok (.aload_n 0, 1) := by decide +kernel
theorem dX8_readComponent_84 : decode cX8_readComponent 84 = .ok (.invokevirtual 159, 3) := by decide +kernel
theorem dX8_readComponent_87 : decode cX8_readComponent 87 = .ok (.ireturn, 1) := by decide +kernel
theorem dX8_readComponent_88 : decode cX8_readComponent 88 = .ok (.aload_n 0, 1) := by decide +kernel
theorem dX8_readComponent_89 : decode cX8_readComponent 89 = .ok (.getfield 44, 3) := by decide +kernel
theorem dX8_readComponent_92 : decode cX8_readComponent 92 = .ok (.getfield 198, 3) := by decide +kernel
theorem dX8_readComponent_95 : decode cX8_readComponent 95 = .ok (.iload_n 1, 1) := by decide +kernel
theorem dX8_readComponent_96 : decode cX8_readComponent 96 = .ok (.iload_n 3, 1) := by decide +kernel
theorem dX8_readComponent_97 : decode cX8_readComponent 97 = .ok (.bipush 16, 2) := by decide +kernel
theorem dX8_readComponent_99 : decode cX8_readComponent 99 = .ok (.idiv, 1) := by decide +kernel
theorem dX8_readComponent_100 : decode cX8_readComponent 100 = .ok (.iastore, 1) := by decide +kernel
theorem dX8_readComponent_101 : decode cX8_readComponent 101 = .ok (.aload_n 0, 1) := by decide +kernel
theorem dX8_readComponent_102 : decode cX8_readComponent 102 = .ok (.getfield 44, 3) := by decide +kernel
theorem dX8_readComponent_105 : decode cX8_readComponent 105 = .ok (.getfield 201, 3) := by decide +kernel
theorem dX8_readComponent_108 : decode cX8_readComponent 108 = .ok (.iload_n 1, 1) := by decide +kernel
theorem dX8_readComponent_109 : decode cX8_readComponent 109 = .ok (.iload_n 3, 1) := by decide +kernel
theorem dX8_readComponent_110 : decode cX8_readComponent 110 = .ok (.bipush 16, 2) := by decide +kernel
theorem dX8_readComponent_112 : decode cX8_readComponent 112 = .ok (.irem, 1) := by decide +kernel
theorem dX8_readComponent_113 : decode cX8_readComponent 113 = .ok (.iastore, 1) := by decide +kernel
theorem dX8_readComponent_114 : decode cX8_readComponent 114 = .ok (.aload_n 0, 1) := by decide +kernel
theorem dX8_readComponent_115 : decode cX8_readComponent 115 = .ok (.getfield 28, 3) := by decide +kernel
theorem dX8_readComponent_118 : decode cX8_readComponent 118 = .ok (.iload_n 1, 1) := by decide +kernel
theorem dX8_readComponent_119 : decode cX8_readComponent 119 = .ok (.aload_n 0, 1) := by decide +kernel
theorem dX8_readComponent_120 : decode cX8_readComponent 120 = .ok (.iconst 0, 1) := by decide +kernel
theorem dX8_readComponent_121 : decode cX8_readComponent 121 = .ok (.iconst 3, 1) := by decide +kernel
theorem dX8_readComponent_122 : decode cX8_readComponent 122 = .ok (.invokevirtual 156, 3) := by decide +kernel
theorem dX8_readComponent_125 : decode cX8_readComponent 125 = .ok (.iastore, 1) := by decide +kernel
theorem dX8_readComponent_126 : decode cX8_readComponent 126 = .ok (.aload_n 0, 1) := by decide +kernel
theorem dX8_readComponent_127 : decode cX8_readComponent 127 = .ok (.getfield 62, 3) := by decide +kernel
theorem dX8_readComponent_130 : decode cX8_readComponent 130 = .ok (.ifCond .ne 7, 3) := by decide +kernel
theorem dX8_readComponent_133 : decode cX8_readComponent 133 = .ok (.iconst 1, 1) := by decide +kernel
theorem dX8_readComponent_134 : decode cX8_readComponent 134 = .ok (.goto 4, 3) := by decide +kernel
theorem dX8_readComponent_137 : decode cX8_readComponent 137 = .ok (.iconst 0, 1) := by decide +kernel
theorem dX8_readComponent_138 : decode cX8_readComponent 138 = .ok (.ireturn, 1) := by decide +kernel
theorem flRX8_24 : px_f RX8 24 8 15 := ⟨_, rfl, by decide, Or.inl (tb2 (List.mem_of_getElem? (i := 79) rfl))⟩
theorem flRX8_28 : px_f RX8 28 8 16 := ⟨_, rfl, by decide, Or.inl (tb2 (List.mem_of_getElem? (i := 80) rfl))⟩
theorem flRX8_198 : px_f RX8 198 2 6 := ⟨_, rfl, by decide, Or.inl (tb1 (List.mem_of_getElem? (i := 78) rfl))⟩
theorem flRX8_201 : px_f RX8 201 2 7 := ⟨_, rfl, by decide, Or.inl (tb1 (List.mem_of_getElem? (i := 83) rfl))⟩
theorem kcX8_readComponent_150 : px_cV mX8_readComponent 150 mX8_contentByte 0 := ⟨⟨mbX8_contentByte, by decide, by decide⟩, Or.inl (tb3 (List.mem_of_getElem? (i := 180) rfl)), vbX8_contentByte⟩
theorem kcX8_readComponent_156 : px_cV mX8_readComponent 156 mX8_byteIn 2 := ⟨⟨mbX8_byteIn, by decide, by decide⟩, Or.inl (tb3 (List.mem_of_getElem? (i := 176) rfl)), vbX8_byteIn⟩
theorem kcX8_readComponent_159 : px_cV mX8_readComponent 159 mX8_refuse 0 := ⟨⟨mbX8_refuse, by decide, by decide⟩, Or.inl (tb3 (List.mem_of_getElem? (i := 188) rfl)), vbX8_refuse⟩
set_option maxRecDepth 100000 in
set_option maxHeartbeats 4000000 in
theorem eX8_readComponent_88 {X : px_X}  : ∀ (a0 : Nat) (a1 : Int32) (a3 : Int32) (w : px_W) (q : Int32 × px_W), fX8_readComponent_88 X  a0 a1 a3 w = some q → EV X mX8_readComponent 88 [(0, .ref a0), (1, .int a1), (3, .int a3)] [] w (some (.int q.1)) q.2 := by
  intro a0 a1 a3 w q h
  unfold fX8_readComponent_88 at h
  refine EV.aload_n 0 dX8_readComponent_88 rfl rfl ?_
  obtain ⟨v26, gv26, h⟩ := px_bs h
  refine ev_gR dX8_readComponent_89 flRX8_44 gv26 ?_
  obtain ⟨v27, gv27, h⟩ := px_bs h
  refine ev_gR dX8_readComponent_92 flRX8_198 gv27 ?_
  refine EV.iload_n 1 dX8_readComponent_95 rfl rfl ?_
  refine EV.iload_n 2 dX8_readComponent_96 rfl rfl ?_
  refine EV.bipush (16) dX8_readComponent_97 (by decide) ?_
  obtain ⟨v28, gv28, h⟩ := px_bs h
  refine ev_dI dX8_readComponent_99 gv28 ?_
  obtain ⟨w29, gw29, h⟩ := px_bs h
  refine ev_sI dX8_readComponent_100 gw29 ?_
  refine EV.aload_n 0 dX8_readComponent_101 rfl rfl ?_
  obtain ⟨v30, gv30, h⟩ := px_bs h
  refine ev_gR dX8_readComponent_102 flRX8_44 gv30 ?_
  obtain ⟨v31, gv31, h⟩ := px_bs h
  refine ev_gR dX8_readComponent_105 flRX8_201 gv31 ?_
  refine EV.iload_n 1 dX8_readComponent_108 rfl rfl ?_
  refine EV.iload_n 2 dX8_readComponent_109 rfl rfl ?_
  refine EV.bipush (16) dX8_readComponent_110 (by decide) ?_
  obtain ⟨v32, gv32, h⟩ := px_bs h
  refine ev_rI dX8_readComponent_112 gv32 ?_
  obtain ⟨w33, gw33, h⟩ := px_bs h
  refine ev_sI dX8_readComponent_113 gw33 ?_
  refine EV.aload_n 0 dX8_readComponent_114 rfl rfl ?_
  obtain ⟨v34, gv34, h⟩ := px_bs h
  refine ev_gR dX8_readComponent_115 flRX8_28 gv34 ?_
  refine EV.iload_n 1 dX8_readComponent_118 rfl rfl ?_
  refine EV.aload_n 0 dX8_readComponent_119 rfl rfl ?_
  refine EV.iconst (0) dX8_readComponent_120 (by decide) ?_
  refine EV.iconst (3) dX8_readComponent_121 (by decide) ?_
  obtain ⟨o35, go35, h⟩ := px_bs h
  obtain ⟨q36, gq36, h⟩ := px_bs h
  refine EV.callV (As := [.int 0, .int 3]) (rest := [.int a1, .ref v34]) dX8_readComponent_122 kcX8_readComponent_156 (gO_ok go35) rfl rfl rfl (Nat.le_of_ble_eq_true rfl) (Nat.le_of_ble_eq_true rfl) (eX8_byteIn gq36) ?_
  obtain ⟨w37, gw37, h⟩ := px_bs h
  refine ev_sI dX8_readComponent_125 gw37 ?_
  refine EV.aload_n 0 dX8_readComponent_126 rfl rfl ?_
  obtain ⟨v38, gv38, h⟩ := px_bs h
  refine ev_gI dX8_readComponent_127 flRX8_62 gv38 ?_
  refine EV.if_ne 137 dX8_readComponent_130 (by decide) (fun c39 => ?_) (fun c39 => ?_)
  · rw [if_neg c39] at h
    refine EV.iconst (0) dX8_readComponent_137 (by decide) ?_
    cases h
    exact EV.reti dX8_readComponent_138 rfl
  · rw [if_pos c39] at h
    refine EV.iconst (1) dX8_readComponent_133 (by decide) ?_
    refine EV.goto 138 dX8_readComponent_134 (by decide) ?_
    cases h
    exact EV.reti dX8_readComponent_138 rfl
set_option maxRecDepth 100000 in
set_option maxHeartbeats 4000000 in
theorem eX8_readComponent_40 {X : px_X}  : ∀ (a0 : Nat) (a1 : Int32) (a2 : Int32) (w : px_W) (q : Int32 × px_W), fX8_readComponent_40 X  a0 a1 a2 w = some q → EV X mX8_readComponent 40 [(0, .ref a0), (1, .int a1), (2, .int a2)] [] w (some (.int q.1)) q.2 := by
  intro a0 a1 a2 w q h
  unfold fX8_readComponent_40 at h
  refine EV.aload_n 0 dX8_readComponent_40 rfl rfl ?_
  obtain ⟨v40, gv40, h⟩ := px_bs h
  refine ev_gR dX8_readComponent_41 flRX8_24 gv40 ?_
  refine EV.iload_n 1 dX8_readComponent_44 rfl rfl ?_
  refine EV.iload_n 2 dX8_readComponent_45 rfl rfl ?_
  obtain ⟨w41, gw41, h⟩ := px_bs h
  refine ev_sI dX8_readComponent_46 gw41 ?_
  refine EV.aload_n 0 dX8_readComponent_47 rfl rfl ?_
  obtain ⟨o42, go42, h⟩ := px_bs h
  obtain ⟨q43, gq43, h⟩ := px_bs h
  refine EV.callV (As := []) (rest := []) dX8_readComponent_48 kcX8_readComponent_150 (gO_ok go42) rfl rfl rfl (Nat.le_of_ble_eq_true rfl) (Nat.le_of_ble_eq_true rfl) (eX8_contentByte gq43) ?_
  refine EV.istore_n [(3, .int q43.1), (0, .ref a0), (1, .int a1), (2, .int a2)] dX8_readComponent_51 rfl (by decide) rfl ?_
  refine EV.iload_n 0 dX8_readComponent_52 rfl rfl ?_
  refine EV.iconst ((-1)) dX8_readComponent_53 (by decide) ?_
  refine EV.icmp_ne 59 dX8_readComponent_54 (by decide) (fun c44 => ?_) (fun c44 => ?_)
  · rw [if_neg c44] at h
    refine EV.iload_n 0 dX8_readComponent_59 rfl rfl ?_
    refine EV.bipush (17) dX8_readComponent_60 (by decide) ?_
    refine EV.icmp_eq 88 dX8_readComponent_62 (by decide) (fun c45 => ?_) (fun c45 => ?_)
    · rw [if_pos c45] at h
      refine EV.sub [1, 2, 0] rfl ?_
      exact eX8_readComponent_88  _ _ _ _ _ h
    · rw [if_neg c45] at h
      refine EV.iload_n 0 dX8_readComponent_65 rfl rfl ?_
      refine EV.bipush (18) dX8_readComponent_66 (by decide) ?_
      refine EV.icmp_eq 88 dX8_readComponent_68 (by decide) (fun c46 => ?_) (fun c46 => ?_)
      · rw [if_pos c46] at h
        refine EV.sub [1, 2, 0] rfl ?_
        exact eX8_readComponent_88  _ _ _ _ _ h
      · rw [if_neg c46] at h
        refine EV.iload_n 0 dX8_readComponent_71 rfl rfl ?_
        refine EV.bipush (33) dX8_readComponent_72 (by decide) ?_
        refine EV.icmp_eq 88 dX8_readComponent_74 (by decide) (fun c47 => ?_) (fun c47 => ?_)
        · rw [if_pos c47] at h
          refine EV.sub [1, 2, 0] rfl ?_
          exact eX8_readComponent_88  _ _ _ _ _ h
        · rw [if_neg c47] at h
          refine EV.iload_n 0 dX8_readComponent_77 rfl rfl ?_
          refine EV.bipush (34) dX8_readComponent_78 (by decide) ?_
          refine EV.icmp_eq 88 dX8_readComponent_80 (by decide) (fun c48 => ?_) (fun c48 => ?_)
          · rw [if_pos c48] at h
            refine EV.sub [1, 2, 0] rfl ?_
            exact eX8_readComponent_88  _ _ _ _ _ h
          · rw [if_neg c48] at h
            refine EV.aload_n 1 dX8_readComponent_83 rfl rfl ?_
            obtain ⟨o49, go49, h⟩ := px_bs h
            obtain ⟨q50, gq50, h⟩ := px_bs h
            refine EV.callV (As := []) (rest := []) dX8_readComponent_84 kcX8_readComponent_159 (gO_ok go49) rfl rfl rfl (Nat.le_of_ble_eq_true rfl) (Nat.le_of_ble_eq_true rfl) (eX8_refuse gq50) ?_
            exact ev_retZ dX8_readComponent_87 rfl h
  · rw [if_pos c44] at h
    refine EV.iconst (0) dX8_readComponent_57 (by decide) ?_
    cases h
    exact EV.reti dX8_readComponent_58 rfl
set_option maxRecDepth 100000 in
set_option maxHeartbeats 4000000 in
theorem eX8_readComponent_29 {X : px_X}  : ∀ (a0 : Nat) (w : px_W) (q : Int32 × px_W), fX8_readComponent_29 X  a0 w = some q → EV X mX8_readComponent 29 [(0, .ref a0)] [] w (some (.int q.1)) q.2 := by
  intro a0 w q h
  unfold fX8_readComponent_29 at h
  refine EV.aload_n 0 dX8_readComponent_29 rfl rfl ?_
  obtain ⟨o51, go51, h⟩ := px_bs h
  obtain ⟨q52, gq52, h⟩ := px_bs h
  refine EV.callV (As := []) (rest := []) dX8_readComponent_30 kcX8_readComponent_159 (gO_ok go51) rfl rfl rfl (Nat.le_of_ble_eq_true rfl) (Nat.le_of_ble_eq_true rfl) (eX8_refuse gq52) ?_
  exact ev_retZ dX8_readComponent_33 rfl h
set_option maxRecDepth 100000 in
set_option maxHeartbeats 4000000 in
theorem eX8_readComponent_14 {X : px_X}  : ∀ (m : Nat) (a0 : Nat) (a1 : Int32) (a2 : Int32) (a3 : Int32) (w : px_W) (q : Int32 × px_W), fX8_readComponent_14 X  m a0 a1 a2 a3 w = some q → EV X mX8_readComponent 14 [(0, .ref a0), (1, .int a1), (2, .int a2), (3, .int a3)] [] w (some (.int q.1)) q.2 := by
  intro m
  induction m with
  | zero => intro a0 a1 a2 a3 w q h; cases h
  | succ m ih =>
    intro a0 a1 a2 a3 w q h
    rw [fX8_readComponent_14.eq_2] at h
    refine EV.iload_n 3 dX8_readComponent_14 rfl rfl ?_
    refine EV.iload_n 1 dX8_readComponent_15 rfl rfl ?_
    refine EV.icmp_ge 40 dX8_readComponent_16 (by decide) (fun c53 => ?_) (fun c53 => ?_)
    · rw [if_pos c53] at h
      refine EV.sub [0, 1, 2] rfl ?_
      exact eX8_readComponent_40  _ _ _ _ _ h
    · rw [if_neg c53] at h
      refine EV.aload_n 0 dX8_readComponent_19 rfl rfl ?_
      obtain ⟨v54, gv54, h⟩ := px_bs h
      refine ev_gR dX8_readComponent_20 flRX8_24 gv54 ?_
      refine EV.iload_n 3 dX8_readComponent_23 rfl rfl ?_
      obtain ⟨v55, gv55, h⟩ := px_bs h
      refine ev_aI dX8_readComponent_24 gv55 ?_
      refine EV.iload_n 2 dX8_readComponent_25 rfl rfl ?_
      refine EV.icmp_ne 34 dX8_readComponent_26 (by decide) (fun c56 => ?_) (fun c56 => ?_)
      · rw [if_neg c56] at h
        refine EV.iinc 3 (a3 + 1) [(3, .int (a3 + 1)), (0, .ref a0), (1, .int a1), (2, .int a2)] dX8_readComponent_34 rfl rfl (by decide) rfl ?_
        refine EV.goto 14 dX8_readComponent_37 (by decide) ?_
        refine EV.sub [1, 2, 3, 0] rfl ?_
        exact ih _ _ _ _ _ _ h
      · rw [if_pos c56] at h
        refine EV.sub [0] rfl ?_
        exact eX8_readComponent_29  _ _ _ h
set_option maxRecDepth 100000 in
set_option maxHeartbeats 4000000 in
theorem eX8_readComponent {X : px_X} {w : px_W} {a0 : Nat} {a1 : Int32} {q : Int32 × px_W} (h : fX8_readComponent X w a0 a1 = some q) : EV X mX8_readComponent 0 (lv_args 0 [.ref a0, .int a1]) [] w (some (.int q.1)) q.2 := by
  unfold fX8_readComponent at h
  show EV X mX8_readComponent 0 [(0, .ref a0), (1, .int a1)] [] w (some (.int q.1)) q.2
  refine EV.aload_n 0 dX8_readComponent_0 rfl rfl ?_
  obtain ⟨o57, go57, h⟩ := px_bs h
  obtain ⟨q58, gq58, h⟩ := px_bs h
  refine EV.callV (As := []) (rest := []) dX8_readComponent_1 kcX8_readComponent_150 (gO_ok go57) rfl rfl rfl (Nat.le_of_ble_eq_true rfl) (Nat.le_of_ble_eq_true rfl) (eX8_contentByte gq58) ?_
  refine EV.istore_n [(2, .int q58.1), (0, .ref a0), (1, .int a1)] dX8_readComponent_4 rfl (by decide) rfl ?_
  refine EV.iload_n 0 dX8_readComponent_5 rfl rfl ?_
  refine EV.iconst ((-1)) dX8_readComponent_6 (by decide) ?_
  refine EV.icmp_ne 12 dX8_readComponent_7 (by decide) (fun c59 => ?_) (fun c59 => ?_)
  · rw [if_neg c59] at h
    refine EV.iconst (0) dX8_readComponent_12 (by decide) ?_
    refine EV.istore_n [(3, .int 0), (2, .int q58.1), (0, .ref a0), (1, .int a1)] dX8_readComponent_13 rfl (by decide) rfl ?_
    refine EV.sub [2, 3, 1, 0] rfl ?_
    exact eX8_readComponent_14  FU _ _ _ _ _ _ h
  · rw [if_pos c59] at h
    refine EV.iconst (0) dX8_readComponent_10 (by decide) ?_
    cases h
    exact EV.reti dX8_readComponent_11 rfl
/-! WavePictures$SegmentReader.readFrame(I)Z -/
theorem dX8_readFrame_0 : decode cX8_readFrame 0 = .ok (.aload_n 0, 1) := by decide +kernel
theorem dX8_readFrame_1 : decode cX8_readFrame 1 = .ok (.bipush 8, 2) := by decide +kernel
theorem dX8_readFrame_3 : decode cX8_readFrame 3 = .ok (.bipush 8, 2) := by decide +kernel
theorem dX8_readFrame_5 : decode cX8_readFrame 5 = .ok (.invokevirtual 156, 3) := by decide +kernel
theorem dX8_readFrame_8 : decode cX8_readFrame 8 = .ok (.iconst (-1), 1) := by decide +kernel
theorem dX8_readFrame_9 : decode cX8_readFrame 9 = .ok (.if_icmp .ne 5, 3) := by decide +kernel
theorem dX8_readFrame_12 : decode cX8_readFrame 12 = .ok (.iconst 0, 1) := by decide +kernel
theorem dX8_readFrame_13 : decode cX8_readFrame 13 = .ok (.ireturn, 1) := by decide +kernel
theorem dX8_readFrame_14 : decode cX8_readFrame 14 = .ok (.aload_n 0, 1) := by decide +kernel
theorem dX8_readFrame_15 : decode cX8_readFrame 15 = .ok (.iconst 0, 1) := by decide +kernel
theorem dX8_readFrame_16 : decode cX8_readFrame 16 = .ok (.bipush 64, 2) := by decide +kernel
theorem dX8_readFrame_18 : decode cX8_readFrame 18 = .ok (.invokevirtual 183, 3) := by decide +kernel
theorem dX8_readFrame_21 : decode cX8_readFrame 21 = .ok (.istore_n 2, 1) := by decide +kernel
theorem dX8_readFrame_22 : decode cX8_readFrame 22 = .ok (.iload_n 2, 1) := by decide +kernel
theorem dX8_readFrame_23 : decode cX8_readFrame 23 = .ok (.iconst (-1), 1) := by decide +kernel
theorem dX8_readFrame_24 : decode cX8_readFrame 24 = .ok (.if_icmp .ne 7, 3) := by decide +kernel
theorem dX8_readFrame_27 : decode cX8_readFrame 27 = .ok (.iconst (-1), 1) := by decide +kernel
theorem dX8_readFrame_28 : decode cX8_readFrame 28 = .ok (.goto 10, 3) := by decide +kernel
theorem dX8_readFrame_31 : decode cX8_readFrame 31 = .ok (.aload_n 0, 1) := by decide +kernel
theorem dX8_readFrame_32 : decode cX8_readFrame 32 = .ok (.iconst 1, 1) := by decide +kernel
theorem dX8_readFrame_33 : decode cX8_readFrame 33 = .ok (.bipush 64, 2) := by decide +kernel
theorem dX8_readFrame_35 : decode cX8_readFrame 35 = .ok (.invokevirtual 183, 3) := by decide +kernel
theorem dX8_readFrame_38 : decode cX8_readFrame 38 = .ok (.istore_n 3, 1) := by decide +kernel
theorem dX8_readFrame_39 : decode cX8_readFrame 39 = .ok (.iload_n 3, 1) := by decide +kernel
theorem dX8_readFrame_40 : decode cX8_readFrame 40 = .ok (.iconst (-1), 1) := by decide +kernel
theorem dX8_readFrame_41 : decode cX8_readFrame 41 = .ok (.if_icmp .ne 7, 3) := by decide +kernel
theorem dX8_readFrame_44 : decode cX8_readFrame 44 = .ok (.iconst (-1), 1) := by decide +kernel
theorem dX8_readFrame_45 : decode cX8_readFrame 45 = .ok (.goto 9, 3) := by decide +kernel
theorem dX8_readFrame_48 : decode cX8_readFrame 48 = .ok (.aload_n 0, 1) := by decide +kernel
theorem dX8_readFrame_49 : decode cX8_readFrame 49 = .ok (.iconst 1, 1) := by decide +kernel
theorem dX8_readFrame_50 : decode cX8_readFrame 50 = .ok (.iconst 4, 1) := by decide +kernel
theorem dX8_readFrame_51 : decode cX8_readFrame 51 = .ok (.invokevirtual 156, 3) := by decide +kernel
theorem dX8_readFrame_54 : decode cX8_readFrame 54 = .ok (.istore 4, 2) := by decide +kernel
theorem dX8_readFrame_56 : decode cX8_readFrame 56 = .ok (.iload 4, 2) := by decide +kernel
theorem dX8_readFrame_58 : decode cX8_readFrame 58 = .ok (.iconst (-1), 1) := by decide +kernel
theorem dX8_readFrame_59 : decode cX8_readFrame 59 = .ok (.if_icmp .ne 5, 3) := by decide +kernel
theorem dX8_readFrame_62 : decode cX8_readFrame 62 = .ok (.iconst 0, 1) := by decide +kernel
theorem dX8_readFrame_63 : decode cX8_readFrame 63 = .ok (.ireturn, 1) := by decide +kernel
theorem dX8_readFrame_64 : decode cX8_readFrame 64 = .ok (.iconst 0, 1) := by decide +kernel
theorem dX8_readFrame_65 : decode cX8_readFrame 65 = .ok (.istore 5, 2) := by decide +kernel
theorem dX8_readFrame_67 : decode cX8_readFrame 67 = .ok (.iload 5, 2) := by decide +kernel
theorem dX8_readFrame_69 : decode cX8_readFrame 69 = .ok (.iload 4, 2) := by decide +kernel
theorem dX8_readFrame_71 : decode cX8_readFrame 71 = .ok (.if_icmp .ge 20, 3) := by decide +kernel
theorem dX8_readFrame_74 : decode cX8_readFrame 74 = .ok (.aload_n 0, 1) := by decide +kernel
theorem dX8_readFrame_75 : decode cX8_readFrame 75 = .ok (.iload 5, 2) := by decide +kernel
theorem dX8_readFrame_77 : decode cX8_readFrame 77 = .ok (.invokevirtual 192, 3) := by decide +kernel
theorem dX8_readFrame_80 : decode cX8_readFrame 80 = .ok (.ifCond .ne 5, 3) := by decide +kernel
theorem dX8_readFrame_83 : decode cX8_readFrame 83 = .ok (.iconst 0, 1) := by decide +kernel
theorem dX8_readFrame_84 : decode cX8_readFrame 84 = .ok (.ireturn, 1) := by decide +kernel
theorem dX8_readFrame_85 : decode cX8_readFrame 85 = .ok (.iinc 5 1, 3) := by decide +kernel
theorem dX8_readFrame_88 : decode cX8_readFrame 88 = .ok (.goto (-21), 3) := by decide +kernel
theorem dX8_readFrame_91 : decode cX8_readFrame 91 = .ok (.aload_n 0, 1) := by decide +kernel
theorem dX8_readFrame_92 : decode cX8_readFrame 92 = .ok (.iload_n 1, 1) := by decide +kernel
theorem dX8_readFrame_93 : decode cX8_readFrame 93 = .ok (.putfield 68, 3) := by decide +kernel
theorem dX8_readFrame_96 : decode cX8_readFrame 96 = .ok (.aload_n 0, 1) := by decide +kernel
theorem dX8_readFrame_97 : decode cX8_readFrame 97 = .ok (.iload_n 2, 1) := by decide +kernel
theorem dX8_readFrame_98 : decode cX8_readFrame 98 = .ok (.ifCond .ne 7, 3) := by decide +kernel
theorem dX8_readFrame_101 : decode cX8_readFrame 101 = .ok (.iconst 1, 1) := by decide +kernel
theorem dX8_readFrame_102 : decode cX8_readFrame 102 = .ok (.goto 4, 3) := by decide +kernel
theorem dX8_readFrame_105 : decode cX8_readFrame 105 = .ok (.iconst 0, 1) := by decide +kernel
theorem dX8_readFrame_106 : decode cX8_readFrame 106 = .ok (.putfield 71, 3) := by decide +kernel
theorem dX8_readFrame_109 : decode cX8_readFrame 109 = .ok (.aload_n 0, 1) := by decide +kernel
theorem dX8_readFrame_110 : decode cX8_readFrame 110 = .ok (.getfield 44, 3) := by decide +kernel
theorem dX8_readFrame_113 : decode cX8_readFrame 113 = .ok (.iload_n 3, 1) := by decide +kernel
theorem dX8_readFrame_114 : decode cX8_readFrame 114 = .ok (.putfield 195, 3) := by decide +kernel
theorem dX8_readFrame_117 : decode cX8_readFrame 117 = .ok (.aload_n 0, 1) := by decide +kernel
theorem dX8_readFrame_118 : decode cX8_readFrame 118 = .ok (.getfield 44, 3) := by decide +kernel
theorem dX8_readFrame_121 : decode cX8_readFrame 121 = .ok (.aload_n 0, 1) := by decide +kernel
theorem dX8_readFrame_122 : decode cX8_readFrame 122 = .ok (.getfield 71, 3) := by decide +kernel
theorem dX8_readFrame_125 : decode cX8_readFrame 125 = .ok (.ifCond .eq 10, 3) := by decide +kernel
theorem dX8_readFrame_128 : decode cX8_readFrame 128 = .ok (.aload_n 0, 1) := by decide +kernel
theorem dX8_readFrame_129 : decode cX8_readFrame 129 = .ok (.getfield 49, 3) := by decide +kernel
theorem dX8_readFrame_132 : decode cX8_readFrame 132 = .ok (.goto 4, 3) := by decide +kernel
theorem dX8_readFrame_135 : decode cX8_readFrame 135 = .ok (.iload_n 2, 1) := by decide +kernel
theorem dX8_readFrame_136 : decode cX8_readFrame 136 = .ok (.putfield 189, 3) := by decide +kernel
theorem dX8_readFrame_139 : decode cX8_readFrame 139 = .ok (.aload_n 0, 1) := by decide +kernel
theorem dX8_readFrame_140 : decode cX8_readFrame 140 = .ok (.getfield 44, 3) := by decide +kernel
theorem dX8_readFrame_143 : decode cX8_readFrame 143 = .ok (.iload 4, 2) := by decide +kernel
theorem dX8_readFrame_145 : decode cX8_readFrame 145 = .ok (.putfield 78, 3) := by decide +kernel
theorem dX8_readFrame_148 : decode cX8_readFrame 148 = .ok (.aload_n 0, 1) := by decide +kernel
theorem dX8_readFrame_149 : decode cX8_readFrame 149 = .ok (.invokevirtual 186, 3) := by decide +kernel
theorem dX8_readFrame_152 : decode cX8_readFrame 152 = .ok (.ireturn, 1) := by decide +kernel
theorem flRX8_189 : px_f RX8 189 2 1 := ⟨_, rfl, by decide, Or.inl (tb1 (List.mem_of_getElem? (i := 63) rfl))⟩
theorem flRX8_195 : px_f RX8 195 2 0 := ⟨_, rfl, by decide, Or.inl (tb1 (List.mem_of_getElem? (i := 59) rfl))⟩
theorem kcX8_readFrame_156 : px_cV mX8_readFrame 156 mX8_byteIn 2 := ⟨⟨mbX8_byteIn, by decide, by decide⟩, Or.inl (tb3 (List.mem_of_getElem? (i := 176) rfl)), vbX8_byteIn⟩
theorem kcX8_readFrame_183 : px_cV mX8_readFrame 183 mX8_numberIn 2 := ⟨⟨mbX8_numberIn, by decide, by decide⟩, Or.inl (tb3 (List.mem_of_getElem? (i := 209) rfl)), vbX8_numberIn⟩
theorem kcX8_readFrame_186 : px_cV mX8_readFrame 186 mX8_endsHere 0 := ⟨⟨mbX8_endsHere, by decide, by decide⟩, Or.inl (tb3 (List.mem_of_getElem? (i := 213) rfl)), vbX8_endsHere⟩
theorem mbX8_readComponent : px_mB mX8_readComponent 1 := ⟨tb3 (List.mem_of_getElem? (i := 224) rfl), by decide +kernel, tb1 (List.mem_of_getElem? (i := 6) rfl), by decide +kernel, by decide +kernel⟩
theorem vbX8_readComponent : px_vB mX8_readComponent := ⟨tb3 (List.mem_of_getElem? (i := 223) rfl), List.mem_append_left _ (List.mem_of_getElem? (i := 17) (by decide +kernel))⟩
theorem kcX8_readFrame_192 : px_cV mX8_readFrame 192 mX8_readComponent 1 := ⟨⟨mbX8_readComponent, by decide, by decide⟩, Or.inl (tb3 (List.mem_of_getElem? (i := 221) rfl)), vbX8_readComponent⟩
set_option maxRecDepth 100000 in
set_option maxHeartbeats 4000000 in
theorem eX8_readFrame_136 {X : px_X}  : ∀ (a0 : Nat) (a4 : Int32) (s0 : Int32) (s1 : Nat) (w : px_W) (q : Int32 × px_W), fX8_readFrame_136 X  a0 a4 s0 s1 w = some q → EV X mX8_readFrame 136 [(0, .ref a0), (4, .int a4)] [.int s0, .ref s1] w (some (.int q.1)) q.2 := by
  intro a0 a4 s0 s1 w q h
  unfold fX8_readFrame_136 at h
  obtain ⟨w23, gw23, h⟩ := px_bs h
  refine ev_pV dX8_readFrame_136 flRX8_189 rfl rfl rfl rfl gw23 ?_
  refine EV.aload_n 0 dX8_readFrame_139 rfl rfl ?_
  obtain ⟨v24, gv24, h⟩ := px_bs h
  refine ev_gR dX8_readFrame_140 flRX8_44 gv24 ?_
  refine EV.iload 1 dX8_readFrame_143 rfl ?_
  obtain ⟨w25, gw25, h⟩ := px_bs h
  refine ev_pV dX8_readFrame_145 flRX8_78 rfl rfl rfl rfl gw25 ?_
  refine EV.aload_n 0 dX8_readFrame_148 rfl rfl ?_
  obtain ⟨o26, go26, h⟩ := px_bs h
  obtain ⟨q27, gq27, h⟩ := px_bs h
  refine EV.callV (As := []) (rest := []) dX8_readFrame_149 kcX8_readFrame_186 (gO_ok go26) rfl rfl rfl (Nat.le_of_ble_eq_true rfl) (Nat.le_of_ble_eq_true rfl) (eX8_endsHere gq27) ?_
  exact ev_retZ dX8_readFrame_152 rfl h
set_option maxRecDepth 100000 in
set_option maxHeartbeats 4000000 in
theorem eX8_readFrame_106 {X : px_X}  : ∀ (a0 : Nat) (a2 : Int32) (a3 : Int32) (a4 : Int32) (s0 : Int32) (s1 : Nat) (w : px_W) (q : Int32 × px_W), fX8_readFrame_106 X  a0 a2 a3 a4 s0 s1 w = some q → EV X mX8_readFrame 106 [(0, .ref a0), (2, .int a2), (3, .int a3), (4, .int a4)] [.int s0, .ref s1] w (some (.int q.1)) q.2 := by
  intro a0 a2 a3 a4 s0 s1 w q h
  unfold fX8_readFrame_106 at h
  obtain ⟨w28, gw28, h⟩ := px_bs h
  refine ev_pZ dX8_readFrame_106 flRX8_71 rfl rfl (by decide +kernel) gw28 ?_
  refine EV.aload_n 0 dX8_readFrame_109 rfl rfl ?_
  obtain ⟨v29, gv29, h⟩ := px_bs h
  refine ev_gR dX8_readFrame_110 flRX8_44 gv29 ?_
  refine EV.iload_n 2 dX8_readFrame_113 rfl rfl ?_
  obtain ⟨w30, gw30, h⟩ := px_bs h
  refine ev_pV dX8_readFrame_114 flRX8_195 rfl rfl rfl rfl gw30 ?_
  refine EV.aload_n 0 dX8_readFrame_117 rfl rfl ?_
  obtain ⟨v31, gv31, h⟩ := px_bs h
  refine ev_gR dX8_readFrame_118 flRX8_44 gv31 ?_
  refine EV.aload_n 0 dX8_readFrame_121 rfl rfl ?_
  obtain ⟨v32, gv32, h⟩ := px_bs h
  refine ev_gI dX8_readFrame_122 flRX8_71 gv32 ?_
  refine EV.if_eq 135 dX8_readFrame_125 (by decide) (fun c33 => ?_) (fun c33 => ?_)
  · rw [if_pos c33] at h
    refine EV.iload_n 1 dX8_readFrame_135 rfl rfl ?_
    refine EV.sub [0, 3] rfl ?_
    exact eX8_readFrame_136  _ _ _ _ _ _ h
  · rw [if_neg c33] at h
    refine EV.aload_n 0 dX8_readFrame_128 rfl rfl ?_
    obtain ⟨v34, gv34, h⟩ := px_bs h
    refine ev_gI dX8_readFrame_129 flRX8_49 gv34 ?_
    refine EV.goto 136 dX8_readFrame_132 (by decide) ?_
    refine EV.sub [0, 3] rfl ?_
    exact eX8_readFrame_136  _ _ _ _ _ _ h
set_option maxRecDepth 100000 in
set_option maxHeartbeats 4000000 in
theorem eX8_readFrame_91 {X : px_X}  : ∀ (a0 : Nat) (a1 : Int32) (a2 : Int32) (a3 : Int32) (a4 : Int32) (w : px_W) (q : Int32 × px_W), fX8_readFrame_91 X  a0 a1 a2 a3 a4 w = some q → EV X mX8_readFrame 91 [(0, .ref a0), (1, .int a1), (2, .int a2), (3, .int a3), (4, .int a4)] [] w (some (.int q.1)) q.2 := by
  intro a0 a1 a2 a3 a4 w q h
  unfold fX8_readFrame_91 at h
  refine EV.aload_n 0 dX8_readFrame_91 rfl rfl ?_
  refine EV.iload_n 1 dX8_readFrame_92 rfl rfl ?_
  obtain ⟨w35, gw35, h⟩ := px_bs h
  refine ev_pV dX8_readFrame_93 flRX8_68 rfl rfl rfl rfl gw35 ?_
  refine EV.aload_n 0 dX8_readFrame_96 rfl rfl ?_
  refine EV.iload_n 2 dX8_readFrame_97 rfl rfl ?_
  refine EV.if_ne 105 dX8_readFrame_98 (by decide) (fun c36 => ?_) (fun c36 => ?_)
  · rw [if_neg c36] at h
    refine EV.iconst (0) dX8_readFrame_105 (by decide) ?_
    refine EV.sub [0, 2, 3, 4] rfl ?_
    exact eX8_readFrame_106  _ _ _ _ _ _ _ _ h
  · rw [if_pos c36] at h
    refine EV.iconst (1) dX8_readFrame_101 (by decide) ?_
    refine EV.goto 106 dX8_readFrame_102 (by decide) ?_
    refine EV.sub [0, 2, 3, 4] rfl ?_
    exact eX8_readFrame_106  _ _ _ _ _ _ _ _ h
set_option maxRecDepth 100000 in
set_option maxHeartbeats 4000000 in
theorem eX8_readFrame_67 {X : px_X}  : ∀ (m : Nat) (a0 : Nat) (a1 : Int32) (a2 : Int32) (a3 : Int32) (a4 : Int32) (a5 : Int32) (w : px_W) (q : Int32 × px_W), fX8_readFrame_67 X  m a0 a1 a2 a3 a4 a5 w = some q → EV X mX8_readFrame 67 [(0, .ref a0), (1, .int a1), (2, .int a2), (3, .int a3), (4, .int a4), (5, .int a5)] [] w (some (.int q.1)) q.2 := by
  intro m
  induction m with
  | zero => intro a0 a1 a2 a3 a4 a5 w q h; cases h
  | succ m ih =>
    intro a0 a1 a2 a3 a4 a5 w q h
    rw [fX8_readFrame_67.eq_2] at h
    refine EV.iload 5 dX8_readFrame_67 rfl ?_
    refine EV.iload 4 dX8_readFrame_69 rfl ?_
    refine EV.icmp_ge 91 dX8_readFrame_71 (by decide) (fun c37 => ?_) (fun c37 => ?_)
    · rw [if_pos c37] at h
      refine EV.sub [0, 1, 2, 3, 4] rfl ?_
      exact eX8_readFrame_91  _ _ _ _ _ _ _ h
    · rw [if_neg c37] at h
      refine EV.aload_n 0 dX8_readFrame_74 rfl rfl ?_
      refine EV.iload 5 dX8_readFrame_75 rfl ?_
      obtain ⟨o38, go38, h⟩ := px_bs h
      obtain ⟨q39, gq39, h⟩ := px_bs h
      refine EV.callV (As := [.int a5]) (rest := []) dX8_readFrame_77 kcX8_readFrame_192 (gO_ok go38) rfl rfl rfl (Nat.le_of_ble_eq_true rfl) (Nat.le_of_ble_eq_true rfl) (eX8_readComponent gq39) ?_
      refine EV.if_ne 85 dX8_readFrame_80 (by decide) (fun c40 => ?_) (fun c40 => ?_)
      · rw [if_neg c40] at h
        refine EV.iinc 5 (a5 + 1) [(5, .int (a5 + 1)), (0, .ref a0), (1, .int a1), (2, .int a2), (3, .int a3), (4, .int a4)] dX8_readFrame_85 rfl rfl (by decide) rfl ?_
        refine EV.goto 67 dX8_readFrame_88 (by decide) ?_
        refine EV.sub [1, 2, 3, 4, 5, 0] rfl ?_
        exact ih _ _ _ _ _ _ _ _ h
      · rw [if_pos c40] at h
        refine EV.iconst (0) dX8_readFrame_83 (by decide) ?_
        cases h
        exact EV.reti dX8_readFrame_84 rfl
set_option maxRecDepth 100000 in
set_option maxHeartbeats 4000000 in
theorem eX8_readFrame_54 {X : px_X}  : ∀ (a0 : Nat) (a1 : Int32) (a2 : Int32) (a3 : Int32) (s0 : Int32) (w : px_W) (q : Int32 × px_W), fX8_readFrame_54 X  a0 a1 a2 a3 s0 w = some q → EV X mX8_readFrame 54 [(0, .ref a0), (1, .int a1), (2, .int a2), (3, .int a3)] [.int s0] w (some (.int q.1)) q.2 := by
  intro a0 a1 a2 a3 s0 w q h
  unfold fX8_readFrame_54 at h
  refine EV.istore [(4, .int s0), (0, .ref a0), (1, .int a1), (2, .int a2), (3, .int a3)] dX8_readFrame_54 (by decide) rfl ?_
  refine EV.iload 0 dX8_readFrame_56 rfl ?_
  refine EV.iconst ((-1)) dX8_readFrame_58 (by decide) ?_
  refine EV.icmp_ne 64 dX8_readFrame_59 (by decide) (fun c41 => ?_) (fun c41 => ?_)
  · rw [if_neg c41] at h
    refine EV.iconst (0) dX8_readFrame_64 (by decide) ?_
    refine EV.istore [(5, .int 0), (4, .int s0), (0, .ref a0), (1, .int a1), (2, .int a2), (3, .int a3)] dX8_readFrame_65 (by decide) rfl ?_
    refine EV.sub [2, 3, 4, 5, 1, 0] rfl ?_
    exact eX8_readFrame_67  FU _ _ _ _ _ _ _ _ h
  · rw [if_pos c41] at h
    refine EV.iconst (0) dX8_readFrame_62 (by decide) ?_
    cases h
    exact EV.reti dX8_readFrame_63 rfl
set_option maxRecDepth 100000 in
set_option maxHeartbeats 4000000 in
theorem eX8_readFrame_38 {X : px_X}  : ∀ (a0 : Nat) (a1 : Int32) (a2 : Int32) (s0 : Int32) (w : px_W) (q : Int32 × px_W), fX8_readFrame_38 X  a0 a1 a2 s0 w = some q → EV X mX8_readFrame 38 [(0, .ref a0), (1, .int a1), (2, .int a2)] [.int s0] w (some (.int q.1)) q.2 := by
  intro a0 a1 a2 s0 w q h
  unfold fX8_readFrame_38 at h
  refine EV.istore_n [(3, .int s0), (0, .ref a0), (1, .int a1), (2, .int a2)] dX8_readFrame_38 rfl (by decide) rfl ?_
  refine EV.iload_n 0 dX8_readFrame_39 rfl rfl ?_
  refine EV.iconst ((-1)) dX8_readFrame_40 (by decide) ?_
  refine EV.icmp_ne 48 dX8_readFrame_41 (by decide) (fun c42 => ?_) (fun c42 => ?_)
  · rw [if_neg c42] at h
    refine EV.aload_n 1 dX8_readFrame_48 rfl rfl ?_
    refine EV.iconst (1) dX8_readFrame_49 (by decide) ?_
    refine EV.iconst (4) dX8_readFrame_50 (by decide) ?_
    obtain ⟨o43, go43, h⟩ := px_bs h
    obtain ⟨q44, gq44, h⟩ := px_bs h
    refine EV.callV (As := [.int 1, .int 4]) (rest := []) dX8_readFrame_51 kcX8_readFrame_156 (gO_ok go43) rfl rfl rfl (Nat.le_of_ble_eq_true rfl) (Nat.le_of_ble_eq_true rfl) (eX8_byteIn gq44) ?_
    refine EV.sub [1, 2, 3, 0] rfl ?_
    exact eX8_readFrame_54  _ _ _ _ _ _ _ h
  · rw [if_pos c42] at h
    refine EV.iconst ((-1)) dX8_readFrame_44 (by decide) ?_
    refine EV.goto 54 dX8_readFrame_45 (by decide) ?_
    refine EV.sub [1, 2, 3, 0] rfl ?_
    exact eX8_readFrame_54  _ _ _ _ _ _ _ h
set_option maxRecDepth 100000 in
set_option maxHeartbeats 4000000 in
theorem eX8_readFrame {X : px_X} {w : px_W} {a0 : Nat} {a1 : Int32} {q : Int32 × px_W} (h : fX8_readFrame X w a0 a1 = some q) : EV X mX8_readFrame 0 (lv_args 0 [.ref a0, .int a1]) [] w (some (.int q.1)) q.2 := by
  unfold fX8_readFrame at h
  show EV X mX8_readFrame 0 [(0, .ref a0), (1, .int a1)] [] w (some (.int q.1)) q.2
  refine EV.aload_n 0 dX8_readFrame_0 rfl rfl ?_
  refine EV.bipush (8) dX8_readFrame_1 (by decide) ?_
  refine EV.bipush (8) dX8_readFrame_3 (by decide) ?_
  obtain ⟨o45, go45, h⟩ := px_bs h
  obtain ⟨q46, gq46, h⟩ := px_bs h
  refine EV.callV (As := [.int 8, .int 8]) (rest := []) dX8_readFrame_5 kcX8_readFrame_156 (gO_ok go45) rfl rfl rfl (Nat.le_of_ble_eq_true rfl) (Nat.le_of_ble_eq_true rfl) (eX8_byteIn gq46) ?_
  refine EV.iconst ((-1)) dX8_readFrame_8 (by decide) ?_
  refine EV.icmp_ne 14 dX8_readFrame_9 (by decide) (fun c47 => ?_) (fun c47 => ?_)
  · rw [if_neg c47] at h
    refine EV.aload_n 0 dX8_readFrame_14 rfl rfl ?_
    refine EV.iconst (0) dX8_readFrame_15 (by decide) ?_
    refine EV.bipush (64) dX8_readFrame_16 (by decide) ?_
    obtain ⟨o48, go48, h⟩ := px_bs h
    obtain ⟨q49, gq49, h⟩ := px_bs h
    refine EV.callV (As := [.int 0, .int 64]) (rest := []) dX8_readFrame_18 kcX8_readFrame_183 (gO_ok go48) rfl rfl rfl (Nat.le_of_ble_eq_true rfl) (Nat.le_of_ble_eq_true rfl) (eX8_numberIn gq49) ?_
    refine EV.istore_n [(2, .int q49.1), (0, .ref a0), (1, .int a1)] dX8_readFrame_21 rfl (by decide) rfl ?_
    refine EV.iload_n 0 dX8_readFrame_22 rfl rfl ?_
    refine EV.iconst ((-1)) dX8_readFrame_23 (by decide) ?_
    refine EV.icmp_ne 31 dX8_readFrame_24 (by decide) (fun c50 => ?_) (fun c50 => ?_)
    · rw [if_neg c50] at h
      refine EV.aload_n 1 dX8_readFrame_31 rfl rfl ?_
      refine EV.iconst (1) dX8_readFrame_32 (by decide) ?_
      refine EV.bipush (64) dX8_readFrame_33 (by decide) ?_
      obtain ⟨o51, go51, h⟩ := px_bs h
      obtain ⟨q52, gq52, h⟩ := px_bs h
      refine EV.callV (As := [.int 1, .int 64]) (rest := []) dX8_readFrame_35 kcX8_readFrame_183 (gO_ok go51) rfl rfl rfl (Nat.le_of_ble_eq_true rfl) (Nat.le_of_ble_eq_true rfl) (eX8_numberIn gq52) ?_
      refine EV.sub [1, 2, 0] rfl ?_
      exact eX8_readFrame_38  _ _ _ _ _ _ h
    · rw [if_pos c50] at h
      refine EV.iconst ((-1)) dX8_readFrame_27 (by decide) ?_
      refine EV.goto 38 dX8_readFrame_28 (by decide) ?_
      refine EV.sub [1, 2, 0] rfl ?_
      exact eX8_readFrame_38  _ _ _ _ _ _ h
  · rw [if_pos c47] at h
    refine EV.iconst (0) dX8_readFrame_12 (by decide) ?_
    cases h
    exact EV.reti dX8_readFrame_13 rfl
/-! WavePictures$SegmentReader.componentNamed(I)I -/
theorem dX8_componentNamed_0 : decode cX8_componentNamed 0 = .ok (.iconst 0, 1) := by decide +kernel
theorem dX8_componentNamed_1 : decode cX8_componentNamed 1 = .ok (.istore_n 2, 1) := by decide +kernel
theorem dX8_componentNamed_2 : decode cX8_componentNamed 2 = .ok (.iload_n 2, 1) := by decide +kernel
theorem dX8_componentNamed_3 : decode cX8_componentNamed 3 = .ok (.aload_n 0, 1) := by decide +kernel
theorem dX8_componentNamed_4 : decode cX8_componentNamed 4 = .ok (.getfield 44, 3) := by decide +kernel
theorem dX8_componentNamed_7 : decode cX8_componentNamed 7 = .ok (.getfield 78, 3) := by decide +kernel
theorem dX8_componentNamed_10 : decode cX8_componentNamed 10 = .ok (.if_icmp .ge 21, 3) := by decide +kernel
theorem dX8_componentNamed_13 : decode cX8_componentNamed 13 = .ok (.aload_n 0, 1) := by decide +kernel
theorem dX8_componentNamed_14 : decode cX8_componentNamed 14 = .ok (.getfield 24, 3) := by decide +kernel
theorem dX8_componentNamed_17 : decode cX8_componentNamed 17 = .ok (.iload_n 2, 1) := by decide +kernel
theorem dX8_componentNamed_18 : decode cX8_componentNamed 18 = .ok (.iaload, 1) := by decide +kernel
theorem dX8_componentNamed_19 : decode cX8_componentNamed 19 = .ok (.iload_n 1, 1) := by decide +kernel
theorem dX8_componentNamed_20 : decode cX8_componentNamed 20 = .ok (.if_icmp .ne 5, 3) := by decide +kernel
theorem dX8_componentNamed_23 : decode cX8_componentNamed 23 = .ok (.iload_n 2, 1) := by decide +kernel
theorem dX8_componentNamed_24 : decode cX8_componentNamed 24 = .ok (.ireturn, 1) := by decide +kernel
theorem dX8_componentNamed_25 : decode cX8_componentNamed 25 = .ok (.iinc 2 1, 3) := by decide +kernel
theorem dX8_componentNamed_28 : decode cX8_componentNamed 28 = .ok (.goto (-26), 3) := by decide +kernel
theorem dX8_componentNamed_31 : decode cX8_componentNamed 31 = .ok (.iconst (-1), 1) := by decide +kernel
theorem dX8_componentNamed_32 : decode cX8_componentNamed 32 = .ok (.ireturn, 1) := by decide +kernel
set_option maxRecDepth 100000 in
set_option maxHeartbeats 4000000 in
theorem eX8_componentNamed_2 {X : px_X}  : ∀ (m : Nat) (a0 : Nat) (a1 : Int32) (a2 : Int32) (w : px_W) (q : Int32 × px_W), fX8_componentNamed_2 X  m a0 a1 a2 w = some q → EV X mX8_componentNamed 2 [(0, .ref a0), (1, .int a1), (2, .int a2)] [] w (some (.int q.1)) q.2 := by
  intro m
  induction m with
  | zero => intro a0 a1 a2 w q h; cases h
  | succ m ih =>
    intro a0 a1 a2 w q h
    rw [fX8_componentNamed_2.eq_2] at h
    refine EV.iload_n 2 dX8_componentNamed_2 rfl rfl ?_
    refine EV.aload_n 0 dX8_componentNamed_3 rfl rfl ?_
    obtain ⟨v5, gv5, h⟩ := px_bs h
    refine ev_gR dX8_componentNamed_4 flRX8_44 gv5 ?_
    obtain ⟨v6, gv6, h⟩ := px_bs h
    refine ev_gI dX8_componentNamed_7 flRX8_78 gv6 ?_
    refine EV.icmp_ge 31 dX8_componentNamed_10 (by decide) (fun c7 => ?_) (fun c7 => ?_)
    · rw [if_pos c7] at h
      refine EV.iconst ((-1)) dX8_componentNamed_31 (by decide) ?_
      cases h
      exact EV.reti dX8_componentNamed_32 rfl
    · rw [if_neg c7] at h
      refine EV.aload_n 0 dX8_componentNamed_13 rfl rfl ?_
      obtain ⟨v8, gv8, h⟩ := px_bs h
      refine ev_gR dX8_componentNamed_14 flRX8_24 gv8 ?_
      refine EV.iload_n 2 dX8_componentNamed_17 rfl rfl ?_
      obtain ⟨v9, gv9, h⟩ := px_bs h
      refine ev_aI dX8_componentNamed_18 gv9 ?_
      refine EV.iload_n 1 dX8_componentNamed_19 rfl rfl ?_
      refine EV.icmp_ne 25 dX8_componentNamed_20 (by decide) (fun c10 => ?_) (fun c10 => ?_)
      · rw [if_neg c10] at h
        refine EV.iinc 2 (a2 + 1) [(2, .int (a2 + 1)), (0, .ref a0), (1, .int a1)] dX8_componentNamed_25 rfl rfl (by decide) rfl ?_
        refine EV.goto 2 dX8_componentNamed_28 (by decide) ?_
        refine EV.sub [1, 2, 0] rfl ?_
        exact ih _ _ _ _ _ h
      · rw [if_pos c10] at h
        refine EV.iload_n 2 dX8_componentNamed_23 rfl rfl ?_
        cases h
        exact EV.reti dX8_componentNamed_24 rfl
set_option maxRecDepth 100000 in
set_option maxHeartbeats 4000000 in
theorem eX8_componentNamed {X : px_X} {w : px_W} {a0 : Nat} {a1 : Int32} {q : Int32 × px_W} (h : fX8_componentNamed X w a0 a1 = some q) : EV X mX8_componentNamed 0 (lv_args 0 [.ref a0, .int a1]) [] w (some (.int q.1)) q.2 := by
  unfold fX8_componentNamed at h
  show EV X mX8_componentNamed 0 [(0, .ref a0), (1, .int a1)] [] w (some (.int q.1)) q.2
  refine EV.iconst (0) dX8_componentNamed_0 (by decide) ?_
  refine EV.istore_n [(2, .int 0), (0, .ref a0), (1, .int a1)] dX8_componentNamed_1 rfl (by decide) rfl ?_
  refine EV.sub [1, 2, 0] rfl ?_
  exact eX8_componentNamed_2  FU _ _ _ _ _ h
/-! WavePictures$SegmentReader.readMembers()Z -/
theorem dX8_readMembers_0 : decode cX8_readMembers 0 = .ok (.iconst (-1), 1) := by decide +kernel
theorem dX8_readMembers_1 : decode cX8_readMembers 1 = .ok (.istore_n 1, 1) := by decide +kernel
theorem dX8_readMembers_2 : decode cX8_readMembers 2 = .ok (.iconst 0, 1) := by decide +kernel
theorem dX8_readMembers_3 : decode cX8_readMembers 3 = .ok (.istore_n 2, 1) := by decide +kernel
theorem dX8_readMembers_4 : decode cX8_readMembers 4 = .ok (.iconst 0, 1) := by decide +kernel
theorem dX8_readMembers_5 : decode cX8_readMembers 5 = .ok (.istore_n 3, 1) := by decide +kernel
theorem dX8_readMembers_6 : decode cX8_readMembers 6 = .ok (.iload_n 3, 1) := by decide +kernel
theorem dX8_readMembers_7 : decode cX8_readMembers 7 = .ok (.aload_n 0, 1) := by decide +kernel
theorem dX8_readMembers_8 : decode cX8_readMembers 8 = .ok (.getfield 12, 3) := by decide +kernel
theorem dX8_readMembers_11 : decode cX8_readMembers 11 = .ok (.getfield 204, 3) := by decide +kernel
theorem dX8_readMembers_14 : decode cX8_readMembers 14 = .ok (.if_icmp .ge 175, 3) := by decide +kernel
theorem dX8_readMembers_17 : decode cX8_readMembers 17 = .ok (.aload_n 0, 1) := by decide +kernel
theorem dX8_readMembers_18 : decode cX8_readMembers 18 = .ok (.invokevirtual 150, 3) := by decide +kernel
theorem dX8_readMembers_21 : decode cX8_readMembers 21 = .ok (.istore 4, 2) := by decide +kernel
theorem dX8_readMembers_23 : decode cX8_readMembers 23 = .ok (.iload 4, 2) := by decide +kernel
theorem dX8_readMembers_25 : decode cX8_readMembers 25 = .ok (.iconst (-1), 1) := by decide +kernel
theorem dX8_readMembers_26 : decode cX8_readMembers 26 = .ok (.if_icmp .ne 5, 3) := by decide +kernel
theorem dX8_readMembers_29 : decode cX8_readMembers 29 = .ok (.iconst 0, 1) := by decide +kernel
theorem dX8_readMembers_30 : decode cX8_readMembers 30 = .ok (.ireturn, 1) := by decide +kernel
theorem dX8_readMembers_31 : decode cX8_readMembers 31 = .ok (.aload_n 0, 1) := by decide +kernel
theorem dX8_readMembers_32 : decode cX8_readMembers 32 = .ok (.iload 4, 2) := by decide +kernel
theorem dX8_readMembers_34 : decode cX8_readMembers 34 = .ok (.invokevirtual 230, 3) := by decide +kernel
theorem dX8_readMembers_37 : decode cX8_readMembers 37 = .ok (.istore 5, 2) := by decide +kernel
theorem dX8_readMembers_39 : decode cX8_readMembers 39 = .ok (.iload 5, 2) := by decide +kernel
theorem dX8_readMembers_41 : decode cX8_readMembers 41 = .ok (.iload_n 1, 1) := by decide +kernel
theorem dX8_readMembers_42 : decode cX8_readMembers 42 = .ok (.if_icmp .gt 18, 3) := by decide +kernel
theorem dX8_readMembers_45 : decode cX8_readMembers 45 = .ok (.aload_n 0, 1) := by decide +kernel
theorem dX8_readMembers_46 : decode cX8_readMembers 46 = .ok (.bipush 7, 2) := by decide +kernel
theorem dX8_readMembers_48 : decode cX8_readMembers 48 = .ok (.aload_n 0, 1) := by decide +kernel
theorem dX8_readMembers_49 : decode cX8_readMembers 49 = .ok (.getfield 92, 3) := by decide +kernel
theorem dX8_readMembers_52 : decode cX8_readMembers 52 = .ok (.iconst 1, 1) := by decide +kernel
theorem dX8_readMembers_53 : decode cX8_readMembers 53 = .ok (.isub, 1) := by decide +kernel
theorem dX8_readMembers_54 : decode cX8_readMembers 54 = .ok (.invokevirtual 100, 3) := by decide +kernel
theorem dX8_readMembers_57 : decode cX8_readMembers 57 = .ok (.pop, 1) := by decide +kernel
theorem dX8_readMembers_58 : decode cX8_readMembers 58 = .ok (.iconst 0, 1) := by decide +kernel
theorem dX8_readMembers_59 : decode cX8_readMembers 59 = .ok (.ireturn, 1) := by decide +kernel
theorem dX8_readMembers_60 : decode cX8_readMembers 60 = .ok (.iload 5, 2) := by decide +kernel
theorem dX8_readMembers_62 : decode cX8_readMembers 62 = .ok (.istore_n 1, 1) := by decide +kernel
theorem dX8_readMembers_63 : decode cX8_readMembers 63 = .ok (.iload_n 2, 1) := by decide +kernel
theorem dX8_readMembers_64 : decode cX8_readMembers 64 = .ok (.aload_n 0, 1) := by decide +kernel
theorem dX8_readMembers_65 : decode cX8_readMembers 65 = .ok (.getfield 44, 3) := by decide +kernel
theorem dX8_readMembers_68 : decode cX8_readMembers 68 = .ok (.getfield 198, 3) := by decide +kernel
theorem dX8_readMembers_71 : decode cX8_readMembers 71 = .ok (.iload 5, 2) := by decide +kernel
theorem dX8_readMembers_73 : decode cX8_readMembers 73 = .ok (.iaload, 1) := by decide +kernel
theorem dX8_readMembers_74 : decode cX8_readMembers 74 = .ok (.aload_n 0, 1) := by decide +kernel
theorem dX8_readMembers_75 : decode cX8_readMembers 75 = .ok (.getfield 44, 3) := by decide +kernel
theorem dX8_readMembers_78 : decode cX8_readMembers 78 = .ok (.getfield 201, 3) := by decide +kernel
theorem dX8_readMembers_81 : decode cX8_readMembers 81 = .ok (.iload 5, 2) := by decide +kernel
theorem dX8_readMembers_83 : decode cX8_readMembers 83 = .ok (.iaload, 1) := by decide +kernel
theorem dX8_readMembers_84 : decode cX8_readMembers 84 = .ok (.imul, 1) := by decide +kernel
theorem dX8_readMembers_85 : decode cX8_readMembers 85 = .ok (.iadd, 1) := by decide +kernel
theorem dX8_readMembers_86 : decode cX8_readMembers 86 = .ok (.istore_n 2, 1) := by decide +kernel
theorem dX8_readMembers_87 : decode cX8_readMembers 87 = .ok (.iload_n 2, 1) := by decide +kernel
theorem dX8_readMembers_88 : decode cX8_readMembers 88 = .ok (.bipush 10, 2) := by decide +kernel
theorem dX8_readMembers_90 : decode cX8_readMembers 90 = .ok (.if_icmp .le 8, 3) := by decide +kernel
theorem dX8_readMembers_93 : decode cX8_readMembers 93 = .ok (.aload_n 0, 1) := by decide +kernel
theorem dX8_readMembers_94 : decode cX8_readMembers 94 = .ok (.invokevirtual 159, 3) := by decide +kernel
theorem dX8_readMembers_97 : decode cX8_readMembers 97 = .ok (.ireturn, 1) := by decide +kernel
theorem dX8_readMembers_98 : decode cX8_readMembers 98 = .ok (.aload_n 0, 1) := by decide +kernel
theorem dX8_readMembers_99 : decode cX8_readMembers 99 = .ok (.getfield 12, 3) := by decide +kernel
theorem dX8_readMembers_102 : decode cX8_readMembers 102 = .ok (.getfield 220, 3) := by decide +kernel
theorem dX8_readMembers_105 : decode cX8_readMembers 105 = .ok (.iload_n 3, 1) := by decide +kernel
theorem dX8_readMembers_106 : decode cX8_readMembers 106 = .ok (.iload 5, 2) := by decide +kernel
theorem dX8_readMembers_108 : decode cX8_readMembers 108 = .ok (.iastore, 1) := by decide +kernel
theorem dX8_readMembers_109 : decode cX8_readMembers 109 = .ok (.aload_n 0, 1) := by decide +kernel
theorem dX8_readMembers_110 : decode cX8_readMembers 110 = .ok (.getfield 12, 3) := by decide +kernel
theorem dX8_readMembers_113 : decode cX8_readMembers 113 = .ok (.getfield 233, 3) := by decide +kernel
theorem dX8_readMembers_116 : decode cX8_readMembers 116 = .ok (.iload_n 3, 1) := by decide +kernel
theorem dX8_readMembers_117 : decode cX8_readMembers 117 = .ok (.aload_n 0, 1) := by decide +kernel
theorem dX8_readMembers_118 : decode cX8_readMembers 118 = .ok (.getfield 92, 3) := by decide +kernel
theorem dX8_readMembers_121 : decode cX8_readMembers 121 = .ok (.iconst 1, 1) := by decide +kernel
theorem dX8_readMembers_122 : decode cX8_readMembers 122 = .ok (.isub, 1) := by decide +kernel
theorem dX8_readMembers_123 : decode cX8_readMembers 123 = .ok (.iastore, 1) := by decide +kernel
theorem dX8_readMembers_124 : decode cX8_readMembers 124 = .ok (.aload_n 0, 1) := by decide +kernel
theorem dX8_readMembers_125 : decode cX8_readMembers 125 = .ok (.iconst 0, 1) := by decide +kernel
theorem dX8_readMembers_126 : decode cX8_readMembers 126 = .ok (.bipush 51, 2) := by decide +kernel
theorem dX8_readMembers_128 : decode cX8_readMembers 128 = .ok (.invokevirtual 156, 3) := by decide +kernel
theorem dX8_readMembers_131 : decode cX8_readMembers 131 = .ok (.istore 6, 2) := by decide +kernel
theorem dX8_readMembers_133 : decode cX8_readMembers 133 = .ok (.iload 6, 2) := by decide +kernel
theorem dX8_readMembers_135 : decode cX8_readMembers 135 = .ok (.iconst (-1), 1) := by decide +kernel
theorem dX8_readMembers_136 : decode cX8_readMembers 136 = .ok (.if_icmp .ne 5, 3) := by decide +kernel
theorem dX8_readMembers_139 : decode cX8_readMembers 139 = .ok (.iconst 0, 1) := by decide +kernel
theorem dX8_readMembers_140 : decode cX8_readMembers 140 = .ok (.ireturn, 1) := by decide +kernel
theorem dX8_readMembers_141 : decode cX8_readMembers 141 = .ok (.iload 6, 2) := by decide +kernel
theorem dX8_readMembers_143 : decode cX8_readMembers 143 = .ok (.bipush 16, 2) := by decide +kernel
theorem dX8_readMembers_145 : decode cX8_readMembers 145 = .ok (.irem, 1) := by decide +kernel
theorem dX8_readMembers_146 : decode cX8_readMembers 146 = .ok (.iconst 3, 1) := by decide +kernel
theorem dX8_readMembers_147 : decode cX8_readMembers 147 = .ok (.if_icmp .le 8, 3) := by decide +kernel
theorem dX8_readMembers_150 : decode cX8_readMembers 150 = .ok (.aload_n 0, 1) := by decide +kernel
theorem dX8_readMembers_151 : decode cX8_readMembers 151 = .ok (.invokevirtual 159, 3) := by decide +kernel
theorem dX8_readMembers_154 : decode cX8_readMembers 154 = .ok (.ireturn, 1) := by decide +kernel
theorem dX8_readMembers_155 : decode cX8_readMembers 155 = .ok (.aload_n 0, 1) := by decide +kernel
theorem dX8_readMembers_156 : decode cX8_readMembers 156 = .ok (.getfield 12, 3) := by decide +kernel
theorem dX8_readMembers_159 : decode cX8_readMembers 159 = .ok (.getfield 236, 3) := by decide +kernel
theorem dX8_readMembers_162 : decode cX8_readMembers 162 = .ok (.iload_n 3, 1) := by decide +kernel
theorem dX8_readMembers_163 : decode cX8_readMembers 163 = .ok (.iload 6, 2) := by decide +kernel
theorem dX8_readMembers_165 : decode cX8_readMembers 165 = .ok (.bipush 16, 2) := by decide +kernel
theorem dX8_readMembers_167 : decode cX8_readMembers 167 = .ok (.idiv, 1) := by decide +kernel
theorem dX8_readMembers_168 : decode cX8_readMembers 168 = .ok (.iastore, 1) := by decide +kernel
theorem dX8_readMembers_169 : decode cX8_readMembers 169 = .ok (.aload_n 0, 1) := by decide +kernel
theorem dX8_readMembers_170 : decode cX8_readMembers 170 = .ok (.getfield 12, 3) := by decide +kernel
theorem dX8_readMembers_173 : decode cX8_readMembers 173 = .ok (.getfield 239, 3) := by decide +kernel
theorem dX8_readMembers_176 : decode cX8_readMembers 176 = .ok (.iload_n 3, 1) := by decide +kernel
theorem dX8_readMembers_177 : decode cX8_readMembers 177 = .ok (.iload 6, 2) := by decide +kernel
theorem dX8_readMembers_179 : decode cX8_readMembers 179 = .ok (.bipush 16, 2) := by decide +kernel
theorem dX8_readMembers_181 : decode cX8_readMembers 181 = .ok (.irem, 1) := by decide +kernel
theorem dX8_readMembers_182 : decode cX8_readMembers 182 = .ok (.iastore, 1) := by decide +kernel
theorem dX8_readMembers_183 : decode cX8_readMembers 183 = .ok (.iinc 3 1, 3) := by decide +kernel
theorem dX8_readMembers_186 : decode cX8_readMembers 186 = .ok (.goto (-180), 3) := by decide +kernel
theorem dX8_readMembers_189 : decode cX8_readMembers 189 = .ok (.iconst 1, 1) := by decide +kernel
theorem dX8_readMembers_190 : decode cX8_readMembers 190 = .ok (.ireturn, 1) := by decide +kernel
theorem flRX8_12 : px_f RX8 12 8 2 := ⟨_, rfl, by decide, Or.inl (tb2 (List.mem_of_getElem? (i := 60) rfl))⟩
theorem flRX8_204 : px_f RX8 204 5 0 := ⟨_, rfl, by decide, Or.inl (tb1 (List.mem_of_getElem? (i := 186) rfl))⟩
theorem flRX8_220 : px_f RX8 220 5 5 := ⟨_, rfl, by decide, Or.inl (tb1 (List.mem_of_getElem? (i := 208) rfl))⟩
theorem flRX8_233 : px_f RX8 233 5 8 := ⟨_, rfl, by decide, Or.inl (tb1 (List.mem_of_getElem? (i := 216) rfl))⟩
theorem flRX8_236 : px_f RX8 236 5 6 := ⟨_, rfl, by decide, Or.inl (tb1 (List.mem_of_getElem? (i := 211) rfl))⟩
theorem flRX8_239 : px_f RX8 239 5 7 := ⟨_, rfl, by decide, Or.inl (tb1 (List.mem_of_getElem? (i := 214) rfl))⟩
theorem kcX8_readMembers_100 : px_cV mX8_readMembers 100 mX8_fail 2 := ⟨⟨mbX8_fail, by decide, by decide⟩, Or.inl (tb3 (List.mem_of_getElem? (i := 143) rfl)), vbX8_fail⟩
theorem kcX8_readMembers_150 : px_cV mX8_readMembers 150 mX8_contentByte 0 := ⟨⟨mbX8_contentByte, by decide, by decide⟩, Or.inl (tb3 (List.mem_of_getElem? (i := 180) rfl)), vbX8_contentByte⟩
theorem kcX8_readMembers_156 : px_cV mX8_readMembers 156 mX8_byteIn 2 := ⟨⟨mbX8_byteIn, by decide, by decide⟩, Or.inl (tb3 (List.mem_of_getElem? (i := 176) rfl)), vbX8_byteIn⟩
theorem kcX8_readMembers_159 : px_cV mX8_readMembers 159 mX8_refuse 0 := ⟨⟨mbX8_refuse, by decide, by decide⟩, Or.inl (tb3 (List.mem_of_getElem? (i := 188) rfl)), vbX8_refuse⟩
theorem mbX8_componentNamed : px_mB mX8_componentNamed 1 := ⟨tb3 (List.mem_of_getElem? (i := 236) rfl), by decide +kernel, tb1 (List.mem_of_getElem? (i := 6) rfl), by decide +kernel, by decide +kernel⟩
theorem vbX8_componentNamed : px_vB mX8_componentNamed := ⟨tb3 (List.mem_of_getElem? (i := 235) rfl), List.mem_append_left _ (List.mem_of_getElem? (i := 20) (by decide +kernel))⟩
theorem kcX8_readMembers_230 : px_cV mX8_readMembers 230 mX8_componentNamed 1 := ⟨⟨mbX8_componentNamed, by decide, by decide⟩, Or.inl (tb3 (List.mem_of_getElem? (i := 233) rfl)), vbX8_componentNamed⟩
set_option maxRecDepth 100000 in
set_option maxHeartbeats 4000000 in
theorem eX8_readMembers_93 {X : px_X}  : ∀ (a0 : Nat) (w : px_W) (q : Int32 × px_W), fX8_readMembers_93 X  a0 w = some q → EV X mX8_readMembers 93 [(0, .ref a0)] [] w (some (.int q.1)) q.2 := by
  intro a0 w q h
  unfold fX8_readMembers_93 at h
  refine EV.aload_n 0 dX8_readMembers_93 rfl rfl ?_
  obtain ⟨o38, go38, h⟩ := px_bs h
  obtain ⟨q39, gq39, h⟩ := px_bs h
  refine EV.callV (As := []) (rest := []) dX8_readMembers_94 kcX8_readMembers_159 (gO_ok go38) rfl rfl rfl (Nat.le_of_ble_eq_true rfl) (Nat.le_of_ble_eq_true rfl) (eX8_refuse gq39) ?_
  exact ev_retZ dX8_readMembers_97 rfl h
set_option maxRecDepth 100000 in
set_option maxHeartbeats 4000000 in
theorem eX8_readMembers_45 {X : px_X}  : ∀ (a0 : Nat) (w : px_W) (q : Int32 × px_W), fX8_readMembers_45 X  a0 w = some q → EV X mX8_readMembers 45 [(0, .ref a0)] [] w (some (.int q.1)) q.2 := by
  intro a0 w q h
  unfold fX8_readMembers_45 at h
  refine EV.aload_n 0 dX8_readMembers_45 rfl rfl ?_
  refine EV.bipush (7) dX8_readMembers_46 (by decide) ?_
  refine EV.aload_n 0 dX8_readMembers_48 rfl rfl ?_
  obtain ⟨v40, gv40, h⟩ := px_bs h
  refine ev_gI dX8_readMembers_49 flRX8_92 gv40 ?_
  refine EV.iconst (1) dX8_readMembers_52 (by decide) ?_
  refine EV.isub dX8_readMembers_53 ?_
  obtain ⟨o41, go41, h⟩ := px_bs h
  obtain ⟨q42, gq42, h⟩ := px_bs h
  refine EV.callV (As := [.int 7, .int (v40 - 1)]) (rest := []) dX8_readMembers_54 kcX8_readMembers_100 (gO_ok go41) rfl rfl rfl (Nat.le_of_ble_eq_true rfl) (Nat.le_of_ble_eq_true rfl) (eX8_fail gq42) ?_
  refine EV.pop dX8_readMembers_57 rfl ?_
  refine EV.iconst (0) dX8_readMembers_58 (by decide) ?_
  cases h
  exact EV.reti dX8_readMembers_59 rfl
set_option maxRecDepth 100000 in
set_option maxHeartbeats 4000000 in
theorem eX8_readMembers_150 {X : px_X}  : ∀ (a0 : Nat) (w : px_W) (q : Int32 × px_W), fX8_readMembers_150 X  a0 w = some q → EV X mX8_readMembers 150 [(0, .ref a0)] [] w (some (.int q.1)) q.2 := by
  intro a0 w q h
  unfold fX8_readMembers_150 at h
  refine EV.aload_n 0 dX8_readMembers_150 rfl rfl ?_
  obtain ⟨o43, go43, h⟩ := px_bs h
  obtain ⟨q44, gq44, h⟩ := px_bs h
  refine EV.callV (As := []) (rest := []) dX8_readMembers_151 kcX8_readMembers_159 (gO_ok go43) rfl rfl rfl (Nat.le_of_ble_eq_true rfl) (Nat.le_of_ble_eq_true rfl) (eX8_refuse gq44) ?_
  exact ev_retZ dX8_readMembers_154 rfl h
set_option maxRecDepth 100000 in
set_option maxHeartbeats 4000000 in
theorem eX8_readMembers_6 {X : px_X}  : ∀ (m : Nat) (a0 : Nat) (a1 : Int32) (a2 : Int32) (a3 : Int32) (w : px_W) (q : Int32 × px_W), fX8_readMembers_6 X  m a0 a1 a2 a3 w = some q → EV X mX8_readMembers 6 [(0, .ref a0), (1, .int a1), (2, .int a2), (3, .int a3)] [] w (some (.int q.1)) q.2 := by
  intro m
  induction m with
  | zero => intro a0 a1 a2 a3 w q h; cases h
  | succ m ih =>
    intro a0 a1 a2 a3 w q h
    rw [fX8_readMembers_6.eq_2] at h
    refine EV.iload_n 3 dX8_readMembers_6 rfl rfl ?_
    refine EV.aload_n 0 dX8_readMembers_7 rfl rfl ?_
    obtain ⟨v45, gv45, h⟩ := px_bs h
    refine ev_gR dX8_readMembers_8 flRX8_12 gv45 ?_
    obtain ⟨v46, gv46, h⟩ := px_bs h
    refine ev_gI dX8_readMembers_11 flRX8_204 gv46 ?_
    refine EV.icmp_ge 189 dX8_readMembers_14 (by decide) (fun c47 => ?_) (fun c47 => ?_)
    · rw [if_pos c47] at h
      refine EV.iconst (1) dX8_readMembers_189 (by decide) ?_
      cases h
      exact EV.reti dX8_readMembers_190 rfl
    · rw [if_neg c47] at h
      refine EV.aload_n 0 dX8_readMembers_17 rfl rfl ?_
      obtain ⟨o48, go48, h⟩ := px_bs h
      obtain ⟨q49, gq49, h⟩ := px_bs h
      refine EV.callV (As := []) (rest := []) dX8_readMembers_18 kcX8_readMembers_150 (gO_ok go48) rfl rfl rfl (Nat.le_of_ble_eq_true rfl) (Nat.le_of_ble_eq_true rfl) (eX8_contentByte gq49) ?_
      refine EV.istore [(4, .int q49.1), (0, .ref a0), (1, .int a1), (2, .int a2), (3, .int a3)] dX8_readMembers_21 (by decide) rfl ?_
      refine EV.iload 0 dX8_readMembers_23 rfl ?_
      refine EV.iconst ((-1)) dX8_readMembers_25 (by decide) ?_
      refine EV.icmp_ne 31 dX8_readMembers_26 (by decide) (fun c50 => ?_) (fun c50 => ?_)
      · rw [if_neg c50] at h
        refine EV.aload_n 1 dX8_readMembers_31 rfl rfl ?_
        refine EV.iload 0 dX8_readMembers_32 rfl ?_
        obtain ⟨o51, go51, h⟩ := px_bs h
        obtain ⟨q52, gq52, h⟩ := px_bs h
        refine EV.callV (As := [.int q49.1]) (rest := []) dX8_readMembers_34 kcX8_readMembers_230 (gO_ok go51) rfl rfl rfl (Nat.le_of_ble_eq_true rfl) (Nat.le_of_ble_eq_true rfl) (eX8_componentNamed gq52) ?_
        refine EV.istore [(5, .int q52.1), (4, .int q49.1), (0, .ref a0), (1, .int a1), (2, .int a2), (3, .int a3)] dX8_readMembers_37 (by decide) rfl ?_
        refine EV.iload 0 dX8_readMembers_39 rfl ?_
        refine EV.iload_n 3 dX8_readMembers_41 rfl rfl ?_
        refine EV.icmp_gt 60 dX8_readMembers_42 (by decide) (fun c53 => ?_) (fun c53 => ?_)
        · rw [if_pos c53] at h
          refine EV.iload 0 dX8_readMembers_60 rfl ?_
          refine EV.istore_n [(1, .int q52.1), (5, .int q52.1), (4, .int q49.1), (0, .ref a0), (2, .int a2), (3, .int a3)] dX8_readMembers_62 rfl (by decide) rfl ?_
          refine EV.iload_n 4 dX8_readMembers_63 rfl rfl ?_
          refine EV.aload_n 3 dX8_readMembers_64 rfl rfl ?_
          obtain ⟨v54, gv54, h⟩ := px_bs h
          refine ev_gR dX8_readMembers_65 flRX8_44 gv54 ?_
          obtain ⟨v55, gv55, h⟩ := px_bs h
          refine ev_gR dX8_readMembers_68 flRX8_198 gv55 ?_
          refine EV.iload 1 dX8_readMembers_71 rfl ?_
          obtain ⟨v56, gv56, h⟩ := px_bs h
          refine ev_aI dX8_readMembers_73 gv56 ?_
          refine EV.aload_n 3 dX8_readMembers_74 rfl rfl ?_
          obtain ⟨v57, gv57, h⟩ := px_bs h
          refine ev_gR dX8_readMembers_75 flRX8_44 gv57 ?_
          obtain ⟨v58, gv58, h⟩ := px_bs h
          refine ev_gR dX8_readMembers_78 flRX8_201 gv58 ?_
          refine EV.iload 1 dX8_readMembers_81 rfl ?_
          obtain ⟨v59, gv59, h⟩ := px_bs h
          refine ev_aI dX8_readMembers_83 gv59 ?_
          refine EV.imul dX8_readMembers_84 ?_
          refine EV.iadd dX8_readMembers_85 ?_
          refine EV.istore_n [(2, .int (a2 + (v56 * v59))), (1, .int q52.1), (5, .int q52.1), (4, .int q49.1), (0, .ref a0), (3, .int a3)] dX8_readMembers_86 rfl (by decide) rfl ?_
          refine EV.iload_n 0 dX8_readMembers_87 rfl rfl ?_
          refine EV.bipush (10) dX8_readMembers_88 (by decide) ?_
          refine EV.icmp_le 98 dX8_readMembers_90 (by decide) (fun c60 => ?_) (fun c60 => ?_)
          · rw [if_pos c60] at h
            refine EV.aload_n 4 dX8_readMembers_98 rfl rfl ?_
            obtain ⟨v61, gv61, h⟩ := px_bs h
            refine ev_gR dX8_readMembers_99 flRX8_12 gv61 ?_
            obtain ⟨v62, gv62, h⟩ := px_bs h
            refine ev_gR dX8_readMembers_102 flRX8_220 gv62 ?_
            refine EV.iload_n 5 dX8_readMembers_105 rfl rfl ?_
            refine EV.iload 2 dX8_readMembers_106 rfl ?_
            obtain ⟨w63, gw63, h⟩ := px_bs h
            refine ev_sI dX8_readMembers_108 gw63 ?_
            refine EV.aload_n 4 dX8_readMembers_109 rfl rfl ?_
            obtain ⟨v64, gv64, h⟩ := px_bs h
            refine ev_gR dX8_readMembers_110 flRX8_12 gv64 ?_
            obtain ⟨v65, gv65, h⟩ := px_bs h
            refine ev_gR dX8_readMembers_113 flRX8_233 gv65 ?_
            refine EV.iload_n 5 dX8_readMembers_116 rfl rfl ?_
            refine EV.aload_n 4 dX8_readMembers_117 rfl rfl ?_
            obtain ⟨v66, gv66, h⟩ := px_bs h
            refine ev_gI dX8_readMembers_118 flRX8_92 gv66 ?_
            refine EV.iconst (1) dX8_readMembers_121 (by decide) ?_
            refine EV.isub dX8_readMembers_122 ?_
            obtain ⟨w67, gw67, h⟩ := px_bs h
            refine ev_sI dX8_readMembers_123 gw67 ?_
            refine EV.aload_n 4 dX8_readMembers_124 rfl rfl ?_
            refine EV.iconst (0) dX8_readMembers_125 (by decide) ?_
            refine EV.bipush (51) dX8_readMembers_126 (by decide) ?_
            obtain ⟨o68, go68, h⟩ := px_bs h
            obtain ⟨q69, gq69, h⟩ := px_bs h
            refine EV.callV (As := [.int 0, .int 51]) (rest := []) dX8_readMembers_128 kcX8_readMembers_156 (gO_ok go68) rfl rfl rfl (Nat.le_of_ble_eq_true rfl) (Nat.le_of_ble_eq_true rfl) (eX8_byteIn gq69) ?_
            refine EV.istore [(6, .int q69.1), (2, .int (a2 + (v56 * v59))), (1, .int q52.1), (5, .int q52.1), (4, .int q49.1), (0, .ref a0), (3, .int a3)] dX8_readMembers_131 (by decide) rfl ?_
            refine EV.iload 0 dX8_readMembers_133 rfl ?_
            refine EV.iconst ((-1)) dX8_readMembers_135 (by decide) ?_
            refine EV.icmp_ne 141 dX8_readMembers_136 (by decide) (fun c70 => ?_) (fun c70 => ?_)
            · rw [if_neg c70] at h
              refine EV.iload 0 dX8_readMembers_141 rfl ?_
              refine EV.bipush (16) dX8_readMembers_143 (by decide) ?_
              obtain ⟨v71, gv71, h⟩ := px_bs h
              refine ev_rI dX8_readMembers_145 gv71 ?_
              refine EV.iconst (3) dX8_readMembers_146 (by decide) ?_
              refine EV.icmp_le 155 dX8_readMembers_147 (by decide) (fun c72 => ?_) (fun c72 => ?_)
              · rw [if_pos c72] at h
                refine EV.aload_n 5 dX8_readMembers_155 rfl rfl ?_
                obtain ⟨v73, gv73, h⟩ := px_bs h
                refine ev_gR dX8_readMembers_156 flRX8_12 gv73 ?_
                obtain ⟨v74, gv74, h⟩ := px_bs h
                refine ev_gR dX8_readMembers_159 flRX8_236 gv74 ?_
                refine EV.iload_n 6 dX8_readMembers_162 rfl rfl ?_
                refine EV.iload 0 dX8_readMembers_163 rfl ?_
                refine EV.bipush (16) dX8_readMembers_165 (by decide) ?_
                obtain ⟨v75, gv75, h⟩ := px_bs h
                refine ev_dI dX8_readMembers_167 gv75 ?_
                obtain ⟨w76, gw76, h⟩ := px_bs h
                refine ev_sI dX8_readMembers_168 gw76 ?_
                refine EV.aload_n 5 dX8_readMembers_169 rfl rfl ?_
                obtain ⟨v77, gv77, h⟩ := px_bs h
                refine ev_gR dX8_readMembers_170 flRX8_12 gv77 ?_
                obtain ⟨v78, gv78, h⟩ := px_bs h
                refine ev_gR dX8_readMembers_173 flRX8_239 gv78 ?_
                refine EV.iload_n 6 dX8_readMembers_176 rfl rfl ?_
                refine EV.iload 0 dX8_readMembers_177 rfl ?_
                refine EV.bipush (16) dX8_readMembers_179 (by decide) ?_
                obtain ⟨v79, gv79, h⟩ := px_bs h
                refine ev_rI dX8_readMembers_181 gv79 ?_
                obtain ⟨w80, gw80, h⟩ := px_bs h
                refine ev_sI dX8_readMembers_182 gw80 ?_
                refine EV.iinc 6 (a3 + 1) [(3, .int (a3 + 1)), (6, .int q69.1), (2, .int (a2 + (v56 * v59))), (1, .int q52.1), (5, .int q52.1), (4, .int q49.1), (0, .ref a0)] dX8_readMembers_183 rfl rfl (by decide) rfl ?_
                refine EV.goto 6 dX8_readMembers_186 (by decide) ?_
                refine EV.sub [6, 3, 2, 0] rfl ?_
                exact ih _ _ _ _ _ _ h
              · rw [if_neg c72] at h
                refine EV.sub [5] rfl ?_
                exact eX8_readMembers_150  _ _ _ h
            · rw [if_pos c70] at h
              refine EV.iconst (0) dX8_readMembers_139 (by decide) ?_
              cases h
              exact EV.reti dX8_readMembers_140 rfl
          · rw [if_neg c60] at h
            refine EV.sub [4] rfl ?_
            exact eX8_readMembers_93  _ _ _ h
        · rw [if_neg c53] at h
          refine EV.sub [2] rfl ?_
          exact eX8_readMembers_45  _ _ _ h
      · rw [if_pos c50] at h
        refine EV.iconst (0) dX8_readMembers_29 (by decide) ?_
        cases h
        exact EV.reti dX8_readMembers_30 rfl
set_option maxRecDepth 100000 in
set_option maxHeartbeats 4000000 in
theorem eX8_readMembers {X : px_X} {w : px_W} {a0 : Nat} {q : Int32 × px_W} (h : fX8_readMembers X w a0 = some q) : EV X mX8_readMembers 0 (lv_args 0 [.ref a0]) [] w (some (.int q.1)) q.2 := by
  unfold fX8_readMembers at h
  show EV X mX8_readMembers 0 [(0, .ref a0)] [] w (some (.int q.1)) q.2
  refine EV.iconst ((-1)) dX8_readMembers_0 (by decide) ?_
  refine EV.istore_n [(1, .int ((-1))), (0, .ref a0)] dX8_readMembers_1 rfl (by decide) rfl ?_
  refine EV.iconst (0) dX8_readMembers_2 (by decide) ?_
  refine EV.istore_n [(2, .int 0), (1, .int ((-1))), (0, .ref a0)] dX8_readMembers_3 rfl (by decide) rfl ?_
  refine EV.iconst (0) dX8_readMembers_4 (by decide) ?_
  refine EV.istore_n [(3, .int 0), (2, .int 0), (1, .int ((-1))), (0, .ref a0)] dX8_readMembers_5 rfl (by decide) rfl ?_
  refine EV.sub [3, 2, 1, 0] rfl ?_
  exact eX8_readMembers_6  FU _ _ _ _ _ _ h
/-! WavePictures$SegmentReader.readBand()Z -/
theorem dX8_readBand_0 : decode cX8_readBand 0 = .ok (.aload_n 0, 1) := by decide +kernel
theorem dX8_readBand_1 : decode cX8_readBand 1 = .ok (.getfield 68, 3) := by decide +kernel
theorem dX8_readBand_4 : decode cX8_readBand 4 = .ok (.sipush 194, 3) := by decide +kernel
theorem dX8_readBand_7 : decode cX8_readBand 7 = .ok (.if_icmp .ne 7, 3) := by decide +kernel
theorem dX8_readBand_10 : decode cX8_readBand 10 = .ok (.iconst 1, 1) := by decide +kernel
theorem dX8_readBand_11 : decode cX8_readBand 11 = .ok (.goto 4, 3) := by decide +kernel
theorem dX8_readBand_14 : decode cX8_readBand 14 = .ok (.iconst 0, 1) := by decide +kernel
theorem dX8_readBand_15 : decode cX8_readBand 15 = .ok (.istore_n 1, 1) := by decide +kernel
theorem dX8_readBand_16 : decode cX8_readBand 16 = .ok (.aload_n 0, 1) := by decide +kernel
theorem dX8_readBand_17 : decode cX8_readBand 17 = .ok (.iconst 0, 1) := by decide +kernel
theorem dX8_readBand_18 : decode cX8_readBand 18 = .ok (.iload_n 1, 1) := by decide +kernel
theorem dX8_readBand_19 : decode cX8_readBand 19 = .ok (.ifCond .eq 19, 3) := by decide +kernel
theorem dX8_readBand_22 : decode cX8_readBand 22 = .ok (.aload_n 0, 1) := by decide +kernel
theorem dX8_readBand_23 : decode cX8_readBand 23 = .ok (.getfield 12, 3) := by decide +kernel
theorem dX8_readBand_26 : decode cX8_readBand 26 = .ok (.getfield 204, 3) := by decide +kernel
theorem dX8_readBand_29 : decode cX8_readBand 29 = .ok (.iconst 1, 1) := by decide +kernel
theorem dX8_readBand_30 : decode cX8_readBand 30 = .ok (.if_icmp .ne 8, 3) := by decide +kernel
theorem dX8_readBand_33 : decode cX8_readBand 33 = .ok (.bipush 63, 2) := by decide +kernel
theorem dX8_readBand_35 : decode cX8_readBand 35 = .ok (.goto 4, 3) := by decide +kernel
theorem dX8_readBand_38 : decode cX8_readBand 38 = .ok (.iconst 0, 1) := by decide +kernel
theorem dX8_readBand_39 : decode cX8_readBand 39 = .ok (.invokevirtual 156, 3) := by decide +kernel
theorem dX8_readBand_42 : decode cX8_readBand 42 = .ok (.istore_n 2, 1) := by decide +kernel
theorem dX8_readBand_43 : decode cX8_readBand 43 = .ok (.iload_n 2, 1) := by decide +kernel
theorem dX8_readBand_44 : decode cX8_readBand 44 = .ok (.iconst (-1), 1) := by decide +kernel
theorem dX8_readBand_45 : decode cX8_readBand 45 = .ok (.if_icmp .ne 5, 3) := by decide +kernel
theorem dX8_readBand_48 : decode cX8_readBand 48 = .ok (.iconst 0, 1) := by decide +kernel
theorem dX8_readBand_49 : decode cX8_readBand 49 = .ok (.ireturn, 1) := by decide +kernel
theorem dX8_readBand_50 : decode cX8_readBand 50 = .ok (.iload_n 1, 1) := by decide +kernel
theorem dX8_readBand_51 : decode cX8_readBand 51 = .ok (.ifCond .eq 7, 3) := by decide +kernel
theorem dX8_readBand_54 : decode cX8_readBand 54 = .ok (.iload_n 2, 1) := by decide +kernel
theorem dX8_readBand_55 : decode cX8_readBand 55 = .ok (.goto 5, 3) := by decide +kernel
theorem dX8_readBand_58 : decode cX8_readBand 58 = .ok (.bipush 63, 2) := by decide +kernel
theorem dX8_readBand_60 : decode cX8_readBand 60 = .ok (.istore_n 3, 1) := by decide +kernel
theorem dX8_readBand_61 : decode cX8_readBand 61 = .ok (.aload_n 0, 1) := by decide +kernel
theorem dX8_readBand_62 : decode cX8_readBand 62 = .ok (.iload_n 3, 1) := by decide +kernel
theorem dX8_readBand_63 : decode cX8_readBand 63 = .ok (.iload_n 1, 1) := by decide +kernel
theorem dX8_readBand_64 : decode cX8_readBand 64 = .ok (.ifCond .eq 11, 3) := by decide +kernel
theorem dX8_readBand_67 : decode cX8_readBand 67 = .ok (.iload_n 2, 1) := by decide +kernel
theorem dX8_readBand_68 : decode cX8_readBand 68 = .ok (.ifCond .ne 7, 3) := by decide +kernel
theorem dX8_readBand_71 : decode cX8_readBand 71 = .ok (.iconst 0, 1) := by decide +kernel
theorem dX8_readBand_72 : decode cX8_readBand 72 = .ok (.goto 5, 3) := by decide +kernel
theorem dX8_readBand_75 : decode cX8_readBand 75 = .ok (.bipush 63, 2) := by decide +kernel
theorem dX8_readBand_77 : decode cX8_readBand 77 = .ok (.invokevirtual 156, 3) := by decide +kernel
theorem dX8_readBand_80 : decode cX8_readBand 80 = .ok (.istore 4, 2) := by decide +kernel
theorem dX8_readBand_82 : decode cX8_readBand 82 = .ok (.iload 4, 2) := by decide +kernel
theorem dX8_readBand_84 : decode cX8_readBand 84 = .ok (.iconst (-1), 1) := by decide +kernel
theorem dX8_readBand_85 : decode cX8_readBand 85 = .ok (.if_icmp .ne 7, 3) := by decide +kernel
theorem dX8_readBand_88 : decode cX8_readBand 88 = .ok (.iconst (-1), 1) := by decide +kernel
theorem dX8_readBand_89 : decode cX8_readBand 89 = .ok (.goto 19, 3) := by decide +kernel
theorem dX8_readBand_92 : decode cX8_readBand 92 = .ok (.aload_n 0, 1) := by decide +kernel
theorem dX8_readBand_93 : decode cX8_readBand 93 = .ok (.iconst 0, 1) := by decide +kernel
theorem dX8_readBand_94 : decode cX8_readBand 94 = .ok (.iload_n 1, 1) := by decide +kernel
theorem dX8_readBand_95 : decode cX8_readBand 95 = .ok (.ifCond .eq 9, 3) := by decide +kernel
theorem dX8_readBand_98 : decode cX8_readBand 98 = .ok (.sipush 255, 3) := by decide +kernel
theorem dX8_readBand_101 : decode cX8_readBand 101 = .ok (.goto 4, 3) := by decide +kernel
theorem dX8_readBand_104 : decode cX8_readBand 104 = .ok (.iconst 0, 1) := by decide +kernel
theorem dX8_readBand_105 : decode cX8_readBand 105 = .ok (.invokevirtual 156, 3) := by decide +kernel
theorem dX8_readBand_108 : decode cX8_readBand 108 = .ok (.istore 5, 2) := by decide +kernel
theorem dX8_readBand_110 : decode cX8_readBand 110 = .ok (.iload 5, 2) := by decide +kernel
theorem dX8_readBand_112 : decode cX8_readBand 112 = .ok (.iconst (-1), 1) := by decide +kernel
theorem dX8_readBand_113 : decode cX8_readBand 113 = .ok (.if_icmp .ne 5, 3) := by decide +kernel
theorem dX8_readBand_116 : decode cX8_readBand 116 = .ok (.iconst 0, 1) := by decide +kernel
theorem dX8_readBand_117 : decode cX8_readBand 117 = .ok (.ireturn, 1) := by decide +kernel
theorem dX8_readBand_118 : decode cX8_readBand 118 = .ok (.aload_n 0, 1) := by decide +kernel
theorem dX8_readBand_119 : decode cX8_readBand 119 = .ok (.getfield 12, 3) := by decide +kernel
theorem dX8_readBand_122 : decode cX8_readBand 122 = .ok (.iload_n 2, 1) := by decide +kernel
theorem dX8_readBand_123 : decode cX8_readBand 123 = .ok (.putfield 242, 3) := by decide +kernel
theorem dX8_readBand_126 : decode cX8_readBand 126 = .ok (.aload_n 0, 1) := by decide +kernel
theorem dX8_readBand_127 : decode cX8_readBand 127 = .ok (.getfield 12, 3) := by decide +kernel
theorem dX8_readBand_130 : decode cX8_readBand 130 = .ok (.iload 4, 2) := by decide +kernel
theorem dX8_readBand_132 : decode cX8_readBand 132 = .ok (.putfield 245, 3) := by decide +kernel
theorem dX8_readBand_135 : decode cX8_readBand 135 = .ok (.aload_n 0, 1) := by decide +kernel
theorem dX8_readBand_136 : decode cX8_readBand 136 = .ok (.getfield 12, 3) := by decide +kernel
theorem dX8_readBand_139 : decode cX8_readBand 139 = .ok (.iload 5, 2) := by decide +kernel
theorem dX8_readBand_141 : decode cX8_readBand 141 = .ok (.bipush 16, 2) := by decide +kernel
theorem dX8_readBand_143 : decode cX8_readBand 143 = .ok (.idiv, 1) := by decide +kernel
theorem dX8_readBand_144 : decode cX8_readBand 144 = .ok (.putfield 248, 3) := by decide +kernel
theorem dX8_readBand_147 : decode cX8_readBand 147 = .ok (.aload_n 0, 1) := by decide +kernel
theorem dX8_readBand_148 : decode cX8_readBand 148 = .ok (.getfield 12, 3) := by decide +kernel
theorem dX8_readBand_151 : decode cX8_readBand 151 = .ok (.iload 5, 2) := by decide +kernel
theorem dX8_readBand_153 : decode cX8_readBand 153 = .ok (.bipush 16, 2) := by decide +kernel
theorem dX8_readBand_155 : decode cX8_readBand 155 = .ok (.irem, 1) := by decide +kernel
theorem dX8_readBand_156 : decode cX8_readBand 156 = .ok (.putfield 251, 3) := by decide +kernel
theorem dX8_readBand_159 : decode cX8_readBand 159 = .ok (.aload_n 0, 1) := by decide +kernel
theorem dX8_readBand_160 : decode cX8_readBand 160 = .ok (.getfield 12, 3) := by decide +kernel
theorem dX8_readBand_163 : decode cX8_readBand 163 = .ok (.getfield 251, 3) := by decide +kernel
theorem dX8_readBand_166 : decode cX8_readBand 166 = .ok (.bipush 13, 2) := by decide +kernel
theorem dX8_readBand_168 : decode cX8_readBand 168 = .ok (.if_icmp .gt 32, 3) := by decide +kernel
theorem dX8_readBand_171 : decode cX8_readBand 171 = .ok (.aload_n 0, 1) := by decide +kernel
theorem dX8_readBand_172 : decode cX8_readBand 172 = .ok (.getfield 12, 3) := by decide +kernel
theorem dX8_readBand_175 : decode cX8_readBand 175 = .ok (.getfield 248, 3) := by decide +kernel
theorem dX8_readBand_178 : decode cX8_readBand 178 = .ok (.ifCond .eq 27, 3) := by decide +kernel
theorem dX8_readBand_181 : decode cX8_readBand 181 = .ok (.aload_n 0, 1) := by decide +kernel
theorem dX8_readBand_182 : decode cX8_readBand 182 = .ok (.getfield 12, 3) := by decide +kernel
theorem dX8_readBand_185 : decode cX8_readBand 185 = .ok (.getfield 248, 3) := by decide +kernel
theorem dX8_readBand_188 : decode cX8_readBand 188 = .ok (.aload_n 0, 1) := by decide +kernel
theorem dX8_readBand_189 : decode cX8_readBand 189 = .ok (.getfield 12, 3) := by decide +kernel
theorem dX8_readBand_192 : decode cX8_readBand 192 = .ok (.getfield 251, 3) := by decide +kernel
theorem dX8_readBand_195 : decode cX8_readBand 195 = .ok (.iconst 1, 1) := by decide +kernel
theorem dX8_readBand_196 : decode cX8_readBand 196 = .ok (.iadd, 1) := by decide +kernel
theorem dX8_readBand_197 : decode cX8_readBand 197 = .ok (.if_icmp .eq 8, 3) := by decide +kernel
theorem dX8_readBand_200 : decode cX8_readBand 200 = .ok (.aload_n 0, 1) := by decide +kernel
theorem dX8_readBand_201 : decode cX8_readBand 201 = .ok (.invokevirtual 159, 3) := by decide +kernel
theorem dX8_readBand_204 : decode cX8_readBand 204 = .ok (.ireturn, 1) := by decide +kernel
theorem dX8_readBand_205 : decode cX8_readBand 205 = .ok (.iconst 1, 1) := by decide +kernel
theorem dX8_readBand_206 : decode cX8_readBand 206 = .ok (.ireturn, 1) := by decide +kernel
theorem flRX8_242 : px_f RX8 242 5 1 := ⟨_, rfl, by decide, Or.inl (tb1 (List.mem_of_getElem? (i := 191) rfl))⟩
theorem flRX8_245 : px_f RX8 245 5 2 := ⟨_, rfl, by decide, Or.inl (tb1 (List.mem_of_getElem? (i := 196) rfl))⟩
theorem flRX8_248 : px_f RX8 248 5 3 := ⟨_, rfl, by decide, Or.inl (tb1 (List.mem_of_getElem? (i := 199) rfl))⟩
theorem flRX8_251 : px_f RX8 251 5 4 := ⟨_, rfl, by decide, Or.inl (tb1 (List.mem_of_getElem? (i := 204) rfl))⟩
theorem kcX8_readBand_156 : px_cV mX8_readBand 156 mX8_byteIn 2 := ⟨⟨mbX8_byteIn, by decide, by decide⟩, Or.inl (tb3 (List.mem_of_getElem? (i := 176) rfl)), vbX8_byteIn⟩
theorem kcX8_readBand_159 : px_cV mX8_readBand 159 mX8_refuse 0 := ⟨⟨mbX8_refuse, by decide, by decide⟩, Or.inl (tb3 (List.mem_of_getElem? (i := 188) rfl)), vbX8_refuse⟩
set_option maxRecDepth 100000 in
set_option maxHeartbeats 4000000 in
theorem eX8_readBand_200 {X : px_X}  : ∀ (a0 : Nat) (w : px_W) (q : Int32 × px_W), fX8_readBand_200 X  a0 w = some q → EV X mX8_readBand 200 [(0, .ref a0)] [] w (some (.int q.1)) q.2 := by
  intro a0 w q h
  unfold fX8_readBand_200 at h
  refine EV.aload_n 0 dX8_readBand_200 rfl rfl ?_
  obtain ⟨o30, go30, h⟩ := px_bs h
  obtain ⟨q31, gq31, h⟩ := px_bs h
  refine EV.callV (As := []) (rest := []) dX8_readBand_201 kcX8_readBand_159 (gO_ok go30) rfl rfl rfl (Nat.le_of_ble_eq_true rfl) (Nat.le_of_ble_eq_true rfl) (eX8_refuse gq31) ?_
  exact ev_retZ dX8_readBand_204 rfl h
set_option maxRecDepth 100000 in
set_option maxHeartbeats 4000000 in
theorem eX8_readBand_108 {X : px_X}  : ∀ (a0 : Nat) (a2 : Int32) (a4 : Int32) (s0 : Int32) (w : px_W) (q : Int32 × px_W), fX8_readBand_108 X  a0 a2 a4 s0 w = some q → EV X mX8_readBand 108 [(0, .ref a0), (2, .int a2), (4, .int a4)] [.int s0] w (some (.int q.1)) q.2 := by
  intro a0 a2 a4 s0 w q h
  unfold fX8_readBand_108 at h
  refine EV.istore [(5, .int s0), (0, .ref a0), (2, .int a2), (4, .int a4)] dX8_readBand_108 (by decide) rfl ?_
  refine EV.iload 0 dX8_readBand_110 rfl ?_
  refine EV.iconst ((-1)) dX8_readBand_112 (by decide) ?_
  refine EV.icmp_ne 118 dX8_readBand_113 (by decide) (fun c32 => ?_) (fun c32 => ?_)
  · rw [if_neg c32] at h
    refine EV.aload_n 1 dX8_readBand_118 rfl rfl ?_
    obtain ⟨v33, gv33, h⟩ := px_bs h
    refine ev_gR dX8_readBand_119 flRX8_12 gv33 ?_
    refine EV.iload_n 2 dX8_readBand_122 rfl rfl ?_
    obtain ⟨w34, gw34, h⟩ := px_bs h
    refine ev_pV dX8_readBand_123 flRX8_242 rfl rfl rfl rfl gw34 ?_
    refine EV.aload_n 1 dX8_readBand_126 rfl rfl ?_
    obtain ⟨v35, gv35, h⟩ := px_bs h
    refine ev_gR dX8_readBand_127 flRX8_12 gv35 ?_
    refine EV.iload 3 dX8_readBand_130 rfl ?_
    obtain ⟨w36, gw36, h⟩ := px_bs h
    refine ev_pV dX8_readBand_132 flRX8_245 rfl rfl rfl rfl gw36 ?_
    refine EV.aload_n 1 dX8_readBand_135 rfl rfl ?_
    obtain ⟨v37, gv37, h⟩ := px_bs h
    refine ev_gR dX8_readBand_136 flRX8_12 gv37 ?_
    refine EV.iload 0 dX8_readBand_139 rfl ?_
    refine EV.bipush (16) dX8_readBand_141 (by decide) ?_
    obtain ⟨v38, gv38, h⟩ := px_bs h
    refine ev_dI dX8_readBand_143 gv38 ?_
    obtain ⟨w39, gw39, h⟩ := px_bs h
    refine ev_pV dX8_readBand_144 flRX8_248 rfl rfl rfl rfl gw39 ?_
    refine EV.aload_n 1 dX8_readBand_147 rfl rfl ?_
    obtain ⟨v40, gv40, h⟩ := px_bs h
    refine ev_gR dX8_readBand_148 flRX8_12 gv40 ?_
    refine EV.iload 0 dX8_readBand_151 rfl ?_
    refine EV.bipush (16) dX8_readBand_153 (by decide) ?_
    obtain ⟨v41, gv41, h⟩ := px_bs h
    refine ev_rI dX8_readBand_155 gv41 ?_
    obtain ⟨w42, gw42, h⟩ := px_bs h
    refine ev_pV dX8_readBand_156 flRX8_251 rfl rfl rfl rfl gw42 ?_
    refine EV.aload_n 1 dX8_readBand_159 rfl rfl ?_
    obtain ⟨v43, gv43, h⟩ := px_bs h
    refine ev_gR dX8_readBand_160 flRX8_12 gv43 ?_
    obtain ⟨v44, gv44, h⟩ := px_bs h
    refine ev_gI dX8_readBand_163 flRX8_251 gv44 ?_
    refine EV.bipush (13) dX8_readBand_166 (by decide) ?_
    refine EV.icmp_gt 200 dX8_readBand_168 (by decide) (fun c45 => ?_) (fun c45 => ?_)
    · rw [if_pos c45] at h
      refine EV.sub [1] rfl ?_
      exact eX8_readBand_200  _ _ _ h
    · rw [if_neg c45] at h
      refine EV.aload_n 1 dX8_readBand_171 rfl rfl ?_
      obtain ⟨v46, gv46, h⟩ := px_bs h
      refine ev_gR dX8_readBand_172 flRX8_12 gv46 ?_
      obtain ⟨v47, gv47, h⟩ := px_bs h
      refine ev_gI dX8_readBand_175 flRX8_248 gv47 ?_
      refine EV.if_eq 205 dX8_readBand_178 (by decide) (fun c48 => ?_) (fun c48 => ?_)
      · rw [if_pos c48] at h
        refine EV.iconst (1) dX8_readBand_205 (by decide) ?_
        cases h
        exact EV.reti dX8_readBand_206 rfl
      · rw [if_neg c48] at h
        refine EV.aload_n 1 dX8_readBand_181 rfl rfl ?_
        obtain ⟨v49, gv49, h⟩ := px_bs h
        refine ev_gR dX8_readBand_182 flRX8_12 gv49 ?_
        obtain ⟨v50, gv50, h⟩ := px_bs h
        refine ev_gI dX8_readBand_185 flRX8_248 gv50 ?_
        refine EV.aload_n 1 dX8_readBand_188 rfl rfl ?_
        obtain ⟨v51, gv51, h⟩ := px_bs h
        refine ev_gR dX8_readBand_189 flRX8_12 gv51 ?_
        obtain ⟨v52, gv52, h⟩ := px_bs h
        refine ev_gI dX8_readBand_192 flRX8_251 gv52 ?_
        refine EV.iconst (1) dX8_readBand_195 (by decide) ?_
        refine EV.iadd dX8_readBand_196 ?_
        refine EV.icmp_eq 205 dX8_readBand_197 (by decide) (fun c53 => ?_) (fun c53 => ?_)
        · rw [if_pos c53] at h
          refine EV.iconst (1) dX8_readBand_205 (by decide) ?_
          cases h
          exact EV.reti dX8_readBand_206 rfl
        · rw [if_neg c53] at h
          refine EV.sub [1] rfl ?_
          exact eX8_readBand_200  _ _ _ h
  · rw [if_pos c32] at h
    refine EV.iconst (0) dX8_readBand_116 (by decide) ?_
    cases h
    exact EV.reti dX8_readBand_117 rfl
set_option maxRecDepth 100000 in
set_option maxHeartbeats 4000000 in
theorem eX8_readBand_105 {X : px_X}  : ∀ (a0 : Nat) (a2 : Int32) (a4 : Int32) (s0 : Int32) (s1 : Int32) (s2 : Nat) (w : px_W) (q : Int32 × px_W), fX8_readBand_105 X  a0 a2 a4 s0 s1 s2 w = some q → EV X mX8_readBand 105 [(0, .ref a0), (2, .int a2), (4, .int a4)] [.int s0, .int s1, .ref s2] w (some (.int q.1)) q.2 := by
  intro a0 a2 a4 s0 s1 s2 w q h
  unfold fX8_readBand_105 at h
  obtain ⟨o54, go54, h⟩ := px_bs h
  obtain ⟨q55, gq55, h⟩ := px_bs h
  refine EV.callV (As := [.int s1, .int s0]) (rest := []) dX8_readBand_105 kcX8_readBand_156 (gO_ok go54) rfl rfl rfl (Nat.le_of_ble_eq_true rfl) (Nat.le_of_ble_eq_true rfl) (eX8_byteIn gq55) ?_
  refine EV.sub [0, 1, 2] rfl ?_
  exact eX8_readBand_108  _ _ _ _ _ _ h
set_option maxRecDepth 100000 in
set_option maxHeartbeats 4000000 in
theorem eX8_readBand_77 {X : px_X}  : ∀ (a0 : Nat) (a1 : Int32) (a2 : Int32) (s0 : Int32) (s1 : Int32) (s2 : Nat) (w : px_W) (q : Int32 × px_W), fX8_readBand_77 X  a0 a1 a2 s0 s1 s2 w = some q → EV X mX8_readBand 77 [(0, .ref a0), (1, .int a1), (2, .int a2)] [.int s0, .int s1, .ref s2] w (some (.int q.1)) q.2 := by
  intro a0 a1 a2 s0 s1 s2 w q h
  unfold fX8_readBand_77 at h
  obtain ⟨o56, go56, h⟩ := px_bs h
  obtain ⟨q57, gq57, h⟩ := px_bs h
  refine EV.callV (As := [.int s1, .int s0]) (rest := []) dX8_readBand_77 kcX8_readBand_156 (gO_ok go56) rfl rfl rfl (Nat.le_of_ble_eq_true rfl) (Nat.le_of_ble_eq_true rfl) (eX8_byteIn gq57) ?_
  refine EV.istore [(4, .int q57.1), (0, .ref a0), (1, .int a1), (2, .int a2)] dX8_readBand_80 (by decide) rfl ?_
  refine EV.iload 0 dX8_readBand_82 rfl ?_
  refine EV.iconst ((-1)) dX8_readBand_84 (by decide) ?_
  refine EV.icmp_ne 92 dX8_readBand_85 (by decide) (fun c58 => ?_) (fun c58 => ?_)
  · rw [if_neg c58] at h
    refine EV.aload_n 1 dX8_readBand_92 rfl rfl ?_
    refine EV.iconst (0) dX8_readBand_93 (by decide) ?_
    refine EV.iload_n 2 dX8_readBand_94 rfl rfl ?_
    refine EV.if_eq 104 dX8_readBand_95 (by decide) (fun c59 => ?_) (fun c59 => ?_)
    · rw [if_pos c59] at h
      refine EV.iconst (0) dX8_readBand_104 (by decide) ?_
      refine EV.sub [1, 3, 0] rfl ?_
      exact eX8_readBand_105  _ _ _ _ _ _ _ _ h
    · rw [if_neg c59] at h
      refine EV.sipush (255) dX8_readBand_98 (by decide) ?_
      refine EV.goto 105 dX8_readBand_101 (by decide) ?_
      refine EV.sub [1, 3, 0] rfl ?_
      exact eX8_readBand_105  _ _ _ _ _ _ _ _ h
  · rw [if_pos c58] at h
    refine EV.iconst ((-1)) dX8_readBand_88 (by decide) ?_
    refine EV.goto 108 dX8_readBand_89 (by decide) ?_
    refine EV.sub [1, 3, 0] rfl ?_
    exact eX8_readBand_108  _ _ _ _ _ _ h
set_option maxRecDepth 100000 in
set_option maxHeartbeats 4000000 in
theorem eX8_readBand_75 {X : px_X}  : ∀ (a0 : Nat) (a1 : Int32) (a2 : Int32) (s0 : Int32) (s1 : Nat) (w : px_W) (q : Int32 × px_W), fX8_readBand_75 X  a0 a1 a2 s0 s1 w = some q → EV X mX8_readBand 75 [(0, .ref a0), (1, .int a1), (2, .int a2)] [.int s0, .ref s1] w (some (.int q.1)) q.2 := by
  intro a0 a1 a2 s0 s1 w q h
  unfold fX8_readBand_75 at h
  refine EV.bipush (63) dX8_readBand_75 (by decide) ?_
  refine EV.sub [0, 1, 2] rfl ?_
  exact eX8_readBand_77  _ _ _ _ _ _ _ _ h
set_option maxRecDepth 100000 in
set_option maxHeartbeats 4000000 in
theorem eX8_readBand_60 {X : px_X}  : ∀ (a0 : Nat) (a1 : Int32) (a2 : Int32) (s0 : Int32) (w : px_W) (q : Int32 × px_W), fX8_readBand_60 X  a0 a1 a2 s0 w = some q → EV X mX8_readBand 60 [(0, .ref a0), (1, .int a1), (2, .int a2)] [.int s0] w (some (.int q.1)) q.2 := by
  intro a0 a1 a2 s0 w q h
  unfold fX8_readBand_60 at h
  refine EV.istore_n [(3, .int s0), (0, .ref a0), (1, .int a1), (2, .int a2)] dX8_readBand_60 rfl (by decide) rfl ?_
  refine EV.aload_n 1 dX8_readBand_61 rfl rfl ?_
  refine EV.iload_n 0 dX8_readBand_62 rfl rfl ?_
  refine EV.iload_n 2 dX8_readBand_63 rfl rfl ?_
  refine EV.if_eq 75 dX8_readBand_64 (by decide) (fun c60 => ?_) (fun c60 => ?_)
  · rw [if_pos c60] at h
    refine EV.sub [1, 2, 3] rfl ?_
    exact eX8_readBand_75  _ _ _ _ _ _ _ h
  · rw [if_neg c60] at h
    refine EV.iload_n 3 dX8_readBand_67 rfl rfl ?_
    refine EV.if_ne 75 dX8_readBand_68 (by decide) (fun c61 => ?_) (fun c61 => ?_)
    · rw [if_neg c61] at h
      refine EV.sub [1, 2, 3] rfl ?_
      exact eX8_readBand_75  _ _ _ _ _ _ _ h
    · rw [if_pos c61] at h
      refine EV.iconst (0) dX8_readBand_71 (by decide) ?_
      refine EV.goto 77 dX8_readBand_72 (by decide) ?_
      refine EV.sub [1, 2, 3] rfl ?_
      exact eX8_readBand_77  _ _ _ _ _ _ _ _ h
set_option maxRecDepth 100000 in
set_option maxHeartbeats 4000000 in
theorem eX8_readBand_39 {X : px_X}  : ∀ (a0 : Nat) (a1 : Int32) (s0 : Int32) (s1 : Int32) (s2 : Nat) (w : px_W) (q : Int32 × px_W), fX8_readBand_39 X  a0 a1 s0 s1 s2 w = some q → EV X mX8_readBand 39 [(0, .ref a0), (1, .int a1)] [.int s0, .int s1, .ref s2] w (some (.int q.1)) q.2 := by
  intro a0 a1 s0 s1 s2 w q h
  unfold fX8_readBand_39 at h
  obtain ⟨o62, go62, h⟩ := px_bs h
  obtain ⟨q63, gq63, h⟩ := px_bs h
  refine EV.callV (As := [.int s1, .int s0]) (rest := []) dX8_readBand_39 kcX8_readBand_156 (gO_ok go62) rfl rfl rfl (Nat.le_of_ble_eq_true rfl) (Nat.le_of_ble_eq_true rfl) (eX8_byteIn gq63) ?_
  refine EV.istore_n [(2, .int q63.1), (0, .ref a0), (1, .int a1)] dX8_readBand_42 rfl (by decide) rfl ?_
  refine EV.iload_n 0 dX8_readBand_43 rfl rfl ?_
  refine EV.iconst ((-1)) dX8_readBand_44 (by decide) ?_
  refine EV.icmp_ne 50 dX8_readBand_45 (by decide) (fun c64 => ?_) (fun c64 => ?_)
  · rw [if_neg c64] at h
    refine EV.iload_n 2 dX8_readBand_50 rfl rfl ?_
    refine EV.if_eq 58 dX8_readBand_51 (by decide) (fun c65 => ?_) (fun c65 => ?_)
    · rw [if_pos c65] at h
      refine EV.bipush (63) dX8_readBand_58 (by decide) ?_
      refine EV.sub [1, 2, 0] rfl ?_
      exact eX8_readBand_60  _ _ _ _ _ _ h
    · rw [if_neg c65] at h
      refine EV.iload_n 0 dX8_readBand_54 rfl rfl ?_
      refine EV.goto 60 dX8_readBand_55 (by decide) ?_
      refine EV.sub [1, 2, 0] rfl ?_
      exact eX8_readBand_60  _ _ _ _ _ _ h
  · rw [if_pos c64] at h
    refine EV.iconst (0) dX8_readBand_48 (by decide) ?_
    cases h
    exact EV.reti dX8_readBand_49 rfl
set_option maxRecDepth 100000 in
set_option maxHeartbeats 4000000 in
theorem eX8_readBand_38 {X : px_X}  : ∀ (a0 : Nat) (a1 : Int32) (s0 : Int32) (s1 : Nat) (w : px_W) (q : Int32 × px_W), fX8_readBand_38 X  a0 a1 s0 s1 w = some q → EV X mX8_readBand 38 [(0, .ref a0), (1, .int a1)] [.int s0, .ref s1] w (some (.int q.1)) q.2 := by
  intro a0 a1 s0 s1 w q h
  unfold fX8_readBand_38 at h
  refine EV.iconst (0) dX8_readBand_38 (by decide) ?_
  refine EV.sub [0, 1] rfl ?_
  exact eX8_readBand_39  _ _ _ _ _ _ _ h
set_option maxRecDepth 100000 in
set_option maxHeartbeats 4000000 in
theorem eX8_readBand_15 {X : px_X}  : ∀ (a0 : Nat) (s0 : Int32) (w : px_W) (q : Int32 × px_W), fX8_readBand_15 X  a0 s0 w = some q → EV X mX8_readBand 15 [(0, .ref a0)] [.int s0] w (some (.int q.1)) q.2 := by
  intro a0 s0 w q h
  unfold fX8_readBand_15 at h
  refine EV.istore_n [(1, .int s0), (0, .ref a0)] dX8_readBand_15 rfl (by decide) rfl ?_
  refine EV.aload_n 1 dX8_readBand_16 rfl rfl ?_
  refine EV.iconst (0) dX8_readBand_17 (by decide) ?_
  refine EV.iload_n 0 dX8_readBand_18 rfl rfl ?_
  refine EV.if_eq 38 dX8_readBand_19 (by decide) (fun c66 => ?_) (fun c66 => ?_)
  · rw [if_pos c66] at h
    refine EV.sub [1, 0] rfl ?_
    exact eX8_readBand_38  _ _ _ _ _ _ h
  · rw [if_neg c66] at h
    refine EV.aload_n 1 dX8_readBand_22 rfl rfl ?_
    obtain ⟨v67, gv67, h⟩ := px_bs h
    refine ev_gR dX8_readBand_23 flRX8_12 gv67 ?_
    obtain ⟨v68, gv68, h⟩ := px_bs h
    refine ev_gI dX8_readBand_26 flRX8_204 gv68 ?_
    refine EV.iconst (1) dX8_readBand_29 (by decide) ?_
    refine EV.icmp_ne 38 dX8_readBand_30 (by decide) (fun c69 => ?_) (fun c69 => ?_)
    · rw [if_neg c69] at h
      refine EV.sub [1, 0] rfl ?_
      exact eX8_readBand_38  _ _ _ _ _ _ h
    · rw [if_pos c69] at h
      refine EV.bipush (63) dX8_readBand_33 (by decide) ?_
      refine EV.goto 39 dX8_readBand_35 (by decide) ?_
      refine EV.sub [1, 0] rfl ?_
      exact eX8_readBand_39  _ _ _ _ _ _ _ h
set_option maxRecDepth 100000 in
set_option maxHeartbeats 4000000 in
theorem eX8_readBand {X : px_X} {w : px_W} {a0 : Nat} {q : Int32 × px_W} (h : fX8_readBand X w a0 = some q) : EV X mX8_readBand 0 (lv_args 0 [.ref a0]) [] w (some (.int q.1)) q.2 := by
  unfold fX8_readBand at h
  show EV X mX8_readBand 0 [(0, .ref a0)] [] w (some (.int q.1)) q.2
  refine EV.aload_n 0 dX8_readBand_0 rfl rfl ?_
  obtain ⟨v70, gv70, h⟩ := px_bs h
  refine ev_gI dX8_readBand_1 flRX8_68 gv70 ?_
  refine EV.sipush (194) dX8_readBand_4 (by decide) ?_
  refine EV.icmp_ne 14 dX8_readBand_7 (by decide) (fun c71 => ?_) (fun c71 => ?_)
  · rw [if_neg c71] at h
    refine EV.iconst (0) dX8_readBand_14 (by decide) ?_
    refine EV.sub [0] rfl ?_
    exact eX8_readBand_15  _ _ _ _ h
  · rw [if_pos c71] at h
    refine EV.iconst (1) dX8_readBand_10 (by decide) ?_
    refine EV.goto 15 dX8_readBand_11 (by decide) ?_
    refine EV.sub [0] rfl ?_
    exact eX8_readBand_15  _ _ _ _ h
/-! WavePictures$SegmentReader.fitsWhatWasSent(I)Z -/
theorem dX8_fitsWhatWasSent_0 : decode cX8_fitsWhatWasSent 0 = .ok (.aload_n 0, 1) := by decide +kernel
theorem dX8_fitsWhatWasSent_1 : decode cX8_fitsWhatWasSent 1 = .ok (.getfield 12, 3) := by decide +kernel
theorem dX8_fitsWhatWasSent_4 : decode cX8_fitsWhatWasSent 4 = .ok (.getfield 220, 3) := by decide +kernel
theorem dX8_fitsWhatWasSent_7 : decode cX8_fitsWhatWasSent 7 = .ok (.iload_n 1, 1) := by decide +kernel
theorem dX8_fitsWhatWasSent_8 : decode cX8_fitsWhatWasSent 8 = .ok (.iaload, 1) := by decide +kernel
theorem dX8_fitsWhatWasSent_9 : decode cX8_fitsWhatWasSent 9 = .ok (.istore_n 2, 1) := by decide +kernel
theorem dX8_fitsWhatWasSent_10 : decode cX8_fitsWhatWasSent 10 = .ok (.aload_n 0, 1) := by decide +kernel
theorem dX8_fitsWhatWasSent_11 : decode cX8_fitsWhatWasSent 11 = .ok (.getfield 34, 3) := by decide +kernel
theorem dX8_fitsWhatWasSent_14 : decode cX8_fitsWhatWasSent 14 = .ok (.bipush 64, 2) := by decide +kernel
theorem dX8_fitsWhatWasSent_16 : decode cX8_fitsWhatWasSent 16 = .ok (.iload_n 2, 1) := by decide +kernel
theorem dX8_fitsWhatWasSent_17 : decode cX8_fitsWhatWasSent 17 = .ok (.imul, 1) := by decide +kernel
theorem dX8_fitsWhatWasSent_18 : decode cX8_fitsWhatWasSent 18 = .ok (.iaload, 1) := by decide +kernel
theorem dX8_fitsWhatWasSent_19 : decode cX8_fitsWhatWasSent 19 = .ok (.iconst (-1), 1) := by decide +kernel
theorem dX8_fitsWhatWasSent_20 : decode cX8_fitsWhatWasSent 20 = .ok (.if_icmp .eq 7, 3) := by decide +kernel
theorem dX8_fitsWhatWasSent_23 : decode cX8_fitsWhatWasSent 23 = .ok (.iconst 1, 1) := by decide +kernel
theorem dX8_fitsWhatWasSent_24 : decode cX8_fitsWhatWasSent 24 = .ok (.goto 4, 3) := by decide +kernel
theorem dX8_fitsWhatWasSent_27 : decode cX8_fitsWhatWasSent 27 = .ok (.iconst 0, 1) := by decide +kernel
theorem dX8_fitsWhatWasSent_28 : decode cX8_fitsWhatWasSent 28 = .ok (.istore_n 3, 1) := by decide +kernel
theorem dX8_fitsWhatWasSent_29 : decode cX8_fitsWhatWasSent 29 = .ok (.aload_n 0, 1) := by decide +kernel
theorem dX8_fitsWhatWasSent_30 : decode cX8_fitsWhatWasSent 30 = .ok (.getfield 68, 3) := by decide +kernel
theorem dX8_fitsWhatWasSent_33 : decode cX8_fitsWhatWasSent 33 = .ok (.sipush 192, 3) := by decide +kernel
theorem dX8_fitsWhatWasSent_36 : decode cX8_fitsWhatWasSent 36 = .ok (.if_icmp .ne 10, 3) := by decide +kernel
theorem dX8_fitsWhatWasSent_39 : decode cX8_fitsWhatWasSent 39 = .ok (.iload_n 3, 1) := by decide +kernel
theorem dX8_fitsWhatWasSent_40 : decode cX8_fitsWhatWasSent 40 = .ok (.ifCond .eq 38, 3) := by decide +kernel
theorem dX8_fitsWhatWasSent_43 : decode cX8_fitsWhatWasSent 43 = .ok (.goto 17, 3) := by decide +kernel
theorem dX8_fitsWhatWasSent_46 : decode cX8_fitsWhatWasSent 46 = .ok (.aload_n 0, 1) := by decide +kernel
theorem dX8_fitsWhatWasSent_47 : decode cX8_fitsWhatWasSent 47 = .ok (.getfield 12, 3) := by decide +kernel
theorem dX8_fitsWhatWasSent_50 : decode cX8_fitsWhatWasSent 50 = .ok (.getfield 242, 3) := by decide +kernel
theorem dX8_fitsWhatWasSent_53 : decode cX8_fitsWhatWasSent 53 = .ok (.ifCond .le 25, 3) := by decide +kernel
theorem dX8_fitsWhatWasSent_56 : decode cX8_fitsWhatWasSent 56 = .ok (.iload_n 3, 1) := by decide +kernel
theorem dX8_fitsWhatWasSent_57 : decode cX8_fitsWhatWasSent 57 = .ok (.ifCond .ne 21, 3) := by decide +kernel
theorem dX8_fitsWhatWasSent_60 : decode cX8_fitsWhatWasSent 60 = .ok (.aload_n 0, 1) := by decide +kernel
theorem dX8_fitsWhatWasSent_61 : decode cX8_fitsWhatWasSent 61 = .ok (.bipush 7, 2) := by decide +kernel
theorem dX8_fitsWhatWasSent_63 : decode cX8_fitsWhatWasSent 63 = .ok (.aload_n 0, 1) := by decide +kernel
theorem dX8_fitsWhatWasSent_64 : decode cX8_fitsWhatWasSent 64 = .ok (.getfield 12, 3) := by decide +kernel
theorem dX8_fitsWhatWasSent_67 : decode cX8_fitsWhatWasSent 67 = .ok (.getfield 233, 3) := by decide +kernel
theorem dX8_fitsWhatWasSent_70 : decode cX8_fitsWhatWasSent 70 = .ok (.iload_n 1, 1) := by decide +kernel
theorem dX8_fitsWhatWasSent_71 : decode cX8_fitsWhatWasSent 71 = .ok (.iaload, 1) := by decide +kernel
theorem dX8_fitsWhatWasSent_72 : decode cX8_fitsWhatWasSent 72 = .ok (.invokevirtual 100, 3) := by decide +kernel
theorem dX8_fitsWhatWasSent_75 : decode cX8_fitsWhatWasSent 75 = .ok (.pop, 1) := by decide +kernel
theorem dX8_fitsWhatWasSent_76 : decode cX8_fitsWhatWasSent 76 = .ok (.iconst 0, 1) := by decide +kernel
theorem dX8_fitsWhatWasSent_77 : decode cX8_fitsWhatWasSent 77 = .ok (.ireturn, 1) := by decide +kernel
theorem dX8_fitsWhatWasSent_78 : decode cX8_fitsWhatWasSent 78 = .ok (.aload_n 0, 1) := by decide +kernel
theorem dX8_fitsWhatWasSent_79 : decode cX8_fitsWhatWasSent 79 = .ok (.getfield 12, 3) := by decide +kernel
theorem dX8_fitsWhatWasSent_82 : decode cX8_fitsWhatWasSent 82 = .ok (.getfield 242, 3) := by decide +kernel
theorem dX8_fitsWhatWasSent_85 : decode cX8_fitsWhatWasSent 85 = .ok (.istore 4, 2) := by decide +kernel
theorem dX8_fitsWhatWasSent_87 : decode cX8_fitsWhatWasSent 87 = .ok (.iload 4, 2) := by decide +kernel
theorem dX8_fitsWhatWasSent_89 : decode cX8_fitsWhatWasSent 89 = .ok (.aload_n 0, 1) := by decide +kernel
theorem dX8_fitsWhatWasSent_90 : decode cX8_fitsWhatWasSent 90 = .ok (.getfield 12, 3) := by decide +kernel
theorem dX8_fitsWhatWasSent_93 : decode cX8_fitsWhatWasSent 93 = .ok (.getfield 245, 3) := by decide +kernel
theorem dX8_fitsWhatWasSent_96 : decode cX8_fitsWhatWasSent 96 = .ok (.if_icmp .gt 76, 3) := by decide +kernel
theorem dX8_fitsWhatWasSent_99 : decode cX8_fitsWhatWasSent 99 = .ok (.aload_n 0, 1) := by decide +kernel
theorem dX8_fitsWhatWasSent_100 : decode cX8_fitsWhatWasSent 100 = .ok (.getfield 34, 3) := by decide +kernel
theorem dX8_fitsWhatWasSent_103 : decode cX8_fitsWhatWasSent 103 = .ok (.bipush 64, 2) := by decide +kernel
theorem dX8_fitsWhatWasSent_105 : decode cX8_fitsWhatWasSent 105 = .ok (.iload_n 2, 1) := by decide +kernel
theorem dX8_fitsWhatWasSent_106 : decode cX8_fitsWhatWasSent 106 = .ok (.imul, 1) := by decide +kernel
theorem dX8_fitsWhatWasSent_107 : decode cX8_fitsWhatWasSent 107 = .ok (.iload 4, 2) := by decide +kernel
theorem dX8_fitsWhatWasSent_109 : decode cX8_fitsWhatWasSent 109 = .ok (.iadd, 1) := by decide +kernel
theorem dX8_fitsWhatWasSent_110 : decode cX8_fitsWhatWasSent 110 = .ok (.iaload, 1) := by decide +kernel
theorem dX8_fitsWhatWasSent_111 : decode cX8_fitsWhatWasSent 111 = .ok (.istore 5, 2) := by decide +kernel
theorem dX8_fitsWhatWasSent_113 : decode cX8_fitsWhatWasSent 113 = .ok (.aload_n 0, 1) := by decide +kernel
theorem dX8_fitsWhatWasSent_114 : decode cX8_fitsWhatWasSent 114 = .ok (.getfield 12, 3) := by decide +kernel
theorem dX8_fitsWhatWasSent_117 : decode cX8_fitsWhatWasSent 117 = .ok (.getfield 248, 3) := by decide +kernel
theorem dX8_fitsWhatWasSent_120 : decode cX8_fitsWhatWasSent 120 = .ok (.ifCond .ne 17, 3) := by decide +kernel
theorem dX8_fitsWhatWasSent_123 : decode cX8_fitsWhatWasSent 123 = .ok (.iload 5, 2) := by decide +kernel
theorem dX8_fitsWhatWasSent_125 : decode cX8_fitsWhatWasSent 125 = .ok (.iconst (-1), 1) := by decide +kernel
theorem dX8_fitsWhatWasSent_126 : decode cX8_fitsWhatWasSent 126 = .ok (.if_icmp .ne 7, 3) := by decide +kernel
theorem dX8_fitsWhatWasSent_129 : decode cX8_fitsWhatWasSent 129 = .ok (.iconst 1, 1) := by decide +kernel
theorem dX8_fitsWhatWasSent_130 : decode cX8_fitsWhatWasSent 130 = .ok (.goto 24, 3) := by decide +kernel
theorem dX8_fitsWhatWasSent_133 : decode cX8_fitsWhatWasSent 133 = .ok (.iconst 0, 1) := by decide +kernel
theorem dX8_fitsWhatWasSent_134 : decode cX8_fitsWhatWasSent 134 = .ok (.goto 20, 3) := by decide +kernel
theorem dX8_fitsWhatWasSent_137 : decode cX8_fitsWhatWasSent 137 = .ok (.iload 5, 2) := by decide +kernel
theorem dX8_fitsWhatWasSent_139 : decode cX8_fitsWhatWasSent 139 = .ok (.aload_n 0, 1) := by decide +kernel
theorem dX8_fitsWhatWasSent_140 : decode cX8_fitsWhatWasSent 140 = .ok (.getfield 12, 3) := by decide +kernel
theorem dX8_fitsWhatWasSent_143 : decode cX8_fitsWhatWasSent 143 = .ok (.getfield 248, 3) := by decide +kernel
theorem dX8_fitsWhatWasSent_146 : decode cX8_fitsWhatWasSent 146 = .ok (.if_icmp .ne 7, 3) := by decide +kernel
theorem dX8_fitsWhatWasSent_149 : decode cX8_fitsWhatWasSent 149 = .ok (.iconst 1, 1) := by decide +kernel
theorem dX8_fitsWhatWasSent_150 : decode cX8_fitsWhatWasSent 150 = .ok (.goto 4, 3) := by decide +kernel
theorem dX8_fitsWhatWasSent_153 : decode cX8_fitsWhatWasSent 153 = .ok (.iconst 0, 1) := by decide +kernel
theorem dX8_fitsWhatWasSent_154 : decode cX8_fitsWhatWasSent 154 = .ok (.istore 6, 2) := by decide +kernel
theorem dX8_fitsWhatWasSent_156 : decode cX8_fitsWhatWasSent 156 = .ok (.iload 6, 2) := by decide +kernel
theorem dX8_fitsWhatWasSent_158 : decode cX8_fitsWhatWasSent 158 = .ok (.ifCond .ne 8, 3) := by decide +kernel
theorem dX8_fitsWhatWasSent_161 : decode cX8_fitsWhatWasSent 161 = .ok (.aload_n 0, 1) := by decide +kernel
theorem dX8_fitsWhatWasSent_162 : decode cX8_fitsWhatWasSent 162 = .ok (.invokevirtual 159, 3) := by decide +kernel
theorem dX8_fitsWhatWasSent_165 : decode cX8_fitsWhatWasSent 165 = .ok (.ireturn, 1) := by decide +kernel
theorem dX8_fitsWhatWasSent_166 : decode cX8_fitsWhatWasSent 166 = .ok (.iinc 4 1, 3) := by decide +kernel
theorem dX8_fitsWhatWasSent_169 : decode cX8_fitsWhatWasSent 169 = .ok (.goto (-82), 3) := by decide +kernel
theorem dX8_fitsWhatWasSent_172 : decode cX8_fitsWhatWasSent 172 = .ok (.iconst 1, 1) := by decide +kernel
theorem dX8_fitsWhatWasSent_173 : decode cX8_fitsWhatWasSent 173 = .ok (.ireturn, 1) := by decide +kernel
theorem kcX8_fitsWhatWasSent_100 : px_cV mX8_fitsWhatWasSent 100 mX8_fail 2 := ⟨⟨mbX8_fail, by decide, by decide⟩, Or.inl (tb3 (List.mem_of_getElem? (i := 143) rfl)), vbX8_fail⟩
theorem kcX8_fitsWhatWasSent_159 : px_cV mX8_fitsWhatWasSent 159 mX8_refuse 0 := ⟨⟨mbX8_refuse, by decide, by decide⟩, Or.inl (tb3 (List.mem_of_getElem? (i := 188) rfl)), vbX8_refuse⟩
set_option maxRecDepth 100000 in
set_option maxHeartbeats 4000000 in
theorem eX8_fitsWhatWasSent_60 {X : px_X}  : ∀ (a0 : Nat) (a1 : Int32) (w : px_W) (q : Int32 × px_W), fX8_fitsWhatWasSent_60 X  a0 a1 w = some q → EV X mX8_fitsWhatWasSent 60 [(0, .ref a0), (1, .int a1)] [] w (some (.int q.1)) q.2 := by
  intro a0 a1 w q h
  unfold fX8_fitsWhatWasSent_60 at h
  refine EV.aload_n 0 dX8_fitsWhatWasSent_60 rfl rfl ?_
  refine EV.bipush (7) dX8_fitsWhatWasSent_61 (by decide) ?_
  refine EV.aload_n 0 dX8_fitsWhatWasSent_63 rfl rfl ?_
  obtain ⟨v26, gv26, h⟩ := px_bs h
  refine ev_gR dX8_fitsWhatWasSent_64 flRX8_12 gv26 ?_
  obtain ⟨v27, gv27, h⟩ := px_bs h
  refine ev_gR dX8_fitsWhatWasSent_67 flRX8_233 gv27 ?_
  refine EV.iload_n 1 dX8_fitsWhatWasSent_70 rfl rfl ?_
  obtain ⟨v28, gv28, h⟩ := px_bs h
  refine ev_aI dX8_fitsWhatWasSent_71 gv28 ?_
  obtain ⟨o29, go29, h⟩ := px_bs h
  obtain ⟨q30, gq30, h⟩ := px_bs h
  refine EV.callV (As := [.int 7, .int v28]) (rest := []) dX8_fitsWhatWasSent_72 kcX8_fitsWhatWasSent_100 (gO_ok go29) rfl rfl rfl (Nat.le_of_ble_eq_true rfl) (Nat.le_of_ble_eq_true rfl) (eX8_fail gq30) ?_
  refine EV.pop dX8_fitsWhatWasSent_75 rfl ?_
  refine EV.iconst (0) dX8_fitsWhatWasSent_76 (by decide) ?_
  cases h
  exact EV.reti dX8_fitsWhatWasSent_77 rfl
set_option maxRecDepth 100000 in
set_option maxHeartbeats 4000000 in
theorem eX8_fitsWhatWasSent_161 {X : px_X}  : ∀ (a0 : Nat) (w : px_W) (q : Int32 × px_W), fX8_fitsWhatWasSent_161 X  a0 w = some q → EV X mX8_fitsWhatWasSent 161 [(0, .ref a0)] [] w (some (.int q.1)) q.2 := by
  intro a0 w q h
  unfold fX8_fitsWhatWasSent_161 at h
  refine EV.aload_n 0 dX8_fitsWhatWasSent_161 rfl rfl ?_
  obtain ⟨o31, go31, h⟩ := px_bs h
  obtain ⟨q32, gq32, h⟩ := px_bs h
  refine EV.callV (As := []) (rest := []) dX8_fitsWhatWasSent_162 kcX8_fitsWhatWasSent_159 (gO_ok go31) rfl rfl rfl (Nat.le_of_ble_eq_true rfl) (Nat.le_of_ble_eq_true rfl) (eX8_refuse gq32) ?_
  exact ev_retZ dX8_fitsWhatWasSent_165 rfl h
set_option maxRecDepth 100000 in
set_option maxHeartbeats 4000000 in
theorem eX8_fitsWhatWasSent_154 {X : px_X} {k87 : Nat → Int32 → Int32 → px_W → Option (Int32 × px_W)} (hk87 : ∀ (a0 : Nat) (a2 : Int32) (a4 : Int32) (w : px_W) (q : Int32 × px_W), k87 a0 a2 a4 w = some q → EV X mX8_fitsWhatWasSent 87 [(0, .ref a0), (2, .int a2), (4, .int a4)] [] w (some (.int q.1)) q.2) : ∀ (a0 : Nat) (a2 : Int32) (a4 : Int32) (s0 : Int32) (w : px_W) (q : Int32 × px_W), fX8_fitsWhatWasSent_154 X k87 a0 a2 a4 s0 w = some q → EV X mX8_fitsWhatWasSent 154 [(0, .ref a0), (2, .int a2), (4, .int a4)] [.int s0] w (some (.int q.1)) q.2 := by
  intro a0 a2 a4 s0 w q h
  unfold fX8_fitsWhatWasSent_154 at h
  refine EV.istore [(6, .int s0), (0, .ref a0), (2, .int a2), (4, .int a4)] dX8_fitsWhatWasSent_154 (by decide) rfl ?_
  refine EV.iload 0 dX8_fitsWhatWasSent_156 rfl ?_
  refine EV.if_ne 166 dX8_fitsWhatWasSent_158 (by decide) (fun c33 => ?_) (fun c33 => ?_)
  · rw [if_neg c33] at h
    refine EV.iinc 3 (a4 + 1) [(4, .int (a4 + 1)), (6, .int s0), (0, .ref a0), (2, .int a2)] dX8_fitsWhatWasSent_166 rfl rfl (by decide) rfl ?_
    refine EV.goto 87 dX8_fitsWhatWasSent_169 (by decide) ?_
    refine EV.sub [2, 3, 0] rfl ?_
    exact hk87 _ _ _ _ _ h
  · rw [if_pos c33] at h
    refine EV.sub [1] rfl ?_
    exact eX8_fitsWhatWasSent_161  _ _ _ h
set_option maxRecDepth 100000 in
set_option maxHeartbeats 4000000 in
theorem eX8_fitsWhatWasSent_87 {X : px_X}  : ∀ (m : Nat) (a0 : Nat) (a2 : Int32) (a4 : Int32) (w : px_W) (q : Int32 × px_W), fX8_fitsWhatWasSent_87 X  m a0 a2 a4 w = some q → EV X mX8_fitsWhatWasSent 87 [(0, .ref a0), (2, .int a2), (4, .int a4)] [] w (some (.int q.1)) q.2 := by
  intro m
  induction m with
  | zero => intro a0 a2 a4 w q h; cases h
  | succ m ih =>
    intro a0 a2 a4 w q h
    rw [fX8_fitsWhatWasSent_87.eq_2] at h
    refine EV.iload 2 dX8_fitsWhatWasSent_87 rfl ?_
    refine EV.aload_n 0 dX8_fitsWhatWasSent_89 rfl rfl ?_
    obtain ⟨v34, gv34, h⟩ := px_bs h
    refine ev_gR dX8_fitsWhatWasSent_90 flRX8_12 gv34 ?_
    obtain ⟨v35, gv35, h⟩ := px_bs h
    refine ev_gI dX8_fitsWhatWasSent_93 flRX8_245 gv35 ?_
    refine EV.icmp_gt 172 dX8_fitsWhatWasSent_96 (by decide) (fun c36 => ?_) (fun c36 => ?_)
    · rw [if_pos c36] at h
      refine EV.iconst (1) dX8_fitsWhatWasSent_172 (by decide) ?_
      cases h
      exact EV.reti dX8_fitsWhatWasSent_173 rfl
    · rw [if_neg c36] at h
      refine EV.aload_n 0 dX8_fitsWhatWasSent_99 rfl rfl ?_
      obtain ⟨v37, gv37, h⟩ := px_bs h
      refine ev_gR dX8_fitsWhatWasSent_100 flRX8_34 gv37 ?_
      refine EV.bipush (64) dX8_fitsWhatWasSent_103 (by decide) ?_
      refine EV.iload_n 1 dX8_fitsWhatWasSent_105 rfl rfl ?_
      refine EV.imul dX8_fitsWhatWasSent_106 ?_
      refine EV.iload 2 dX8_fitsWhatWasSent_107 rfl ?_
      refine EV.iadd dX8_fitsWhatWasSent_109 ?_
      obtain ⟨v38, gv38, h⟩ := px_bs h
      refine ev_aI dX8_fitsWhatWasSent_110 gv38 ?_
      refine EV.istore [(5, .int v38), (0, .ref a0), (2, .int a2), (4, .int a4)] dX8_fitsWhatWasSent_111 (by decide) rfl ?_
      refine EV.aload_n 1 dX8_fitsWhatWasSent_113 rfl rfl ?_
      obtain ⟨v39, gv39, h⟩ := px_bs h
      refine ev_gR dX8_fitsWhatWasSent_114 flRX8_12 gv39 ?_
      obtain ⟨v40, gv40, h⟩ := px_bs h
      refine ev_gI dX8_fitsWhatWasSent_117 flRX8_248 gv40 ?_
      refine EV.if_ne 137 dX8_fitsWhatWasSent_120 (by decide) (fun c41 => ?_) (fun c41 => ?_)
      · rw [if_neg c41] at h
        refine EV.iload 0 dX8_fitsWhatWasSent_137 rfl ?_
        refine EV.aload_n 1 dX8_fitsWhatWasSent_139 rfl rfl ?_
        obtain ⟨v42, gv42, h⟩ := px_bs h
        refine ev_gR dX8_fitsWhatWasSent_140 flRX8_12 gv42 ?_
        obtain ⟨v43, gv43, h⟩ := px_bs h
        refine ev_gI dX8_fitsWhatWasSent_143 flRX8_248 gv43 ?_
        refine EV.icmp_ne 153 dX8_fitsWhatWasSent_146 (by decide) (fun c44 => ?_) (fun c44 => ?_)
        · rw [if_neg c44] at h
          refine EV.iconst (0) dX8_fitsWhatWasSent_153 (by decide) ?_
          refine EV.sub [1, 2, 3] rfl ?_
          exact eX8_fitsWhatWasSent_154 ih _ _ _ _ _ _ h
        · rw [if_pos c44] at h
          refine EV.iconst (1) dX8_fitsWhatWasSent_149 (by decide) ?_
          refine EV.goto 154 dX8_fitsWhatWasSent_150 (by decide) ?_
          refine EV.sub [1, 2, 3] rfl ?_
          exact eX8_fitsWhatWasSent_154 ih _ _ _ _ _ _ h
      · rw [if_pos c41] at h
        refine EV.iload 0 dX8_fitsWhatWasSent_123 rfl ?_
        refine EV.iconst ((-1)) dX8_fitsWhatWasSent_125 (by decide) ?_
        refine EV.icmp_ne 133 dX8_fitsWhatWasSent_126 (by decide) (fun c45 => ?_) (fun c45 => ?_)
        · rw [if_neg c45] at h
          refine EV.iconst (0) dX8_fitsWhatWasSent_133 (by decide) ?_
          refine EV.goto 154 dX8_fitsWhatWasSent_134 (by decide) ?_
          refine EV.sub [1, 2, 3] rfl ?_
          exact eX8_fitsWhatWasSent_154 ih _ _ _ _ _ _ h
        · rw [if_pos c45] at h
          refine EV.iconst (1) dX8_fitsWhatWasSent_129 (by decide) ?_
          refine EV.goto 154 dX8_fitsWhatWasSent_130 (by decide) ?_
          refine EV.sub [1, 2, 3] rfl ?_
          exact eX8_fitsWhatWasSent_154 ih _ _ _ _ _ _ h
set_option maxRecDepth 100000 in
set_option maxHeartbeats 4000000 in
theorem eX8_fitsWhatWasSent_78 {X : px_X}  : ∀ (a0 : Nat) (a2 : Int32) (w : px_W) (q : Int32 × px_W), fX8_fitsWhatWasSent_78 X  a0 a2 w = some q → EV X mX8_fitsWhatWasSent 78 [(0, .ref a0), (2, .int a2)] [] w (some (.int q.1)) q.2 := by
  intro a0 a2 w q h
  unfold fX8_fitsWhatWasSent_78 at h
  refine EV.aload_n 0 dX8_fitsWhatWasSent_78 rfl rfl ?_
  obtain ⟨v46, gv46, h⟩ := px_bs h
  refine ev_gR dX8_fitsWhatWasSent_79 flRX8_12 gv46 ?_
  obtain ⟨v47, gv47, h⟩ := px_bs h
  refine ev_gI dX8_fitsWhatWasSent_82 flRX8_242 gv47 ?_
  refine EV.istore [(4, .int v47), (0, .ref a0), (2, .int a2)] dX8_fitsWhatWasSent_85 (by decide) rfl ?_
  refine EV.sub [1, 2, 0] rfl ?_
  exact eX8_fitsWhatWasSent_87  FU _ _ _ _ _ h
set_option maxRecDepth 100000 in
set_option maxHeartbeats 4000000 in
theorem eX8_fitsWhatWasSent_28 {X : px_X}  : ∀ (a0 : Nat) (a1 : Int32) (a2 : Int32) (s0 : Int32) (w : px_W) (q : Int32 × px_W), fX8_fitsWhatWasSent_28 X  a0 a1 a2 s0 w = some q → EV X mX8_fitsWhatWasSent 28 [(0, .ref a0), (1, .int a1), (2, .int a2)] [.int s0] w (some (.int q.1)) q.2 := by
  intro a0 a1 a2 s0 w q h
  unfold fX8_fitsWhatWasSent_28 at h
  refine EV.istore_n [(3, .int s0), (0, .ref a0), (1, .int a1), (2, .int a2)] dX8_fitsWhatWasSent_28 rfl (by decide) rfl ?_
  refine EV.aload_n 1 dX8_fitsWhatWasSent_29 rfl rfl ?_
  obtain ⟨v48, gv48, h⟩ := px_bs h
  refine ev_gI dX8_fitsWhatWasSent_30 flRX8_68 gv48 ?_
  refine EV.sipush (192) dX8_fitsWhatWasSent_33 (by decide) ?_
  refine EV.icmp_ne 46 dX8_fitsWhatWasSent_36 (by decide) (fun c49 => ?_) (fun c49 => ?_)
  · rw [if_neg c49] at h
    refine EV.aload_n 1 dX8_fitsWhatWasSent_46 rfl rfl ?_
    obtain ⟨v50, gv50, h⟩ := px_bs h
    refine ev_gR dX8_fitsWhatWasSent_47 flRX8_12 gv50 ?_
    obtain ⟨v51, gv51, h⟩ := px_bs h
    refine ev_gI dX8_fitsWhatWasSent_50 flRX8_242 gv51 ?_
    refine EV.if_le 78 dX8_fitsWhatWasSent_53 (by decide) (fun c52 => ?_) (fun c52 => ?_)
    · rw [if_pos c52] at h
      refine EV.sub [1, 3] rfl ?_
      exact eX8_fitsWhatWasSent_78  _ _ _ _ h
    · rw [if_neg c52] at h
      refine EV.iload_n 0 dX8_fitsWhatWasSent_56 rfl rfl ?_
      refine EV.if_ne 78 dX8_fitsWhatWasSent_57 (by decide) (fun c53 => ?_) (fun c53 => ?_)
      · rw [if_neg c53] at h
        refine EV.sub [1, 3] rfl ?_
        exact eX8_fitsWhatWasSent_78  _ _ _ _ h
      · rw [if_pos c53] at h
        refine EV.sub [1, 2] rfl ?_
        exact eX8_fitsWhatWasSent_60  _ _ _ _ h
  · rw [if_pos c49] at h
    refine EV.iload_n 0 dX8_fitsWhatWasSent_39 rfl rfl ?_
    refine EV.if_eq 78 dX8_fitsWhatWasSent_40 (by decide) (fun c54 => ?_) (fun c54 => ?_)
    · rw [if_pos c54] at h
      refine EV.sub [1, 3] rfl ?_
      exact eX8_fitsWhatWasSent_78  _ _ _ _ h
    · rw [if_neg c54] at h
      refine EV.goto 60 dX8_fitsWhatWasSent_43 (by decide) ?_
      refine EV.sub [1, 2] rfl ?_
      exact eX8_fitsWhatWasSent_60  _ _ _ _ h
set_option maxRecDepth 100000 in
set_option maxHeartbeats 4000000 in
theorem eX8_fitsWhatWasSent {X : px_X} {w : px_W} {a0 : Nat} {a1 : Int32} {q : Int32 × px_W} (h : fX8_fitsWhatWasSent X w a0 a1 = some q) : EV X mX8_fitsWhatWasSent 0 (lv_args 0 [.ref a0, .int a1]) [] w (some (.int q.1)) q.2 := by
  unfold fX8_fitsWhatWasSent at h
  show EV X mX8_fitsWhatWasSent 0 [(0, .ref a0), (1, .int a1)] [] w (some (.int q.1)) q.2
  refine EV.aload_n 0 dX8_fitsWhatWasSent_0 rfl rfl ?_
  obtain ⟨v55, gv55, h⟩ := px_bs h
  refine ev_gR dX8_fitsWhatWasSent_1 flRX8_12 gv55 ?_
  obtain ⟨v56, gv56, h⟩ := px_bs h
  refine ev_gR dX8_fitsWhatWasSent_4 flRX8_220 gv56 ?_
  refine EV.iload_n 1 dX8_fitsWhatWasSent_7 rfl rfl ?_
  obtain ⟨v57, gv57, h⟩ := px_bs h
  refine ev_aI dX8_fitsWhatWasSent_8 gv57 ?_
  refine EV.istore_n [(2, .int v57), (0, .ref a0), (1, .int a1)] dX8_fitsWhatWasSent_9 rfl (by decide) rfl ?_
  refine EV.aload_n 1 dX8_fitsWhatWasSent_10 rfl rfl ?_
  obtain ⟨v58, gv58, h⟩ := px_bs h
  refine ev_gR dX8_fitsWhatWasSent_11 flRX8_34 gv58 ?_
  refine EV.bipush (64) dX8_fitsWhatWasSent_14 (by decide) ?_
  refine EV.iload_n 0 dX8_fitsWhatWasSent_16 rfl rfl ?_
  refine EV.imul dX8_fitsWhatWasSent_17 ?_
  obtain ⟨v59, gv59, h⟩ := px_bs h
  refine ev_aI dX8_fitsWhatWasSent_18 gv59 ?_
  refine EV.iconst ((-1)) dX8_fitsWhatWasSent_19 (by decide) ?_
  refine EV.icmp_eq 27 dX8_fitsWhatWasSent_20 (by decide) (fun c60 => ?_) (fun c60 => ?_)
  · rw [if_pos c60] at h
    refine EV.iconst (0) dX8_fitsWhatWasSent_27 (by decide) ?_
    refine EV.sub [1, 2, 0] rfl ?_
    exact eX8_fitsWhatWasSent_28  _ _ _ _ _ _ h
  · rw [if_neg c60] at h
    refine EV.iconst (1) dX8_fitsWhatWasSent_23 (by decide) ?_
    refine EV.goto 28 dX8_fitsWhatWasSent_24 (by decide) ?_
    refine EV.sub [1, 2, 0] rfl ?_
    exact eX8_fitsWhatWasSent_28  _ _ _ _ _ _ h
/-! WavePictures$SegmentReader.hasItsTables(I)Z -/
theorem dX8_hasItsTables_0 : decode cX8_hasItsTables 0 = .ok (.aload_n 0, 1) := by decide +kernel
theorem dX8_hasItsTables_1 : decode cX8_hasItsTables 1 = .ok (.getfield 12, 3) := by decide +kernel
theorem dX8_hasItsTables_4 : decode cX8_hasItsTables 4 = .ok (.getfield 233, 3) := by decide +kernel
theorem dX8_hasItsTables_7 : decode cX8_hasItsTables 7 = .ok (.iload_n 1, 1) := by decide +kernel
theorem dX8_hasItsTables_8 : decode cX8_hasItsTables 8 = .ok (.iaload, 1) := by decide +kernel
theorem dX8_hasItsTables_9 : decode cX8_hasItsTables 9 = .ok (.istore_n 2, 1) := by decide +kernel
theorem dX8_hasItsTables_10 : decode cX8_hasItsTables 10 = .ok (.aload_n 0, 1) := by decide +kernel
theorem dX8_hasItsTables_11 : decode cX8_hasItsTables 11 = .ok (.getfield 31, 3) := by decide +kernel
theorem dX8_hasItsTables_14 : decode cX8_hasItsTables 14 = .ok (.bipush 64, 2) := by decide +kernel
theorem dX8_hasItsTables_16 : decode cX8_hasItsTables 16 = .ok (.aload_n 0, 1) := by decide +kernel
theorem dX8_hasItsTables_17 : decode cX8_hasItsTables 17 = .ok (.getfield 28, 3) := by decide +kernel
theorem dX8_hasItsTables_20 : decode cX8_hasItsTables 20 = .ok (.aload_n 0, 1) := by decide +kernel
theorem dX8_hasItsTables_21 : decode cX8_hasItsTables 21 = .ok (.getfield 12, 3) := by decide +kernel
theorem dX8_hasItsTables_24 : decode cX8_hasItsTables 24 = .ok (.getfield 220, 3) := by decide +kernel
theorem dX8_hasItsTables_27 : decode cX8_hasItsTables 27 = .ok (.iload_n 1, 1) := by decide +kernel
theorem dX8_hasItsTables_28 : decode cX8_hasItsTables 28 = .ok (.iaload, 1) := by decide +kernel
theorem dX8_hasItsTables_29 : decode cX8_hasItsTables 29 = .ok (.iaload, 1) := by decide +kernel
theorem dX8_hasItsTables_30 : decode cX8_hasItsTables 30 = .ok (.imul, 1) := by decide +kernel
theorem dX8_hasItsTables_31 : decode cX8_hasItsTables 31 = .ok (.iaload, 1) := by decide +kernel
theorem dX8_hasItsTables_32 : decode cX8_hasItsTables 32 = .ok (.ifCond .ne 13, 3) := by decide +kernel
theorem dX8_hasItsTables_35 : decode cX8_hasItsTables 35 = .ok (.aload_n 0, 1) := by decide +kernel
theorem dX8_hasItsTables_36 : decode cX8_hasItsTables 36 = .ok (.bipush 8, 2) := by decide +kernel
theorem dX8_hasItsTables_38 : decode cX8_hasItsTables 38 = .ok (.iload_n 2, 1) := by decide +kernel
theorem dX8_hasItsTables_39 : decode cX8_hasItsTables 39 = .ok (.invokevirtual 100, 3) := by decide +kernel
theorem dX8_hasItsTables_42 : decode cX8_hasItsTables 42 = .ok (.pop, 1) := by decide +kernel
theorem dX8_hasItsTables_43 : decode cX8_hasItsTables 43 = .ok (.iconst 0, 1) := by decide +kernel
theorem dX8_hasItsTables_44 : decode cX8_hasItsTables 44 = .ok (.ireturn, 1) := by decide +kernel
theorem dX8_hasItsTables_45 : decode cX8_hasItsTables 45 = .ok (.aload_n 0, 1) := by decide +kernel
theorem dX8_hasItsTables_46 : decode cX8_hasItsTables 46 = .ok (.getfield 12, 3) := by decide +kernel
theorem dX8_hasItsTables_49 : decode cX8_hasItsTables 49 = .ok (.getfield 242, 3) := by decide +kernel
theorem dX8_hasItsTables_52 : decode cX8_hasItsTables 52 = .ok (.ifCond .ne 17, 3) := by decide +kernel
theorem dX8_hasItsTables_55 : decode cX8_hasItsTables 55 = .ok (.aload_n 0, 1) := by decide +kernel
theorem dX8_hasItsTables_56 : decode cX8_hasItsTables 56 = .ok (.getfield 12, 3) := by decide +kernel
theorem dX8_hasItsTables_59 : decode cX8_hasItsTables 59 = .ok (.getfield 248, 3) := by decide +kernel
theorem dX8_hasItsTables_62 : decode cX8_hasItsTables 62 = .ok (.ifCond .ne 7, 3) := by decide +kernel
theorem dX8_hasItsTables_65 : decode cX8_hasItsTables 65 = .ok (.iconst 1, 1) := by decide +kernel
theorem dX8_hasItsTables_66 : decode cX8_hasItsTables 66 = .ok (.goto 4, 3) := by decide +kernel
theorem dX8_hasItsTables_69 : decode cX8_hasItsTables 69 = .ok (.iconst 0, 1) := by decide +kernel
theorem dX8_hasItsTables_70 : decode cX8_hasItsTables 70 = .ok (.istore_n 3, 1) := by decide +kernel
theorem dX8_hasItsTables_71 : decode cX8_hasItsTables 71 = .ok (.aload_n 0, 1) := by decide +kernel
theorem dX8_hasItsTables_72 : decode cX8_hasItsTables 72 = .ok (.getfield 12, 3) := by decide +kernel
theorem dX8_hasItsTables_75 : decode cX8_hasItsTables 75 = .ok (.getfield 245, 3) := by decide +kernel
theorem dX8_hasItsTables_78 : decode cX8_hasItsTables 78 = .ok (.ifCond .le 7, 3) := by decide +kernel
theorem dX8_hasItsTables_81 : decode cX8_hasItsTables 81 = .ok (.iconst 1, 1) := by decide +kernel
theorem dX8_hasItsTables_82 : decode cX8_hasItsTables 82 = .ok (.goto 4, 3) := by decide +kernel
theorem dX8_hasItsTables_85 : decode cX8_hasItsTables 85 = .ok (.iconst 0, 1) := by decide +kernel
theorem dX8_hasItsTables_86 : decode cX8_hasItsTables 86 = .ok (.istore 4, 2) := by decide +kernel
theorem dX8_hasItsTables_88 : decode cX8_hasItsTables 88 = .ok (.iload_n 3, 1) := by decide +kernel
theorem dX8_hasItsTables_89 : decode cX8_hasItsTables 89 = .ok (.ifCond .eq 23, 3) := by decide +kernel
theorem dX8_hasItsTables_92 : decode cX8_hasItsTables 92 = .ok (.aload_n 0, 1) := by decide +kernel
theorem dX8_hasItsTables_93 : decode cX8_hasItsTables 93 = .ok (.getfield 20, 3) := by decide +kernel
theorem dX8_hasItsTables_96 : decode cX8_hasItsTables 96 = .ok (.aload_n 0, 1) := by decide +kernel
theorem dX8_hasItsTables_97 : decode cX8_hasItsTables 97 = .ok (.getfield 12, 3) := by decide +kernel
theorem dX8_hasItsTables_100 : decode cX8_hasItsTables 100 = .ok (.getfield 236, 3) := by decide +kernel
theorem dX8_hasItsTables_103 : decode cX8_hasItsTables 103 = .ok (.iload_n 1, 1) := by decide +kernel
theorem dX8_hasItsTables_104 : decode cX8_hasItsTables 104 = .ok (.iaload, 1) := by decide +kernel
theorem dX8_hasItsTables_105 : decode cX8_hasItsTables 105 = .ok (.aaload, 1) := by decide +kernel
theorem dX8_hasItsTables_106 : decode cX8_hasItsTables 106 = .ok (.getfield 89, 3) := by decide +kernel
theorem dX8_hasItsTables_109 : decode cX8_hasItsTables 109 = .ok (.ifCond .eq 30, 3) := by decide +kernel
theorem dX8_hasItsTables_112 : decode cX8_hasItsTables 112 = .ok (.iload 4, 2) := by decide +kernel
theorem dX8_hasItsTables_114 : decode cX8_hasItsTables 114 = .ok (.ifCond .eq 37, 3) := by decide +kernel
theorem dX8_hasItsTables_117 : decode cX8_hasItsTables 117 = .ok (.aload_n 0, 1) := by decide +kernel
theorem dX8_hasItsTables_118 : decode cX8_hasItsTables 118 = .ok (.getfield 20, 3) := by decide +kernel
theorem dX8_hasItsTables_121 : decode cX8_hasItsTables 121 = .ok (.iconst 4, 1) := by decide +kernel
theorem dX8_hasItsTables_122 : decode cX8_hasItsTables 122 = .ok (.aload_n 0, 1) := by decide +kernel
theorem dX8_hasItsTables_123 : decode cX8_hasItsTables 123 = .ok (.getfield 12, 3) := by decide +kernel
theorem dX8_hasItsTables_126 : decode cX8_hasItsTables 126 = .ok (.getfield 239, 3) := by decide +kernel
theorem dX8_hasItsTables_129 : decode cX8_hasItsTables 129 = .ok (.iload_n 1, 1) := by decide +kernel
theorem dX8_hasItsTables_130 : decode cX8_hasItsTables 130 = .ok (.iaload, 1) := by decide +kernel
theorem dX8_hasItsTables_131 : decode cX8_hasItsTables 131 = .ok (.iadd, 1) := by decide +kernel
theorem dX8_hasItsTables_132 : decode cX8_hasItsTables 132 = .ok (.aaload, 1) := by decide +kernel
theorem dX8_hasItsTables_133 : decode cX8_hasItsTables 133 = .ok (.getfield 89, 3) := by decide +kernel
theorem dX8_hasItsTables_136 : decode cX8_hasItsTables 136 = .ok (.ifCond .ne 15, 3) := by decide +kernel
theorem dX8_hasItsTables_139 : decode cX8_hasItsTables 139 = .ok (.aload_n 0, 1) := by decide +kernel
theorem dX8_hasItsTables_140 : decode cX8_hasItsTables 140 = .ok (.bipush 8, 2) := by decide +kernel
theorem dX8_hasItsTables_142 : decode cX8_hasItsTables 142 = .ok (.iload_n 2, 1) := by decide +kernel
theorem dX8_hasItsTables_143 : decode cX8_hasItsTables 143 = .ok (.iconst 1, 1) := by decide +kernel
theorem dX8_hasItsTables_144 : decode cX8_hasItsTables 144 = .ok (.iadd, 1) := by decide +kernel
theorem dX8_hasItsTables_145 : decode cX8_hasItsTables 145 = .ok (.invokevirtual 100, 3) := by decide +kernel
theorem dX8_hasItsTables_148 : decode cX8_hasItsTables 148 = .ok (.pop, 1) := by decide +kernel
theorem dX8_hasItsTables_149 : decode cX8_hasItsTables 149 = .ok (.iconst 0, 1) := by decide +kernel
theorem dX8_hasItsTables_150 : decode cX8_hasItsTables 150 = .ok (.ireturn, 1) := by decide +kernel
theorem dX8_hasItsTables_151 : decode cX8_hasItsTables 151 = .ok (.iconst 1, 1) := by decide +kernel
theorem dX8_hasItsTables_152 : decode cX8_hasItsTables 152 = .ok (.ireturn, 1) := by decide +kernel
theorem kcX8_hasItsTables_100 : px_cV mX8_hasItsTables 100 mX8_fail 2 := ⟨⟨mbX8_fail, by decide, by decide⟩, Or.inl (tb3 (List.mem_of_getElem? (i := 143) rfl)), vbX8_fail⟩
set_option maxRecDepth 100000 in
set_option maxHeartbeats 4000000 in
theorem eX8_hasItsTables_139 {X : px_X}  : ∀ (a0 : Nat) (a2 : Int32) (w : px_W) (q : Int32 × px_W), fX8_hasItsTables_139 X  a0 a2 w = some q → EV X mX8_hasItsTables 139 [(0, .ref a0), (2, .int a2)] [] w (some (.int q.1)) q.2 := by
  intro a0 a2 w q h
  unfold fX8_hasItsTables_139 at h
  refine EV.aload_n 0 dX8_hasItsTables_139 rfl rfl ?_
  refine EV.bipush (8) dX8_hasItsTables_140 (by decide) ?_
  refine EV.iload_n 1 dX8_hasItsTables_142 rfl rfl ?_
  refine EV.iconst (1) dX8_hasItsTables_143 (by decide) ?_
  refine EV.iadd dX8_hasItsTables_144 ?_
  obtain ⟨o33, go33, h⟩ := px_bs h
  obtain ⟨q34, gq34, h⟩ := px_bs h
  refine EV.callV (As := [.int 8, .int (a2 + 1)]) (rest := []) dX8_hasItsTables_145 kcX8_hasItsTables_100 (gO_ok go33) rfl rfl rfl (Nat.le_of_ble_eq_true rfl) (Nat.le_of_ble_eq_true rfl) (eX8_fail gq34) ?_
  refine EV.pop dX8_hasItsTables_148 rfl ?_
  refine EV.iconst (0) dX8_hasItsTables_149 (by decide) ?_
  cases h
  exact EV.reti dX8_hasItsTables_150 rfl
set_option maxRecDepth 100000 in
set_option maxHeartbeats 4000000 in
theorem eX8_hasItsTables_112 {X : px_X}  : ∀ (a0 : Nat) (a1 : Int32) (a2 : Int32) (a4 : Int32) (w : px_W) (q : Int32 × px_W), fX8_hasItsTables_112 X  a0 a1 a2 a4 w = some q → EV X mX8_hasItsTables 112 [(0, .ref a0), (1, .int a1), (2, .int a2), (4, .int a4)] [] w (some (.int q.1)) q.2 := by
  intro a0 a1 a2 a4 w q h
  unfold fX8_hasItsTables_112 at h
  refine EV.iload 3 dX8_hasItsTables_112 rfl ?_
  refine EV.if_eq 151 dX8_hasItsTables_114 (by decide) (fun c35 => ?_) (fun c35 => ?_)
  · rw [if_pos c35] at h
    refine EV.iconst (1) dX8_hasItsTables_151 (by decide) ?_
    cases h
    exact EV.reti dX8_hasItsTables_152 rfl
  · rw [if_neg c35] at h
    refine EV.aload_n 0 dX8_hasItsTables_117 rfl rfl ?_
    obtain ⟨v36, gv36, h⟩ := px_bs h
    refine ev_gR dX8_hasItsTables_118 flRX8_20 gv36 ?_
    refine EV.iconst (4) dX8_hasItsTables_121 (by decide) ?_
    refine EV.aload_n 0 dX8_hasItsTables_122 rfl rfl ?_
    obtain ⟨v37, gv37, h⟩ := px_bs h
    refine ev_gR dX8_hasItsTables_123 flRX8_12 gv37 ?_
    obtain ⟨v38, gv38, h⟩ := px_bs h
    refine ev_gR dX8_hasItsTables_126 flRX8_239 gv38 ?_
    refine EV.iload_n 1 dX8_hasItsTables_129 rfl rfl ?_
    obtain ⟨v39, gv39, h⟩ := px_bs h
    refine ev_aI dX8_hasItsTables_130 gv39 ?_
    refine EV.iadd dX8_hasItsTables_131 ?_
    obtain ⟨v40, gv40, h⟩ := px_bs h
    refine ev_aQ dX8_hasItsTables_132 (t := 7) rfl gv40 ?_
    obtain ⟨v41, gv41, h⟩ := px_bs h
    refine ev_gI dX8_hasItsTables_133 flRX8_89 gv41 ?_
    refine EV.if_ne 151 dX8_hasItsTables_136 (by decide) (fun c42 => ?_) (fun c42 => ?_)
    · rw [if_neg c42] at h
      refine EV.iconst (1) dX8_hasItsTables_151 (by decide) ?_
      cases h
      exact EV.reti dX8_hasItsTables_152 rfl
    · rw [if_pos c42] at h
      refine EV.sub [0, 2] rfl ?_
      exact eX8_hasItsTables_139  _ _ _ _ h
set_option maxRecDepth 100000 in
set_option maxHeartbeats 4000000 in
theorem eX8_hasItsTables_86 {X : px_X}  : ∀ (a0 : Nat) (a1 : Int32) (a2 : Int32) (a3 : Int32) (s0 : Int32) (w : px_W) (q : Int32 × px_W), fX8_hasItsTables_86 X  a0 a1 a2 a3 s0 w = some q → EV X mX8_hasItsTables 86 [(0, .ref a0), (1, .int a1), (2, .int a2), (3, .int a3)] [.int s0] w (some (.int q.1)) q.2 := by
  intro a0 a1 a2 a3 s0 w q h
  unfold fX8_hasItsTables_86 at h
  refine EV.istore [(4, .int s0), (0, .ref a0), (1, .int a1), (2, .int a2), (3, .int a3)] dX8_hasItsTables_86 (by decide) rfl ?_
  refine EV.iload_n 4 dX8_hasItsTables_88 rfl rfl ?_
  refine EV.if_eq 112 dX8_hasItsTables_89 (by decide) (fun c43 => ?_) (fun c43 => ?_)
  · rw [if_pos c43] at h
    refine EV.sub [1, 2, 3, 0] rfl ?_
    exact eX8_hasItsTables_112  _ _ _ _ _ _ h
  · rw [if_neg c43] at h
    refine EV.aload_n 1 dX8_hasItsTables_92 rfl rfl ?_
    obtain ⟨v44, gv44, h⟩ := px_bs h
    refine ev_gR dX8_hasItsTables_93 flRX8_20 gv44 ?_
    refine EV.aload_n 1 dX8_hasItsTables_96 rfl rfl ?_
    obtain ⟨v45, gv45, h⟩ := px_bs h
    refine ev_gR dX8_hasItsTables_97 flRX8_12 gv45 ?_
    obtain ⟨v46, gv46, h⟩ := px_bs h
    refine ev_gR dX8_hasItsTables_100 flRX8_236 gv46 ?_
    refine EV.iload_n 2 dX8_hasItsTables_103 rfl rfl ?_
    obtain ⟨v47, gv47, h⟩ := px_bs h
    refine ev_aI dX8_hasItsTables_104 gv47 ?_
    obtain ⟨v48, gv48, h⟩ := px_bs h
    refine ev_aQ dX8_hasItsTables_105 (t := 7) rfl gv48 ?_
    obtain ⟨v49, gv49, h⟩ := px_bs h
    refine ev_gI dX8_hasItsTables_106 flRX8_89 gv49 ?_
    refine EV.if_eq 139 dX8_hasItsTables_109 (by decide) (fun c50 => ?_) (fun c50 => ?_)
    · rw [if_pos c50] at h
      refine EV.sub [1, 3] rfl ?_
      exact eX8_hasItsTables_139  _ _ _ _ h
    · rw [if_neg c50] at h
      refine EV.sub [1, 2, 3, 0] rfl ?_
      exact eX8_hasItsTables_112  _ _ _ _ _ _ h
set_option maxRecDepth 100000 in
set_option maxHeartbeats 4000000 in
theorem eX8_hasItsTables_70 {X : px_X}  : ∀ (a0 : Nat) (a1 : Int32) (a2 : Int32) (s0 : Int32) (w : px_W) (q : Int32 × px_W), fX8_hasItsTables_70 X  a0 a1 a2 s0 w = some q → EV X mX8_hasItsTables 70 [(0, .ref a0), (1, .int a1), (2, .int a2)] [.int s0] w (some (.int q.1)) q.2 := by
  intro a0 a1 a2 s0 w q h
  unfold fX8_hasItsTables_70 at h
  refine EV.istore_n [(3, .int s0), (0, .ref a0), (1, .int a1), (2, .int a2)] dX8_hasItsTables_70 rfl (by decide) rfl ?_
  refine EV.aload_n 1 dX8_hasItsTables_71 rfl rfl ?_
  obtain ⟨v51, gv51, h⟩ := px_bs h
  refine ev_gR dX8_hasItsTables_72 flRX8_12 gv51 ?_
  obtain ⟨v52, gv52, h⟩ := px_bs h
  refine ev_gI dX8_hasItsTables_75 flRX8_245 gv52 ?_
  refine EV.if_le 85 dX8_hasItsTables_78 (by decide) (fun c53 => ?_) (fun c53 => ?_)
  · rw [if_pos c53] at h
    refine EV.iconst (0) dX8_hasItsTables_85 (by decide) ?_
    refine EV.sub [1, 2, 3, 0] rfl ?_
    exact eX8_hasItsTables_86  _ _ _ _ _ _ _ h
  · rw [if_neg c53] at h
    refine EV.iconst (1) dX8_hasItsTables_81 (by decide) ?_
    refine EV.goto 86 dX8_hasItsTables_82 (by decide) ?_
    refine EV.sub [1, 2, 3, 0] rfl ?_
    exact eX8_hasItsTables_86  _ _ _ _ _ _ _ h
set_option maxRecDepth 100000 in
set_option maxHeartbeats 4000000 in
theorem eX8_hasItsTables_69 {X : px_X}  : ∀ (a0 : Nat) (a1 : Int32) (a2 : Int32) (w : px_W) (q : Int32 × px_W), fX8_hasItsTables_69 X  a0 a1 a2 w = some q → EV X mX8_hasItsTables 69 [(0, .ref a0), (1, .int a1), (2, .int a2)] [] w (some (.int q.1)) q.2 := by
  intro a0 a1 a2 w q h
  unfold fX8_hasItsTables_69 at h
  refine EV.iconst (0) dX8_hasItsTables_69 (by decide) ?_
  refine EV.sub [0, 1, 2] rfl ?_
  exact eX8_hasItsTables_70  _ _ _ _ _ _ h
set_option maxRecDepth 100000 in
set_option maxHeartbeats 4000000 in
theorem eX8_hasItsTables {X : px_X} {w : px_W} {a0 : Nat} {a1 : Int32} {q : Int32 × px_W} (h : fX8_hasItsTables X w a0 a1 = some q) : EV X mX8_hasItsTables 0 (lv_args 0 [.ref a0, .int a1]) [] w (some (.int q.1)) q.2 := by
  unfold fX8_hasItsTables at h
  show EV X mX8_hasItsTables 0 [(0, .ref a0), (1, .int a1)] [] w (some (.int q.1)) q.2
  refine EV.aload_n 0 dX8_hasItsTables_0 rfl rfl ?_
  obtain ⟨v54, gv54, h⟩ := px_bs h
  refine ev_gR dX8_hasItsTables_1 flRX8_12 gv54 ?_
  obtain ⟨v55, gv55, h⟩ := px_bs h
  refine ev_gR dX8_hasItsTables_4 flRX8_233 gv55 ?_
  refine EV.iload_n 1 dX8_hasItsTables_7 rfl rfl ?_
  obtain ⟨v56, gv56, h⟩ := px_bs h
  refine ev_aI dX8_hasItsTables_8 gv56 ?_
  refine EV.istore_n [(2, .int v56), (0, .ref a0), (1, .int a1)] dX8_hasItsTables_9 rfl (by decide) rfl ?_
  refine EV.aload_n 1 dX8_hasItsTables_10 rfl rfl ?_
  obtain ⟨v57, gv57, h⟩ := px_bs h
  refine ev_gR dX8_hasItsTables_11 flRX8_31 gv57 ?_
  refine EV.bipush (64) dX8_hasItsTables_14 (by decide) ?_
  refine EV.aload_n 1 dX8_hasItsTables_16 rfl rfl ?_
  obtain ⟨v58, gv58, h⟩ := px_bs h
  refine ev_gR dX8_hasItsTables_17 flRX8_28 gv58 ?_
  refine EV.aload_n 1 dX8_hasItsTables_20 rfl rfl ?_
  obtain ⟨v59, gv59, h⟩ := px_bs h
  refine ev_gR dX8_hasItsTables_21 flRX8_12 gv59 ?_
  obtain ⟨v60, gv60, h⟩ := px_bs h
  refine ev_gR dX8_hasItsTables_24 flRX8_220 gv60 ?_
  refine EV.iload_n 2 dX8_hasItsTables_27 rfl rfl ?_
  obtain ⟨v61, gv61, h⟩ := px_bs h
  refine ev_aI dX8_hasItsTables_28 gv61 ?_
  obtain ⟨v62, gv62, h⟩ := px_bs h
  refine ev_aI dX8_hasItsTables_29 gv62 ?_
  refine EV.imul dX8_hasItsTables_30 ?_
  obtain ⟨v63, gv63, h⟩ := px_bs h
  refine ev_aI dX8_hasItsTables_31 gv63 ?_
  refine EV.if_ne 45 dX8_hasItsTables_32 (by decide) (fun c64 => ?_) (fun c64 => ?_)
  · rw [if_neg c64] at h
    refine EV.aload_n 1 dX8_hasItsTables_45 rfl rfl ?_
    obtain ⟨v65, gv65, h⟩ := px_bs h
    refine ev_gR dX8_hasItsTables_46 flRX8_12 gv65 ?_
    obtain ⟨v66, gv66, h⟩ := px_bs h
    refine ev_gI dX8_hasItsTables_49 flRX8_242 gv66 ?_
    refine EV.if_ne 69 dX8_hasItsTables_52 (by decide) (fun c67 => ?_) (fun c67 => ?_)
    · rw [if_neg c67] at h
      refine EV.sub [1, 2, 0] rfl ?_
      exact eX8_hasItsTables_69  _ _ _ _ _ h
    · rw [if_pos c67] at h
      refine EV.aload_n 1 dX8_hasItsTables_55 rfl rfl ?_
      obtain ⟨v68, gv68, h⟩ := px_bs h
      refine ev_gR dX8_hasItsTables_56 flRX8_12 gv68 ?_
      obtain ⟨v69, gv69, h⟩ := px_bs h
      refine ev_gI dX8_hasItsTables_59 flRX8_248 gv69 ?_
      refine EV.if_ne 69 dX8_hasItsTables_62 (by decide) (fun c70 => ?_) (fun c70 => ?_)
      · rw [if_neg c70] at h
        refine EV.sub [1, 2, 0] rfl ?_
        exact eX8_hasItsTables_69  _ _ _ _ _ h
      · rw [if_pos c70] at h
        refine EV.iconst (1) dX8_hasItsTables_65 (by decide) ?_
        refine EV.goto 70 dX8_hasItsTables_66 (by decide) ?_
        refine EV.sub [1, 2, 0] rfl ?_
        exact eX8_hasItsTables_70  _ _ _ _ _ _ h
  · rw [if_pos c64] at h
    refine EV.aload_n 1 dX8_hasItsTables_35 rfl rfl ?_
    refine EV.bipush (8) dX8_hasItsTables_36 (by decide) ?_
    refine EV.iload_n 0 dX8_hasItsTables_38 rfl rfl ?_
    obtain ⟨o71, go71, h⟩ := px_bs h
    obtain ⟨q72, gq72, h⟩ := px_bs h
    refine EV.callV (As := [.int 8, .int v56]) (rest := []) dX8_hasItsTables_39 kcX8_hasItsTables_100 (gO_ok go71) rfl rfl rfl (Nat.le_of_ble_eq_true rfl) (Nat.le_of_ble_eq_true rfl) (eX8_fail gq72) ?_
    refine EV.pop dX8_hasItsTables_42 rfl ?_
    refine EV.iconst (0) dX8_hasItsTables_43 (by decide) ?_
    cases h
    exact EV.reti dX8_hasItsTables_44 rfl
/-! WavePictures$SegmentReader.isFirstScan()Z -/
theorem dX8_isFirstScan_0 : decode cX8_isFirstScan 0 = .ok (.iconst 0, 1) := by decide +kernel
theorem dX8_isFirstScan_1 : decode cX8_isFirstScan 1 = .ok (.istore_n 1, 1) := by decide +kernel
theorem dX8_isFirstScan_2 : decode cX8_isFirstScan 2 = .ok (.iload_n 1, 1) := by decide +kernel
theorem dX8_isFirstScan_3 : decode cX8_isFirstScan 3 = .ok (.aload_n 0, 1) := by decide +kernel
theorem dX8_isFirstScan_4 : decode cX8_isFirstScan 4 = .ok (.getfield 44, 3) := by decide +kernel
theorem dX8_isFirstScan_7 : decode cX8_isFirstScan 7 = .ok (.getfield 78, 3) := by decide +kernel
theorem dX8_isFirstScan_10 : decode cX8_isFirstScan 10 = .ok (.if_icmp .ge 24, 3) := by decide +kernel
theorem dX8_isFirstScan_13 : decode cX8_isFirstScan 13 = .ok (.aload_n 0, 1) := by decide +kernel
theorem dX8_isFirstScan_14 : decode cX8_isFirstScan 14 = .ok (.getfield 34, 3) := by decide +kernel
theorem dX8_isFirstScan_17 : decode cX8_isFirstScan 17 = .ok (.bipush 64, 2) := by decide +kernel
theorem dX8_isFirstScan_19 : decode cX8_isFirstScan 19 = .ok (.iload_n 1, 1) := by decide +kernel
theorem dX8_isFirstScan_20 : decode cX8_isFirstScan 20 = .ok (.imul, 1) := by decide +kernel
theorem dX8_isFirstScan_21 : decode cX8_isFirstScan 21 = .ok (.iaload, 1) := by decide +kernel
theorem dX8_isFirstScan_22 : decode cX8_isFirstScan 22 = .ok (.iconst (-1), 1) := by decide +kernel
theorem dX8_isFirstScan_23 : decode cX8_isFirstScan 23 = .ok (.if_icmp .eq 5, 3) := by decide +kernel
theorem dX8_isFirstScan_26 : decode cX8_isFirstScan 26 = .ok (.iconst 0, 1) := by decide +kernel
theorem dX8_isFirstScan_27 : decode cX8_isFirstScan 27 = .ok (.ireturn, 1) := by decide +kernel
theorem dX8_isFirstScan_28 : decode cX8_isFirstScan 28 = .ok (.iinc 1 1, 3) := by decide +kernel
theorem dX8_isFirstScan_31 : decode cX8_isFirstScan 31 = .ok (.goto (-29), 3) := by decide +kernel
theorem dX8_isFirstScan_34 : decode cX8_isFirstScan 34 = .ok (.iconst 1, 1) := by decide +kernel
theorem dX8_isFirstScan_35 : decode cX8_isFirstScan 35 = .ok (.ireturn, 1) := by decide +kernel
set_option maxRecDepth 100000 in
set_option maxHeartbeats 4000000 in
theorem eX8_isFirstScan_2 {X : px_X}  : ∀ (m : Nat) (a0 : Nat) (a1 : Int32) (w : px_W) (q : Int32 × px_W), fX8_isFirstScan_2 X  m a0 a1 w = some q → EV X mX8_isFirstScan 2 [(0, .ref a0), (1, .int a1)] [] w (some (.int q.1)) q.2 := by
  intro m
  induction m with
  | zero => intro a0 a1 w q h; cases h
  | succ m ih =>
    intro a0 a1 w q h
    rw [fX8_isFirstScan_2.eq_2] at h
    refine EV.iload_n 1 dX8_isFirstScan_2 rfl rfl ?_
    refine EV.aload_n 0 dX8_isFirstScan_3 rfl rfl ?_
    obtain ⟨v5, gv5, h⟩ := px_bs h
    refine ev_gR dX8_isFirstScan_4 flRX8_44 gv5 ?_
    obtain ⟨v6, gv6, h⟩ := px_bs h
    refine ev_gI dX8_isFirstScan_7 flRX8_78 gv6 ?_
    refine EV.icmp_ge 34 dX8_isFirstScan_10 (by decide) (fun c7 => ?_) (fun c7 => ?_)
    · rw [if_pos c7] at h
      refine EV.iconst (1) dX8_isFirstScan_34 (by decide) ?_
      cases h
      exact EV.reti dX8_isFirstScan_35 rfl
    · rw [if_neg c7] at h
      refine EV.aload_n 0 dX8_isFirstScan_13 rfl rfl ?_
      obtain ⟨v8, gv8, h⟩ := px_bs h
      refine ev_gR dX8_isFirstScan_14 flRX8_34 gv8 ?_
      refine EV.bipush (64) dX8_isFirstScan_17 (by decide) ?_
      refine EV.iload_n 1 dX8_isFirstScan_19 rfl rfl ?_
      refine EV.imul dX8_isFirstScan_20 ?_
      obtain ⟨v9, gv9, h⟩ := px_bs h
      refine ev_aI dX8_isFirstScan_21 gv9 ?_
      refine EV.iconst ((-1)) dX8_isFirstScan_22 (by decide) ?_
      refine EV.icmp_eq 28 dX8_isFirstScan_23 (by decide) (fun c10 => ?_) (fun c10 => ?_)
      · rw [if_pos c10] at h
        refine EV.iinc 1 (a1 + 1) [(1, .int (a1 + 1)), (0, .ref a0)] dX8_isFirstScan_28 rfl rfl (by decide) rfl ?_
        refine EV.goto 2 dX8_isFirstScan_31 (by decide) ?_
        refine EV.sub [1, 0] rfl ?_
        exact ih _ _ _ _ h
      · rw [if_neg c10] at h
        refine EV.iconst (0) dX8_isFirstScan_26 (by decide) ?_
        cases h
        exact EV.reti dX8_isFirstScan_27 rfl
set_option maxRecDepth 100000 in
set_option maxHeartbeats 4000000 in
theorem eX8_isFirstScan {X : px_X} {w : px_W} {a0 : Nat} {q : Int32 × px_W} (h : fX8_isFirstScan X w a0 = some q) : EV X mX8_isFirstScan 0 (lv_args 0 [.ref a0]) [] w (some (.int q.1)) q.2 := by
  unfold fX8_isFirstScan at h
  show EV X mX8_isFirstScan 0 [(0, .ref a0)] [] w (some (.int q.1)) q.2
  refine EV.iconst (0) dX8_isFirstScan_0 (by decide) ?_
  refine EV.istore_n [(1, .int 0), (0, .ref a0)] dX8_isFirstScan_1 rfl (by decide) rfl ?_
  refine EV.sub [1, 0] rfl ?_
  exact eX8_isFirstScan_2  FU _ _ _ _ h
