/-! WavePicturesModel$Scans.raw(I)V -/
theorem dX13_raw_0 : decode cX13_raw 0 = .ok (.aload_n 0, 1) := by decide +kernel
theorem dX13_raw_1 : decode cX13_raw 1 = .ok (.getfield 161, 3) := by decide +kernel
theorem dX13_raw_4 : decode cX13_raw 4 = .ok (.sipush 16384, 3) := by decide +kernel
theorem dX13_raw_7 : decode cX13_raw 7 = .ok (.if_icmp .ne 9, 3) := by decide +kernel
theorem dX13_raw_10 : decode cX13_raw 10 = .ok (.aload_n 0, 1) := by decide +kernel
theorem dX13_raw_11 : decode cX13_raw 11 = .ok (.iconst 1, 1) := by decide +kernel
theorem dX13_raw_12 : decode cX13_raw 12 = .ok (.putfield 164, 3) := by decide +kernel
theorem dX13_raw_15 : decode cX13_raw 15 = .ok (.return_, 1) := by decide +kernel
theorem dX13_raw_16 : decode cX13_raw 16 = .ok (.aload_n 0, 1) := by decide +kernel
theorem dX13_raw_17 : decode cX13_raw 17 = .ok (.getfield 65, 3) := by decide +kernel
theorem dX13_raw_20 : decode cX13_raw 20 = .ok (.aload_n 0, 1) := by decide +kernel
theorem dX13_raw_21 : decode cX13_raw 21 = .ok (.getfield 161, 3) := by decide +kernel
theorem dX13_raw_24 : decode cX13_raw 24 = .ok (.iload_n 1, 1) := by decide +kernel
theorem dX13_raw_25 : decode cX13_raw 25 = .ok (.i2b, 1) := by decide +kernel
theorem dX13_raw_26 : decode cX13_raw 26 = .ok (.bastore, 1) := by decide +kernel
theorem dX13_raw_27 : decode cX13_raw 27 = .ok (.aload_n 0, 1) := by decide +kernel
theorem dX13_raw_28 : decode cX13_raw 28 = .ok (.dup, 1) := by decide +kernel
theorem dX13_raw_29 : decode cX13_raw 29 = .ok (.getfield 161, 3) := by decide +kernel
theorem dX13_raw_32 : decode cX13_raw 32 = .ok (.iconst 1, 1) := by decide +kernel
theorem dX13_raw_33 : decode cX13_raw 33 = .ok (.iadd, 1) := by decide +kernel
theorem dX13_raw_34 : decode cX13_raw 34 = .ok (.putfield 161, 3) := by decide +kernel
theorem dX13_raw_37 : decode cX13_raw 37 = .ok (.return_, 1) := by decide +kernel
theorem flRX13_65 : px_f RX13 65 13 30 := ⟨_, rfl, by decide, Or.inl (tb7 (List.mem_of_getElem? (i := 45) rfl))⟩
theorem flRX13_161 : px_f RX13 161 13 31 := ⟨_, rfl, by decide, Or.inl (tb7 (List.mem_of_getElem? (i := 46) rfl))⟩
theorem flRX13_164 : px_f RX13 164 13 34 := ⟨_, rfl, by decide, Or.inl (tb7 (List.mem_of_getElem? (i := 49) rfl))⟩
set_option maxRecDepth 100000 in
set_option maxHeartbeats 4000000 in
theorem eX13_raw {X : px_X} {w : px_W} {a0 : Nat} {a1 : Int32} {q : px_W} (h : fX13_raw X w a0 a1 = some q) : EV X mX13_raw 0 (lv_args 0 [.ref a0, .int a1]) [] w none q := by
  unfold fX13_raw at h
  show EV X mX13_raw 0 [(0, .ref a0), (1, .int a1)] [] w none q
  refine EV.aload_n 0 dX13_raw_0 rfl rfl ?_
  obtain ⟨v8, gv8, h⟩ := px_bs h
  refine ev_gI dX13_raw_1 flRX13_161 gv8 ?_
  refine EV.sipush (16384) dX13_raw_4 (by decide) ?_
  refine EV.icmp_ne 16 dX13_raw_7 (by decide) (fun c9 => ?_) (fun c9 => ?_)
  · rw [if_neg c9] at h
    refine EV.aload_n 0 dX13_raw_16 rfl rfl ?_
    obtain ⟨v10, gv10, h⟩ := px_bs h
    refine ev_gR dX13_raw_17 flRX13_65 gv10 ?_
    refine EV.aload_n 0 dX13_raw_20 rfl rfl ?_
    obtain ⟨v11, gv11, h⟩ := px_bs h
    refine ev_gI dX13_raw_21 flRX13_161 gv11 ?_
    refine EV.iload_n 1 dX13_raw_24 rfl rfl ?_
    refine EV.i2b dX13_raw_25 ?_
    obtain ⟨w12, gw12, h⟩ := px_bs h
    refine ev_sB dX13_raw_26 gw12 ?_
    refine EV.aload_n 0 dX13_raw_27 rfl rfl ?_
    refine EV.dup dX13_raw_28 rfl ?_
    obtain ⟨v13, gv13, h⟩ := px_bs h
    refine ev_gI dX13_raw_29 flRX13_161 gv13 ?_
    refine EV.iconst (1) dX13_raw_32 (by decide) ?_
    refine EV.iadd dX13_raw_33 ?_
    obtain ⟨w14, gw14, h⟩ := px_bs h
    refine ev_pV dX13_raw_34 flRX13_161 rfl rfl rfl rfl gw14 ?_
    cases h
    exact EV.ret0 dX13_raw_37 trivial
  · rw [if_pos c9] at h
    refine EV.aload_n 0 dX13_raw_10 rfl rfl ?_
    refine EV.iconst (1) dX13_raw_11 (by decide) ?_
    obtain ⟨w15, gw15, h⟩ := px_bs h
    refine ev_pZ dX13_raw_12 flRX13_164 rfl rfl (by decide +kernel) gw15 ?_
    cases h
    exact EV.ret0 dX13_raw_15 trivial
/-! WavePicturesModel$Scans.bit(I)V -/
theorem dX13_bit_0 : decode cX13_bit 0 = .ok (.aload_n 0, 1) := by decide +kernel
theorem dX13_bit_1 : decode cX13_bit 1 = .ok (.getfield 147, 3) := by decide +kernel
theorem dX13_bit_4 : decode cX13_bit 4 = .ok (.ifCond .eq 4, 3) := by decide +kernel
theorem dX13_bit_7 : decode cX13_bit 7 = .ok (.return_, 1) := by decide +kernel
theorem dX13_bit_8 : decode cX13_bit 8 = .ok (.aload_n 0, 1) := by decide +kernel
theorem dX13_bit_9 : decode cX13_bit 9 = .ok (.iconst 2, 1) := by decide +kernel
theorem dX13_bit_10 : decode cX13_bit 10 = .ok (.aload_n 0, 1) := by decide +kernel
theorem dX13_bit_11 : decode cX13_bit 11 = .ok (.getfield 151, 3) := by decide +kernel
theorem dX13_bit_14 : decode cX13_bit 14 = .ok (.imul, 1) := by decide +kernel
theorem dX13_bit_15 : decode cX13_bit 15 = .ok (.iload_n 1, 1) := by decide +kernel
theorem dX13_bit_16 : decode cX13_bit 16 = .ok (.iadd, 1) := by decide +kernel
theorem dX13_bit_17 : decode cX13_bit 17 = .ok (.putfield 151, 3) := by decide +kernel
theorem dX13_bit_20 : decode cX13_bit 20 = .ok (.aload_n 0, 1) := by decide +kernel
theorem dX13_bit_21 : decode cX13_bit 21 = .ok (.dup, 1) := by decide +kernel
theorem dX13_bit_22 : decode cX13_bit 22 = .ok (.getfield 154, 3) := by decide +kernel
theorem dX13_bit_25 : decode cX13_bit 25 = .ok (.iconst 1, 1) := by decide +kernel
theorem dX13_bit_26 : decode cX13_bit 26 = .ok (.iadd, 1) := by decide +kernel
theorem dX13_bit_27 : decode cX13_bit 27 = .ok (.putfield 154, 3) := by decide +kernel
theorem dX13_bit_30 : decode cX13_bit 30 = .ok (.aload_n 0, 1) := by decide +kernel
theorem dX13_bit_31 : decode cX13_bit 31 = .ok (.getfield 154, 3) := by decide +kernel
theorem dX13_bit_34 : decode cX13_bit 34 = .ok (.bipush 8, 2) := by decide +kernel
theorem dX13_bit_36 : decode cX13_bit 36 = .ok (.if_icmp .ne 36, 3) := by decide +kernel
theorem dX13_bit_39 : decode cX13_bit 39 = .ok (.aload_n 0, 1) := by decide +kernel
theorem dX13_bit_40 : decode cX13_bit 40 = .ok (.aload_n 0, 1) := by decide +kernel
theorem dX13_bit_41 : decode cX13_bit 41 = .ok (.getfield 151, 3) := by decide +kernel
theorem dX13_bit_44 : decode cX13_bit 44 = .ok (.invokevirtual 157, 3) := by decide +kernel
theorem dX13_bit_47 : decode cX13_bit 47 = .ok (.aload_n 0, 1) := by decide +kernel
theorem dX13_bit_48 : decode cX13_bit 48 = .ok (.getfield 151, 3) := by decide +kernel
theorem dX13_bit_51 : decode cX13_bit 51 = .ok (.sipush 255, 3) := by decide +kernel
theorem dX13_bit_54 : decode cX13_bit 54 = .ok (.if_icmp .ne 8, 3) := by decide +kernel
theorem dX13_bit_57 : decode cX13_bit 57 = .ok (.aload_n 0, 1) := by decide +kernel
theorem dX13_bit_58 : decode cX13_bit 58 = .ok (.iconst 0, 1) := by decide +kernel
theorem dX13_bit_59 : decode cX13_bit 59 = .ok (.invokevirtual 157, 3) := by decide +kernel
theorem dX13_bit_62 : decode cX13_bit 62 = .ok (.aload_n 0, 1) := by decide +kernel
theorem dX13_bit_63 : decode cX13_bit 63 = .ok (.iconst 0, 1) := by decide +kernel
theorem dX13_bit_64 : decode cX13_bit 64 = .ok (.putfield 151, 3) := by decide +kernel
theorem dX13_bit_67 : decode cX13_bit 67 = .ok (.aload_n 0, 1) := by decide +kernel
theorem dX13_bit_68 : decode cX13_bit 68 = .ok (.iconst 0, 1) := by decide +kernel
theorem dX13_bit_69 : decode cX13_bit 69 = .ok (.putfield 154, 3) := by decide +kernel
theorem dX13_bit_72 : decode cX13_bit 72 = .ok (.return_, 1) := by decide +kernel
theorem flRX13_147 : px_f RX13 147 13 35 := ⟨_, rfl, by decide, Or.inl (tb7 (List.mem_of_getElem? (i := 50) rfl))⟩
theorem flRX13_151 : px_f RX13 151 13 32 := ⟨_, rfl, by decide, Or.inl (tb7 (List.mem_of_getElem? (i := 47) rfl))⟩
theorem flRX13_154 : px_f RX13 154 13 33 := ⟨_, rfl, by decide, Or.inl (tb7 (List.mem_of_getElem? (i := 48) rfl))⟩
theorem mbX13_raw : px_mB mX13_raw 1 := ⟨tb9 (List.mem_of_getElem? (i := 181) rfl), by decide +kernel, tb1 (List.mem_of_getElem? (i := 15) rfl), by decide +kernel, by decide +kernel⟩
theorem vbX13_raw : px_vB mX13_raw := ⟨tb9 (List.mem_of_getElem? (i := 180) rfl), List.mem_append_left _ (List.mem_of_getElem? (i := 146) (by decide +kernel))⟩
theorem kcX13_bit_157 : px_cV mX13_bit 157 mX13_raw 1 := ⟨⟨mbX13_raw, by decide, by decide⟩, Or.inl (tb9 (List.mem_of_getElem? (i := 178) rfl)), vbX13_raw⟩
set_option maxRecDepth 100000 in
set_option maxHeartbeats 4000000 in
theorem eX13_bit_62 {X : px_X}  : ∀ (a0 : Nat) (w : px_W) (q : px_W), fX13_bit_62 X  a0 w = some q → EV X mX13_bit 62 [(0, .ref a0)] [] w none q := by
  intro a0 w q h
  unfold fX13_bit_62 at h
  refine EV.aload_n 0 dX13_bit_62 rfl rfl ?_
  refine EV.iconst (0) dX13_bit_63 (by decide) ?_
  obtain ⟨w15, gw15, h⟩ := px_bs h
  refine ev_pV dX13_bit_64 flRX13_151 rfl rfl rfl rfl gw15 ?_
  refine EV.aload_n 0 dX13_bit_67 rfl rfl ?_
  refine EV.iconst (0) dX13_bit_68 (by decide) ?_
  obtain ⟨w16, gw16, h⟩ := px_bs h
  refine ev_pV dX13_bit_69 flRX13_154 rfl rfl rfl rfl gw16 ?_
  cases h
  exact EV.ret0 dX13_bit_72 trivial
set_option maxRecDepth 100000 in
set_option maxHeartbeats 4000000 in
theorem eX13_bit {X : px_X} {w : px_W} {a0 : Nat} {a1 : Int32} {q : px_W} (h : fX13_bit X w a0 a1 = some q) : EV X mX13_bit 0 (lv_args 0 [.ref a0, .int a1]) [] w none q := by
  unfold fX13_bit at h
  show EV X mX13_bit 0 [(0, .ref a0), (1, .int a1)] [] w none q
  refine EV.aload_n 0 dX13_bit_0 rfl rfl ?_
  obtain ⟨v17, gv17, h⟩ := px_bs h
  refine ev_gI dX13_bit_1 flRX13_147 gv17 ?_
  refine EV.if_eq 8 dX13_bit_4 (by decide) (fun c18 => ?_) (fun c18 => ?_)
  · rw [if_pos c18] at h
    refine EV.aload_n 0 dX13_bit_8 rfl rfl ?_
    refine EV.iconst (2) dX13_bit_9 (by decide) ?_
    refine EV.aload_n 0 dX13_bit_10 rfl rfl ?_
    obtain ⟨v19, gv19, h⟩ := px_bs h
    refine ev_gI dX13_bit_11 flRX13_151 gv19 ?_
    refine EV.imul dX13_bit_14 ?_
    refine EV.iload_n 1 dX13_bit_15 rfl rfl ?_
    refine EV.iadd dX13_bit_16 ?_
    obtain ⟨w20, gw20, h⟩ := px_bs h
    refine ev_pV dX13_bit_17 flRX13_151 rfl rfl rfl rfl gw20 ?_
    refine EV.aload_n 0 dX13_bit_20 rfl rfl ?_
    refine EV.dup dX13_bit_21 rfl ?_
    obtain ⟨v21, gv21, h⟩ := px_bs h
    refine ev_gI dX13_bit_22 flRX13_154 gv21 ?_
    refine EV.iconst (1) dX13_bit_25 (by decide) ?_
    refine EV.iadd dX13_bit_26 ?_
    obtain ⟨w22, gw22, h⟩ := px_bs h
    refine ev_pV dX13_bit_27 flRX13_154 rfl rfl rfl rfl gw22 ?_
    refine EV.aload_n 0 dX13_bit_30 rfl rfl ?_
    obtain ⟨v23, gv23, h⟩ := px_bs h
    refine ev_gI dX13_bit_31 flRX13_154 gv23 ?_
    refine EV.bipush (8) dX13_bit_34 (by decide) ?_
    refine EV.icmp_ne 72 dX13_bit_36 (by decide) (fun c24 => ?_) (fun c24 => ?_)
    · rw [if_neg c24] at h
      cases h
      exact EV.ret0 dX13_bit_72 trivial
    · rw [if_pos c24] at h
      refine EV.aload_n 0 dX13_bit_39 rfl rfl ?_
      refine EV.aload_n 0 dX13_bit_40 rfl rfl ?_
      obtain ⟨v25, gv25, h⟩ := px_bs h
      refine ev_gI dX13_bit_41 flRX13_151 gv25 ?_
      obtain ⟨o26, go26, h⟩ := px_bs h
      obtain ⟨q27, gq27, h⟩ := px_bs h
      refine EV.callV (As := [.int v25]) (rest := []) dX13_bit_44 kcX13_bit_157 (gO_ok go26) rfl rfl rfl (Nat.le_of_ble_eq_true rfl) (Nat.le_of_ble_eq_true rfl) (eX13_raw gq27) ?_
      refine EV.aload_n 0 dX13_bit_47 rfl rfl ?_
      obtain ⟨v28, gv28, h⟩ := px_bs h
      refine ev_gI dX13_bit_48 flRX13_151 gv28 ?_
      refine EV.sipush (255) dX13_bit_51 (by decide) ?_
      refine EV.icmp_ne 62 dX13_bit_54 (by decide) (fun c29 => ?_) (fun c29 => ?_)
      · rw [if_neg c29] at h
        refine EV.sub [0] rfl ?_
        exact eX13_bit_62  _ _ _ h
      · rw [if_pos c29] at h
        refine EV.aload_n 0 dX13_bit_57 rfl rfl ?_
        refine EV.iconst (0) dX13_bit_58 (by decide) ?_
        obtain ⟨o30, go30, h⟩ := px_bs h
        obtain ⟨q31, gq31, h⟩ := px_bs h
        refine EV.callV (As := [.int 0]) (rest := []) dX13_bit_59 kcX13_bit_157 (gO_ok go30) rfl rfl rfl (Nat.le_of_ble_eq_true rfl) (Nat.le_of_ble_eq_true rfl) (eX13_raw gq31) ?_
        refine EV.sub [0] rfl ?_
        exact eX13_bit_62  _ _ _ h
  · rw [if_neg c18] at h
    cases h
    exact EV.ret0 dX13_bit_7 trivial
/-! WavePicturesModel$Scans.low(II)V -/
theorem dX13_low_0 : decode cX13_low 0 = .ok (.iload_n 2, 1) := by decide +kernel
theorem dX13_low_1 : decode cX13_low 1 = .ok (.iconst 1, 1) := by decide +kernel
theorem dX13_low_2 : decode cX13_low 2 = .ok (.isub, 1) := by decide +kernel
theorem dX13_low_3 : decode cX13_low 3 = .ok (.istore_n 3, 1) := by decide +kernel
theorem dX13_low_4 : decode cX13_low 4 = .ok (.iload_n 3, 1) := by decide +kernel
theorem dX13_low_5 : decode cX13_low 5 = .ok (.ifCond .lt 18, 3) := by decide +kernel
theorem dX13_low_8 : decode cX13_low 8 = .ok (.aload_n 0, 1) := by decide +kernel
theorem dX13_low_9 : decode cX13_low 9 = .ok (.iload_n 1, 1) := by decide +kernel
theorem dX13_low_10 : decode cX13_low 10 = .ok (.iload_n 3, 1) := by decide +kernel
theorem dX13_low_11 : decode cX13_low 11 = .ok (.ishr, 1) := by decide +kernel
theorem dX13_low_12 : decode cX13_low 12 = .ok (.iconst 1, 1) := by decide +kernel
theorem dX13_low_13 : decode cX13_low 13 = .ok (.iand, 1) := by decide +kernel
theorem dX13_low_14 : decode cX13_low 14 = .ok (.invokevirtual 167, 3) := by decide +kernel
theorem dX13_low_17 : decode cX13_low 17 = .ok (.iinc 3 (-1), 3) := by decide +kernel
theorem dX13_low_20 : decode cX13_low 20 = .ok (.goto (-16), 3) := by decide +kernel
theorem dX13_low_23 : decode cX13_low 23 = .ok (.return_, 1) := by decide +kernel
theorem mbX13_bit : px_mB mX13_bit 1 := ⟨tb9 (List.mem_of_getElem? (i := 177) rfl), by decide +kernel, tb1 (List.mem_of_getElem? (i := 15) rfl), by decide +kernel, by decide +kernel⟩
theorem vbX13_bit : px_vB mX13_bit := ⟨tb9 (List.mem_of_getElem? (i := 176) rfl), List.mem_append_left _ (List.mem_of_getElem? (i := 145) (by decide +kernel))⟩
theorem kcX13_low_167 : px_cV mX13_low 167 mX13_bit 1 := ⟨⟨mbX13_bit, by decide, by decide⟩, Or.inl (tb9 (List.mem_of_getElem? (i := 174) rfl)), vbX13_bit⟩
set_option maxRecDepth 100000 in
set_option maxHeartbeats 4000000 in
theorem eX13_low_4 {X : px_X}  : ∀ (m : Nat) (a0 : Nat) (a1 : Int32) (a3 : Int32) (w : px_W) (q : px_W), fX13_low_4 X  m a0 a1 a3 w = some q → EV X mX13_low 4 [(0, .ref a0), (1, .int a1), (3, .int a3)] [] w none q := by
  intro m
  induction m with
  | zero => intro a0 a1 a3 w q h; cases h
  | succ m ih =>
    intro a0 a1 a3 w q h
    rw [fX13_low_4.eq_2] at h
    refine EV.iload_n 2 dX13_low_4 rfl rfl ?_
    refine EV.if_lt 23 dX13_low_5 (by decide) (fun c3 => ?_) (fun c3 => ?_)
    · rw [if_pos c3] at h
      cases h
      exact EV.ret0 dX13_low_23 trivial
    · rw [if_neg c3] at h
      refine EV.aload_n 0 dX13_low_8 rfl rfl ?_
      refine EV.iload_n 1 dX13_low_9 rfl rfl ?_
      refine EV.iload_n 2 dX13_low_10 rfl rfl ?_
      refine EV.ishr dX13_low_11 ?_
      refine EV.iconst (1) dX13_low_12 (by decide) ?_
      refine EV.iand dX13_low_13 ?_
      obtain ⟨o4, go4, h⟩ := px_bs h
      obtain ⟨q5, gq5, h⟩ := px_bs h
      refine EV.callV (As := [.int ((a1 >>> (a3 &&& 31)) &&& 1)]) (rest := []) dX13_low_14 kcX13_low_167 (gO_ok go4) rfl rfl rfl (Nat.le_of_ble_eq_true rfl) (Nat.le_of_ble_eq_true rfl) (eX13_bit gq5) ?_
      refine EV.iinc 2 (a3 + (-1)) [(3, .int (a3 + (-1))), (0, .ref a0), (1, .int a1)] dX13_low_17 rfl rfl (by decide) rfl ?_
      refine EV.goto 4 dX13_low_20 (by decide) ?_
      refine EV.sub [1, 2, 0] rfl ?_
      exact ih _ _ _ _ _ h
set_option maxRecDepth 100000 in
set_option maxHeartbeats 4000000 in
theorem eX13_low {X : px_X} {w : px_W} {a0 : Nat} {a1 : Int32} {a2 : Int32} {q : px_W} (h : fX13_low X w a0 a1 a2 = some q) : EV X mX13_low 0 (lv_args 0 [.ref a0, .int a1, .int a2]) [] w none q := by
  unfold fX13_low at h
  show EV X mX13_low 0 [(0, .ref a0), (1, .int a1), (2, .int a2)] [] w none q
  refine EV.iload_n 2 dX13_low_0 rfl rfl ?_
  refine EV.iconst (1) dX13_low_1 (by decide) ?_
  refine EV.isub dX13_low_2 ?_
  refine EV.istore_n [(3, .int (a2 - 1)), (0, .ref a0), (1, .int a1), (2, .int a2)] dX13_low_3 rfl (by decide) rfl ?_
  refine EV.sub [1, 2, 0] rfl ?_
  exact eX13_low_4  FU _ _ _ _ _ h
/-! WavePicturesModel$Scans.word(II)V -/
theorem dX13_word_0 : decode cX13_word 0 = .ok (.sipush 256, 3) := by decide +kernel
theorem dX13_word_3 : decode cX13_word 3 = .ok (.iload_n 1, 1) := by decide +kernel
theorem dX13_word_4 : decode cX13_word 4 = .ok (.imul, 1) := by decide +kernel
theorem dX13_word_5 : decode cX13_word 5 = .ok (.iload_n 2, 1) := by decide +kernel
theorem dX13_word_6 : decode cX13_word 6 = .ok (.iadd, 1) := by decide +kernel
theorem dX13_word_7 : decode cX13_word 7 = .ok (.istore_n 3, 1) := by decide +kernel
theorem dX13_word_8 : decode cX13_word 8 = .ok (.aload_n 0, 1) := by decide +kernel
theorem dX13_word_9 : decode cX13_word 9 = .ok (.getfield 68, 3) := by decide +kernel
theorem dX13_word_12 : decode cX13_word 12 = .ok (.iload_n 3, 1) := by decide +kernel
theorem dX13_word_13 : decode cX13_word 13 = .ok (.dup2, 1) := by decide +kernel
theorem dX13_word_14 : decode cX13_word 14 = .ok (.iaload, 1) := by decide +kernel
theorem dX13_word_15 : decode cX13_word 15 = .ok (.iconst 1, 1) := by decide +kernel
theorem dX13_word_16 : decode cX13_word 16 = .ok (.iadd, 1) := by decide +kernel
theorem dX13_word_17 : decode cX13_word 17 = .ok (.iastore, 1) := by decide +kernel
theorem dX13_word_18 : decode cX13_word 18 = .ok (.aload_n 0, 1) := by decide +kernel
theorem dX13_word_19 : decode cX13_word 19 = .ok (.getfield 147, 3) := by decide +kernel
theorem dX13_word_22 : decode cX13_word 22 = .ok (.ifCond .ne 44, 3) := by decide +kernel
theorem dX13_word_25 : decode cX13_word 25 = .ok (.aload_n 0, 1) := by decide +kernel
theorem dX13_word_26 : decode cX13_word 26 = .ok (.aload_n 0, 1) := by decide +kernel
theorem dX13_word_27 : decode cX13_word 27 = .ok (.getfield 164, 3) := by decide +kernel
theorem dX13_word_30 : decode cX13_word 30 = .ok (.ifCond .ne 12, 3) := by decide +kernel
theorem dX13_word_33 : decode cX13_word 33 = .ok (.aload_n 0, 1) := by decide +kernel
theorem dX13_word_34 : decode cX13_word 34 = .ok (.getfield 49, 3) := by decide +kernel
theorem dX13_word_37 : decode cX13_word 37 = .ok (.iload_n 3, 1) := by decide +kernel
theorem dX13_word_38 : decode cX13_word 38 = .ok (.iaload, 1) := by decide +kernel
theorem dX13_word_39 : decode cX13_word 39 = .ok (.ifCond .ne 7, 3) := by decide +kernel
theorem dX13_word_42 : decode cX13_word 42 = .ok (.iconst 1, 1) := by decide +kernel
theorem dX13_word_43 : decode cX13_word 43 = .ok (.goto 4, 3) := by decide +kernel
theorem dX13_word_46 : decode cX13_word 46 = .ok (.iconst 0, 1) := by decide +kernel
theorem dX13_word_47 : decode cX13_word 47 = .ok (.putfield 164, 3) := by decide +kernel
theorem dX13_word_50 : decode cX13_word 50 = .ok (.aload_n 0, 1) := by decide +kernel
theorem dX13_word_51 : decode cX13_word 51 = .ok (.aload_n 0, 1) := by decide +kernel
theorem dX13_word_52 : decode cX13_word 52 = .ok (.getfield 52, 3) := by decide +kernel
theorem dX13_word_55 : decode cX13_word 55 = .ok (.iload_n 3, 1) := by decide +kernel
theorem dX13_word_56 : decode cX13_word 56 = .ok (.iaload, 1) := by decide +kernel
theorem dX13_word_57 : decode cX13_word 57 = .ok (.aload_n 0, 1) := by decide +kernel
theorem dX13_word_58 : decode cX13_word 58 = .ok (.getfield 49, 3) := by decide +kernel
theorem dX13_word_61 : decode cX13_word 61 = .ok (.iload_n 3, 1) := by decide +kernel
theorem dX13_word_62 : decode cX13_word 62 = .ok (.iaload, 1) := by decide +kernel
theorem dX13_word_63 : decode cX13_word 63 = .ok (.invokevirtual 170, 3) := by decide +kernel
theorem dX13_word_66 : decode cX13_word 66 = .ok (.return_, 1) := by decide +kernel
theorem flRX13_68 : px_f RX13 68 13 36 := ⟨_, rfl, by decide, Or.inl (tb7 (List.mem_of_getElem? (i := 51) rfl))⟩
theorem mbX13_low : px_mB mX13_low 2 := ⟨tb9 (List.mem_of_getElem? (i := 173) rfl), by decide +kernel, tb1 (List.mem_of_getElem? (i := 15) rfl), by decide +kernel, by decide +kernel⟩
theorem vbX13_low : px_vB mX13_low := ⟨tb9 (List.mem_of_getElem? (i := 172) rfl), List.mem_append_left _ (List.mem_of_getElem? (i := 144) (by decide +kernel))⟩
theorem kcX13_word_170 : px_cV mX13_word 170 mX13_low 2 := ⟨⟨mbX13_low, by decide, by decide⟩, Or.inl (tb9 (List.mem_of_getElem? (i := 170) rfl)), vbX13_low⟩
set_option maxRecDepth 100000 in
set_option maxHeartbeats 4000000 in
theorem eX13_word_47 {X : px_X}  : ∀ (a0 : Nat) (a3 : Int32) (s0 : Int32) (s1 : Nat) (w : px_W) (q : px_W), fX13_word_47 X  a0 a3 s0 s1 w = some q → EV X mX13_word 47 [(0, .ref a0), (3, .int a3)] [.int s0, .ref s1] w none q := by
  intro a0 a3 s0 s1 w q h
  unfold fX13_word_47 at h
  obtain ⟨w15, gw15, h⟩ := px_bs h
  refine ev_pZ dX13_word_47 flRX13_164 rfl rfl (by decide +kernel) gw15 ?_
  refine EV.aload_n 0 dX13_word_50 rfl rfl ?_
  refine EV.aload_n 0 dX13_word_51 rfl rfl ?_
  obtain ⟨v16, gv16, h⟩ := px_bs h
  refine ev_gR dX13_word_52 flRX13_52 gv16 ?_
  refine EV.iload_n 1 dX13_word_55 rfl rfl ?_
  obtain ⟨v17, gv17, h⟩ := px_bs h
  refine ev_aI dX13_word_56 gv17 ?_
  refine EV.aload_n 0 dX13_word_57 rfl rfl ?_
  obtain ⟨v18, gv18, h⟩ := px_bs h
  refine ev_gR dX13_word_58 flRX13_49 gv18 ?_
  refine EV.iload_n 1 dX13_word_61 rfl rfl ?_
  obtain ⟨v19, gv19, h⟩ := px_bs h
  refine ev_aI dX13_word_62 gv19 ?_
  obtain ⟨o20, go20, h⟩ := px_bs h
  obtain ⟨q21, gq21, h⟩ := px_bs h
  refine EV.callV (As := [.int v17, .int v19]) (rest := []) dX13_word_63 kcX13_word_170 (gO_ok go20) rfl rfl rfl (Nat.le_of_ble_eq_true rfl) (Nat.le_of_ble_eq_true rfl) (eX13_low gq21) ?_
  cases h
  exact EV.ret0 dX13_word_66 trivial
set_option maxRecDepth 100000 in
set_option maxHeartbeats 4000000 in
theorem eX13_word_42 {X : px_X}  : ∀ (a0 : Nat) (a3 : Int32) (s0 : Nat) (w : px_W) (q : px_W), fX13_word_42 X  a0 a3 s0 w = some q → EV X mX13_word 42 [(0, .ref a0), (3, .int a3)] [.ref s0] w none q := by
  intro a0 a3 s0 w q h
  unfold fX13_word_42 at h
  refine EV.iconst (1) dX13_word_42 (by decide) ?_
  refine EV.goto 47 dX13_word_43 (by decide) ?_
  refine EV.sub [0, 1] rfl ?_
  exact eX13_word_47  _ _ _ _ _ _ h
set_option maxRecDepth 100000 in
set_option maxHeartbeats 4000000 in
theorem eX13_word {X : px_X} {w : px_W} {a0 : Nat} {a1 : Int32} {a2 : Int32} {q : px_W} (h : fX13_word X w a0 a1 a2 = some q) : EV X mX13_word 0 (lv_args 0 [.ref a0, .int a1, .int a2]) [] w none q := by
  unfold fX13_word at h
  show EV X mX13_word 0 [(0, .ref a0), (1, .int a1), (2, .int a2)] [] w none q
  refine EV.sipush (256) dX13_word_0 (by decide) ?_
  refine EV.iload_n 1 dX13_word_3 rfl rfl ?_
  refine EV.imul dX13_word_4 ?_
  refine EV.iload_n 2 dX13_word_5 rfl rfl ?_
  refine EV.iadd dX13_word_6 ?_
  refine EV.istore_n [(3, .int ((256 * a1) + a2)), (0, .ref a0), (1, .int a1), (2, .int a2)] dX13_word_7 rfl (by decide) rfl ?_
  refine EV.aload_n 1 dX13_word_8 rfl rfl ?_
  obtain ⟨v22, gv22, h⟩ := px_bs h
  refine ev_gR dX13_word_9 flRX13_68 gv22 ?_
  refine EV.iload_n 0 dX13_word_12 rfl rfl ?_
  refine EV.dup2 dX13_word_13 rfl rfl ?_
  obtain ⟨v23, gv23, h⟩ := px_bs h
  refine ev_aI dX13_word_14 gv23 ?_
  refine EV.iconst (1) dX13_word_15 (by decide) ?_
  refine EV.iadd dX13_word_16 ?_
  obtain ⟨w24, gw24, h⟩ := px_bs h
  refine ev_sI dX13_word_17 gw24 ?_
  refine EV.aload_n 1 dX13_word_18 rfl rfl ?_
  obtain ⟨v25, gv25, h⟩ := px_bs h
  refine ev_gI dX13_word_19 flRX13_147 gv25 ?_
  refine EV.if_ne 66 dX13_word_22 (by decide) (fun c26 => ?_) (fun c26 => ?_)
  · rw [if_neg c26] at h
    cases h
    exact EV.ret0 dX13_word_66 trivial
  · rw [if_pos c26] at h
    refine EV.aload_n 1 dX13_word_25 rfl rfl ?_
    refine EV.aload_n 1 dX13_word_26 rfl rfl ?_
    obtain ⟨v27, gv27, h⟩ := px_bs h
    refine ev_gI dX13_word_27 flRX13_164 gv27 ?_
    refine EV.if_ne 42 dX13_word_30 (by decide) (fun c28 => ?_) (fun c28 => ?_)
    · rw [if_neg c28] at h
      refine EV.sub [1, 0] rfl ?_
      exact eX13_word_42  _ _ _ _ _ h
    · rw [if_pos c28] at h
      refine EV.aload_n 1 dX13_word_33 rfl rfl ?_
      obtain ⟨v29, gv29, h⟩ := px_bs h
      refine ev_gR dX13_word_34 flRX13_49 gv29 ?_
      refine EV.iload_n 0 dX13_word_37 rfl rfl ?_
      obtain ⟨v30, gv30, h⟩ := px_bs h
      refine ev_aI dX13_word_38 gv30 ?_
      refine EV.if_ne 46 dX13_word_39 (by decide) (fun c31 => ?_) (fun c31 => ?_)
      · rw [if_neg c31] at h
        refine EV.iconst (0) dX13_word_46 (by decide) ?_
        refine EV.sub [1, 0] rfl ?_
        exact eX13_word_47  _ _ _ _ _ _ h
      · rw [if_pos c31] at h
        refine EV.sub [1, 0] rfl ?_
        exact eX13_word_42  _ _ _ _ _ h
/-! WavePicturesModel$Scans.number(I)V -/
theorem dX13_number_0 : decode cX13_number 0 = .ok (.aload_n 0, 1) := by decide +kernel
theorem dX13_number_1 : decode cX13_number 1 = .ok (.iload_n 1, 1) := by decide +kernel
theorem dX13_number_2 : decode cX13_number 2 = .ok (.ifCond .le 7, 3) := by decide +kernel
theorem dX13_number_5 : decode cX13_number 5 = .ok (.iload_n 1, 1) := by decide +kernel
theorem dX13_number_6 : decode cX13_number 6 = .ok (.goto 6, 3) := by decide +kernel
theorem dX13_number_9 : decode cX13_number 9 = .ok (.iload_n 1, 1) := by decide +kernel
theorem dX13_number_10 : decode cX13_number 10 = .ok (.iconst 1, 1) := by decide +kernel
theorem dX13_number_11 : decode cX13_number 11 = .ok (.isub, 1) := by decide +kernel
theorem dX13_number_12 : decode cX13_number 12 = .ok (.iload_n 1, 1) := by decide +kernel
theorem dX13_number_13 : decode cX13_number 13 = .ok (.invokestatic 174, 3) := by decide +kernel
theorem dX13_number_16 : decode cX13_number 16 = .ok (.invokevirtual 170, 3) := by decide +kernel
theorem dX13_number_19 : decode cX13_number 19 = .ok (.return_, 1) := by decide +kernel
theorem kcX13_number_170 : px_cV mX13_number 170 mX13_low 2 := ⟨⟨mbX13_low, by decide, by decide⟩, Or.inl (tb9 (List.mem_of_getElem? (i := 170) rfl)), vbX13_low⟩
theorem mbX13_sizeOf : px_mB mX13_sizeOf 1 := ⟨tb9 (List.mem_of_getElem? (i := 165) rfl), by decide +kernel, tb1 (List.mem_of_getElem? (i := 15) rfl), by decide +kernel, by decide +kernel⟩
theorem kcX13_number_174 : px_cS mX13_number 174 mX13_sizeOf 1 := ⟨⟨mbX13_sizeOf, by decide, by decide⟩, Or.inl (tb9 (List.mem_of_getElem? (i := 163) rfl)), tb9 (List.mem_of_getElem? (i := 164) rfl)⟩
set_option maxRecDepth 100000 in
set_option maxHeartbeats 4000000 in
theorem eX13_number_12 {X : px_X}  : ∀ (a1 : Int32) (s0 : Int32) (s1 : Nat) (w : px_W) (q : px_W), fX13_number_12 X  a1 s0 s1 w = some q → EV X mX13_number 12 [(1, .int a1)] [.int s0, .ref s1] w none q := by
  intro a1 s0 s1 w q h
  unfold fX13_number_12 at h
  refine EV.iload_n 0 dX13_number_12 rfl rfl ?_
  obtain ⟨q4, gq4, h⟩ := px_bs h
  refine EV.callS (As := [.int a1]) (rest := [.int s0, .ref s1]) dX13_number_13 kcX13_number_174 rfl (Nat.le_of_ble_eq_true rfl) (Nat.le_of_ble_eq_true rfl) (eX13_sizeOf gq4) ?_
  obtain ⟨o5, go5, h⟩ := px_bs h
  obtain ⟨q6, gq6, h⟩ := px_bs h
  refine EV.callV (As := [.int s0, .int q4.1]) (rest := []) dX13_number_16 kcX13_number_170 (gO_ok go5) rfl rfl rfl (Nat.le_of_ble_eq_true rfl) (Nat.le_of_ble_eq_true rfl) (eX13_low gq6) ?_
  cases h
  exact EV.ret0 dX13_number_19 trivial
set_option maxRecDepth 100000 in
set_option maxHeartbeats 4000000 in
theorem eX13_number {X : px_X} {w : px_W} {a0 : Nat} {a1 : Int32} {q : px_W} (h : fX13_number X w a0 a1 = some q) : EV X mX13_number 0 (lv_args 0 [.ref a0, .int a1]) [] w none q := by
  unfold fX13_number at h
  show EV X mX13_number 0 [(0, .ref a0), (1, .int a1)] [] w none q
  refine EV.aload_n 0 dX13_number_0 rfl rfl ?_
  refine EV.iload_n 1 dX13_number_1 rfl rfl ?_
  refine EV.if_le 9 dX13_number_2 (by decide) (fun c7 => ?_) (fun c7 => ?_)
  · rw [if_pos c7] at h
    refine EV.iload_n 1 dX13_number_9 rfl rfl ?_
    refine EV.iconst (1) dX13_number_10 (by decide) ?_
    refine EV.isub dX13_number_11 ?_
    refine EV.sub [1] rfl ?_
    exact eX13_number_12  _ _ _ _ _ h
  · rw [if_neg c7] at h
    refine EV.iload_n 1 dX13_number_5 rfl rfl ?_
    refine EV.goto 12 dX13_number_6 (by decide) ?_
    refine EV.sub [1] rfl ?_
    exact eX13_number_12  _ _ _ _ _ h
/-! WavePicturesModel$Scans.sendRun(I)V -/
theorem dX13_sendRun_0 : decode cX13_sendRun 0 = .ok (.aload_n 0, 1) := by decide +kernel
theorem dX13_sendRun_1 : decode cX13_sendRun 1 = .ok (.getfield 177, 3) := by decide +kernel
theorem dX13_sendRun_4 : decode cX13_sendRun 4 = .ok (.ifCond .le 67, 3) := by decide +kernel
theorem dX13_sendRun_7 : decode cX13_sendRun 7 = .ok (.aload_n 0, 1) := by decide +kernel
theorem dX13_sendRun_8 : decode cX13_sendRun 8 = .ok (.getfield 177, 3) := by decide +kernel
theorem dX13_sendRun_11 : decode cX13_sendRun 11 = .ok (.invokestatic 174, 3) := by decide +kernel
theorem dX13_sendRun_14 : decode cX13_sendRun 14 = .ok (.iconst 1, 1) := by decide +kernel
theorem dX13_sendRun_15 : decode cX13_sendRun 15 = .ok (.isub, 1) := by decide +kernel
theorem dX13_sendRun_16 : decode cX13_sendRun 16 = .ok (.istore_n 2, 1) := by decide +kernel
theorem dX13_sendRun_17 : decode cX13_sendRun 17 = .ok (.aload_n 0, 1) := by decide +kernel
theorem dX13_sendRun_18 : decode cX13_sendRun 18 = .ok (.iload_n 1, 1) := by decide +kernel
theorem dX13_sendRun_19 : decode cX13_sendRun 19 = .ok (.bipush 16, 2) := by decide +kernel
theorem dX13_sendRun_21 : decode cX13_sendRun 21 = .ok (.iload_n 2, 1) := by decide +kernel
theorem dX13_sendRun_22 : decode cX13_sendRun 22 = .ok (.imul, 1) := by decide +kernel
theorem dX13_sendRun_23 : decode cX13_sendRun 23 = .ok (.invokevirtual 180, 3) := by decide +kernel
theorem dX13_sendRun_26 : decode cX13_sendRun 26 = .ok (.aload_n 0, 1) := by decide +kernel
theorem dX13_sendRun_27 : decode cX13_sendRun 27 = .ok (.aload_n 0, 1) := by decide +kernel
theorem dX13_sendRun_28 : decode cX13_sendRun 28 = .ok (.getfield 177, 3) := by decide +kernel
theorem dX13_sendRun_31 : decode cX13_sendRun 31 = .ok (.iload_n 2, 1) := by decide +kernel
theorem dX13_sendRun_32 : decode cX13_sendRun 32 = .ok (.invokevirtual 170, 3) := by decide +kernel
theorem dX13_sendRun_35 : decode cX13_sendRun 35 = .ok (.iconst 0, 1) := by decide +kernel
theorem dX13_sendRun_36 : decode cX13_sendRun 36 = .ok (.istore_n 3, 1) := by decide +kernel
theorem dX13_sendRun_37 : decode cX13_sendRun 37 = .ok (.iload_n 3, 1) := by decide +kernel
theorem dX13_sendRun_38 : decode cX13_sendRun 38 = .ok (.aload_n 0, 1) := by decide +kernel
theorem dX13_sendRun_39 : decode cX13_sendRun 39 = .ok (.getfield 183, 3) := by decide +kernel
theorem dX13_sendRun_42 : decode cX13_sendRun 42 = .ok (.if_icmp .ge 19, 3) := by decide +kernel
theorem dX13_sendRun_45 : decode cX13_sendRun 45 = .ok (.aload_n 0, 1) := by decide +kernel
theorem dX13_sendRun_46 : decode cX13_sendRun 46 = .ok (.aload_n 0, 1) := by decide +kernel
theorem dX13_sendRun_47 : decode cX13_sendRun 47 = .ok (.getfield 74, 3) := by decide +kernel
theorem dX13_sendRun_50 : decode cX13_sendRun 50 = .ok (.iload_n 3, 1) := by decide +kernel
theorem dX13_sendRun_51 : decode cX13_sendRun 51 = .ok (.baload, 1) := by decide +kernel
theorem dX13_sendRun_52 : decode cX13_sendRun 52 = .ok (.invokevirtual 167, 3) := by decide +kernel
theorem dX13_sendRun_55 : decode cX13_sendRun 55 = .ok (.iinc 3 1, 3) := by decide +kernel
theorem dX13_sendRun_58 : decode cX13_sendRun 58 = .ok (.goto (-21), 3) := by decide +kernel
theorem dX13_sendRun_61 : decode cX13_sendRun 61 = .ok (.aload_n 0, 1) := by decide +kernel
theorem dX13_sendRun_62 : decode cX13_sendRun 62 = .ok (.iconst 0, 1) := by decide +kernel
theorem dX13_sendRun_63 : decode cX13_sendRun 63 = .ok (.putfield 177, 3) := by decide +kernel
theorem dX13_sendRun_66 : decode cX13_sendRun 66 = .ok (.aload_n 0, 1) := by decide +kernel
theorem dX13_sendRun_67 : decode cX13_sendRun 67 = .ok (.iconst 0, 1) := by decide +kernel
theorem dX13_sendRun_68 : decode cX13_sendRun 68 = .ok (.putfield 183, 3) := by decide +kernel
theorem dX13_sendRun_71 : decode cX13_sendRun 71 = .ok (.return_, 1) := by decide +kernel
theorem flRX13_74 : px_f RX13 74 13 39 := ⟨_, rfl, by decide, Or.inl (tb7 (List.mem_of_getElem? (i := 55) rfl))⟩
theorem flRX13_177 : px_f RX13 177 13 38 := ⟨_, rfl, by decide, Or.inl (tb7 (List.mem_of_getElem? (i := 54) rfl))⟩
theorem flRX13_183 : px_f RX13 183 13 40 := ⟨_, rfl, by decide, Or.inl (tb7 (List.mem_of_getElem? (i := 56) rfl))⟩
theorem kcX13_sendRun_167 : px_cV mX13_sendRun 167 mX13_bit 1 := ⟨⟨mbX13_bit, by decide, by decide⟩, Or.inl (tb9 (List.mem_of_getElem? (i := 174) rfl)), vbX13_bit⟩
theorem kcX13_sendRun_170 : px_cV mX13_sendRun 170 mX13_low 2 := ⟨⟨mbX13_low, by decide, by decide⟩, Or.inl (tb9 (List.mem_of_getElem? (i := 170) rfl)), vbX13_low⟩
theorem kcX13_sendRun_174 : px_cS mX13_sendRun 174 mX13_sizeOf 1 := ⟨⟨mbX13_sizeOf, by decide, by decide⟩, Or.inl (tb9 (List.mem_of_getElem? (i := 163) rfl)), tb9 (List.mem_of_getElem? (i := 164) rfl)⟩
theorem mbX13_word : px_mB mX13_word 2 := ⟨tb9 (List.mem_of_getElem? (i := 169) rfl), by decide +kernel, tb1 (List.mem_of_getElem? (i := 15) rfl), by decide +kernel, by decide +kernel⟩
theorem vbX13_word : px_vB mX13_word := ⟨tb9 (List.mem_of_getElem? (i := 168) rfl), List.mem_append_left _ (List.mem_of_getElem? (i := 143) (by decide +kernel))⟩
theorem kcX13_sendRun_180 : px_cV mX13_sendRun 180 mX13_word 2 := ⟨⟨mbX13_word, by decide, by decide⟩, Or.inl (tb9 (List.mem_of_getElem? (i := 166) rfl)), vbX13_word⟩
set_option maxRecDepth 100000 in
set_option maxHeartbeats 4000000 in
theorem eX13_sendRun_61 {X : px_X}  : ∀ (a0 : Nat) (w : px_W) (q : px_W), fX13_sendRun_61 X  a0 w = some q → EV X mX13_sendRun 61 [(0, .ref a0)] [] w none q := by
  intro a0 w q h
  unfold fX13_sendRun_61 at h
  refine EV.aload_n 0 dX13_sendRun_61 rfl rfl ?_
  refine EV.iconst (0) dX13_sendRun_62 (by decide) ?_
  obtain ⟨w16, gw16, h⟩ := px_bs h
  refine ev_pV dX13_sendRun_63 flRX13_177 rfl rfl rfl rfl gw16 ?_
  refine EV.aload_n 0 dX13_sendRun_66 rfl rfl ?_
  refine EV.iconst (0) dX13_sendRun_67 (by decide) ?_
  obtain ⟨w17, gw17, h⟩ := px_bs h
  refine ev_pV dX13_sendRun_68 flRX13_183 rfl rfl rfl rfl gw17 ?_
  cases h
  exact EV.ret0 dX13_sendRun_71 trivial
set_option maxRecDepth 100000 in
set_option maxHeartbeats 4000000 in
theorem eX13_sendRun_37 {X : px_X}  : ∀ (m : Nat) (a0 : Nat) (a3 : Int32) (w : px_W) (q : px_W), fX13_sendRun_37 X  m a0 a3 w = some q → EV X mX13_sendRun 37 [(0, .ref a0), (3, .int a3)] [] w none q := by
  intro m
  induction m with
  | zero => intro a0 a3 w q h; cases h
  | succ m ih =>
    intro a0 a3 w q h
    rw [fX13_sendRun_37.eq_2] at h
    refine EV.iload_n 1 dX13_sendRun_37 rfl rfl ?_
    refine EV.aload_n 0 dX13_sendRun_38 rfl rfl ?_
    obtain ⟨v18, gv18, h⟩ := px_bs h
    refine ev_gI dX13_sendRun_39 flRX13_183 gv18 ?_
    refine EV.icmp_ge 61 dX13_sendRun_42 (by decide) (fun c19 => ?_) (fun c19 => ?_)
    · rw [if_pos c19] at h
      refine EV.sub [0] rfl ?_
      exact eX13_sendRun_61  _ _ _ h
    · rw [if_neg c19] at h
      refine EV.aload_n 0 dX13_sendRun_45 rfl rfl ?_
      refine EV.aload_n 0 dX13_sendRun_46 rfl rfl ?_
      obtain ⟨v20, gv20, h⟩ := px_bs h
      refine ev_gR dX13_sendRun_47 flRX13_74 gv20 ?_
      refine EV.iload_n 1 dX13_sendRun_50 rfl rfl ?_
      obtain ⟨v21, gv21, h⟩ := px_bs h
      refine ev_aB dX13_sendRun_51 gv21 ?_
      obtain ⟨o22, go22, h⟩ := px_bs h
      obtain ⟨q23, gq23, h⟩ := px_bs h
      refine EV.callV (As := [.int v21]) (rest := []) dX13_sendRun_52 kcX13_sendRun_167 (gO_ok go22) rfl rfl rfl (Nat.le_of_ble_eq_true rfl) (Nat.le_of_ble_eq_true rfl) (eX13_bit gq23) ?_
      refine EV.iinc 1 (a3 + 1) [(3, .int (a3 + 1)), (0, .ref a0)] dX13_sendRun_55 rfl rfl (by decide) rfl ?_
      refine EV.goto 37 dX13_sendRun_58 (by decide) ?_
      refine EV.sub [1, 0] rfl ?_
      exact ih _ _ _ _ h
set_option maxRecDepth 100000 in
set_option maxHeartbeats 4000000 in
theorem eX13_sendRun {X : px_X} {w : px_W} {a0 : Nat} {a1 : Int32} {q : px_W} (h : fX13_sendRun X w a0 a1 = some q) : EV X mX13_sendRun 0 (lv_args 0 [.ref a0, .int a1]) [] w none q := by
  unfold fX13_sendRun at h
  show EV X mX13_sendRun 0 [(0, .ref a0), (1, .int a1)] [] w none q
  refine EV.aload_n 0 dX13_sendRun_0 rfl rfl ?_
  obtain ⟨v24, gv24, h⟩ := px_bs h
  refine ev_gI dX13_sendRun_1 flRX13_177 gv24 ?_
  refine EV.if_le 71 dX13_sendRun_4 (by decide) (fun c25 => ?_) (fun c25 => ?_)
  · rw [if_pos c25] at h
    cases h
    exact EV.ret0 dX13_sendRun_71 trivial
  · rw [if_neg c25] at h
    refine EV.aload_n 0 dX13_sendRun_7 rfl rfl ?_
    obtain ⟨v26, gv26, h⟩ := px_bs h
    refine ev_gI dX13_sendRun_8 flRX13_177 gv26 ?_
    obtain ⟨q27, gq27, h⟩ := px_bs h
    refine EV.callS (As := [.int v26]) (rest := []) dX13_sendRun_11 kcX13_sendRun_174 rfl (Nat.le_of_ble_eq_true rfl) (Nat.le_of_ble_eq_true rfl) (eX13_sizeOf gq27) ?_
    refine EV.iconst (1) dX13_sendRun_14 (by decide) ?_
    refine EV.isub dX13_sendRun_15 ?_
    refine EV.istore_n [(2, .int (q27.1 - 1)), (0, .ref a0), (1, .int a1)] dX13_sendRun_16 rfl (by decide) rfl ?_
    refine EV.aload_n 1 dX13_sendRun_17 rfl rfl ?_
    refine EV.iload_n 2 dX13_sendRun_18 rfl rfl ?_
    refine EV.bipush (16) dX13_sendRun_19 (by decide) ?_
    refine EV.iload_n 0 dX13_sendRun_21 rfl rfl ?_
    refine EV.imul dX13_sendRun_22 ?_
    obtain ⟨o28, go28, h⟩ := px_bs h
    obtain ⟨q29, gq29, h⟩ := px_bs h
    refine EV.callV (As := [.int a1, .int (16 * (q27.1 - 1))]) (rest := []) dX13_sendRun_23 kcX13_sendRun_180 (gO_ok go28) rfl rfl rfl (Nat.le_of_ble_eq_true rfl) (Nat.le_of_ble_eq_true rfl) (eX13_word gq29) ?_
    refine EV.aload_n 1 dX13_sendRun_26 rfl rfl ?_
    refine EV.aload_n 1 dX13_sendRun_27 rfl rfl ?_
    obtain ⟨v30, gv30, h⟩ := px_bs h
    refine ev_gI dX13_sendRun_28 flRX13_177 gv30 ?_
    refine EV.iload_n 0 dX13_sendRun_31 rfl rfl ?_
    obtain ⟨o31, go31, h⟩ := px_bs h
    obtain ⟨q32, gq32, h⟩ := px_bs h
    refine EV.callV (As := [.int v30, .int (q27.1 - 1)]) (rest := []) dX13_sendRun_32 kcX13_sendRun_170 (gO_ok go31) rfl rfl rfl (Nat.le_of_ble_eq_true rfl) (Nat.le_of_ble_eq_true rfl) (eX13_low gq32) ?_
    refine EV.iconst (0) dX13_sendRun_35 (by decide) ?_
    refine EV.istore_n [(3, .int 0), (2, .int (q27.1 - 1)), (0, .ref a0), (1, .int a1)] dX13_sendRun_36 rfl (by decide) rfl ?_
    refine EV.sub [2, 0] rfl ?_
    exact eX13_sendRun_37  FU _ _ _ _ h
/-! WavePicturesModel$Scans.sendComing()V -/
theorem dX13_sendComing_0 : decode cX13_sendComing 0 = .ok (.iconst 0, 1) := by decide +kernel
theorem dX13_sendComing_1 : decode cX13_sendComing 1 = .ok (.istore_n 1, 1) := by decide +kernel
theorem dX13_sendComing_2 : decode cX13_sendComing 2 = .ok (.iload_n 1, 1) := by decide +kernel
theorem dX13_sendComing_3 : decode cX13_sendComing 3 = .ok (.aload_n 0, 1) := by decide +kernel
theorem dX13_sendComing_4 : decode cX13_sendComing 4 = .ok (.getfield 186, 3) := by decide +kernel
theorem dX13_sendComing_7 : decode cX13_sendComing 7 = .ok (.if_icmp .ge 19, 3) := by decide +kernel
theorem dX13_sendComing_10 : decode cX13_sendComing 10 = .ok (.aload_n 0, 1) := by decide +kernel
theorem dX13_sendComing_11 : decode cX13_sendComing 11 = .ok (.aload_n 0, 1) := by decide +kernel
theorem dX13_sendComing_12 : decode cX13_sendComing 12 = .ok (.getfield 77, 3) := by decide +kernel
theorem dX13_sendComing_15 : decode cX13_sendComing 15 = .ok (.iload_n 1, 1) := by decide +kernel
theorem dX13_sendComing_16 : decode cX13_sendComing 16 = .ok (.baload, 1) := by decide +kernel
theorem dX13_sendComing_17 : decode cX13_sendComing 17 = .ok (.invokevirtual 167, 3) := by decide +kernel
theorem dX13_sendComing_20 : decode cX13_sendComing 20 = .ok (.iinc 1 1, 3) := by decide +kernel
theorem dX13_sendComing_23 : decode cX13_sendComing 23 = .ok (.goto (-21), 3) := by decide +kernel
theorem dX13_sendComing_26 : decode cX13_sendComing 26 = .ok (.aload_n 0, 1) := by decide +kernel
theorem dX13_sendComing_27 : decode cX13_sendComing 27 = .ok (.iconst 0, 1) := by decide +kernel
theorem dX13_sendComing_28 : decode cX13_sendComing 28 = .ok (.putfield 186, 3) := by decide +kernel
theorem dX13_sendComing_31 : decode cX13_sendComing 31 = .ok (.return_, 1) := by decide +kernel
theorem flRX13_77 : px_f RX13 77 13 41 := ⟨_, rfl, by decide, Or.inl (tb7 (List.mem_of_getElem? (i := 57) rfl))⟩
theorem flRX13_186 : px_f RX13 186 13 42 := ⟨_, rfl, by decide, Or.inl (tb7 (List.mem_of_getElem? (i := 58) rfl))⟩
theorem kcX13_sendComing_167 : px_cV mX13_sendComing 167 mX13_bit 1 := ⟨⟨mbX13_bit, by decide, by decide⟩, Or.inl (tb9 (List.mem_of_getElem? (i := 174) rfl)), vbX13_bit⟩
set_option maxRecDepth 100000 in
set_option maxHeartbeats 4000000 in
theorem eX13_sendComing_26 {X : px_X}  : ∀ (a0 : Nat) (w : px_W) (q : px_W), fX13_sendComing_26 X  a0 w = some q → EV X mX13_sendComing 26 [(0, .ref a0)] [] w none q := by
  intro a0 w q h
  unfold fX13_sendComing_26 at h
  refine EV.aload_n 0 dX13_sendComing_26 rfl rfl ?_
  refine EV.iconst (0) dX13_sendComing_27 (by decide) ?_
  obtain ⟨w7, gw7, h⟩ := px_bs h
  refine ev_pV dX13_sendComing_28 flRX13_186 rfl rfl rfl rfl gw7 ?_
  cases h
  exact EV.ret0 dX13_sendComing_31 trivial
set_option maxRecDepth 100000 in
set_option maxHeartbeats 4000000 in
theorem eX13_sendComing_2 {X : px_X}  : ∀ (m : Nat) (a0 : Nat) (a1 : Int32) (w : px_W) (q : px_W), fX13_sendComing_2 X  m a0 a1 w = some q → EV X mX13_sendComing 2 [(0, .ref a0), (1, .int a1)] [] w none q := by
  intro m
  induction m with
  | zero => intro a0 a1 w q h; cases h
  | succ m ih =>
    intro a0 a1 w q h
    rw [fX13_sendComing_2.eq_2] at h
    refine EV.iload_n 1 dX13_sendComing_2 rfl rfl ?_
    refine EV.aload_n 0 dX13_sendComing_3 rfl rfl ?_
    obtain ⟨v8, gv8, h⟩ := px_bs h
    refine ev_gI dX13_sendComing_4 flRX13_186 gv8 ?_
    refine EV.icmp_ge 26 dX13_sendComing_7 (by decide) (fun c9 => ?_) (fun c9 => ?_)
    · rw [if_pos c9] at h
      refine EV.sub [0] rfl ?_
      exact eX13_sendComing_26  _ _ _ h
    · rw [if_neg c9] at h
      refine EV.aload_n 0 dX13_sendComing_10 rfl rfl ?_
      refine EV.aload_n 0 dX13_sendComing_11 rfl rfl ?_
      obtain ⟨v10, gv10, h⟩ := px_bs h
      refine ev_gR dX13_sendComing_12 flRX13_77 gv10 ?_
      refine EV.iload_n 1 dX13_sendComing_15 rfl rfl ?_
      obtain ⟨v11, gv11, h⟩ := px_bs h
      refine ev_aB dX13_sendComing_16 gv11 ?_
      obtain ⟨o12, go12, h⟩ := px_bs h
      obtain ⟨q13, gq13, h⟩ := px_bs h
      refine EV.callV (As := [.int v11]) (rest := []) dX13_sendComing_17 kcX13_sendComing_167 (gO_ok go12) rfl rfl rfl (Nat.le_of_ble_eq_true rfl) (Nat.le_of_ble_eq_true rfl) (eX13_bit gq13) ?_
      refine EV.iinc 1 (a1 + 1) [(1, .int (a1 + 1)), (0, .ref a0)] dX13_sendComing_20 rfl rfl (by decide) rfl ?_
      refine EV.goto 2 dX13_sendComing_23 (by decide) ?_
      refine EV.sub [1, 0] rfl ?_
      exact ih _ _ _ _ h
set_option maxRecDepth 100000 in
set_option maxHeartbeats 4000000 in
theorem eX13_sendComing {X : px_X} {w : px_W} {a0 : Nat} {q : px_W} (h : fX13_sendComing X w a0 = some q) : EV X mX13_sendComing 0 (lv_args 0 [.ref a0]) [] w none q := by
  unfold fX13_sendComing at h
  show EV X mX13_sendComing 0 [(0, .ref a0)] [] w none q
  refine EV.iconst (0) dX13_sendComing_0 (by decide) ?_
  refine EV.istore_n [(1, .int 0), (0, .ref a0)] dX13_sendComing_1 rfl (by decide) rfl ?_
  refine EV.sub [1, 0] rfl ?_
  exact eX13_sendComing_2  FU _ _ _ _ h
/-! WavePicturesModel$Scans.writeDirect(II)V -/
theorem dX13_writeDirect_0 : decode cX13_writeDirect 0 = .ok (.bipush 64, 2) := by decide +kernel
theorem dX13_writeDirect_2 : decode cX13_writeDirect 2 = .ok (.aload_n 0, 1) := by decide +kernel
theorem dX13_writeDirect_3 : decode cX13_writeDirect 3 = .ok (.getfield 30, 3) := by decide +kernel
theorem dX13_writeDirect_6 : decode cX13_writeDirect 6 = .ok (.iload_n 1, 1) := by decide +kernel
theorem dX13_writeDirect_7 : decode cX13_writeDirect 7 = .ok (.iaload, 1) := by decide +kernel
theorem dX13_writeDirect_8 : decode cX13_writeDirect 8 = .ok (.iload_n 2, 1) := by decide +kernel
theorem dX13_writeDirect_9 : decode cX13_writeDirect 9 = .ok (.iadd, 1) := by decide +kernel
theorem dX13_writeDirect_10 : decode cX13_writeDirect 10 = .ok (.imul, 1) := by decide +kernel
theorem dX13_writeDirect_11 : decode cX13_writeDirect 11 = .ok (.istore_n 3, 1) := by decide +kernel
theorem dX13_writeDirect_12 : decode cX13_writeDirect 12 = .ok (.aload_n 0, 1) := by decide +kernel
theorem dX13_writeDirect_13 : decode cX13_writeDirect 13 = .ok (.getfield 112, 3) := by decide +kernel
theorem dX13_writeDirect_16 : decode cX13_writeDirect 16 = .ok (.ifCond .le 21, 3) := by decide +kernel
theorem dX13_writeDirect_19 : decode cX13_writeDirect 19 = .ok (.aload_n 0, 1) := by decide +kernel
theorem dX13_writeDirect_20 : decode cX13_writeDirect 20 = .ok (.aload_n 0, 1) := by decide +kernel
theorem dX13_writeDirect_21 : decode cX13_writeDirect 21 = .ok (.getfield 33, 3) := by decide +kernel
theorem dX13_writeDirect_24 : decode cX13_writeDirect 24 = .ok (.iload_n 3, 1) := by decide +kernel
theorem dX13_writeDirect_25 : decode cX13_writeDirect 25 = .ok (.saload, 1) := by decide +kernel
theorem dX13_writeDirect_26 : decode cX13_writeDirect 26 = .ok (.aload_n 0, 1) := by decide +kernel
theorem dX13_writeDirect_27 : decode cX13_writeDirect 27 = .ok (.getfield 115, 3) := by decide +kernel
theorem dX13_writeDirect_30 : decode cX13_writeDirect 30 = .ok (.ishr, 1) := by decide +kernel
theorem dX13_writeDirect_31 : decode cX13_writeDirect 31 = .ok (.iconst 1, 1) := by decide +kernel
theorem dX13_writeDirect_32 : decode cX13_writeDirect 32 = .ok (.iand, 1) := by decide +kernel
theorem dX13_writeDirect_33 : decode cX13_writeDirect 33 = .ok (.invokevirtual 167, 3) := by decide +kernel
theorem dX13_writeDirect_36 : decode cX13_writeDirect 36 = .ok (.return_, 1) := by decide +kernel
theorem dX13_writeDirect_37 : decode cX13_writeDirect 37 = .ok (.aload_n 0, 1) := by decide +kernel
theorem dX13_writeDirect_38 : decode cX13_writeDirect 38 = .ok (.getfield 33, 3) := by decide +kernel
theorem dX13_writeDirect_41 : decode cX13_writeDirect 41 = .ok (.iload_n 3, 1) := by decide +kernel
theorem dX13_writeDirect_42 : decode cX13_writeDirect 42 = .ok (.saload, 1) := by decide +kernel
theorem dX13_writeDirect_43 : decode cX13_writeDirect 43 = .ok (.aload_n 0, 1) := by decide +kernel
theorem dX13_writeDirect_44 : decode cX13_writeDirect 44 = .ok (.getfield 115, 3) := by decide +kernel
theorem dX13_writeDirect_47 : decode cX13_writeDirect 47 = .ok (.ishr, 1) := by decide +kernel
theorem dX13_writeDirect_48 : decode cX13_writeDirect 48 = .ok (.istore 4, 2) := by decide +kernel
theorem dX13_writeDirect_50 : decode cX13_writeDirect 50 = .ok (.iload 4, 2) := by decide +kernel
theorem dX13_writeDirect_52 : decode cX13_writeDirect 52 = .ok (.aload_n 0, 1) := by decide +kernel
theorem dX13_writeDirect_53 : decode cX13_writeDirect 53 = .ok (.getfield 71, 3) := by decide +kernel
theorem dX13_writeDirect_56 : decode cX13_writeDirect 56 = .ok (.iload_n 1, 1) := by decide +kernel
theorem dX13_writeDirect_57 : decode cX13_writeDirect 57 = .ok (.iaload, 1) := by decide +kernel
theorem dX13_writeDirect_58 : decode cX13_writeDirect 58 = .ok (.isub, 1) := by decide +kernel
theorem dX13_writeDirect_59 : decode cX13_writeDirect 59 = .ok (.istore 5, 2) := by decide +kernel
theorem dX13_writeDirect_61 : decode cX13_writeDirect 61 = .ok (.aload_n 0, 1) := by decide +kernel
theorem dX13_writeDirect_62 : decode cX13_writeDirect 62 = .ok (.getfield 71, 3) := by decide +kernel
theorem dX13_writeDirect_65 : decode cX13_writeDirect 65 = .ok (.iload_n 1, 1) := by decide +kernel
theorem dX13_writeDirect_66 : decode cX13_writeDirect 66 = .ok (.iload 4, 2) := by decide +kernel
theorem dX13_writeDirect_68 : decode cX13_writeDirect 68 = .ok (.iastore, 1) := by decide +kernel
theorem dX13_writeDirect_69 : decode cX13_writeDirect 69 = .ok (.aload_n 0, 1) := by decide +kernel
theorem dX13_writeDirect_70 : decode cX13_writeDirect 70 = .ok (.aload_n 0, 1) := by decide +kernel
theorem dX13_writeDirect_71 : decode cX13_writeDirect 71 = .ok (.getfield 55, 3) := by decide +kernel
theorem dX13_writeDirect_74 : decode cX13_writeDirect 74 = .ok (.iload_n 1, 1) := by decide +kernel
theorem dX13_writeDirect_75 : decode cX13_writeDirect 75 = .ok (.iaload, 1) := by decide +kernel
theorem dX13_writeDirect_76 : decode cX13_writeDirect 76 = .ok (.iload 5, 2) := by decide +kernel
theorem dX13_writeDirect_78 : decode cX13_writeDirect 78 = .ok (.invokestatic 174, 3) := by decide +kernel
theorem dX13_writeDirect_81 : decode cX13_writeDirect 81 = .ok (.invokevirtual 180, 3) := by decide +kernel
theorem dX13_writeDirect_84 : decode cX13_writeDirect 84 = .ok (.aload_n 0, 1) := by decide +kernel
theorem dX13_writeDirect_85 : decode cX13_writeDirect 85 = .ok (.iload 5, 2) := by decide +kernel
theorem dX13_writeDirect_87 : decode cX13_writeDirect 87 = .ok (.invokevirtual 189, 3) := by decide +kernel
theorem dX13_writeDirect_90 : decode cX13_writeDirect 90 = .ok (.return_, 1) := by decide +kernel
theorem flRX13_71 : px_f RX13 71 13 37 := ⟨_, rfl, by decide, Or.inl (tb7 (List.mem_of_getElem? (i := 53) rfl))⟩
theorem kcX13_writeDirect_167 : px_cV mX13_writeDirect 167 mX13_bit 1 := ⟨⟨mbX13_bit, by decide, by decide⟩, Or.inl (tb9 (List.mem_of_getElem? (i := 174) rfl)), vbX13_bit⟩
theorem kcX13_writeDirect_174 : px_cS mX13_writeDirect 174 mX13_sizeOf 1 := ⟨⟨mbX13_sizeOf, by decide, by decide⟩, Or.inl (tb9 (List.mem_of_getElem? (i := 163) rfl)), tb9 (List.mem_of_getElem? (i := 164) rfl)⟩
theorem kcX13_writeDirect_180 : px_cV mX13_writeDirect 180 mX13_word 2 := ⟨⟨mbX13_word, by decide, by decide⟩, Or.inl (tb9 (List.mem_of_getElem? (i := 166) rfl)), vbX13_word⟩
theorem mbX13_number : px_mB mX13_number 1 := ⟨tb9 (List.mem_of_getElem? (i := 197) rfl), by decide +kernel, tb1 (List.mem_of_getElem? (i := 15) rfl), by decide +kernel, by decide +kernel⟩
theorem vbX13_number : px_vB mX13_number := ⟨tb9 (List.mem_of_getElem? (i := 196) rfl), List.mem_append_left _ (List.mem_of_getElem? (i := 150) (by decide +kernel))⟩
theorem kcX13_writeDirect_189 : px_cV mX13_writeDirect 189 mX13_number 1 := ⟨⟨mbX13_number, by decide, by decide⟩, Or.inl (tb9 (List.mem_of_getElem? (i := 194) rfl)), vbX13_number⟩
set_option maxRecDepth 100000 in
set_option maxHeartbeats 4000000 in
theorem eX13_writeDirect {X : px_X} {w : px_W} {a0 : Nat} {a1 : Int32} {a2 : Int32} {q : px_W} (h : fX13_writeDirect X w a0 a1 a2 = some q) : EV X mX13_writeDirect 0 (lv_args 0 [.ref a0, .int a1, .int a2]) [] w none q := by
  unfold fX13_writeDirect at h
  show EV X mX13_writeDirect 0 [(0, .ref a0), (1, .int a1), (2, .int a2)] [] w none q
  refine EV.bipush (64) dX13_writeDirect_0 (by decide) ?_
  refine EV.aload_n 0 dX13_writeDirect_2 rfl rfl ?_
  obtain ⟨v23, gv23, h⟩ := px_bs h
  refine ev_gR dX13_writeDirect_3 flRX13_30 gv23 ?_
  refine EV.iload_n 1 dX13_writeDirect_6 rfl rfl ?_
  obtain ⟨v24, gv24, h⟩ := px_bs h
  refine ev_aI dX13_writeDirect_7 gv24 ?_
  refine EV.iload_n 2 dX13_writeDirect_8 rfl rfl ?_
  refine EV.iadd dX13_writeDirect_9 ?_
  refine EV.imul dX13_writeDirect_10 ?_
  refine EV.istore_n [(3, .int (64 * (v24 + a2))), (0, .ref a0), (1, .int a1), (2, .int a2)] dX13_writeDirect_11 rfl (by decide) rfl ?_
  refine EV.aload_n 1 dX13_writeDirect_12 rfl rfl ?_
  obtain ⟨v25, gv25, h⟩ := px_bs h
  refine ev_gI dX13_writeDirect_13 flRX13_112 gv25 ?_
  refine EV.if_le 37 dX13_writeDirect_16 (by decide) (fun c26 => ?_) (fun c26 => ?_)
  · rw [if_pos c26] at h
    refine EV.aload_n 1 dX13_writeDirect_37 rfl rfl ?_
    obtain ⟨v27, gv27, h⟩ := px_bs h
    refine ev_gR dX13_writeDirect_38 flRX13_33 gv27 ?_
    refine EV.iload_n 0 dX13_writeDirect_41 rfl rfl ?_
    obtain ⟨v28, gv28, h⟩ := px_bs h
    refine ev_aS dX13_writeDirect_42 gv28 ?_
    refine EV.aload_n 1 dX13_writeDirect_43 rfl rfl ?_
    obtain ⟨v29, gv29, h⟩ := px_bs h
    refine ev_gI dX13_writeDirect_44 flRX13_115 gv29 ?_
    refine EV.ishr dX13_writeDirect_47 ?_
    refine EV.istore [(4, .int (v28 >>> (v29 &&& 31))), (3, .int (64 * (v24 + a2))), (0, .ref a0), (1, .int a1), (2, .int a2)] dX13_writeDirect_48 (by decide) rfl ?_
    refine EV.iload 0 dX13_writeDirect_50 rfl ?_
    refine EV.aload_n 2 dX13_writeDirect_52 rfl rfl ?_
    obtain ⟨v30, gv30, h⟩ := px_bs h
    refine ev_gR dX13_writeDirect_53 flRX13_71 gv30 ?_
    refine EV.iload_n 3 dX13_writeDirect_56 rfl rfl ?_
    obtain ⟨v31, gv31, h⟩ := px_bs h
    refine ev_aI dX13_writeDirect_57 gv31 ?_
    refine EV.isub dX13_writeDirect_58 ?_
    refine EV.istore [(5, .int ((v28 >>> (v29 &&& 31)) - v31)), (4, .int (v28 >>> (v29 &&& 31))), (3, .int (64 * (v24 + a2))), (0, .ref a0), (1, .int a1), (2, .int a2)] dX13_writeDirect_59 (by decide) rfl ?_
    refine EV.aload_n 3 dX13_writeDirect_61 rfl rfl ?_
    obtain ⟨v32, gv32, h⟩ := px_bs h
    refine ev_gR dX13_writeDirect_62 flRX13_71 gv32 ?_
    refine EV.iload_n 4 dX13_writeDirect_65 rfl rfl ?_
    refine EV.iload 1 dX13_writeDirect_66 rfl ?_
    obtain ⟨w33, gw33, h⟩ := px_bs h
    refine ev_sI dX13_writeDirect_68 gw33 ?_
    refine EV.aload_n 3 dX13_writeDirect_69 rfl rfl ?_
    refine EV.aload_n 3 dX13_writeDirect_70 rfl rfl ?_
    obtain ⟨v34, gv34, h⟩ := px_bs h
    refine ev_gR dX13_writeDirect_71 flRX13_55 gv34 ?_
    refine EV.iload_n 4 dX13_writeDirect_74 rfl rfl ?_
    obtain ⟨v35, gv35, h⟩ := px_bs h
    refine ev_aI dX13_writeDirect_75 gv35 ?_
    refine EV.iload 0 dX13_writeDirect_76 rfl ?_
    obtain ⟨q36, gq36, h⟩ := px_bs h
    refine EV.callS (As := [.int ((v28 >>> (v29 &&& 31)) - v31)]) (rest := [.int v35, .ref a0]) dX13_writeDirect_78 kcX13_writeDirect_174 rfl (Nat.le_of_ble_eq_true rfl) (Nat.le_of_ble_eq_true rfl) (eX13_sizeOf gq36) ?_
    obtain ⟨o37, go37, h⟩ := px_bs h
    obtain ⟨q38, gq38, h⟩ := px_bs h
    refine EV.callV (As := [.int v35, .int q36.1]) (rest := []) dX13_writeDirect_81 kcX13_writeDirect_180 (gO_ok go37) rfl rfl rfl (Nat.le_of_ble_eq_true rfl) (Nat.le_of_ble_eq_true rfl) (eX13_word gq38) ?_
    refine EV.aload_n 3 dX13_writeDirect_84 rfl rfl ?_
    refine EV.iload 0 dX13_writeDirect_85 rfl ?_
    obtain ⟨o39, go39, h⟩ := px_bs h
    obtain ⟨q40, gq40, h⟩ := px_bs h
    refine EV.callV (As := [.int ((v28 >>> (v29 &&& 31)) - v31)]) (rest := []) dX13_writeDirect_87 kcX13_writeDirect_189 (gO_ok go39) rfl rfl rfl (Nat.le_of_ble_eq_true rfl) (Nat.le_of_ble_eq_true rfl) (eX13_number gq40) ?_
    cases h
    exact EV.ret0 dX13_writeDirect_90 trivial
  · rw [if_neg c26] at h
    refine EV.aload_n 1 dX13_writeDirect_19 rfl rfl ?_
    refine EV.aload_n 1 dX13_writeDirect_20 rfl rfl ?_
    obtain ⟨v41, gv41, h⟩ := px_bs h
    refine ev_gR dX13_writeDirect_21 flRX13_33 gv41 ?_
    refine EV.iload_n 0 dX13_writeDirect_24 rfl rfl ?_
    obtain ⟨v42, gv42, h⟩ := px_bs h
    refine ev_aS dX13_writeDirect_25 gv42 ?_
    refine EV.aload_n 1 dX13_writeDirect_26 rfl rfl ?_
    obtain ⟨v43, gv43, h⟩ := px_bs h
    refine ev_gI dX13_writeDirect_27 flRX13_115 gv43 ?_
    refine EV.ishr dX13_writeDirect_30 ?_
    refine EV.iconst (1) dX13_writeDirect_31 (by decide) ?_
    refine EV.iand dX13_writeDirect_32 ?_
    obtain ⟨o44, go44, h⟩ := px_bs h
    obtain ⟨q45, gq45, h⟩ := px_bs h
    refine EV.callV (As := [.int ((v42 >>> (v43 &&& 31)) &&& 1)]) (rest := []) dX13_writeDirect_33 kcX13_writeDirect_167 (gO_ok go44) rfl rfl rfl (Nat.le_of_ble_eq_true rfl) (Nat.le_of_ble_eq_true rfl) (eX13_bit gq45) ?_
    cases h
    exact EV.ret0 dX13_writeDirect_36 trivial
/-! WavePicturesModel$Scans.cutOff(II)I -/
theorem dX13_cutOff_0 : decode cX13_cutOff 0 = .ok (.iload_n 0, 1) := by decide +kernel
theorem dX13_cutOff_1 : decode cX13_cutOff 1 = .ok (.ifCond .ge 11, 3) := by decide +kernel
theorem dX13_cutOff_4 : decode cX13_cutOff 4 = .ok (.iload_n 0, 1) := by decide +kernel
theorem dX13_cutOff_5 : decode cX13_cutOff 5 = .ok (.ineg, 1) := by decide +kernel
theorem dX13_cutOff_6 : decode cX13_cutOff 6 = .ok (.iload_n 1, 1) := by decide +kernel
theorem dX13_cutOff_7 : decode cX13_cutOff 7 = .ok (.ishr, 1) := by decide +kernel
theorem dX13_cutOff_8 : decode cX13_cutOff 8 = .ok (.ineg, 1) := by decide +kernel
theorem dX13_cutOff_9 : decode cX13_cutOff 9 = .ok (.goto 6, 3) := by decide +kernel
theorem dX13_cutOff_12 : decode cX13_cutOff 12 = .ok (.iload_n 0, 1) := by decide +kernel
theorem dX13_cutOff_13 : decode cX13_cutOff 13 = .ok (.iload_n 1, 1) := by decide +kernel
theorem dX13_cutOff_14 : decode cX13_cutOff 14 = .ok (.ishr, 1) := by decide +kernel
theorem dX13_cutOff_15 : decode cX13_cutOff 15 = .ok (.ireturn, 1) := by decide +kernel
set_option maxRecDepth 100000 in
set_option maxHeartbeats 4000000 in
theorem eX13_cutOff {X : px_X} {w : px_W} {a0 : Int32} {a1 : Int32} {q : Int32 × px_W} (h : fX13_cutOff X w a0 a1 = some q) : EV X mX13_cutOff 0 (lv_args 0 [.int a0, .int a1]) [] w (some (.int q.1)) q.2 := by
  unfold fX13_cutOff at h
  show EV X mX13_cutOff 0 [(0, .int a0), (1, .int a1)] [] w (some (.int q.1)) q.2
  refine EV.iload_n 0 dX13_cutOff_0 rfl rfl ?_
  refine EV.if_ge 12 dX13_cutOff_1 (by decide) (fun c1 => ?_) (fun c1 => ?_)
  · rw [if_pos c1] at h
    refine EV.iload_n 0 dX13_cutOff_12 rfl rfl ?_
    refine EV.iload_n 1 dX13_cutOff_13 rfl rfl ?_
    refine EV.ishr dX13_cutOff_14 ?_
    cases h
    exact EV.reti dX13_cutOff_15 rfl
  · rw [if_neg c1] at h
    refine EV.iload_n 0 dX13_cutOff_4 rfl rfl ?_
    refine EV.ineg dX13_cutOff_5 ?_
    refine EV.iload_n 1 dX13_cutOff_6 rfl rfl ?_
    refine EV.ishr dX13_cutOff_7 ?_
    refine EV.ineg dX13_cutOff_8 ?_
    refine EV.goto 15 dX13_cutOff_9 (by decide) ?_
    cases h
    exact EV.reti dX13_cutOff_15 rfl
/-! WavePicturesModel$Scans.writeOthers(III)V -/
theorem dX13_writeOthers_0 : decode cX13_writeOthers 0 = .ok (.aload_n 0, 1) := by decide +kernel
theorem dX13_writeOthers_1 : decode cX13_writeOthers 1 = .ok (.getfield 58, 3) := by decide +kernel
theorem dX13_writeOthers_4 : decode cX13_writeOthers 4 = .ok (.iload_n 1, 1) := by decide +kernel
theorem dX13_writeOthers_5 : decode cX13_writeOthers 5 = .ok (.iaload, 1) := by decide +kernel
theorem dX13_writeOthers_6 : decode cX13_writeOthers 6 = .ok (.istore 4, 2) := by decide +kernel
theorem dX13_writeOthers_8 : decode cX13_writeOthers 8 = .ok (.aload_n 0, 1) := by decide +kernel
theorem dX13_writeOthers_9 : decode cX13_writeOthers 9 = .ok (.getfield 106, 3) := by decide +kernel
theorem dX13_writeOthers_12 : decode cX13_writeOthers 12 = .ok (.ifCond .le 7, 3) := by decide +kernel
theorem dX13_writeOthers_15 : decode cX13_writeOthers 15 = .ok (.iconst 1, 1) := by decide +kernel
theorem dX13_writeOthers_16 : decode cX13_writeOthers 16 = .ok (.goto 4, 3) := by decide +kernel
theorem dX13_writeOthers_19 : decode cX13_writeOthers 19 = .ok (.iconst 0, 1) := by decide +kernel
theorem dX13_writeOthers_20 : decode cX13_writeOthers 20 = .ok (.istore 5, 2) := by decide +kernel
theorem dX13_writeOthers_22 : decode cX13_writeOthers 22 = .ok (.iconst 0, 1) := by decide +kernel
theorem dX13_writeOthers_23 : decode cX13_writeOthers 23 = .ok (.istore 6, 2) := by decide +kernel
theorem dX13_writeOthers_25 : decode cX13_writeOthers 25 = .ok (.iload_n 3, 1) := by decide +kernel
theorem dX13_writeOthers_26 : decode cX13_writeOthers 26 = .ok (.istore 7, 2) := by decide +kernel
theorem dX13_writeOthers_28 : decode cX13_writeOthers 28 = .ok (.iload 7, 2) := by decide +kernel
theorem dX13_writeOthers_30 : decode cX13_writeOthers 30 = .ok (.aload_n 0, 1) := by decide +kernel
theorem dX13_writeOthers_31 : decode cX13_writeOthers 31 = .ok (.getfield 109, 3) := by decide +kernel
theorem dX13_writeOthers_34 : decode cX13_writeOthers 34 = .ok (.if_icmp .gt 107, 3) := by decide +kernel
theorem dX13_writeOthers_37 : decode cX13_writeOthers 37 = .ok (.aload_n 0, 1) := by decide +kernel
theorem dX13_writeOthers_38 : decode cX13_writeOthers 38 = .ok (.getfield 33, 3) := by decide +kernel
theorem dX13_writeOthers_41 : decode cX13_writeOthers 41 = .ok (.bipush 64, 2) := by decide +kernel
theorem dX13_writeOthers_43 : decode cX13_writeOthers 43 = .ok (.aload_n 0, 1) := by decide +kernel
theorem dX13_writeOthers_44 : decode cX13_writeOthers 44 = .ok (.getfield 30, 3) := by decide +kernel
theorem dX13_writeOthers_47 : decode cX13_writeOthers 47 = .ok (.iload_n 1, 1) := by decide +kernel
theorem dX13_writeOthers_48 : decode cX13_writeOthers 48 = .ok (.iaload, 1) := by decide +kernel
theorem dX13_writeOthers_49 : decode cX13_writeOthers 49 = .ok (.iload_n 2, 1) := by decide +kernel
theorem dX13_writeOthers_50 : decode cX13_writeOthers 50 = .ok (.iadd, 1) := by decide +kernel
theorem dX13_writeOthers_51 : decode cX13_writeOthers 51 = .ok (.imul, 1) := by decide +kernel
theorem dX13_writeOthers_52 : decode cX13_writeOthers 52 = .ok (.iload 7, 2) := by decide +kernel
theorem dX13_writeOthers_54 : decode cX13_writeOthers 54 = .ok (.iadd, 1) := by decide +kernel
theorem dX13_writeOthers_55 : decode cX13_writeOthers 55 = .ok (.saload, 1) := by decide +kernel
theorem dX13_writeOthers_56 : decode cX13_writeOthers 56 = .ok (.aload_n 0, 1) := by decide +kernel
theorem dX13_writeOthers_57 : decode cX13_writeOthers 57 = .ok (.getfield 115, 3) := by decide +kernel
theorem dX13_writeOthers_60 : decode cX13_writeOthers 60 = .ok (.invokestatic 192, 3) := by decide +kernel
theorem dX13_writeOthers_63 : decode cX13_writeOthers 63 = .ok (.istore 8, 2) := by decide +kernel
theorem dX13_writeOthers_65 : decode cX13_writeOthers 65 = .ok (.iload 8, 2) := by decide +kernel
theorem dX13_writeOthers_67 : decode cX13_writeOthers 67 = .ok (.ifCond .ne 9, 3) := by decide +kernel
theorem dX13_writeOthers_70 : decode cX13_writeOthers 70 = .ok (.iinc 6 1, 3) := by decide +kernel
theorem dX13_writeOthers_73 : decode cX13_writeOthers 73 = .ok (.goto 62, 3) := by decide +kernel
theorem dX13_writeOthers_76 : decode cX13_writeOthers 76 = .ok (.iload 5, 2) := by decide +kernel
theorem dX13_writeOthers_78 : decode cX13_writeOthers 78 = .ok (.ifCond .eq 9, 3) := by decide +kernel
theorem dX13_writeOthers_81 : decode cX13_writeOthers 81 = .ok (.aload_n 0, 1) := by decide +kernel
theorem dX13_writeOthers_82 : decode cX13_writeOthers 82 = .ok (.iload 4, 2) := by decide +kernel
theorem dX13_writeOthers_84 : decode cX13_writeOthers 84 = .ok (.invokevirtual 195, 3) := by decide +kernel
theorem dX13_writeOthers_87 : decode cX13_writeOthers 87 = .ok (.iload 6, 2) := by decide +kernel
theorem dX13_writeOthers_89 : decode cX13_writeOthers 89 = .ok (.bipush 15, 2) := by decide +kernel
theorem dX13_writeOthers_91 : decode cX13_writeOthers 91 = .ok (.if_icmp .le 18, 3) := by decide +kernel
theorem dX13_writeOthers_94 : decode cX13_writeOthers 94 = .ok (.aload_n 0, 1) := by decide +kernel
theorem dX13_writeOthers_95 : decode cX13_writeOthers 95 = .ok (.iload 4, 2) := by decide +kernel
theorem dX13_writeOthers_97 : decode cX13_writeOthers 97 = .ok (.sipush 240, 3) := by decide +kernel
theorem dX13_writeOthers_100 : decode cX13_writeOthers 100 = .ok (.invokevirtual 180, 3) := by decide +kernel
theorem dX13_writeOthers_103 : decode cX13_writeOthers 103 = .ok (.iinc 6 (-16), 3) := by decide +kernel
theorem dX13_writeOthers_106 : decode cX13_writeOthers 106 = .ok (.goto (-19), 3) := by decide +kernel
theorem dX13_writeOthers_109 : decode cX13_writeOthers 109 = .ok (.aload_n 0, 1) := by decide +kernel
theorem dX13_writeOthers_110 : decode cX13_writeOthers 110 = .ok (.iload 4, 2) := by decide +kernel
theorem dX13_writeOthers_112 : decode cX13_writeOthers 112 = .ok (.bipush 16, 2) := by decide +kernel
theorem dX13_writeOthers_114 : decode cX13_writeOthers 114 = .ok (.iload 6, 2) := by decide +kernel
theorem dX13_writeOthers_116 : decode cX13_writeOthers 116 = .ok (.imul, 1) := by decide +kernel
theorem dX13_writeOthers_117 : decode cX13_writeOthers 117 = .ok (.iload 8, 2) := by decide +kernel
theorem dX13_writeOthers_119 : decode cX13_writeOthers 119 = .ok (.invokestatic 174, 3) := by decide +kernel
theorem dX13_writeOthers_122 : decode cX13_writeOthers 122 = .ok (.iadd, 1) := by decide +kernel
theorem dX13_writeOthers_123 : decode cX13_writeOthers 123 = .ok (.invokevirtual 180, 3) := by decide +kernel
theorem dX13_writeOthers_126 : decode cX13_writeOthers 126 = .ok (.aload_n 0, 1) := by decide +kernel
theorem dX13_writeOthers_127 : decode cX13_writeOthers 127 = .ok (.iload 8, 2) := by decide +kernel
theorem dX13_writeOthers_129 : decode cX13_writeOthers 129 = .ok (.invokevirtual 189, 3) := by decide +kernel
theorem dX13_writeOthers_132 : decode cX13_writeOthers 132 = .ok (.iconst 0, 1) := by decide +kernel
theorem dX13_writeOthers_133 : decode cX13_writeOthers 133 = .ok (.istore 6, 2) := by decide +kernel
theorem dX13_writeOthers_135 : decode cX13_writeOthers 135 = .ok (.iinc 7 1, 3) := by decide +kernel
theorem dX13_writeOthers_138 : decode cX13_writeOthers 138 = .ok (.goto (-110), 3) := by decide +kernel
theorem dX13_writeOthers_141 : decode cX13_writeOthers 141 = .ok (.iload 6, 2) := by decide +kernel
theorem dX13_writeOthers_143 : decode cX13_writeOthers 143 = .ok (.ifCond .le 15, 3) := by decide +kernel
theorem dX13_writeOthers_146 : decode cX13_writeOthers 146 = .ok (.iload 5, 2) := by decide +kernel
theorem dX13_writeOthers_148 : decode cX13_writeOthers 148 = .ok (.ifCond .ne 10, 3) := by decide +kernel
theorem dX13_writeOthers_151 : decode cX13_writeOthers 151 = .ok (.aload_n 0, 1) := by decide +kernel
theorem dX13_writeOthers_152 : decode cX13_writeOthers 152 = .ok (.iload 4, 2) := by decide +kernel
theorem dX13_writeOthers_154 : decode cX13_writeOthers 154 = .ok (.iconst 0, 1) := by decide +kernel
theorem dX13_writeOthers_155 : decode cX13_writeOthers 155 = .ok (.invokevirtual 180, 3) := by decide +kernel
theorem dX13_writeOthers_158 : decode cX13_writeOthers 158 = .ok (.iload 6, 2) := by decide +kernel
theorem dX13_writeOthers_160 : decode cX13_writeOthers 160 = .ok (.ifCond .le 34, 3) := by decide +kernel
theorem dX13_writeOthers_163 : decode cX13_writeOthers 163 = .ok (.iload 5, 2) := by decide +kernel
theorem dX13_writeOthers_165 : decode cX13_writeOthers 165 = .ok (.ifCond .eq 29, 3) := by decide +kernel
theorem dX13_writeOthers_168 : decode cX13_writeOthers 168 = .ok (.aload_n 0, 1) := by decide +kernel
theorem dX13_writeOthers_169 : decode cX13_writeOthers 169 = .ok (.dup, 1) := by decide +kernel
theorem dX13_writeOthers_170 : decode cX13_writeOthers 170 = .ok (.getfield 177, 3) := by decide +kernel
theorem dX13_writeOthers_173 : decode cX13_writeOthers 173 = .ok (.iconst 1, 1) := by decide +kernel
theorem dX13_writeOthers_174 : decode cX13_writeOthers 174 = .ok (.iadd, 1) := by decide +kernel
theorem dX13_writeOthers_175 : decode cX13_writeOthers 175 = .ok (.putfield 177, 3) := by decide +kernel
theorem dX13_writeOthers_178 : decode cX13_writeOthers 178 = .ok (.aload_n 0, 1) := by decide +kernel
theorem dX13_writeOthers_179 : decode cX13_writeOthers 179 = .ok (.getfield 177, 3) := by decide +kernel
theorem dX13_writeOthers_182 : decode cX13_writeOthers 182 = .ok (.sipush 32767, 3) := by decide +kernel
theorem dX13_writeOthers_185 : decode cX13_writeOthers 185 = .ok (.if_icmp .ne 9, 3) := by decide +kernel
theorem dX13_writeOthers_188 : decode cX13_writeOthers 188 = .ok (.aload_n 0, 1) := by decide +kernel
theorem dX13_writeOthers_189 : decode cX13_writeOthers 189 = .ok (.iload 4, 2) := by decide +kernel
theorem dX13_writeOthers_191 : decode cX13_writeOthers 191 = .ok (.invokevirtual 195, 3) := by decide +kernel
theorem dX13_writeOthers_194 : decode cX13_writeOthers 194 = .ok (.return_, 1) := by decide +kernel
theorem kcX13_writeOthers_174 : px_cS mX13_writeOthers 174 mX13_sizeOf 1 := ⟨⟨mbX13_sizeOf, by decide, by decide⟩, Or.inl (tb9 (List.mem_of_getElem? (i := 163) rfl)), tb9 (List.mem_of_getElem? (i := 164) rfl)⟩
theorem kcX13_writeOthers_180 : px_cV mX13_writeOthers 180 mX13_word 2 := ⟨⟨mbX13_word, by decide, by decide⟩, Or.inl (tb9 (List.mem_of_getElem? (i := 166) rfl)), vbX13_word⟩
theorem kcX13_writeOthers_189 : px_cV mX13_writeOthers 189 mX13_number 1 := ⟨⟨mbX13_number, by decide, by decide⟩, Or.inl (tb9 (List.mem_of_getElem? (i := 194) rfl)), vbX13_number⟩
theorem mbX13_cutOff : px_mB mX13_cutOff 2 := ⟨tb9 (List.mem_of_getElem? (i := 204) rfl), by decide +kernel, tb1 (List.mem_of_getElem? (i := 15) rfl), by decide +kernel, by decide +kernel⟩
theorem kcX13_writeOthers_192 : px_cS mX13_writeOthers 192 mX13_cutOff 2 := ⟨⟨mbX13_cutOff, by decide, by decide⟩, Or.inl (tb9 (List.mem_of_getElem? (i := 202) rfl)), tb9 (List.mem_of_getElem? (i := 203) rfl)⟩
theorem mbX13_sendRun : px_mB mX13_sendRun 1 := ⟨tb9 (List.mem_of_getElem? (i := 162) rfl), by decide +kernel, tb1 (List.mem_of_getElem? (i := 15) rfl), by decide +kernel, by decide +kernel⟩
theorem vbX13_sendRun : px_vB mX13_sendRun := ⟨tb9 (List.mem_of_getElem? (i := 161) rfl), List.mem_append_left _ (List.mem_of_getElem? (i := 142) (by decide +kernel))⟩
theorem kcX13_writeOthers_195 : px_cV mX13_writeOthers 195 mX13_sendRun 1 := ⟨⟨mbX13_sendRun, by decide, by decide⟩, Or.inl (tb9 (List.mem_of_getElem? (i := 159) rfl)), vbX13_sendRun⟩
set_option maxRecDepth 100000 in
set_option maxHeartbeats 4000000 in
theorem eX13_writeOthers_135 {X : px_X} {k28 : Nat → Int32 → Int32 → Int32 → Int32 → Int32 → Int32 → px_W → Option (px_W)} (hk28 : ∀ (a0 : Nat) (a1 : Int32) (a2 : Int32) (a4 : Int32) (a5 : Int32) (a6 : Int32) (a7 : Int32) (w : px_W) (q : px_W), k28 a0 a1 a2 a4 a5 a6 a7 w = some q → EV X mX13_writeOthers 28 [(0, .ref a0), (1, .int a1), (2, .int a2), (4, .int a4), (5, .int a5), (6, .int a6), (7, .int a7)] [] w none q) : ∀ (a0 : Nat) (a1 : Int32) (a2 : Int32) (a4 : Int32) (a5 : Int32) (a6 : Int32) (a7 : Int32) (w : px_W) (q : px_W), fX13_writeOthers_135 X k28 a0 a1 a2 a4 a5 a6 a7 w = some q → EV X mX13_writeOthers 135 [(0, .ref a0), (1, .int a1), (2, .int a2), (4, .int a4), (5, .int a5), (6, .int a6), (7, .int a7)] [] w none q := by
  intro a0 a1 a2 a4 a5 a6 a7 w q h
  unfold fX13_writeOthers_135 at h
  refine EV.iinc 6 (a7 + 1) [(7, .int (a7 + 1)), (0, .ref a0), (1, .int a1), (2, .int a2), (4, .int a4), (5, .int a5), (6, .int a6)] dX13_writeOthers_135 rfl rfl (by decide) rfl ?_
  refine EV.goto 28 dX13_writeOthers_138 (by decide) ?_
  refine EV.sub [1, 2, 3, 4, 5, 6, 0] rfl ?_
  exact hk28 _ _ _ _ _ _ _ _ _ h
set_option maxRecDepth 100000 in
set_option maxHeartbeats 4000000 in
theorem eX13_writeOthers_158 {X : px_X}  : ∀ (a0 : Nat) (a4 : Int32) (a5 : Int32) (a6 : Int32) (w : px_W) (q : px_W), fX13_writeOthers_158 X  a0 a4 a5 a6 w = some q → EV X mX13_writeOthers 158 [(0, .ref a0), (4, .int a4), (5, .int a5), (6, .int a6)] [] w none q := by
  intro a0 a4 a5 a6 w q h
  unfold fX13_writeOthers_158 at h
  refine EV.iload 3 dX13_writeOthers_158 rfl ?_
  refine EV.if_le 194 dX13_writeOthers_160 (by decide) (fun c27 => ?_) (fun c27 => ?_)
  · rw [if_pos c27] at h
    cases h
    exact EV.ret0 dX13_writeOthers_194 trivial
  · rw [if_neg c27] at h
    refine EV.iload 2 dX13_writeOthers_163 rfl ?_
    refine EV.if_eq 194 dX13_writeOthers_165 (by decide) (fun c28 => ?_) (fun c28 => ?_)
    · rw [if_pos c28] at h
      cases h
      exact EV.ret0 dX13_writeOthers_194 trivial
    · rw [if_neg c28] at h
      refine EV.aload_n 0 dX13_writeOthers_168 rfl rfl ?_
      refine EV.dup dX13_writeOthers_169 rfl ?_
      obtain ⟨v29, gv29, h⟩ := px_bs h
      refine ev_gI dX13_writeOthers_170 flRX13_177 gv29 ?_
      refine EV.iconst (1) dX13_writeOthers_173 (by decide) ?_
      refine EV.iadd dX13_writeOthers_174 ?_
      obtain ⟨w30, gw30, h⟩ := px_bs h
      refine ev_pV dX13_writeOthers_175 flRX13_177 rfl rfl rfl rfl gw30 ?_
      refine EV.aload_n 0 dX13_writeOthers_178 rfl rfl ?_
      obtain ⟨v31, gv31, h⟩ := px_bs h
      refine ev_gI dX13_writeOthers_179 flRX13_177 gv31 ?_
      refine EV.sipush (32767) dX13_writeOthers_182 (by decide) ?_
      refine EV.icmp_ne 194 dX13_writeOthers_185 (by decide) (fun c32 => ?_) (fun c32 => ?_)
      · rw [if_neg c32] at h
        cases h
        exact EV.ret0 dX13_writeOthers_194 trivial
      · rw [if_pos c32] at h
        refine EV.aload_n 0 dX13_writeOthers_188 rfl rfl ?_
        refine EV.iload 1 dX13_writeOthers_189 rfl ?_
        obtain ⟨o33, go33, h⟩ := px_bs h
        obtain ⟨q34, gq34, h⟩ := px_bs h
        refine EV.callV (As := [.int a4]) (rest := []) dX13_writeOthers_191 kcX13_writeOthers_195 (gO_ok go33) rfl rfl rfl (Nat.le_of_ble_eq_true rfl) (Nat.le_of_ble_eq_true rfl) (eX13_sendRun gq34) ?_
        cases h
        exact EV.ret0 dX13_writeOthers_194 trivial
set_option maxRecDepth 100000 in
set_option maxHeartbeats 4000000 in
theorem eX13_writeOthers_141 {X : px_X}  : ∀ (a0 : Nat) (a4 : Int32) (a5 : Int32) (a6 : Int32) (w : px_W) (q : px_W), fX13_writeOthers_141 X  a0 a4 a5 a6 w = some q → EV X mX13_writeOthers 141 [(0, .ref a0), (4, .int a4), (5, .int a5), (6, .int a6)] [] w none q := by
  intro a0 a4 a5 a6 w q h
  unfold fX13_writeOthers_141 at h
  refine EV.iload 3 dX13_writeOthers_141 rfl ?_
  refine EV.if_le 158 dX13_writeOthers_143 (by decide) (fun c35 => ?_) (fun c35 => ?_)
  · rw [if_pos c35] at h
    refine EV.sub [0, 1, 2, 3] rfl ?_
    exact eX13_writeOthers_158  _ _ _ _ _ _ h
  · rw [if_neg c35] at h
    refine EV.iload 2 dX13_writeOthers_146 rfl ?_
    refine EV.if_ne 158 dX13_writeOthers_148 (by decide) (fun c36 => ?_) (fun c36 => ?_)
    · rw [if_neg c36] at h
      refine EV.sub [0, 1, 2, 3] rfl ?_
      exact eX13_writeOthers_158  _ _ _ _ _ _ h
    · rw [if_pos c36] at h
      refine EV.aload_n 0 dX13_writeOthers_151 rfl rfl ?_
      refine EV.iload 1 dX13_writeOthers_152 rfl ?_
      refine EV.iconst (0) dX13_writeOthers_154 (by decide) ?_
      obtain ⟨o37, go37, h⟩ := px_bs h
      obtain ⟨q38, gq38, h⟩ := px_bs h
      refine EV.callV (As := [.int a4, .int 0]) (rest := []) dX13_writeOthers_155 kcX13_writeOthers_180 (gO_ok go37) rfl rfl rfl (Nat.le_of_ble_eq_true rfl) (Nat.le_of_ble_eq_true rfl) (eX13_word gq38) ?_
      refine EV.sub [0, 1, 2, 3] rfl ?_
      exact eX13_writeOthers_158  _ _ _ _ _ _ h
set_option maxRecDepth 100000 in
set_option maxHeartbeats 4000000 in
theorem eX13_writeOthers_109 {X : px_X} {k28 : Nat → Int32 → Int32 → Int32 → Int32 → Int32 → Int32 → px_W → Option (px_W)} (hk28 : ∀ (a0 : Nat) (a1 : Int32) (a2 : Int32) (a4 : Int32) (a5 : Int32) (a6 : Int32) (a7 : Int32) (w : px_W) (q : px_W), k28 a0 a1 a2 a4 a5 a6 a7 w = some q → EV X mX13_writeOthers 28 [(0, .ref a0), (1, .int a1), (2, .int a2), (4, .int a4), (5, .int a5), (6, .int a6), (7, .int a7)] [] w none q) : ∀ (a0 : Nat) (a1 : Int32) (a2 : Int32) (a4 : Int32) (a5 : Int32) (a6 : Int32) (a7 : Int32) (a8 : Int32) (w : px_W) (q : px_W), fX13_writeOthers_109 X k28 a0 a1 a2 a4 a5 a6 a7 a8 w = some q → EV X mX13_writeOthers 109 [(0, .ref a0), (1, .int a1), (2, .int a2), (4, .int a4), (5, .int a5), (6, .int a6), (7, .int a7), (8, .int a8)] [] w none q := by
  intro a0 a1 a2 a4 a5 a6 a7 a8 w q h
  unfold fX13_writeOthers_109 at h
  refine EV.aload_n 0 dX13_writeOthers_109 rfl rfl ?_
  refine EV.iload 3 dX13_writeOthers_110 rfl ?_
  refine EV.bipush (16) dX13_writeOthers_112 (by decide) ?_
  refine EV.iload 5 dX13_writeOthers_114 rfl ?_
  refine EV.imul dX13_writeOthers_116 ?_
  refine EV.iload 7 dX13_writeOthers_117 rfl ?_
  obtain ⟨q39, gq39, h⟩ := px_bs h
  refine EV.callS (As := [.int a8]) (rest := [.int (16 * a6), .int a4, .ref a0]) dX13_writeOthers_119 kcX13_writeOthers_174 rfl (Nat.le_of_ble_eq_true rfl) (Nat.le_of_ble_eq_true rfl) (eX13_sizeOf gq39) ?_
  refine EV.iadd dX13_writeOthers_122 ?_
  obtain ⟨o40, go40, h⟩ := px_bs h
  obtain ⟨q41, gq41, h⟩ := px_bs h
  refine EV.callV (As := [.int a4, .int ((16 * a6) + q39.1)]) (rest := []) dX13_writeOthers_123 kcX13_writeOthers_180 (gO_ok go40) rfl rfl rfl (Nat.le_of_ble_eq_true rfl) (Nat.le_of_ble_eq_true rfl) (eX13_word gq41) ?_
  refine EV.aload_n 0 dX13_writeOthers_126 rfl rfl ?_
  refine EV.iload 7 dX13_writeOthers_127 rfl ?_
  obtain ⟨o42, go42, h⟩ := px_bs h
  obtain ⟨q43, gq43, h⟩ := px_bs h
  refine EV.callV (As := [.int a8]) (rest := []) dX13_writeOthers_129 kcX13_writeOthers_189 (gO_ok go42) rfl rfl rfl (Nat.le_of_ble_eq_true rfl) (Nat.le_of_ble_eq_true rfl) (eX13_number gq43) ?_
  refine EV.iconst (0) dX13_writeOthers_132 (by decide) ?_
  refine EV.istore [(6, .int 0), (0, .ref a0), (1, .int a1), (2, .int a2), (4, .int a4), (5, .int a5), (7, .int a7), (8, .int a8)] dX13_writeOthers_133 (by decide) rfl ?_
  refine EV.sub [1, 2, 3, 4, 5, 0, 6] rfl ?_
  exact eX13_writeOthers_135 hk28 _ _ _ _ _ _ _ _ _ h
set_option maxRecDepth 100000 in
set_option maxHeartbeats 4000000 in
theorem eX13_writeOthers_87 {X : px_X} {k28 : Nat → Int32 → Int32 → Int32 → Int32 → Int32 → Int32 → px_W → Option (px_W)} (hk28 : ∀ (a0 : Nat) (a1 : Int32) (a2 : Int32) (a4 : Int32) (a5 : Int32) (a6 : Int32) (a7 : Int32) (w : px_W) (q : px_W), k28 a0 a1 a2 a4 a5 a6 a7 w = some q → EV X mX13_writeOthers 28 [(0, .ref a0), (1, .int a1), (2, .int a2), (4, .int a4), (5, .int a5), (6, .int a6), (7, .int a7)] [] w none q) : ∀ (m : Nat) (a0 : Nat) (a1 : Int32) (a2 : Int32) (a4 : Int32) (a5 : Int32) (a6 : Int32) (a7 : Int32) (a8 : Int32) (w : px_W) (q : px_W), fX13_writeOthers_87 X k28 m a0 a1 a2 a4 a5 a6 a7 a8 w = some q → EV X mX13_writeOthers 87 [(0, .ref a0), (1, .int a1), (2, .int a2), (4, .int a4), (5, .int a5), (6, .int a6), (7, .int a7), (8, .int a8)] [] w none q := by
  intro m
  induction m with
  | zero => intro a0 a1 a2 a4 a5 a6 a7 a8 w q h; cases h
  | succ m ih =>
    intro a0 a1 a2 a4 a5 a6 a7 a8 w q h
    rw [fX13_writeOthers_87.eq_2] at h
    refine EV.iload 5 dX13_writeOthers_87 rfl ?_
    refine EV.bipush (15) dX13_writeOthers_89 (by decide) ?_
    refine EV.icmp_le 109 dX13_writeOthers_91 (by decide) (fun c44 => ?_) (fun c44 => ?_)
    · rw [if_pos c44] at h
      refine EV.sub [0, 1, 2, 3, 4, 5, 6, 7] rfl ?_
      exact eX13_writeOthers_109 hk28 _ _ _ _ _ _ _ _ _ _ h
    · rw [if_neg c44] at h
      refine EV.aload_n 0 dX13_writeOthers_94 rfl rfl ?_
      refine EV.iload 3 dX13_writeOthers_95 rfl ?_
      refine EV.sipush (240) dX13_writeOthers_97 (by decide) ?_
      obtain ⟨o45, go45, h⟩ := px_bs h
      obtain ⟨q46, gq46, h⟩ := px_bs h
      refine EV.callV (As := [.int a4, .int 240]) (rest := []) dX13_writeOthers_100 kcX13_writeOthers_180 (gO_ok go45) rfl rfl rfl (Nat.le_of_ble_eq_true rfl) (Nat.le_of_ble_eq_true rfl) (eX13_word gq46) ?_
      refine EV.iinc 5 (a6 + (-16)) [(6, .int (a6 + (-16))), (0, .ref a0), (1, .int a1), (2, .int a2), (4, .int a4), (5, .int a5), (7, .int a7), (8, .int a8)] dX13_writeOthers_103 rfl rfl (by decide) rfl ?_
      refine EV.goto 87 dX13_writeOthers_106 (by decide) ?_
      refine EV.sub [1, 2, 3, 4, 5, 0, 6, 7] rfl ?_
      exact ih _ _ _ _ _ _ _ _ _ _ h
set_option maxRecDepth 100000 in
set_option maxHeartbeats 4000000 in
theorem eX13_writeOthers_28 {X : px_X}  : ∀ (m : Nat) (a0 : Nat) (a1 : Int32) (a2 : Int32) (a4 : Int32) (a5 : Int32) (a6 : Int32) (a7 : Int32) (w : px_W) (q : px_W), fX13_writeOthers_28 X  m a0 a1 a2 a4 a5 a6 a7 w = some q → EV X mX13_writeOthers 28 [(0, .ref a0), (1, .int a1), (2, .int a2), (4, .int a4), (5, .int a5), (6, .int a6), (7, .int a7)] [] w none q := by
  intro m
  induction m with
  | zero => intro a0 a1 a2 a4 a5 a6 a7 w q h; cases h
  | succ m ih =>
    intro a0 a1 a2 a4 a5 a6 a7 w q h
    rw [fX13_writeOthers_28.eq_2] at h
    refine EV.iload 6 dX13_writeOthers_28 rfl ?_
    refine EV.aload_n 0 dX13_writeOthers_30 rfl rfl ?_
    obtain ⟨v47, gv47, h⟩ := px_bs h
    refine ev_gI dX13_writeOthers_31 flRX13_109 gv47 ?_
    refine EV.icmp_gt 141 dX13_writeOthers_34 (by decide) (fun c48 => ?_) (fun c48 => ?_)
    · rw [if_pos c48] at h
      refine EV.sub [0, 3, 4, 5] rfl ?_
      exact eX13_writeOthers_141  _ _ _ _ _ _ h
    · rw [if_neg c48] at h
      refine EV.aload_n 0 dX13_writeOthers_37 rfl rfl ?_
      obtain ⟨v49, gv49, h⟩ := px_bs h
      refine ev_gR dX13_writeOthers_38 flRX13_33 gv49 ?_
      refine EV.bipush (64) dX13_writeOthers_41 (by decide) ?_
      refine EV.aload_n 0 dX13_writeOthers_43 rfl rfl ?_
      obtain ⟨v50, gv50, h⟩ := px_bs h
      refine ev_gR dX13_writeOthers_44 flRX13_30 gv50 ?_
      refine EV.iload_n 1 dX13_writeOthers_47 rfl rfl ?_
      obtain ⟨v51, gv51, h⟩ := px_bs h
      refine ev_aI dX13_writeOthers_48 gv51 ?_
      refine EV.iload_n 2 dX13_writeOthers_49 rfl rfl ?_
      refine EV.iadd dX13_writeOthers_50 ?_
      refine EV.imul dX13_writeOthers_51 ?_
      refine EV.iload 6 dX13_writeOthers_52 rfl ?_
      refine EV.iadd dX13_writeOthers_54 ?_
      obtain ⟨v52, gv52, h⟩ := px_bs h
      refine ev_aS dX13_writeOthers_55 gv52 ?_
      refine EV.aload_n 0 dX13_writeOthers_56 rfl rfl ?_
      obtain ⟨v53, gv53, h⟩ := px_bs h
      refine ev_gI dX13_writeOthers_57 flRX13_115 gv53 ?_
      obtain ⟨q54, gq54, h⟩ := px_bs h
      refine EV.callS (As := [.int v52, .int v53]) (rest := []) dX13_writeOthers_60 kcX13_writeOthers_192 rfl (Nat.le_of_ble_eq_true rfl) (Nat.le_of_ble_eq_true rfl) (eX13_cutOff gq54) ?_
      refine EV.istore [(8, .int q54.1), (0, .ref a0), (1, .int a1), (2, .int a2), (4, .int a4), (5, .int a5), (6, .int a6), (7, .int a7)] dX13_writeOthers_63 (by decide) rfl ?_
      refine EV.iload 0 dX13_writeOthers_65 rfl ?_
      refine EV.if_ne 76 dX13_writeOthers_67 (by decide) (fun c55 => ?_) (fun c55 => ?_)
      · rw [if_neg c55] at h
        refine EV.iload 5 dX13_writeOthers_76 rfl ?_
        refine EV.if_eq 87 dX13_writeOthers_78 (by decide) (fun c56 => ?_) (fun c56 => ?_)
        · rw [if_pos c56] at h
          refine EV.sub [1, 2, 3, 4, 5, 6, 7, 0] rfl ?_
          exact eX13_writeOthers_87 ih FU _ _ _ _ _ _ _ _ _ _ h
        · rw [if_neg c56] at h
          refine EV.aload_n 1 dX13_writeOthers_81 rfl rfl ?_
          refine EV.iload 4 dX13_writeOthers_82 rfl ?_
          obtain ⟨o57, go57, h⟩ := px_bs h
          obtain ⟨q58, gq58, h⟩ := px_bs h
          refine EV.callV (As := [.int a4]) (rest := []) dX13_writeOthers_84 kcX13_writeOthers_195 (gO_ok go57) rfl rfl rfl (Nat.le_of_ble_eq_true rfl) (Nat.le_of_ble_eq_true rfl) (eX13_sendRun gq58) ?_
          refine EV.sub [1, 2, 3, 4, 5, 6, 7, 0] rfl ?_
          exact eX13_writeOthers_87 ih FU _ _ _ _ _ _ _ _ _ _ h
      · rw [if_pos c55] at h
        refine EV.iinc 6 (a6 + 1) [(6, .int (a6 + 1)), (8, .int q54.1), (0, .ref a0), (1, .int a1), (2, .int a2), (4, .int a4), (5, .int a5), (7, .int a7)] dX13_writeOthers_70 rfl rfl (by decide) rfl ?_
        refine EV.goto 135 dX13_writeOthers_73 (by decide) ?_
        refine EV.sub [2, 3, 4, 5, 6, 0, 7] rfl ?_
        exact eX13_writeOthers_135 ih _ _ _ _ _ _ _ _ _ h
set_option maxRecDepth 100000 in
set_option maxHeartbeats 4000000 in
theorem eX13_writeOthers_20 {X : px_X}  : ∀ (a0 : Nat) (a1 : Int32) (a2 : Int32) (a3 : Int32) (a4 : Int32) (s0 : Int32) (w : px_W) (q : px_W), fX13_writeOthers_20 X  a0 a1 a2 a3 a4 s0 w = some q → EV X mX13_writeOthers 20 [(0, .ref a0), (1, .int a1), (2, .int a2), (3, .int a3), (4, .int a4)] [.int s0] w none q := by
  intro a0 a1 a2 a3 a4 s0 w q h
  unfold fX13_writeOthers_20 at h
  refine EV.istore [(5, .int s0), (0, .ref a0), (1, .int a1), (2, .int a2), (3, .int a3), (4, .int a4)] dX13_writeOthers_20 (by decide) rfl ?_
  refine EV.iconst (0) dX13_writeOthers_22 (by decide) ?_
  refine EV.istore [(6, .int 0), (5, .int s0), (0, .ref a0), (1, .int a1), (2, .int a2), (3, .int a3), (4, .int a4)] dX13_writeOthers_23 (by decide) rfl ?_
  refine EV.iload_n 5 dX13_writeOthers_25 rfl rfl ?_
  refine EV.istore [(7, .int a3), (6, .int 0), (5, .int s0), (0, .ref a0), (1, .int a1), (2, .int a2), (3, .int a3), (4, .int a4)] dX13_writeOthers_26 (by decide) rfl ?_
  refine EV.sub [3, 4, 5, 7, 2, 1, 0] rfl ?_
  exact eX13_writeOthers_28  FU _ _ _ _ _ _ _ _ _ h
set_option maxRecDepth 100000 in
set_option maxHeartbeats 4000000 in
theorem eX13_writeOthers {X : px_X} {w : px_W} {a0 : Nat} {a1 : Int32} {a2 : Int32} {a3 : Int32} {q : px_W} (h : fX13_writeOthers X w a0 a1 a2 a3 = some q) : EV X mX13_writeOthers 0 (lv_args 0 [.ref a0, .int a1, .int a2, .int a3]) [] w none q := by
  unfold fX13_writeOthers at h
  show EV X mX13_writeOthers 0 [(0, .ref a0), (1, .int a1), (2, .int a2), (3, .int a3)] [] w none q
  refine EV.aload_n 0 dX13_writeOthers_0 rfl rfl ?_
  obtain ⟨v59, gv59, h⟩ := px_bs h
  refine ev_gR dX13_writeOthers_1 flRX13_58 gv59 ?_
  refine EV.iload_n 1 dX13_writeOthers_4 rfl rfl ?_
  obtain ⟨v60, gv60, h⟩ := px_bs h
  refine ev_aI dX13_writeOthers_5 gv60 ?_
  refine EV.istore [(4, .int v60), (0, .ref a0), (1, .int a1), (2, .int a2), (3, .int a3)] dX13_writeOthers_6 (by decide) rfl ?_
  refine EV.aload_n 1 dX13_writeOthers_8 rfl rfl ?_
  obtain ⟨v61, gv61, h⟩ := px_bs h
  refine ev_gI dX13_writeOthers_9 flRX13_106 gv61 ?_
  refine EV.if_le 19 dX13_writeOthers_12 (by decide) (fun c62 => ?_) (fun c62 => ?_)
  · rw [if_pos c62] at h
    refine EV.iconst (0) dX13_writeOthers_19 (by decide) ?_
    refine EV.sub [1, 2, 3, 4, 0] rfl ?_
    exact eX13_writeOthers_20  _ _ _ _ _ _ _ _ h
  · rw [if_neg c62] at h
    refine EV.iconst (1) dX13_writeOthers_15 (by decide) ?_
    refine EV.goto 20 dX13_writeOthers_16 (by decide) ?_
    refine EV.sub [1, 2, 3, 4, 0] rfl ?_
    exact eX13_writeOthers_20  _ _ _ _ _ _ _ _ h
/-! WavePicturesModel$Scans.amount(III)I -/
theorem dX13_amount_0 : decode cX13_amount 0 = .ok (.aload_n 0, 1) := by decide +kernel
theorem dX13_amount_1 : decode cX13_amount 1 = .ok (.getfield 33, 3) := by decide +kernel
theorem dX13_amount_4 : decode cX13_amount 4 = .ok (.bipush 64, 2) := by decide +kernel
theorem dX13_amount_6 : decode cX13_amount 6 = .ok (.aload_n 0, 1) := by decide +kernel
theorem dX13_amount_7 : decode cX13_amount 7 = .ok (.getfield 30, 3) := by decide +kernel
theorem dX13_amount_10 : decode cX13_amount 10 = .ok (.iload_n 1, 1) := by decide +kernel
theorem dX13_amount_11 : decode cX13_amount 11 = .ok (.iaload, 1) := by decide +kernel
theorem dX13_amount_12 : decode cX13_amount 12 = .ok (.iload_n 2, 1) := by decide +kernel
theorem dX13_amount_13 : decode cX13_amount 13 = .ok (.iadd, 1) := by decide +kernel
theorem dX13_amount_14 : decode cX13_amount 14 = .ok (.imul, 1) := by decide +kernel
theorem dX13_amount_15 : decode cX13_amount 15 = .ok (.iload_n 3, 1) := by decide +kernel
theorem dX13_amount_16 : decode cX13_amount 16 = .ok (.iadd, 1) := by decide +kernel
theorem dX13_amount_17 : decode cX13_amount 17 = .ok (.saload, 1) := by decide +kernel
theorem dX13_amount_18 : decode cX13_amount 18 = .ok (.istore 4, 2) := by decide +kernel
theorem dX13_amount_20 : decode cX13_amount 20 = .ok (.iload 4, 2) := by decide +kernel
theorem dX13_amount_22 : decode cX13_amount 22 = .ok (.ifCond .ge 9, 3) := by decide +kernel
theorem dX13_amount_25 : decode cX13_amount 25 = .ok (.iload 4, 2) := by decide +kernel
theorem dX13_amount_27 : decode cX13_amount 27 = .ok (.ineg, 1) := by decide +kernel
theorem dX13_amount_28 : decode cX13_amount 28 = .ok (.goto 5, 3) := by decide +kernel
theorem dX13_amount_31 : decode cX13_amount 31 = .ok (.iload 4, 2) := by decide +kernel
theorem dX13_amount_33 : decode cX13_amount 33 = .ok (.aload_n 0, 1) := by decide +kernel
theorem dX13_amount_34 : decode cX13_amount 34 = .ok (.getfield 115, 3) := by decide +kernel
theorem dX13_amount_37 : decode cX13_amount 37 = .ok (.ishr, 1) := by decide +kernel
theorem dX13_amount_38 : decode cX13_amount 38 = .ok (.ireturn, 1) := by decide +kernel
set_option maxRecDepth 100000 in
set_option maxHeartbeats 4000000 in
theorem eX13_amount_33 {X : px_X}  : ∀ (a0 : Nat) (s0 : Int32) (w : px_W) (q : Int32 × px_W), fX13_amount_33 X  a0 s0 w = some q → EV X mX13_amount 33 [(0, .ref a0)] [.int s0] w (some (.int q.1)) q.2 := by
  intro a0 s0 w q h
  unfold fX13_amount_33 at h
  refine EV.aload_n 0 dX13_amount_33 rfl rfl ?_
  obtain ⟨v6, gv6, h⟩ := px_bs h
  refine ev_gI dX13_amount_34 flRX13_115 gv6 ?_
  refine EV.ishr dX13_amount_37 ?_
  cases h
  exact EV.reti dX13_amount_38 rfl
set_option maxRecDepth 100000 in
set_option maxHeartbeats 4000000 in
theorem eX13_amount {X : px_X} {w : px_W} {a0 : Nat} {a1 : Int32} {a2 : Int32} {a3 : Int32} {q : Int32 × px_W} (h : fX13_amount X w a0 a1 a2 a3 = some q) : EV X mX13_amount 0 (lv_args 0 [.ref a0, .int a1, .int a2, .int a3]) [] w (some (.int q.1)) q.2 := by
  unfold fX13_amount at h
  show EV X mX13_amount 0 [(0, .ref a0), (1, .int a1), (2, .int a2), (3, .int a3)] [] w (some (.int q.1)) q.2
  refine EV.aload_n 0 dX13_amount_0 rfl rfl ?_
  obtain ⟨v7, gv7, h⟩ := px_bs h
  refine ev_gR dX13_amount_1 flRX13_33 gv7 ?_
  refine EV.bipush (64) dX13_amount_4 (by decide) ?_
  refine EV.aload_n 0 dX13_amount_6 rfl rfl ?_
  obtain ⟨v8, gv8, h⟩ := px_bs h
  refine ev_gR dX13_amount_7 flRX13_30 gv8 ?_
  refine EV.iload_n 1 dX13_amount_10 rfl rfl ?_
  obtain ⟨v9, gv9, h⟩ := px_bs h
  refine ev_aI dX13_amount_11 gv9 ?_
  refine EV.iload_n 2 dX13_amount_12 rfl rfl ?_
  refine EV.iadd dX13_amount_13 ?_
  refine EV.imul dX13_amount_14 ?_
  refine EV.iload_n 3 dX13_amount_15 rfl rfl ?_
  refine EV.iadd dX13_amount_16 ?_
  obtain ⟨v10, gv10, h⟩ := px_bs h
  refine ev_aS dX13_amount_17 gv10 ?_
  refine EV.istore [(4, .int v10), (0, .ref a0), (1, .int a1), (2, .int a2), (3, .int a3)] dX13_amount_18 (by decide) rfl ?_
  refine EV.iload 0 dX13_amount_20 rfl ?_
  refine EV.if_ge 31 dX13_amount_22 (by decide) (fun c11 => ?_) (fun c11 => ?_)
  · rw [if_pos c11] at h
    refine EV.iload 0 dX13_amount_31 rfl ?_
    refine EV.sub [1] rfl ?_
    exact eX13_amount_33  _ _ _ _ h
  · rw [if_neg c11] at h
    refine EV.iload 0 dX13_amount_25 rfl ?_
    refine EV.ineg dX13_amount_27 ?_
    refine EV.goto 33 dX13_amount_28 (by decide) ?_
    refine EV.sub [1] rfl ?_
    exact eX13_amount_33  _ _ _ _ h
/-! WavePicturesModel$Scans.writeMore(II)V -/
theorem dX13_writeMore_0 : decode cX13_writeMore 0 = .ok (.aload_n 0, 1) := by decide +kernel
theorem dX13_writeMore_1 : decode cX13_writeMore 1 = .ok (.getfield 58, 3) := by decide +kernel
theorem dX13_writeMore_4 : decode cX13_writeMore 4 = .ok (.iload_n 1, 1) := by decide +kernel
theorem dX13_writeMore_5 : decode cX13_writeMore 5 = .ok (.iaload, 1) := by decide +kernel
theorem dX13_writeMore_6 : decode cX13_writeMore 6 = .ok (.istore_n 3, 1) := by decide +kernel
theorem dX13_writeMore_7 : decode cX13_writeMore 7 = .ok (.iconst (-1), 1) := by decide +kernel
theorem dX13_writeMore_8 : decode cX13_writeMore 8 = .ok (.istore 4, 2) := by decide +kernel
theorem dX13_writeMore_10 : decode cX13_writeMore 10 = .ok (.aload_n 0, 1) := by decide +kernel
theorem dX13_writeMore_11 : decode cX13_writeMore 11 = .ok (.getfield 106, 3) := by decide +kernel
theorem dX13_writeMore_14 : decode cX13_writeMore 14 = .ok (.istore 5, 2) := by decide +kernel
theorem dX13_writeMore_16 : decode cX13_writeMore 16 = .ok (.iload 5, 2) := by decide +kernel
theorem dX13_writeMore_18 : decode cX13_writeMore 18 = .ok (.aload_n 0, 1) := by decide +kernel
theorem dX13_writeMore_19 : decode cX13_writeMore 19 = .ok (.getfield 109, 3) := by decide +kernel
theorem dX13_writeMore_22 : decode cX13_writeMore 22 = .ok (.if_icmp .gt 30, 3) := by decide +kernel
theorem dX13_writeMore_25 : decode cX13_writeMore 25 = .ok (.aload_n 0, 1) := by decide +kernel
theorem dX13_writeMore_26 : decode cX13_writeMore 26 = .ok (.iload_n 1, 1) := by decide +kernel
theorem dX13_writeMore_27 : decode cX13_writeMore 27 = .ok (.iload_n 2, 1) := by decide +kernel
theorem dX13_writeMore_28 : decode cX13_writeMore 28 = .ok (.iload 5, 2) := by decide +kernel
theorem dX13_writeMore_30 : decode cX13_writeMore 30 = .ok (.invokevirtual 198, 3) := by decide +kernel
theorem dX13_writeMore_33 : decode cX13_writeMore 33 = .ok (.iconst 1, 1) := by decide +kernel
theorem dX13_writeMore_34 : decode cX13_writeMore 34 = .ok (.if_icmp .ne 8, 3) := by decide +kernel
theorem dX13_writeMore_37 : decode cX13_writeMore 37 = .ok (.iload 5, 2) := by decide +kernel
theorem dX13_writeMore_39 : decode cX13_writeMore 39 = .ok (.goto 5, 3) := by decide +kernel
theorem dX13_writeMore_42 : decode cX13_writeMore 42 = .ok (.iload 4, 2) := by decide +kernel
theorem dX13_writeMore_44 : decode cX13_writeMore 44 = .ok (.istore 4, 2) := by decide +kernel
theorem dX13_writeMore_46 : decode cX13_writeMore 46 = .ok (.iinc 5 1, 3) := by decide +kernel
theorem dX13_writeMore_49 : decode cX13_writeMore 49 = .ok (.goto (-33), 3) := by decide +kernel
theorem dX13_writeMore_52 : decode cX13_writeMore 52 = .ok (.iconst 0, 1) := by decide +kernel
theorem dX13_writeMore_53 : decode cX13_writeMore 53 = .ok (.istore 5, 2) := by decide +kernel
theorem dX13_writeMore_55 : decode cX13_writeMore 55 = .ok (.aload_n 0, 1) := by decide +kernel
theorem dX13_writeMore_56 : decode cX13_writeMore 56 = .ok (.iconst 0, 1) := by decide +kernel
theorem dX13_writeMore_57 : decode cX13_writeMore 57 = .ok (.putfield 186, 3) := by decide +kernel
theorem dX13_writeMore_60 : decode cX13_writeMore 60 = .ok (.aload_n 0, 1) := by decide +kernel
theorem dX13_writeMore_61 : decode cX13_writeMore 61 = .ok (.getfield 106, 3) := by decide +kernel
theorem dX13_writeMore_64 : decode cX13_writeMore 64 = .ok (.istore 6, 2) := by decide +kernel
theorem dX13_writeMore_66 : decode cX13_writeMore 66 = .ok (.iload 6, 2) := by decide +kernel
theorem dX13_writeMore_68 : decode cX13_writeMore 68 = .ok (.aload_n 0, 1) := by decide +kernel
theorem dX13_writeMore_69 : decode cX13_writeMore 69 = .ok (.getfield 109, 3) := by decide +kernel
theorem dX13_writeMore_72 : decode cX13_writeMore 72 = .ok (.if_icmp .gt 155, 3) := by decide +kernel
theorem dX13_writeMore_75 : decode cX13_writeMore 75 = .ok (.aload_n 0, 1) := by decide +kernel
theorem dX13_writeMore_76 : decode cX13_writeMore 76 = .ok (.iload_n 1, 1) := by decide +kernel
theorem dX13_writeMore_77 : decode cX13_writeMore 77 = .ok (.iload_n 2, 1) := by decide +kernel
theorem dX13_writeMore_78 : decode cX13_writeMore 78 = .ok (.iload 6, 2) := by decide +kernel
theorem dX13_writeMore_80 : decode cX13_writeMore 80 = .ok (.invokevirtual 198, 3) := by decide +kernel
theorem dX13_writeMore_83 : decode cX13_writeMore 83 = .ok (.istore 7, 2) := by decide +kernel
theorem dX13_writeMore_85 : decode cX13_writeMore 85 = .ok (.iload 7, 2) := by decide +kernel
theorem dX13_writeMore_87 : decode cX13_writeMore 87 = .ok (.ifCond .ne 9, 3) := by decide +kernel
theorem dX13_writeMore_90 : decode cX13_writeMore 90 = .ok (.iinc 5 1, 3) := by decide +kernel
theorem dX13_writeMore_93 : decode cX13_writeMore 93 = .ok (.goto 128, 3) := by decide +kernel
theorem dX13_writeMore_96 : decode cX13_writeMore 96 = .ok (.iload 5, 2) := by decide +kernel
theorem dX13_writeMore_98 : decode cX13_writeMore 98 = .ok (.bipush 15, 2) := by decide +kernel
theorem dX13_writeMore_100 : decode cX13_writeMore 100 = .ok (.if_icmp .le 33, 3) := by decide +kernel
theorem dX13_writeMore_103 : decode cX13_writeMore 103 = .ok (.iload 6, 2) := by decide +kernel
theorem dX13_writeMore_105 : decode cX13_writeMore 105 = .ok (.iload 4, 2) := by decide +kernel
theorem dX13_writeMore_107 : decode cX13_writeMore 107 = .ok (.if_icmp .gt 26, 3) := by decide +kernel
theorem dX13_writeMore_110 : decode cX13_writeMore 110 = .ok (.aload_n 0, 1) := by decide +kernel
theorem dX13_writeMore_111 : decode cX13_writeMore 111 = .ok (.iload_n 3, 1) := by decide +kernel
theorem dX13_writeMore_112 : decode cX13_writeMore 112 = .ok (.invokevirtual 195, 3) := by decide +kernel
theorem dX13_writeMore_115 : decode cX13_writeMore 115 = .ok (.aload_n 0, 1) := by decide +kernel
theorem dX13_writeMore_116 : decode cX13_writeMore 116 = .ok (.iload_n 3, 1) := by decide +kernel
theorem dX13_writeMore_117 : decode cX13_writeMore 117 = .ok (.sipush 240, 3) := by decide +kernel
theorem dX13_writeMore_120 : decode cX13_writeMore 120 = .ok (.invokevirtual 180, 3) := by decide +kernel
theorem dX13_writeMore_123 : decode cX13_writeMore 123 = .ok (.aload_n 0, 1) := by decide +kernel
theorem dX13_writeMore_124 : decode cX13_writeMore 124 = .ok (.invokevirtual 202, 3) := by decide +kernel
theorem dX13_writeMore_127 : decode cX13_writeMore 127 = .ok (.iinc 5 (-16), 3) := by decide +kernel
theorem dX13_writeMore_130 : decode cX13_writeMore 130 = .ok (.goto (-34), 3) := by decide +kernel
theorem dX13_writeMore_133 : decode cX13_writeMore 133 = .ok (.iload 7, 2) := by decide +kernel
theorem dX13_writeMore_135 : decode cX13_writeMore 135 = .ok (.iconst 1, 1) := by decide +kernel
theorem dX13_writeMore_136 : decode cX13_writeMore 136 = .ok (.if_icmp .le 30, 3) := by decide +kernel
theorem dX13_writeMore_139 : decode cX13_writeMore 139 = .ok (.aload_n 0, 1) := by decide +kernel
theorem dX13_writeMore_140 : decode cX13_writeMore 140 = .ok (.getfield 77, 3) := by decide +kernel
theorem dX13_writeMore_143 : decode cX13_writeMore 143 = .ok (.aload_n 0, 1) := by decide +kernel
theorem dX13_writeMore_144 : decode cX13_writeMore 144 = .ok (.getfield 186, 3) := by decide +kernel
theorem dX13_writeMore_147 : decode cX13_writeMore 147 = .ok (.iload 7, 2) := by decide +kernel
theorem dX13_writeMore_149 : decode cX13_writeMore 149 = .ok (.iconst 1, 1) := by decide +kernel
theorem dX13_writeMore_150 : decode cX13_writeMore 150 = .ok (.iand, 1) := by decide +kernel
theorem dX13_writeMore_151 : decode cX13_writeMore 151 = .ok (.i2b, 1) := by decide +kernel
theorem dX13_writeMore_152 : decode cX13_writeMore 152 = .ok (.bastore, 1) := by decide +kernel
theorem dX13_writeMore_153 : decode cX13_writeMore 153 = .ok (.aload_n 0, 1) := by decide +kernel
theorem dX13_writeMore_154 : decode cX13_writeMore 154 = .ok (.dup, 1) := by decide +kernel
theorem dX13_writeMore_155 : decode cX13_writeMore 155 = .ok (.getfield 186, 3) := by decide +kernel
theorem dX13_writeMore_158 : decode cX13_writeMore 158 = .ok (.iconst 1, 1) := by decide +kernel
theorem dX13_writeMore_159 : decode cX13_writeMore 159 = .ok (.iadd, 1) := by decide +kernel
theorem dX13_writeMore_160 : decode cX13_writeMore 160 = .ok (.putfield 186, 3) := by decide +kernel
theorem dX13_writeMore_163 : decode cX13_writeMore 163 = .ok (.goto 58, 3) := by decide +kernel
theorem dX13_writeMore_166 : decode cX13_writeMore 166 = .ok (.aload_n 0, 1) := by decide +kernel
theorem dX13_writeMore_167 : decode cX13_writeMore 167 = .ok (.iload_n 3, 1) := by decide +kernel
theorem dX13_writeMore_168 : decode cX13_writeMore 168 = .ok (.invokevirtual 195, 3) := by decide +kernel
theorem dX13_writeMore_171 : decode cX13_writeMore 171 = .ok (.aload_n 0, 1) := by decide +kernel
theorem dX13_writeMore_172 : decode cX13_writeMore 172 = .ok (.iload_n 3, 1) := by decide +kernel
theorem dX13_writeMore_173 : decode cX13_writeMore 173 = .ok (.bipush 16, 2) := by decide +kernel
theorem dX13_writeMore_175 : decode cX13_writeMore 175 = .ok (.iload 5, 2) := by decide +kernel
theorem dX13_writeMore_177 : decode cX13_writeMore 177 = .ok (.imul, 1) := by decide +kernel
theorem dX13_writeMore_178 : decode cX13_writeMore 178 = .ok (.iconst 1, 1) := by decide +kernel
theorem dX13_writeMore_179 : decode cX13_writeMore 179 = .ok (.iadd, 1) := by decide +kernel
theorem dX13_writeMore_180 : decode cX13_writeMore 180 = .ok (.invokevirtual 180, 3) := by decide +kernel
theorem dX13_writeMore_183 : decode cX13_writeMore 183 = .ok (.aload_n 0, 1) := by decide +kernel
theorem dX13_writeMore_184 : decode cX13_writeMore 184 = .ok (.aload_n 0, 1) := by decide +kernel
theorem dX13_writeMore_185 : decode cX13_writeMore 185 = .ok (.getfield 33, 3) := by decide +kernel
theorem dX13_writeMore_188 : decode cX13_writeMore 188 = .ok (.bipush 64, 2) := by decide +kernel
theorem dX13_writeMore_190 : decode cX13_writeMore 190 = .ok (.aload_n 0, 1) := by decide +kernel
theorem dX13_writeMore_191 : decode cX13_writeMore 191 = .ok (.getfield 30, 3) := by decide +kernel
theorem dX13_writeMore_194 : decode cX13_writeMore 194 = .ok (.iload_n 1, 1) := by decide +kernel
theorem dX13_writeMore_195 : decode cX13_writeMore 195 = .ok (.iaload, 1) := by decide +kernel
theorem dX13_writeMore_196 : decode cX13_writeMore 196 = .ok (.iload_n 2, 1) := by decide +kernel
theorem dX13_writeMore_197 : decode cX13_writeMore 197 = .ok (.iadd, 1) := by decide +kernel
theorem dX13_writeMore_198 : decode cX13_writeMore 198 = .ok (.imul, 1) := by decide +kernel
theorem dX13_writeMore_199 : decode cX13_writeMore 199 = .ok (.iload 6, 2) := by decide +kernel
theorem dX13_writeMore_201 : decode cX13_writeMore 201 = .ok (.iadd, 1) := by decide +kernel
theorem dX13_writeMore_202 : decode cX13_writeMore 202 = .ok (.saload, 1) := by decide +kernel
theorem dX13_writeMore_203 : decode cX13_writeMore 203 = .ok (.ifCond .ge 7, 3) := by decide +kernel
theorem dX13_writeMore_206 : decode cX13_writeMore 206 = .ok (.iconst 0, 1) := by decide +kernel
theorem dX13_writeMore_207 : decode cX13_writeMore 207 = .ok (.goto 4, 3) := by decide +kernel
theorem dX13_writeMore_210 : decode cX13_writeMore 210 = .ok (.iconst 1, 1) := by decide +kernel
theorem dX13_writeMore_211 : decode cX13_writeMore 211 = .ok (.invokevirtual 167, 3) := by decide +kernel
theorem dX13_writeMore_214 : decode cX13_writeMore 214 = .ok (.aload_n 0, 1) := by decide +kernel
theorem dX13_writeMore_215 : decode cX13_writeMore 215 = .ok (.invokevirtual 202, 3) := by decide +kernel
theorem dX13_writeMore_218 : decode cX13_writeMore 218 = .ok (.iconst 0, 1) := by decide +kernel
theorem dX13_writeMore_219 : decode cX13_writeMore 219 = .ok (.istore 5, 2) := by decide +kernel
theorem dX13_writeMore_221 : decode cX13_writeMore 221 = .ok (.iinc 6 1, 3) := by decide +kernel
theorem dX13_writeMore_224 : decode cX13_writeMore 224 = .ok (.goto (-158), 3) := by decide +kernel
theorem dX13_writeMore_227 : decode cX13_writeMore 227 = .ok (.iload 5, 2) := by decide +kernel
theorem dX13_writeMore_229 : decode cX13_writeMore 229 = .ok (.ifCond .gt 10, 3) := by decide +kernel
theorem dX13_writeMore_232 : decode cX13_writeMore 232 = .ok (.aload_n 0, 1) := by decide +kernel
theorem dX13_writeMore_233 : decode cX13_writeMore 233 = .ok (.getfield 186, 3) := by decide +kernel
theorem dX13_writeMore_236 : decode cX13_writeMore 236 = .ok (.ifCond .le 87, 3) := by decide +kernel
theorem dX13_writeMore_239 : decode cX13_writeMore 239 = .ok (.aload_n 0, 1) := by decide +kernel
theorem dX13_writeMore_240 : decode cX13_writeMore 240 = .ok (.dup, 1) := by decide +kernel
theorem dX13_writeMore_241 : decode cX13_writeMore 241 = .ok (.getfield 177, 3) := by decide +kernel
theorem dX13_writeMore_244 : decode cX13_writeMore 244 = .ok (.iconst 1, 1) := by decide +kernel
theorem dX13_writeMore_245 : decode cX13_writeMore 245 = .ok (.iadd, 1) := by decide +kernel
theorem dX13_writeMore_246 : decode cX13_writeMore 246 = .ok (.putfield 177, 3) := by decide +kernel
theorem dX13_writeMore_249 : decode cX13_writeMore 249 = .ok (.iconst 0, 1) := by decide +kernel
theorem dX13_writeMore_250 : decode cX13_writeMore 250 = .ok (.istore 6, 2) := by decide +kernel
theorem dX13_writeMore_252 : decode cX13_writeMore 252 = .ok (.iload 6, 2) := by decide +kernel
theorem dX13_writeMore_254 : decode cX13_writeMore 254 = .ok (.aload_n 0, 1) := by decide +kernel
theorem dX13_writeMore_255 : decode cX13_writeMore 255 = .ok (.getfield 186, 3) := by decide +kernel
theorem dX13_writeMore_258 : decode cX13_writeMore 258 = .ok (.if_icmp .ge 35, 3) := by decide +kernel
theorem dX13_writeMore_261 : decode cX13_writeMore 261 = .ok (.aload_n 0, 1) := by decide +kernel
theorem dX13_writeMore_262 : decode cX13_writeMore 262 = .ok (.getfield 74, 3) := by decide +kernel
theorem dX13_writeMore_265 : decode cX13_writeMore 265 = .ok (.aload_n 0, 1) := by decide +kernel
theorem dX13_writeMore_266 : decode cX13_writeMore 266 = .ok (.getfield 183, 3) := by decide +kernel
theorem dX13_writeMore_269 : decode cX13_writeMore 269 = .ok (.aload_n 0, 1) := by decide +kernel
theorem dX13_writeMore_270 : decode cX13_writeMore 270 = .ok (.getfield 77, 3) := by decide +kernel
theorem dX13_writeMore_273 : decode cX13_writeMore 273 = .ok (.iload 6, 2) := by decide +kernel
theorem dX13_writeMore_275 : decode cX13_writeMore 275 = .ok (.baload, 1) := by decide +kernel
theorem dX13_writeMore_276 : decode cX13_writeMore 276 = .ok (.bastore, 1) := by decide +kernel
theorem dX13_writeMore_277 : decode cX13_writeMore 277 = .ok (.aload_n 0, 1) := by decide +kernel
theorem dX13_writeMore_278 : decode cX13_writeMore 278 = .ok (.dup, 1) := by decide +kernel
theorem dX13_writeMore_279 : decode cX13_writeMore 279 = .ok (.getfield 183, 3) := by decide +kernel
theorem dX13_writeMore_282 : decode cX13_writeMore 282 = .ok (.iconst 1, 1) := by decide +kernel
theorem dX13_writeMore_283 : decode cX13_writeMore 283 = .ok (.iadd, 1) := by decide +kernel
theorem dX13_writeMore_284 : decode cX13_writeMore 284 = .ok (.putfield 183, 3) := by decide +kernel
theorem dX13_writeMore_287 : decode cX13_writeMore 287 = .ok (.iinc 6 1, 3) := by decide +kernel
theorem dX13_writeMore_290 : decode cX13_writeMore 290 = .ok (.goto (-38), 3) := by decide +kernel
theorem dX13_writeMore_293 : decode cX13_writeMore 293 = .ok (.aload_n 0, 1) := by decide +kernel
theorem dX13_writeMore_294 : decode cX13_writeMore 294 = .ok (.iconst 0, 1) := by decide +kernel
theorem dX13_writeMore_295 : decode cX13_writeMore 295 = .ok (.putfield 186, 3) := by decide +kernel
theorem dX13_writeMore_298 : decode cX13_writeMore 298 = .ok (.aload_n 0, 1) := by decide +kernel
theorem dX13_writeMore_299 : decode cX13_writeMore 299 = .ok (.getfield 177, 3) := by decide +kernel
theorem dX13_writeMore_302 : decode cX13_writeMore 302 = .ok (.sipush 32767, 3) := by decide +kernel
theorem dX13_writeMore_305 : decode cX13_writeMore 305 = .ok (.if_icmp .eq 13, 3) := by decide +kernel
theorem dX13_writeMore_308 : decode cX13_writeMore 308 = .ok (.aload_n 0, 1) := by decide +kernel
theorem dX13_writeMore_309 : decode cX13_writeMore 309 = .ok (.getfield 183, 3) := by decide +kernel
theorem dX13_writeMore_312 : decode cX13_writeMore 312 = .ok (.sipush 900, 3) := by decide +kernel
theorem dX13_writeMore_315 : decode cX13_writeMore 315 = .ok (.if_icmp .le 8, 3) := by decide +kernel
theorem dX13_writeMore_318 : decode cX13_writeMore 318 = .ok (.aload_n 0, 1) := by decide +kernel
theorem dX13_writeMore_319 : decode cX13_writeMore 319 = .ok (.iload_n 3, 1) := by decide +kernel
theorem dX13_writeMore_320 : decode cX13_writeMore 320 = .ok (.invokevirtual 195, 3) := by decide +kernel
theorem dX13_writeMore_323 : decode cX13_writeMore 323 = .ok (.return_, 1) := by decide +kernel
theorem kcX13_writeMore_167 : px_cV mX13_writeMore 167 mX13_bit 1 := ⟨⟨mbX13_bit, by decide, by decide⟩, Or.inl (tb9 (List.mem_of_getElem? (i := 174) rfl)), vbX13_bit⟩
theorem kcX13_writeMore_180 : px_cV mX13_writeMore 180 mX13_word 2 := ⟨⟨mbX13_word, by decide, by decide⟩, Or.inl (tb9 (List.mem_of_getElem? (i := 166) rfl)), vbX13_word⟩
theorem kcX13_writeMore_195 : px_cV mX13_writeMore 195 mX13_sendRun 1 := ⟨⟨mbX13_sendRun, by decide, by decide⟩, Or.inl (tb9 (List.mem_of_getElem? (i := 159) rfl)), vbX13_sendRun⟩
theorem mbX13_amount : px_mB mX13_amount 3 := ⟨tb9 (List.mem_of_getElem? (i := 212) rfl), by decide +kernel, tb1 (List.mem_of_getElem? (i := 15) rfl), by decide +kernel, by decide +kernel⟩
theorem vbX13_amount : px_vB mX13_amount := ⟨tb9 (List.mem_of_getElem? (i := 211) rfl), List.mem_append_left _ (List.mem_of_getElem? (i := 153) (by decide +kernel))⟩
theorem kcX13_writeMore_198 : px_cV mX13_writeMore 198 mX13_amount 3 := ⟨⟨mbX13_amount, by decide, by decide⟩, Or.inl (tb9 (List.mem_of_getElem? (i := 209) rfl)), vbX13_amount⟩
theorem mbX13_sendComing : px_mB mX13_sendComing 0 := ⟨tb9 (List.mem_of_getElem? (i := 216) rfl), by decide +kernel, tb1 (List.mem_of_getElem? (i := 15) rfl), by decide +kernel, by decide +kernel⟩
theorem vbX13_sendComing : px_vB mX13_sendComing := ⟨tb9 (List.mem_of_getElem? (i := 215) rfl), List.mem_append_left _ (List.mem_of_getElem? (i := 154) (by decide +kernel))⟩
theorem kcX13_writeMore_202 : px_cV mX13_writeMore 202 mX13_sendComing 0 := ⟨⟨mbX13_sendComing, by decide, by decide⟩, Or.inl (tb9 (List.mem_of_getElem? (i := 213) rfl)), vbX13_sendComing⟩
set_option maxRecDepth 100000 in
set_option maxHeartbeats 4000000 in
theorem eX13_writeMore_221 {X : px_X} {k66 : Nat → Int32 → Int32 → Int32 → Int32 → Int32 → Int32 → px_W → Option (px_W)} (hk66 : ∀ (a0 : Nat) (a1 : Int32) (a2 : Int32) (a3 : Int32) (a4 : Int32) (a5 : Int32) (a6 : Int32) (w : px_W) (q : px_W), k66 a0 a1 a2 a3 a4 a5 a6 w = some q → EV X mX13_writeMore 66 [(0, .ref a0), (1, .int a1), (2, .int a2), (3, .int a3), (4, .int a4), (5, .int a5), (6, .int a6)] [] w none q) : ∀ (a0 : Nat) (a1 : Int32) (a2 : Int32) (a3 : Int32) (a4 : Int32) (a5 : Int32) (a6 : Int32) (w : px_W) (q : px_W), fX13_writeMore_221 X k66 a0 a1 a2 a3 a4 a5 a6 w = some q → EV X mX13_writeMore 221 [(0, .ref a0), (1, .int a1), (2, .int a2), (3, .int a3), (4, .int a4), (5, .int a5), (6, .int a6)] [] w none q := by
  intro a0 a1 a2 a3 a4 a5 a6 w q h
  unfold fX13_writeMore_221 at h
  refine EV.iinc 6 (a6 + 1) [(6, .int (a6 + 1)), (0, .ref a0), (1, .int a1), (2, .int a2), (3, .int a3), (4, .int a4), (5, .int a5)] dX13_writeMore_221 rfl rfl (by decide) rfl ?_
  refine EV.goto 66 dX13_writeMore_224 (by decide) ?_
  refine EV.sub [1, 2, 3, 4, 5, 6, 0] rfl ?_
  exact hk66 _ _ _ _ _ _ _ _ _ h
set_option maxRecDepth 100000 in
set_option maxHeartbeats 4000000 in
theorem eX13_writeMore_211 {X : px_X} {k66 : Nat → Int32 → Int32 → Int32 → Int32 → Int32 → Int32 → px_W → Option (px_W)} (hk66 : ∀ (a0 : Nat) (a1 : Int32) (a2 : Int32) (a3 : Int32) (a4 : Int32) (a5 : Int32) (a6 : Int32) (w : px_W) (q : px_W), k66 a0 a1 a2 a3 a4 a5 a6 w = some q → EV X mX13_writeMore 66 [(0, .ref a0), (1, .int a1), (2, .int a2), (3, .int a3), (4, .int a4), (5, .int a5), (6, .int a6)] [] w none q) : ∀ (a0 : Nat) (a1 : Int32) (a2 : Int32) (a3 : Int32) (a4 : Int32) (a6 : Int32) (s0 : Int32) (s1 : Nat) (w : px_W) (q : px_W), fX13_writeMore_211 X k66 a0 a1 a2 a3 a4 a6 s0 s1 w = some q → EV X mX13_writeMore 211 [(0, .ref a0), (1, .int a1), (2, .int a2), (3, .int a3), (4, .int a4), (6, .int a6)] [.int s0, .ref s1] w none q := by
  intro a0 a1 a2 a3 a4 a6 s0 s1 w q h
  unfold fX13_writeMore_211 at h
  obtain ⟨o51, go51, h⟩ := px_bs h
  obtain ⟨q52, gq52, h⟩ := px_bs h
  refine EV.callV (As := [.int s0]) (rest := []) dX13_writeMore_211 kcX13_writeMore_167 (gO_ok go51) rfl rfl rfl (Nat.le_of_ble_eq_true rfl) (Nat.le_of_ble_eq_true rfl) (eX13_bit gq52) ?_
  refine EV.aload_n 0 dX13_writeMore_214 rfl rfl ?_
  obtain ⟨o53, go53, h⟩ := px_bs h
  obtain ⟨q54, gq54, h⟩ := px_bs h
  refine EV.callV (As := []) (rest := []) dX13_writeMore_215 kcX13_writeMore_202 (gO_ok go53) rfl rfl rfl (Nat.le_of_ble_eq_true rfl) (Nat.le_of_ble_eq_true rfl) (eX13_sendComing gq54) ?_
  refine EV.iconst (0) dX13_writeMore_218 (by decide) ?_
  refine EV.istore [(5, .int 0), (0, .ref a0), (1, .int a1), (2, .int a2), (3, .int a3), (4, .int a4), (6, .int a6)] dX13_writeMore_219 (by decide) rfl ?_
  refine EV.sub [1, 2, 3, 4, 5, 0, 6] rfl ?_
  exact eX13_writeMore_221 hk66 _ _ _ _ _ _ _ _ _ h
set_option maxRecDepth 100000 in
set_option maxHeartbeats 4000000 in
theorem eX13_writeMore_133 {X : px_X} {k66 : Nat → Int32 → Int32 → Int32 → Int32 → Int32 → Int32 → px_W → Option (px_W)} (hk66 : ∀ (a0 : Nat) (a1 : Int32) (a2 : Int32) (a3 : Int32) (a4 : Int32) (a5 : Int32) (a6 : Int32) (w : px_W) (q : px_W), k66 a0 a1 a2 a3 a4 a5 a6 w = some q → EV X mX13_writeMore 66 [(0, .ref a0), (1, .int a1), (2, .int a2), (3, .int a3), (4, .int a4), (5, .int a5), (6, .int a6)] [] w none q) : ∀ (a0 : Nat) (a1 : Int32) (a2 : Int32) (a3 : Int32) (a4 : Int32) (a5 : Int32) (a6 : Int32) (a7 : Int32) (w : px_W) (q : px_W), fX13_writeMore_133 X k66 a0 a1 a2 a3 a4 a5 a6 a7 w = some q → EV X mX13_writeMore 133 [(0, .ref a0), (1, .int a1), (2, .int a2), (3, .int a3), (4, .int a4), (5, .int a5), (6, .int a6), (7, .int a7)] [] w none q := by
  intro a0 a1 a2 a3 a4 a5 a6 a7 w q h
  unfold fX13_writeMore_133 at h
  refine EV.iload 7 dX13_writeMore_133 rfl ?_
  refine EV.iconst (1) dX13_writeMore_135 (by decide) ?_
  refine EV.icmp_le 166 dX13_writeMore_136 (by decide) (fun c55 => ?_) (fun c55 => ?_)
  · rw [if_pos c55] at h
    refine EV.aload_n 0 dX13_writeMore_166 rfl rfl ?_
    refine EV.iload_n 3 dX13_writeMore_167 rfl rfl ?_
    obtain ⟨o56, go56, h⟩ := px_bs h
    obtain ⟨q57, gq57, h⟩ := px_bs h
    refine EV.callV (As := [.int a3]) (rest := []) dX13_writeMore_168 kcX13_writeMore_195 (gO_ok go56) rfl rfl rfl (Nat.le_of_ble_eq_true rfl) (Nat.le_of_ble_eq_true rfl) (eX13_sendRun gq57) ?_
    refine EV.aload_n 0 dX13_writeMore_171 rfl rfl ?_
    refine EV.iload_n 3 dX13_writeMore_172 rfl rfl ?_
    refine EV.bipush (16) dX13_writeMore_173 (by decide) ?_
    refine EV.iload 5 dX13_writeMore_175 rfl ?_
    refine EV.imul dX13_writeMore_177 ?_
    refine EV.iconst (1) dX13_writeMore_178 (by decide) ?_
    refine EV.iadd dX13_writeMore_179 ?_
    obtain ⟨o58, go58, h⟩ := px_bs h
    obtain ⟨q59, gq59, h⟩ := px_bs h
    refine EV.callV (As := [.int a3, .int ((16 * a5) + 1)]) (rest := []) dX13_writeMore_180 kcX13_writeMore_180 (gO_ok go58) rfl rfl rfl (Nat.le_of_ble_eq_true rfl) (Nat.le_of_ble_eq_true rfl) (eX13_word gq59) ?_
    refine EV.aload_n 0 dX13_writeMore_183 rfl rfl ?_
    refine EV.aload_n 0 dX13_writeMore_184 rfl rfl ?_
    obtain ⟨v60, gv60, h⟩ := px_bs h
    refine ev_gR dX13_writeMore_185 flRX13_33 gv60 ?_
    refine EV.bipush (64) dX13_writeMore_188 (by decide) ?_
    refine EV.aload_n 0 dX13_writeMore_190 rfl rfl ?_
    obtain ⟨v61, gv61, h⟩ := px_bs h
    refine ev_gR dX13_writeMore_191 flRX13_30 gv61 ?_
    refine EV.iload_n 1 dX13_writeMore_194 rfl rfl ?_
    obtain ⟨v62, gv62, h⟩ := px_bs h
    refine ev_aI dX13_writeMore_195 gv62 ?_
    refine EV.iload_n 2 dX13_writeMore_196 rfl rfl ?_
    refine EV.iadd dX13_writeMore_197 ?_
    refine EV.imul dX13_writeMore_198 ?_
    refine EV.iload 6 dX13_writeMore_199 rfl ?_
    refine EV.iadd dX13_writeMore_201 ?_
    obtain ⟨v63, gv63, h⟩ := px_bs h
    refine ev_aS dX13_writeMore_202 gv63 ?_
    refine EV.if_ge 210 dX13_writeMore_203 (by decide) (fun c64 => ?_) (fun c64 => ?_)
    · rw [if_pos c64] at h
      refine EV.iconst (1) dX13_writeMore_210 (by decide) ?_
      refine EV.sub [0, 1, 2, 3, 4, 6] rfl ?_
      exact eX13_writeMore_211 hk66 _ _ _ _ _ _ _ _ _ _ h
    · rw [if_neg c64] at h
      refine EV.iconst (0) dX13_writeMore_206 (by decide) ?_
      refine EV.goto 211 dX13_writeMore_207 (by decide) ?_
      refine EV.sub [0, 1, 2, 3, 4, 6] rfl ?_
      exact eX13_writeMore_211 hk66 _ _ _ _ _ _ _ _ _ _ h
  · rw [if_neg c55] at h
    refine EV.aload_n 0 dX13_writeMore_139 rfl rfl ?_
    obtain ⟨v65, gv65, h⟩ := px_bs h
    refine ev_gR dX13_writeMore_140 flRX13_77 gv65 ?_
    refine EV.aload_n 0 dX13_writeMore_143 rfl rfl ?_
    obtain ⟨v66, gv66, h⟩ := px_bs h
    refine ev_gI dX13_writeMore_144 flRX13_186 gv66 ?_
    refine EV.iload 7 dX13_writeMore_147 rfl ?_
    refine EV.iconst (1) dX13_writeMore_149 (by decide) ?_
    refine EV.iand dX13_writeMore_150 ?_
    refine EV.i2b dX13_writeMore_151 ?_
    obtain ⟨w67, gw67, h⟩ := px_bs h
    refine ev_sB dX13_writeMore_152 gw67 ?_
    refine EV.aload_n 0 dX13_writeMore_153 rfl rfl ?_
    refine EV.dup dX13_writeMore_154 rfl ?_
    obtain ⟨v68, gv68, h⟩ := px_bs h
    refine ev_gI dX13_writeMore_155 flRX13_186 gv68 ?_
    refine EV.iconst (1) dX13_writeMore_158 (by decide) ?_
    refine EV.iadd dX13_writeMore_159 ?_
    obtain ⟨w69, gw69, h⟩ := px_bs h
    refine ev_pV dX13_writeMore_160 flRX13_186 rfl rfl rfl rfl gw69 ?_
    refine EV.goto 221 dX13_writeMore_163 (by decide) ?_
    refine EV.sub [0, 1, 2, 3, 4, 5, 6] rfl ?_
    exact eX13_writeMore_221 hk66 _ _ _ _ _ _ _ _ _ h
set_option maxRecDepth 100000 in
set_option maxHeartbeats 4000000 in
theorem eX13_writeMore_96 {X : px_X} {k66 : Nat → Int32 → Int32 → Int32 → Int32 → Int32 → Int32 → px_W → Option (px_W)} (hk66 : ∀ (a0 : Nat) (a1 : Int32) (a2 : Int32) (a3 : Int32) (a4 : Int32) (a5 : Int32) (a6 : Int32) (w : px_W) (q : px_W), k66 a0 a1 a2 a3 a4 a5 a6 w = some q → EV X mX13_writeMore 66 [(0, .ref a0), (1, .int a1), (2, .int a2), (3, .int a3), (4, .int a4), (5, .int a5), (6, .int a6)] [] w none q) : ∀ (m : Nat) (a0 : Nat) (a1 : Int32) (a2 : Int32) (a3 : Int32) (a4 : Int32) (a5 : Int32) (a6 : Int32) (a7 : Int32) (w : px_W) (q : px_W), fX13_writeMore_96 X k66 m a0 a1 a2 a3 a4 a5 a6 a7 w = some q → EV X mX13_writeMore 96 [(0, .ref a0), (1, .int a1), (2, .int a2), (3, .int a3), (4, .int a4), (5, .int a5), (6, .int a6), (7, .int a7)] [] w none q := by
  intro m
  induction m with
  | zero => intro a0 a1 a2 a3 a4 a5 a6 a7 w q h; cases h
  | succ m ih =>
    intro a0 a1 a2 a3 a4 a5 a6 a7 w q h
    rw [fX13_writeMore_96.eq_2] at h
    refine EV.iload 5 dX13_writeMore_96 rfl ?_
    refine EV.bipush (15) dX13_writeMore_98 (by decide) ?_
    refine EV.icmp_le 133 dX13_writeMore_100 (by decide) (fun c70 => ?_) (fun c70 => ?_)
    · rw [if_pos c70] at h
      refine EV.sub [0, 1, 2, 3, 4, 5, 6, 7] rfl ?_
      exact eX13_writeMore_133 hk66 _ _ _ _ _ _ _ _ _ _ h
    · rw [if_neg c70] at h
      refine EV.iload 6 dX13_writeMore_103 rfl ?_
      refine EV.iload 4 dX13_writeMore_105 rfl ?_
      refine EV.icmp_gt 133 dX13_writeMore_107 (by decide) (fun c71 => ?_) (fun c71 => ?_)
      · rw [if_pos c71] at h
        refine EV.sub [0, 1, 2, 3, 4, 5, 6, 7] rfl ?_
        exact eX13_writeMore_133 hk66 _ _ _ _ _ _ _ _ _ _ h
      · rw [if_neg c71] at h
        refine EV.aload_n 0 dX13_writeMore_110 rfl rfl ?_
        refine EV.iload_n 3 dX13_writeMore_111 rfl rfl ?_
        obtain ⟨o72, go72, h⟩ := px_bs h
        obtain ⟨q73, gq73, h⟩ := px_bs h
        refine EV.callV (As := [.int a3]) (rest := []) dX13_writeMore_112 kcX13_writeMore_195 (gO_ok go72) rfl rfl rfl (Nat.le_of_ble_eq_true rfl) (Nat.le_of_ble_eq_true rfl) (eX13_sendRun gq73) ?_
        refine EV.aload_n 0 dX13_writeMore_115 rfl rfl ?_
        refine EV.iload_n 3 dX13_writeMore_116 rfl rfl ?_
        refine EV.sipush (240) dX13_writeMore_117 (by decide) ?_
        obtain ⟨o74, go74, h⟩ := px_bs h
        obtain ⟨q75, gq75, h⟩ := px_bs h
        refine EV.callV (As := [.int a3, .int 240]) (rest := []) dX13_writeMore_120 kcX13_writeMore_180 (gO_ok go74) rfl rfl rfl (Nat.le_of_ble_eq_true rfl) (Nat.le_of_ble_eq_true rfl) (eX13_word gq75) ?_
        refine EV.aload_n 0 dX13_writeMore_123 rfl rfl ?_
        obtain ⟨o76, go76, h⟩ := px_bs h
        obtain ⟨q77, gq77, h⟩ := px_bs h
        refine EV.callV (As := []) (rest := []) dX13_writeMore_124 kcX13_writeMore_202 (gO_ok go76) rfl rfl rfl (Nat.le_of_ble_eq_true rfl) (Nat.le_of_ble_eq_true rfl) (eX13_sendComing gq77) ?_
        refine EV.iinc 5 (a5 + (-16)) [(5, .int (a5 + (-16))), (0, .ref a0), (1, .int a1), (2, .int a2), (3, .int a3), (4, .int a4), (6, .int a6), (7, .int a7)] dX13_writeMore_127 rfl rfl (by decide) rfl ?_
        refine EV.goto 96 dX13_writeMore_130 (by decide) ?_
        refine EV.sub [1, 2, 3, 4, 5, 0, 6, 7] rfl ?_
        exact ih _ _ _ _ _ _ _ _ _ _ h
set_option maxRecDepth 100000 in
set_option maxHeartbeats 4000000 in
theorem eX13_writeMore_318 {X : px_X}  : ∀ (a0 : Nat) (a3 : Int32) (w : px_W) (q : px_W), fX13_writeMore_318 X  a0 a3 w = some q → EV X mX13_writeMore 318 [(0, .ref a0), (3, .int a3)] [] w none q := by
  intro a0 a3 w q h
  unfold fX13_writeMore_318 at h
  refine EV.aload_n 0 dX13_writeMore_318 rfl rfl ?_
  refine EV.iload_n 1 dX13_writeMore_319 rfl rfl ?_
  obtain ⟨o78, go78, h⟩ := px_bs h
  obtain ⟨q79, gq79, h⟩ := px_bs h
  refine EV.callV (As := [.int a3]) (rest := []) dX13_writeMore_320 kcX13_writeMore_195 (gO_ok go78) rfl rfl rfl (Nat.le_of_ble_eq_true rfl) (Nat.le_of_ble_eq_true rfl) (eX13_sendRun gq79) ?_
  cases h
  exact EV.ret0 dX13_writeMore_323 trivial
set_option maxRecDepth 100000 in
set_option maxHeartbeats 4000000 in
theorem eX13_writeMore_293 {X : px_X}  : ∀ (a0 : Nat) (a3 : Int32) (w : px_W) (q : px_W), fX13_writeMore_293 X  a0 a3 w = some q → EV X mX13_writeMore 293 [(0, .ref a0), (3, .int a3)] [] w none q := by
  intro a0 a3 w q h
  unfold fX13_writeMore_293 at h
  refine EV.aload_n 0 dX13_writeMore_293 rfl rfl ?_
  refine EV.iconst (0) dX13_writeMore_294 (by decide) ?_
  obtain ⟨w80, gw80, h⟩ := px_bs h
  refine ev_pV dX13_writeMore_295 flRX13_186 rfl rfl rfl rfl gw80 ?_
  refine EV.aload_n 0 dX13_writeMore_298 rfl rfl ?_
  obtain ⟨v81, gv81, h⟩ := px_bs h
  refine ev_gI dX13_writeMore_299 flRX13_177 gv81 ?_
  refine EV.sipush (32767) dX13_writeMore_302 (by decide) ?_
  refine EV.icmp_eq 318 dX13_writeMore_305 (by decide) (fun c82 => ?_) (fun c82 => ?_)
  · rw [if_pos c82] at h
    refine EV.sub [0, 1] rfl ?_
    exact eX13_writeMore_318  _ _ _ _ h
  · rw [if_neg c82] at h
    refine EV.aload_n 0 dX13_writeMore_308 rfl rfl ?_
    obtain ⟨v83, gv83, h⟩ := px_bs h
    refine ev_gI dX13_writeMore_309 flRX13_183 gv83 ?_
    refine EV.sipush (900) dX13_writeMore_312 (by decide) ?_
    refine EV.icmp_le 323 dX13_writeMore_315 (by decide) (fun c84 => ?_) (fun c84 => ?_)
    · rw [if_pos c84] at h
      cases h
      exact EV.ret0 dX13_writeMore_323 trivial
    · rw [if_neg c84] at h
      refine EV.sub [0, 1] rfl ?_
      exact eX13_writeMore_318  _ _ _ _ h
set_option maxRecDepth 100000 in
set_option maxHeartbeats 4000000 in
theorem eX13_writeMore_252 {X : px_X}  : ∀ (m : Nat) (a0 : Nat) (a3 : Int32) (a6 : Int32) (w : px_W) (q : px_W), fX13_writeMore_252 X  m a0 a3 a6 w = some q → EV X mX13_writeMore 252 [(0, .ref a0), (3, .int a3), (6, .int a6)] [] w none q := by
  intro m
  induction m with
  | zero => intro a0 a3 a6 w q h; cases h
  | succ m ih =>
    intro a0 a3 a6 w q h
    rw [fX13_writeMore_252.eq_2] at h
    refine EV.iload 2 dX13_writeMore_252 rfl ?_
    refine EV.aload_n 0 dX13_writeMore_254 rfl rfl ?_
    obtain ⟨v85, gv85, h⟩ := px_bs h
    refine ev_gI dX13_writeMore_255 flRX13_186 gv85 ?_
    refine EV.icmp_ge 293 dX13_writeMore_258 (by decide) (fun c86 => ?_) (fun c86 => ?_)
    · rw [if_pos c86] at h
      refine EV.sub [0, 1] rfl ?_
      exact eX13_writeMore_293  _ _ _ _ h
    · rw [if_neg c86] at h
      refine EV.aload_n 0 dX13_writeMore_261 rfl rfl ?_
      obtain ⟨v87, gv87, h⟩ := px_bs h
      refine ev_gR dX13_writeMore_262 flRX13_74 gv87 ?_
      refine EV.aload_n 0 dX13_writeMore_265 rfl rfl ?_
      obtain ⟨v88, gv88, h⟩ := px_bs h
      refine ev_gI dX13_writeMore_266 flRX13_183 gv88 ?_
      refine EV.aload_n 0 dX13_writeMore_269 rfl rfl ?_
      obtain ⟨v89, gv89, h⟩ := px_bs h
      refine ev_gR dX13_writeMore_270 flRX13_77 gv89 ?_
      refine EV.iload 2 dX13_writeMore_273 rfl ?_
      obtain ⟨v90, gv90, h⟩ := px_bs h
      refine ev_aB dX13_writeMore_275 gv90 ?_
      obtain ⟨w91, gw91, h⟩ := px_bs h
      refine ev_sB dX13_writeMore_276 gw91 ?_
      refine EV.aload_n 0 dX13_writeMore_277 rfl rfl ?_
      refine EV.dup dX13_writeMore_278 rfl ?_
      obtain ⟨v92, gv92, h⟩ := px_bs h
      refine ev_gI dX13_writeMore_279 flRX13_183 gv92 ?_
      refine EV.iconst (1) dX13_writeMore_282 (by decide) ?_
      refine EV.iadd dX13_writeMore_283 ?_
      obtain ⟨w93, gw93, h⟩ := px_bs h
      refine ev_pV dX13_writeMore_284 flRX13_183 rfl rfl rfl rfl gw93 ?_
      refine EV.iinc 2 (a6 + 1) [(6, .int (a6 + 1)), (0, .ref a0), (3, .int a3)] dX13_writeMore_287 rfl rfl (by decide) rfl ?_
      refine EV.goto 252 dX13_writeMore_290 (by decide) ?_
      refine EV.sub [1, 2, 0] rfl ?_
      exact ih _ _ _ _ _ h
set_option maxRecDepth 100000 in
set_option maxHeartbeats 4000000 in
theorem eX13_writeMore_239 {X : px_X}  : ∀ (a0 : Nat) (a3 : Int32) (w : px_W) (q : px_W), fX13_writeMore_239 X  a0 a3 w = some q → EV X mX13_writeMore 239 [(0, .ref a0), (3, .int a3)] [] w none q := by
  intro a0 a3 w q h
  unfold fX13_writeMore_239 at h
  refine EV.aload_n 0 dX13_writeMore_239 rfl rfl ?_
  refine EV.dup dX13_writeMore_240 rfl ?_
  obtain ⟨v94, gv94, h⟩ := px_bs h
  refine ev_gI dX13_writeMore_241 flRX13_177 gv94 ?_
  refine EV.iconst (1) dX13_writeMore_244 (by decide) ?_
  refine EV.iadd dX13_writeMore_245 ?_
  obtain ⟨w95, gw95, h⟩ := px_bs h
  refine ev_pV dX13_writeMore_246 flRX13_177 rfl rfl rfl rfl gw95 ?_
  refine EV.iconst (0) dX13_writeMore_249 (by decide) ?_
  refine EV.istore [(6, .int 0), (0, .ref a0), (3, .int a3)] dX13_writeMore_250 (by decide) rfl ?_
  refine EV.sub [1, 2, 0] rfl ?_
  exact eX13_writeMore_252  FU _ _ _ _ _ h
set_option maxRecDepth 100000 in
set_option maxHeartbeats 4000000 in
theorem eX13_writeMore_227 {X : px_X}  : ∀ (a0 : Nat) (a3 : Int32) (a5 : Int32) (w : px_W) (q : px_W), fX13_writeMore_227 X  a0 a3 a5 w = some q → EV X mX13_writeMore 227 [(0, .ref a0), (3, .int a3), (5, .int a5)] [] w none q := by
  intro a0 a3 a5 w q h
  unfold fX13_writeMore_227 at h
  refine EV.iload 2 dX13_writeMore_227 rfl ?_
  refine EV.if_gt 239 dX13_writeMore_229 (by decide) (fun c96 => ?_) (fun c96 => ?_)
  · rw [if_pos c96] at h
    refine EV.sub [0, 1] rfl ?_
    exact eX13_writeMore_239  _ _ _ _ h
  · rw [if_neg c96] at h
    refine EV.aload_n 0 dX13_writeMore_232 rfl rfl ?_
    obtain ⟨v97, gv97, h⟩ := px_bs h
    refine ev_gI dX13_writeMore_233 flRX13_186 gv97 ?_
    refine EV.if_le 323 dX13_writeMore_236 (by decide) (fun c98 => ?_) (fun c98 => ?_)
    · rw [if_pos c98] at h
      cases h
      exact EV.ret0 dX13_writeMore_323 trivial
    · rw [if_neg c98] at h
      refine EV.sub [0, 1] rfl ?_
      exact eX13_writeMore_239  _ _ _ _ h
set_option maxRecDepth 100000 in
set_option maxHeartbeats 4000000 in
theorem eX13_writeMore_66 {X : px_X}  : ∀ (m : Nat) (a0 : Nat) (a1 : Int32) (a2 : Int32) (a3 : Int32) (a4 : Int32) (a5 : Int32) (a6 : Int32) (w : px_W) (q : px_W), fX13_writeMore_66 X  m a0 a1 a2 a3 a4 a5 a6 w = some q → EV X mX13_writeMore 66 [(0, .ref a0), (1, .int a1), (2, .int a2), (3, .int a3), (4, .int a4), (5, .int a5), (6, .int a6)] [] w none q := by
  intro m
  induction m with
  | zero => intro a0 a1 a2 a3 a4 a5 a6 w q h; cases h
  | succ m ih =>
    intro a0 a1 a2 a3 a4 a5 a6 w q h
    rw [fX13_writeMore_66.eq_2] at h
    refine EV.iload 6 dX13_writeMore_66 rfl ?_
    refine EV.aload_n 0 dX13_writeMore_68 rfl rfl ?_
    obtain ⟨v99, gv99, h⟩ := px_bs h
    refine ev_gI dX13_writeMore_69 flRX13_109 gv99 ?_
    refine EV.icmp_gt 227 dX13_writeMore_72 (by decide) (fun c100 => ?_) (fun c100 => ?_)
    · rw [if_pos c100] at h
      refine EV.sub [0, 3, 5] rfl ?_
      exact eX13_writeMore_227  _ _ _ _ _ h
    · rw [if_neg c100] at h
      refine EV.aload_n 0 dX13_writeMore_75 rfl rfl ?_
      refine EV.iload_n 1 dX13_writeMore_76 rfl rfl ?_
      refine EV.iload_n 2 dX13_writeMore_77 rfl rfl ?_
      refine EV.iload 6 dX13_writeMore_78 rfl ?_
      obtain ⟨o101, go101, h⟩ := px_bs h
      obtain ⟨q102, gq102, h⟩ := px_bs h
      refine EV.callV (As := [.int a1, .int a2, .int a6]) (rest := []) dX13_writeMore_80 kcX13_writeMore_198 (gO_ok go101) rfl rfl rfl (Nat.le_of_ble_eq_true rfl) (Nat.le_of_ble_eq_true rfl) (eX13_amount gq102) ?_
      refine EV.istore [(7, .int q102.1), (0, .ref a0), (1, .int a1), (2, .int a2), (3, .int a3), (4, .int a4), (5, .int a5), (6, .int a6)] dX13_writeMore_83 (by decide) rfl ?_
      refine EV.iload 0 dX13_writeMore_85 rfl ?_
      refine EV.if_ne 96 dX13_writeMore_87 (by decide) (fun c103 => ?_) (fun c103 => ?_)
      · rw [if_neg c103] at h
        refine EV.sub [1, 2, 3, 4, 5, 6, 7, 0] rfl ?_
        exact eX13_writeMore_96 ih FU _ _ _ _ _ _ _ _ _ _ h
      · rw [if_pos c103] at h
        refine EV.iinc 6 (a5 + 1) [(5, .int (a5 + 1)), (7, .int q102.1), (0, .ref a0), (1, .int a1), (2, .int a2), (3, .int a3), (4, .int a4), (6, .int a6)] dX13_writeMore_90 rfl rfl (by decide) rfl ?_
        refine EV.goto 221 dX13_writeMore_93 (by decide) ?_
        refine EV.sub [2, 3, 4, 5, 6, 0, 7] rfl ?_
        exact eX13_writeMore_221 ih _ _ _ _ _ _ _ _ _ h
set_option maxRecDepth 100000 in
set_option maxHeartbeats 4000000 in
theorem eX13_writeMore_52 {X : px_X}  : ∀ (a0 : Nat) (a1 : Int32) (a2 : Int32) (a3 : Int32) (a4 : Int32) (w : px_W) (q : px_W), fX13_writeMore_52 X  a0 a1 a2 a3 a4 w = some q → EV X mX13_writeMore 52 [(0, .ref a0), (1, .int a1), (2, .int a2), (3, .int a3), (4, .int a4)] [] w none q := by
  intro a0 a1 a2 a3 a4 w q h
  unfold fX13_writeMore_52 at h
  refine EV.iconst (0) dX13_writeMore_52 (by decide) ?_
  refine EV.istore [(5, .int 0), (0, .ref a0), (1, .int a1), (2, .int a2), (3, .int a3), (4, .int a4)] dX13_writeMore_53 (by decide) rfl ?_
  refine EV.aload_n 1 dX13_writeMore_55 rfl rfl ?_
  refine EV.iconst (0) dX13_writeMore_56 (by decide) ?_
  obtain ⟨w104, gw104, h⟩ := px_bs h
  refine ev_pV dX13_writeMore_57 flRX13_186 rfl rfl rfl rfl gw104 ?_
  refine EV.aload_n 1 dX13_writeMore_60 rfl rfl ?_
  obtain ⟨v105, gv105, h⟩ := px_bs h
  refine ev_gI dX13_writeMore_61 flRX13_106 gv105 ?_
  refine EV.istore [(6, .int v105), (5, .int 0), (0, .ref a0), (1, .int a1), (2, .int a2), (3, .int a3), (4, .int a4)] dX13_writeMore_64 (by decide) rfl ?_
  refine EV.sub [2, 3, 4, 5, 6, 1, 0] rfl ?_
  exact eX13_writeMore_66  FU _ _ _ _ _ _ _ _ _ h
set_option maxRecDepth 100000 in
set_option maxHeartbeats 4000000 in
theorem eX13_writeMore_44 {X : px_X} {k16 : Nat → Int32 → Int32 → Int32 → Int32 → Int32 → px_W → Option (px_W)} (hk16 : ∀ (a0 : Nat) (a1 : Int32) (a2 : Int32) (a3 : Int32) (a4 : Int32) (a5 : Int32) (w : px_W) (q : px_W), k16 a0 a1 a2 a3 a4 a5 w = some q → EV X mX13_writeMore 16 [(0, .ref a0), (1, .int a1), (2, .int a2), (3, .int a3), (4, .int a4), (5, .int a5)] [] w none q) : ∀ (a0 : Nat) (a1 : Int32) (a2 : Int32) (a3 : Int32) (a5 : Int32) (s0 : Int32) (w : px_W) (q : px_W), fX13_writeMore_44 X k16 a0 a1 a2 a3 a5 s0 w = some q → EV X mX13_writeMore 44 [(0, .ref a0), (1, .int a1), (2, .int a2), (3, .int a3), (5, .int a5)] [.int s0] w none q := by
  intro a0 a1 a2 a3 a5 s0 w q h
  unfold fX13_writeMore_44 at h
  refine EV.istore [(4, .int s0), (0, .ref a0), (1, .int a1), (2, .int a2), (3, .int a3), (5, .int a5)] dX13_writeMore_44 (by decide) rfl ?_
  refine EV.iinc 5 (a5 + 1) [(5, .int (a5 + 1)), (4, .int s0), (0, .ref a0), (1, .int a1), (2, .int a2), (3, .int a3)] dX13_writeMore_46 rfl rfl (by decide) rfl ?_
  refine EV.goto 16 dX13_writeMore_49 (by decide) ?_
  refine EV.sub [2, 3, 4, 5, 1, 0] rfl ?_
  exact hk16 _ _ _ _ _ _ _ _ h
set_option maxRecDepth 100000 in
set_option maxHeartbeats 4000000 in
theorem eX13_writeMore_16 {X : px_X}  : ∀ (m : Nat) (a0 : Nat) (a1 : Int32) (a2 : Int32) (a3 : Int32) (a4 : Int32) (a5 : Int32) (w : px_W) (q : px_W), fX13_writeMore_16 X  m a0 a1 a2 a3 a4 a5 w = some q → EV X mX13_writeMore 16 [(0, .ref a0), (1, .int a1), (2, .int a2), (3, .int a3), (4, .int a4), (5, .int a5)] [] w none q := by
  intro m
  induction m with
  | zero => intro a0 a1 a2 a3 a4 a5 w q h; cases h
  | succ m ih =>
    intro a0 a1 a2 a3 a4 a5 w q h
    rw [fX13_writeMore_16.eq_2] at h
    refine EV.iload 5 dX13_writeMore_16 rfl ?_
    refine EV.aload_n 0 dX13_writeMore_18 rfl rfl ?_
    obtain ⟨v106, gv106, h⟩ := px_bs h
    refine ev_gI dX13_writeMore_19 flRX13_109 gv106 ?_
    refine EV.icmp_gt 52 dX13_writeMore_22 (by decide) (fun c107 => ?_) (fun c107 => ?_)
    · rw [if_pos c107] at h
      refine EV.sub [0, 1, 2, 3, 4] rfl ?_
      exact eX13_writeMore_52  _ _ _ _ _ _ _ h
    · rw [if_neg c107] at h
      refine EV.aload_n 0 dX13_writeMore_25 rfl rfl ?_
      refine EV.iload_n 1 dX13_writeMore_26 rfl rfl ?_
      refine EV.iload_n 2 dX13_writeMore_27 rfl rfl ?_
      refine EV.iload 5 dX13_writeMore_28 rfl ?_
      obtain ⟨o108, go108, h⟩ := px_bs h
      obtain ⟨q109, gq109, h⟩ := px_bs h
      refine EV.callV (As := [.int a1, .int a2, .int a5]) (rest := []) dX13_writeMore_30 kcX13_writeMore_198 (gO_ok go108) rfl rfl rfl (Nat.le_of_ble_eq_true rfl) (Nat.le_of_ble_eq_true rfl) (eX13_amount gq109) ?_
      refine EV.iconst (1) dX13_writeMore_33 (by decide) ?_
      refine EV.icmp_ne 42 dX13_writeMore_34 (by decide) (fun c110 => ?_) (fun c110 => ?_)
      · rw [if_neg c110] at h
        refine EV.iload 4 dX13_writeMore_42 rfl ?_
        refine EV.sub [0, 1, 2, 3, 5] rfl ?_
        exact eX13_writeMore_44 ih _ _ _ _ _ _ _ _ h
      · rw [if_pos c110] at h
        refine EV.iload 5 dX13_writeMore_37 rfl ?_
        refine EV.goto 44 dX13_writeMore_39 (by decide) ?_
        refine EV.sub [0, 1, 2, 3, 5] rfl ?_
        exact eX13_writeMore_44 ih _ _ _ _ _ _ _ _ h
set_option maxRecDepth 100000 in
set_option maxHeartbeats 4000000 in
theorem eX13_writeMore {X : px_X} {w : px_W} {a0 : Nat} {a1 : Int32} {a2 : Int32} {q : px_W} (h : fX13_writeMore X w a0 a1 a2 = some q) : EV X mX13_writeMore 0 (lv_args 0 [.ref a0, .int a1, .int a2]) [] w none q := by
  unfold fX13_writeMore at h
  show EV X mX13_writeMore 0 [(0, .ref a0), (1, .int a1), (2, .int a2)] [] w none q
  refine EV.aload_n 0 dX13_writeMore_0 rfl rfl ?_
  obtain ⟨v111, gv111, h⟩ := px_bs h
  refine ev_gR dX13_writeMore_1 flRX13_58 gv111 ?_
  refine EV.iload_n 1 dX13_writeMore_4 rfl rfl ?_
  obtain ⟨v112, gv112, h⟩ := px_bs h
  refine ev_aI dX13_writeMore_5 gv112 ?_
  refine EV.istore_n [(3, .int v112), (0, .ref a0), (1, .int a1), (2, .int a2)] dX13_writeMore_6 rfl (by decide) rfl ?_
  refine EV.iconst ((-1)) dX13_writeMore_7 (by decide) ?_
  refine EV.istore [(4, .int ((-1))), (3, .int v112), (0, .ref a0), (1, .int a1), (2, .int a2)] dX13_writeMore_8 (by decide) rfl ?_
  refine EV.aload_n 2 dX13_writeMore_10 rfl rfl ?_
  obtain ⟨v113, gv113, h⟩ := px_bs h
  refine ev_gI dX13_writeMore_11 flRX13_106 gv113 ?_
  refine EV.istore [(5, .int v113), (4, .int ((-1))), (3, .int v112), (0, .ref a0), (1, .int a1), (2, .int a2)] dX13_writeMore_14 (by decide) rfl ?_
  refine EV.sub [3, 4, 5, 2, 1, 0] rfl ?_
  exact eX13_writeMore_16  FU _ _ _ _ _ _ _ _ h
/-! WavePicturesModel$Scans.writeBlock(II)V -/
theorem dX13_writeBlock_0 : decode cX13_writeBlock 0 = .ok (.aload_n 0, 1) := by decide +kernel
theorem dX13_writeBlock_1 : decode cX13_writeBlock 1 = .ok (.getfield 106, 3) := by decide +kernel
theorem dX13_writeBlock_4 : decode cX13_writeBlock 4 = .ok (.ifCond .ne 9, 3) := by decide +kernel
theorem dX13_writeBlock_7 : decode cX13_writeBlock 7 = .ok (.aload_n 0, 1) := by decide +kernel
theorem dX13_writeBlock_8 : decode cX13_writeBlock 8 = .ok (.iload_n 1, 1) := by decide +kernel
theorem dX13_writeBlock_9 : decode cX13_writeBlock 9 = .ok (.iload_n 2, 1) := by decide +kernel
theorem dX13_writeBlock_10 : decode cX13_writeBlock 10 = .ok (.invokevirtual 205, 3) := by decide +kernel
theorem dX13_writeBlock_13 : decode cX13_writeBlock 13 = .ok (.aload_n 0, 1) := by decide +kernel
theorem dX13_writeBlock_14 : decode cX13_writeBlock 14 = .ok (.getfield 109, 3) := by decide +kernel
theorem dX13_writeBlock_17 : decode cX13_writeBlock 17 = .ok (.ifCond .le 34, 3) := by decide +kernel
theorem dX13_writeBlock_20 : decode cX13_writeBlock 20 = .ok (.aload_n 0, 1) := by decide +kernel
theorem dX13_writeBlock_21 : decode cX13_writeBlock 21 = .ok (.getfield 112, 3) := by decide +kernel
theorem dX13_writeBlock_24 : decode cX13_writeBlock 24 = .ok (.ifCond .ne 27, 3) := by decide +kernel
theorem dX13_writeBlock_27 : decode cX13_writeBlock 27 = .ok (.aload_n 0, 1) := by decide +kernel
theorem dX13_writeBlock_28 : decode cX13_writeBlock 28 = .ok (.iload_n 1, 1) := by decide +kernel
theorem dX13_writeBlock_29 : decode cX13_writeBlock 29 = .ok (.iload_n 2, 1) := by decide +kernel
theorem dX13_writeBlock_30 : decode cX13_writeBlock 30 = .ok (.aload_n 0, 1) := by decide +kernel
theorem dX13_writeBlock_31 : decode cX13_writeBlock 31 = .ok (.getfield 106, 3) := by decide +kernel
theorem dX13_writeBlock_34 : decode cX13_writeBlock 34 = .ok (.ifCond .ne 7, 3) := by decide +kernel
theorem dX13_writeBlock_37 : decode cX13_writeBlock 37 = .ok (.iconst 1, 1) := by decide +kernel
theorem dX13_writeBlock_38 : decode cX13_writeBlock 38 = .ok (.goto 7, 3) := by decide +kernel
theorem dX13_writeBlock_41 : decode cX13_writeBlock 41 = .ok (.aload_n 0, 1) := by decide +kernel
theorem dX13_writeBlock_42 : decode cX13_writeBlock 42 = .ok (.getfield 106, 3) := by decide +kernel
theorem dX13_writeBlock_45 : decode cX13_writeBlock 45 = .ok (.invokevirtual 208, 3) := by decide +kernel
theorem dX13_writeBlock_48 : decode cX13_writeBlock 48 = .ok (.goto 16, 3) := by decide +kernel
theorem dX13_writeBlock_51 : decode cX13_writeBlock 51 = .ok (.aload_n 0, 1) := by decide +kernel
theorem dX13_writeBlock_52 : decode cX13_writeBlock 52 = .ok (.getfield 109, 3) := by decide +kernel
theorem dX13_writeBlock_55 : decode cX13_writeBlock 55 = .ok (.ifCond .le 9, 3) := by decide +kernel
theorem dX13_writeBlock_58 : decode cX13_writeBlock 58 = .ok (.aload_n 0, 1) := by decide +kernel
theorem dX13_writeBlock_59 : decode cX13_writeBlock 59 = .ok (.iload_n 1, 1) := by decide +kernel
theorem dX13_writeBlock_60 : decode cX13_writeBlock 60 = .ok (.iload_n 2, 1) := by decide +kernel
theorem dX13_writeBlock_61 : decode cX13_writeBlock 61 = .ok (.invokevirtual 212, 3) := by decide +kernel
theorem dX13_writeBlock_64 : decode cX13_writeBlock 64 = .ok (.return_, 1) := by decide +kernel
theorem mbX13_writeDirect : px_mB mX13_writeDirect 2 := ⟨tb9 (List.mem_of_getElem? (i := 193) rfl), by decide +kernel, tb1 (List.mem_of_getElem? (i := 15) rfl), by decide +kernel, by decide +kernel⟩
theorem vbX13_writeDirect : px_vB mX13_writeDirect := ⟨tb9 (List.mem_of_getElem? (i := 192) rfl), List.mem_append_left _ (List.mem_of_getElem? (i := 149) (by decide +kernel))⟩
theorem kcX13_writeBlock_205 : px_cV mX13_writeBlock 205 mX13_writeDirect 2 := ⟨⟨mbX13_writeDirect, by decide, by decide⟩, Or.inl (tb9 (List.mem_of_getElem? (i := 190) rfl)), vbX13_writeDirect⟩
theorem mbX13_writeOthers : px_mB mX13_writeOthers 3 := ⟨tb9 (List.mem_of_getElem? (i := 201) rfl), by decide +kernel, tb1 (List.mem_of_getElem? (i := 15) rfl), by decide +kernel, by decide +kernel⟩
theorem vbX13_writeOthers : px_vB mX13_writeOthers := ⟨tb9 (List.mem_of_getElem? (i := 200) rfl), List.mem_append_left _ (List.mem_of_getElem? (i := 151) (by decide +kernel))⟩
theorem kcX13_writeBlock_208 : px_cV mX13_writeBlock 208 mX13_writeOthers 3 := ⟨⟨mbX13_writeOthers, by decide, by decide⟩, Or.inl (tb9 (List.mem_of_getElem? (i := 198) rfl)), vbX13_writeOthers⟩
theorem mbX13_writeMore : px_mB mX13_writeMore 2 := ⟨tb9 (List.mem_of_getElem? (i := 208) rfl), by decide +kernel, tb1 (List.mem_of_getElem? (i := 15) rfl), by decide +kernel, by decide +kernel⟩
theorem vbX13_writeMore : px_vB mX13_writeMore := ⟨tb9 (List.mem_of_getElem? (i := 207) rfl), List.mem_append_left _ (List.mem_of_getElem? (i := 152) (by decide +kernel))⟩
theorem kcX13_writeBlock_212 : px_cV mX13_writeBlock 212 mX13_writeMore 2 := ⟨⟨mbX13_writeMore, by decide, by decide⟩, Or.inl (tb9 (List.mem_of_getElem? (i := 205) rfl)), vbX13_writeMore⟩
set_option maxRecDepth 100000 in
set_option maxHeartbeats 4000000 in
theorem eX13_writeBlock_51 {X : px_X}  : ∀ (a0 : Nat) (a1 : Int32) (a2 : Int32) (w : px_W) (q : px_W), fX13_writeBlock_51 X  a0 a1 a2 w = some q → EV X mX13_writeBlock 51 [(0, .ref a0), (1, .int a1), (2, .int a2)] [] w none q := by
  intro a0 a1 a2 w q h
  unfold fX13_writeBlock_51 at h
  refine EV.aload_n 0 dX13_writeBlock_51 rfl rfl ?_
  obtain ⟨v13, gv13, h⟩ := px_bs h
  refine ev_gI dX13_writeBlock_52 flRX13_109 gv13 ?_
  refine EV.if_le 64 dX13_writeBlock_55 (by decide) (fun c14 => ?_) (fun c14 => ?_)
  · rw [if_pos c14] at h
    cases h
    exact EV.ret0 dX13_writeBlock_64 trivial
  · rw [if_neg c14] at h
    refine EV.aload_n 0 dX13_writeBlock_58 rfl rfl ?_
    refine EV.iload_n 1 dX13_writeBlock_59 rfl rfl ?_
    refine EV.iload_n 2 dX13_writeBlock_60 rfl rfl ?_
    obtain ⟨o15, go15, h⟩ := px_bs h
    obtain ⟨q16, gq16, h⟩ := px_bs h
    refine EV.callV (As := [.int a1, .int a2]) (rest := []) dX13_writeBlock_61 kcX13_writeBlock_212 (gO_ok go15) rfl rfl rfl (Nat.le_of_ble_eq_true rfl) (Nat.le_of_ble_eq_true rfl) (eX13_writeMore gq16) ?_
    cases h
    exact EV.ret0 dX13_writeBlock_64 trivial
set_option maxRecDepth 100000 in
set_option maxHeartbeats 4000000 in
theorem eX13_writeBlock_45 {X : px_X}  : ∀ (s0 : Int32) (s1 : Int32) (s2 : Int32) (s3 : Nat) (w : px_W) (q : px_W), fX13_writeBlock_45 X  s0 s1 s2 s3 w = some q → EV X mX13_writeBlock 45 [] [.int s0, .int s1, .int s2, .ref s3] w none q := by
  intro s0 s1 s2 s3 w q h
  unfold fX13_writeBlock_45 at h
  obtain ⟨o17, go17, h⟩ := px_bs h
  obtain ⟨q18, gq18, h⟩ := px_bs h
  refine EV.callV (As := [.int s2, .int s1, .int s0]) (rest := []) dX13_writeBlock_45 kcX13_writeBlock_208 (gO_ok go17) rfl rfl rfl (Nat.le_of_ble_eq_true rfl) (Nat.le_of_ble_eq_true rfl) (eX13_writeOthers gq18) ?_
  refine EV.goto 64 dX13_writeBlock_48 (by decide) ?_
  cases h
  exact EV.ret0 dX13_writeBlock_64 trivial
set_option maxRecDepth 100000 in
set_option maxHeartbeats 4000000 in
theorem eX13_writeBlock_13 {X : px_X}  : ∀ (a0 : Nat) (a1 : Int32) (a2 : Int32) (w : px_W) (q : px_W), fX13_writeBlock_13 X  a0 a1 a2 w = some q → EV X mX13_writeBlock 13 [(0, .ref a0), (1, .int a1), (2, .int a2)] [] w none q := by
  intro a0 a1 a2 w q h
  unfold fX13_writeBlock_13 at h
  refine EV.aload_n 0 dX13_writeBlock_13 rfl rfl ?_
  obtain ⟨v19, gv19, h⟩ := px_bs h
  refine ev_gI dX13_writeBlock_14 flRX13_109 gv19 ?_
  refine EV.if_le 51 dX13_writeBlock_17 (by decide) (fun c20 => ?_) (fun c20 => ?_)
  · rw [if_pos c20] at h
    refine EV.sub [0, 1, 2] rfl ?_
    exact eX13_writeBlock_51  _ _ _ _ _ h
  · rw [if_neg c20] at h
    refine EV.aload_n 0 dX13_writeBlock_20 rfl rfl ?_
    obtain ⟨v21, gv21, h⟩ := px_bs h
    refine ev_gI dX13_writeBlock_21 flRX13_112 gv21 ?_
    refine EV.if_ne 51 dX13_writeBlock_24 (by decide) (fun c22 => ?_) (fun c22 => ?_)
    · rw [if_neg c22] at h
      refine EV.sub [0, 1, 2] rfl ?_
      exact eX13_writeBlock_51  _ _ _ _ _ h
    · rw [if_pos c22] at h
      refine EV.aload_n 0 dX13_writeBlock_27 rfl rfl ?_
      refine EV.iload_n 1 dX13_writeBlock_28 rfl rfl ?_
      refine EV.iload_n 2 dX13_writeBlock_29 rfl rfl ?_
      refine EV.aload_n 0 dX13_writeBlock_30 rfl rfl ?_
      obtain ⟨v23, gv23, h⟩ := px_bs h
      refine ev_gI dX13_writeBlock_31 flRX13_106 gv23 ?_
      refine EV.if_ne 41 dX13_writeBlock_34 (by decide) (fun c24 => ?_) (fun c24 => ?_)
      · rw [if_neg c24] at h
        refine EV.aload_n 0 dX13_writeBlock_41 rfl rfl ?_
        obtain ⟨v25, gv25, h⟩ := px_bs h
        refine ev_gI dX13_writeBlock_42 flRX13_106 gv25 ?_
        refine EV.sub [] rfl ?_
        exact eX13_writeBlock_45  _ _ _ _ _ _ h
      · rw [if_pos c24] at h
        refine EV.iconst (1) dX13_writeBlock_37 (by decide) ?_
        refine EV.goto 45 dX13_writeBlock_38 (by decide) ?_
        refine EV.sub [] rfl ?_
        exact eX13_writeBlock_45  _ _ _ _ _ _ h
set_option maxRecDepth 100000 in
set_option maxHeartbeats 4000000 in
theorem eX13_writeBlock {X : px_X} {w : px_W} {a0 : Nat} {a1 : Int32} {a2 : Int32} {q : px_W} (h : fX13_writeBlock X w a0 a1 a2 = some q) : EV X mX13_writeBlock 0 (lv_args 0 [.ref a0, .int a1, .int a2]) [] w none q := by
  unfold fX13_writeBlock at h
  show EV X mX13_writeBlock 0 [(0, .ref a0), (1, .int a1), (2, .int a2)] [] w none q
  refine EV.aload_n 0 dX13_writeBlock_0 rfl rfl ?_
  obtain ⟨v26, gv26, h⟩ := px_bs h
  refine ev_gI dX13_writeBlock_1 flRX13_106 gv26 ?_
  refine EV.if_ne 13 dX13_writeBlock_4 (by decide) (fun c27 => ?_) (fun c27 => ?_)
  · rw [if_neg c27] at h
    refine EV.sub [0, 1, 2] rfl ?_
    exact eX13_writeBlock_13  _ _ _ _ _ h
  · rw [if_pos c27] at h
    refine EV.aload_n 0 dX13_writeBlock_7 rfl rfl ?_
    refine EV.iload_n 1 dX13_writeBlock_8 rfl rfl ?_
    refine EV.iload_n 2 dX13_writeBlock_9 rfl rfl ?_
    obtain ⟨o28, go28, h⟩ := px_bs h
    obtain ⟨q29, gq29, h⟩ := px_bs h
    refine EV.callV (As := [.int a1, .int a2]) (rest := []) dX13_writeBlock_10 kcX13_writeBlock_205 (gO_ok go28) rfl rfl rfl (Nat.le_of_ble_eq_true rfl) (Nat.le_of_ble_eq_true rfl) (eX13_writeDirect gq29) ?_
    refine EV.sub [0, 1, 2] rfl ?_
    exact eX13_writeBlock_13  _ _ _ _ _ h
/-! WavePicturesModel$Scans.blockOf(III)I -/
theorem dX13_blockOf_0 : decode cX13_blockOf 0 = .ok (.aload_n 0, 1) := by decide +kernel
theorem dX13_blockOf_1 : decode cX13_blockOf 1 = .ok (.getfield 103, 3) := by decide +kernel
theorem dX13_blockOf_4 : decode cX13_blockOf 4 = .ok (.invokestatic 138, 3) := by decide +kernel
theorem dX13_blockOf_7 : decode cX13_blockOf 7 = .ok (.iconst 1, 1) := by decide +kernel
theorem dX13_blockOf_8 : decode cX13_blockOf 8 = .ok (.if_icmp .ne 28, 3) := by decide +kernel
theorem dX13_blockOf_11 : decode cX13_blockOf 11 = .ok (.iload_n 2, 1) := by decide +kernel
theorem dX13_blockOf_12 : decode cX13_blockOf 12 = .ok (.aload_n 0, 1) := by decide +kernel
theorem dX13_blockOf_13 : decode cX13_blockOf 13 = .ok (.getfield 24, 3) := by decide +kernel
theorem dX13_blockOf_16 : decode cX13_blockOf 16 = .ok (.iload_n 1, 1) := by decide +kernel
theorem dX13_blockOf_17 : decode cX13_blockOf 17 = .ok (.iaload, 1) := by decide +kernel
theorem dX13_blockOf_18 : decode cX13_blockOf 18 = .ok (.idiv, 1) := by decide +kernel
theorem dX13_blockOf_19 : decode cX13_blockOf 19 = .ok (.aload_n 0, 1) := by decide +kernel
theorem dX13_blockOf_20 : decode cX13_blockOf 20 = .ok (.getfield 18, 3) := by decide +kernel
theorem dX13_blockOf_23 : decode cX13_blockOf 23 = .ok (.iload_n 1, 1) := by decide +kernel
theorem dX13_blockOf_24 : decode cX13_blockOf 24 = .ok (.iaload, 1) := by decide +kernel
theorem dX13_blockOf_25 : decode cX13_blockOf 25 = .ok (.imul, 1) := by decide +kernel
theorem dX13_blockOf_26 : decode cX13_blockOf 26 = .ok (.iload_n 2, 1) := by decide +kernel
theorem dX13_blockOf_27 : decode cX13_blockOf 27 = .ok (.aload_n 0, 1) := by decide +kernel
theorem dX13_blockOf_28 : decode cX13_blockOf 28 = .ok (.getfield 24, 3) := by decide +kernel
theorem dX13_blockOf_31 : decode cX13_blockOf 31 = .ok (.iload_n 1, 1) := by decide +kernel
theorem dX13_blockOf_32 : decode cX13_blockOf 32 = .ok (.iaload, 1) := by decide +kernel
theorem dX13_blockOf_33 : decode cX13_blockOf 33 = .ok (.irem, 1) := by decide +kernel
theorem dX13_blockOf_34 : decode cX13_blockOf 34 = .ok (.iadd, 1) := by decide +kernel
theorem dX13_blockOf_35 : decode cX13_blockOf 35 = .ok (.ireturn, 1) := by decide +kernel
theorem dX13_blockOf_36 : decode cX13_blockOf 36 = .ok (.iload_n 2, 1) := by decide +kernel
theorem dX13_blockOf_37 : decode cX13_blockOf 37 = .ok (.aload_n 0, 1) := by decide +kernel
theorem dX13_blockOf_38 : decode cX13_blockOf 38 = .ok (.getfield 97, 3) := by decide +kernel
theorem dX13_blockOf_41 : decode cX13_blockOf 41 = .ok (.irem, 1) := by decide +kernel
theorem dX13_blockOf_42 : decode cX13_blockOf 42 = .ok (.aload_n 0, 1) := by decide +kernel
theorem dX13_blockOf_43 : decode cX13_blockOf 43 = .ok (.getfield 9, 3) := by decide +kernel
theorem dX13_blockOf_46 : decode cX13_blockOf 46 = .ok (.iload_n 1, 1) := by decide +kernel
theorem dX13_blockOf_47 : decode cX13_blockOf 47 = .ok (.iaload, 1) := by decide +kernel
theorem dX13_blockOf_48 : decode cX13_blockOf 48 = .ok (.imul, 1) := by decide +kernel
theorem dX13_blockOf_49 : decode cX13_blockOf 49 = .ok (.iload_n 3, 1) := by decide +kernel
theorem dX13_blockOf_50 : decode cX13_blockOf 50 = .ok (.aload_n 0, 1) := by decide +kernel
theorem dX13_blockOf_51 : decode cX13_blockOf 51 = .ok (.getfield 9, 3) := by decide +kernel
theorem dX13_blockOf_54 : decode cX13_blockOf 54 = .ok (.iload_n 1, 1) := by decide +kernel
theorem dX13_blockOf_55 : decode cX13_blockOf 55 = .ok (.iaload, 1) := by decide +kernel
theorem dX13_blockOf_56 : decode cX13_blockOf 56 = .ok (.irem, 1) := by decide +kernel
theorem dX13_blockOf_57 : decode cX13_blockOf 57 = .ok (.iadd, 1) := by decide +kernel
theorem dX13_blockOf_58 : decode cX13_blockOf 58 = .ok (.istore 4, 2) := by decide +kernel
theorem dX13_blockOf_60 : decode cX13_blockOf 60 = .ok (.iload_n 2, 1) := by decide +kernel
theorem dX13_blockOf_61 : decode cX13_blockOf 61 = .ok (.aload_n 0, 1) := by decide +kernel
theorem dX13_blockOf_62 : decode cX13_blockOf 62 = .ok (.getfield 97, 3) := by decide +kernel
theorem dX13_blockOf_65 : decode cX13_blockOf 65 = .ok (.idiv, 1) := by decide +kernel
theorem dX13_blockOf_66 : decode cX13_blockOf 66 = .ok (.aload_n 0, 1) := by decide +kernel
theorem dX13_blockOf_67 : decode cX13_blockOf 67 = .ok (.getfield 15, 3) := by decide +kernel
theorem dX13_blockOf_70 : decode cX13_blockOf 70 = .ok (.iload_n 1, 1) := by decide +kernel
theorem dX13_blockOf_71 : decode cX13_blockOf 71 = .ok (.iaload, 1) := by decide +kernel
theorem dX13_blockOf_72 : decode cX13_blockOf 72 = .ok (.imul, 1) := by decide +kernel
theorem dX13_blockOf_73 : decode cX13_blockOf 73 = .ok (.iload_n 3, 1) := by decide +kernel
theorem dX13_blockOf_74 : decode cX13_blockOf 74 = .ok (.aload_n 0, 1) := by decide +kernel
theorem dX13_blockOf_75 : decode cX13_blockOf 75 = .ok (.getfield 9, 3) := by decide +kernel
theorem dX13_blockOf_78 : decode cX13_blockOf 78 = .ok (.iload_n 1, 1) := by decide +kernel
theorem dX13_blockOf_79 : decode cX13_blockOf 79 = .ok (.iaload, 1) := by decide +kernel
theorem dX13_blockOf_80 : decode cX13_blockOf 80 = .ok (.idiv, 1) := by decide +kernel
theorem dX13_blockOf_81 : decode cX13_blockOf 81 = .ok (.iadd, 1) := by decide +kernel
theorem dX13_blockOf_82 : decode cX13_blockOf 82 = .ok (.istore 5, 2) := by decide +kernel
theorem dX13_blockOf_84 : decode cX13_blockOf 84 = .ok (.iload 5, 2) := by decide +kernel
theorem dX13_blockOf_86 : decode cX13_blockOf 86 = .ok (.aload_n 0, 1) := by decide +kernel
theorem dX13_blockOf_87 : decode cX13_blockOf 87 = .ok (.getfield 18, 3) := by decide +kernel
theorem dX13_blockOf_90 : decode cX13_blockOf 90 = .ok (.iload_n 1, 1) := by decide +kernel
theorem dX13_blockOf_91 : decode cX13_blockOf 91 = .ok (.iaload, 1) := by decide +kernel
theorem dX13_blockOf_92 : decode cX13_blockOf 92 = .ok (.imul, 1) := by decide +kernel
theorem dX13_blockOf_93 : decode cX13_blockOf 93 = .ok (.iload 4, 2) := by decide +kernel
theorem dX13_blockOf_95 : decode cX13_blockOf 95 = .ok (.iadd, 1) := by decide +kernel
theorem dX13_blockOf_96 : decode cX13_blockOf 96 = .ok (.ireturn, 1) := by decide +kernel
theorem kcX13_blockOf_138 : px_cS mX13_blockOf 138 mX13_ones 1 := ⟨⟨mbX13_ones, by decide, by decide⟩, Or.inl (tb9 (List.mem_of_getElem? (i := 5) rfl)), tb9 (List.mem_of_getElem? (i := 6) rfl)⟩
set_option maxRecDepth 100000 in
set_option maxHeartbeats 4000000 in
theorem eX13_blockOf {X : px_X} {w : px_W} {a0 : Nat} {a1 : Int32} {a2 : Int32} {a3 : Int32} {q : Int32 × px_W} (h : fX13_blockOf X w a0 a1 a2 a3 = some q) : EV X mX13_blockOf 0 (lv_args 0 [.ref a0, .int a1, .int a2, .int a3]) [] w (some (.int q.1)) q.2 := by
  unfold fX13_blockOf at h
  show EV X mX13_blockOf 0 [(0, .ref a0), (1, .int a1), (2, .int a2), (3, .int a3)] [] w (some (.int q.1)) q.2
  refine EV.aload_n 0 dX13_blockOf_0 rfl rfl ?_
  obtain ⟨v27, gv27, h⟩ := px_bs h
  refine ev_gI dX13_blockOf_1 flRX13_103 gv27 ?_
  obtain ⟨q28, gq28, h⟩ := px_bs h
  refine EV.callS (As := [.int v27]) (rest := []) dX13_blockOf_4 kcX13_blockOf_138 rfl (Nat.le_of_ble_eq_true rfl) (Nat.le_of_ble_eq_true rfl) (eX13_ones gq28) ?_
  refine EV.iconst (1) dX13_blockOf_7 (by decide) ?_
  refine EV.icmp_ne 36 dX13_blockOf_8 (by decide) (fun c29 => ?_) (fun c29 => ?_)
  · rw [if_neg c29] at h
    refine EV.iload_n 2 dX13_blockOf_36 rfl rfl ?_
    refine EV.aload_n 0 dX13_blockOf_37 rfl rfl ?_
    obtain ⟨v30, gv30, h⟩ := px_bs h
    refine ev_gI dX13_blockOf_38 flRX13_97 gv30 ?_
    obtain ⟨v31, gv31, h⟩ := px_bs h
    refine ev_rI dX13_blockOf_41 gv31 ?_
    refine EV.aload_n 0 dX13_blockOf_42 rfl rfl ?_
    obtain ⟨v32, gv32, h⟩ := px_bs h
    refine ev_gR dX13_blockOf_43 flRX13_9 gv32 ?_
    refine EV.iload_n 1 dX13_blockOf_46 rfl rfl ?_
    obtain ⟨v33, gv33, h⟩ := px_bs h
    refine ev_aI dX13_blockOf_47 gv33 ?_
    refine EV.imul dX13_blockOf_48 ?_
    refine EV.iload_n 3 dX13_blockOf_49 rfl rfl ?_
    refine EV.aload_n 0 dX13_blockOf_50 rfl rfl ?_
    obtain ⟨v34, gv34, h⟩ := px_bs h
    refine ev_gR dX13_blockOf_51 flRX13_9 gv34 ?_
    refine EV.iload_n 1 dX13_blockOf_54 rfl rfl ?_
    obtain ⟨v35, gv35, h⟩ := px_bs h
    refine ev_aI dX13_blockOf_55 gv35 ?_
    obtain ⟨v36, gv36, h⟩ := px_bs h
    refine ev_rI dX13_blockOf_56 gv36 ?_
    refine EV.iadd dX13_blockOf_57 ?_
    refine EV.istore [(4, .int ((v31 * v33) + v36)), (0, .ref a0), (1, .int a1), (2, .int a2), (3, .int a3)] dX13_blockOf_58 (by decide) rfl ?_
    refine EV.iload_n 3 dX13_blockOf_60 rfl rfl ?_
    refine EV.aload_n 1 dX13_blockOf_61 rfl rfl ?_
    obtain ⟨v37, gv37, h⟩ := px_bs h
    refine ev_gI dX13_blockOf_62 flRX13_97 gv37 ?_
    obtain ⟨v38, gv38, h⟩ := px_bs h
    refine ev_dI dX13_blockOf_65 gv38 ?_
    refine EV.aload_n 1 dX13_blockOf_66 rfl rfl ?_
    obtain ⟨v39, gv39, h⟩ := px_bs h
    refine ev_gR dX13_blockOf_67 flRX13_15 gv39 ?_
    refine EV.iload_n 2 dX13_blockOf_70 rfl rfl ?_
    obtain ⟨v40, gv40, h⟩ := px_bs h
    refine ev_aI dX13_blockOf_71 gv40 ?_
    refine EV.imul dX13_blockOf_72 ?_
    refine EV.iload_n 4 dX13_blockOf_73 rfl rfl ?_
    refine EV.aload_n 1 dX13_blockOf_74 rfl rfl ?_
    obtain ⟨v41, gv41, h⟩ := px_bs h
    refine ev_gR dX13_blockOf_75 flRX13_9 gv41 ?_
    refine EV.iload_n 2 dX13_blockOf_78 rfl rfl ?_
    obtain ⟨v42, gv42, h⟩ := px_bs h
    refine ev_aI dX13_blockOf_79 gv42 ?_
    obtain ⟨v43, gv43, h⟩ := px_bs h
    refine ev_dI dX13_blockOf_80 gv43 ?_
    refine EV.iadd dX13_blockOf_81 ?_
    refine EV.istore [(5, .int ((v38 * v40) + v43)), (4, .int ((v31 * v33) + v36)), (0, .ref a0), (1, .int a1), (2, .int a2), (3, .int a3)] dX13_blockOf_82 (by decide) rfl ?_
    refine EV.iload 0 dX13_blockOf_84 rfl ?_
    refine EV.aload_n 2 dX13_blockOf_86 rfl rfl ?_
    obtain ⟨v44, gv44, h⟩ := px_bs h
    refine ev_gR dX13_blockOf_87 flRX13_18 gv44 ?_
    refine EV.iload_n 3 dX13_blockOf_90 rfl rfl ?_
    obtain ⟨v45, gv45, h⟩ := px_bs h
    refine ev_aI dX13_blockOf_91 gv45 ?_
    refine EV.imul dX13_blockOf_92 ?_
    refine EV.iload 1 dX13_blockOf_93 rfl ?_
    refine EV.iadd dX13_blockOf_95 ?_
    cases h
    exact EV.reti dX13_blockOf_96 rfl
  · rw [if_pos c29] at h
    refine EV.iload_n 2 dX13_blockOf_11 rfl rfl ?_
    refine EV.aload_n 0 dX13_blockOf_12 rfl rfl ?_
    obtain ⟨v46, gv46, h⟩ := px_bs h
    refine ev_gR dX13_blockOf_13 flRX13_24 gv46 ?_
    refine EV.iload_n 1 dX13_blockOf_16 rfl rfl ?_
    obtain ⟨v47, gv47, h⟩ := px_bs h
    refine ev_aI dX13_blockOf_17 gv47 ?_
    obtain ⟨v48, gv48, h⟩ := px_bs h
    refine ev_dI dX13_blockOf_18 gv48 ?_
    refine EV.aload_n 0 dX13_blockOf_19 rfl rfl ?_
    obtain ⟨v49, gv49, h⟩ := px_bs h
    refine ev_gR dX13_blockOf_20 flRX13_18 gv49 ?_
    refine EV.iload_n 1 dX13_blockOf_23 rfl rfl ?_
    obtain ⟨v50, gv50, h⟩ := px_bs h
    refine ev_aI dX13_blockOf_24 gv50 ?_
    refine EV.imul dX13_blockOf_25 ?_
    refine EV.iload_n 2 dX13_blockOf_26 rfl rfl ?_
    refine EV.aload_n 0 dX13_blockOf_27 rfl rfl ?_
    obtain ⟨v51, gv51, h⟩ := px_bs h
    refine ev_gR dX13_blockOf_28 flRX13_24 gv51 ?_
    refine EV.iload_n 1 dX13_blockOf_31 rfl rfl ?_
    obtain ⟨v52, gv52, h⟩ := px_bs h
    refine ev_aI dX13_blockOf_32 gv52 ?_
    obtain ⟨v53, gv53, h⟩ := px_bs h
    refine ev_rI dX13_blockOf_33 gv53 ?_
    refine EV.iadd dX13_blockOf_34 ?_
    cases h
    exact EV.reti dX13_blockOf_35 rfl
/-! WavePicturesModel$Scans.blocksIn(I)I -/
theorem dX13_blocksIn_0 : decode cX13_blocksIn 0 = .ok (.aload_n 0, 1) := by decide +kernel
theorem dX13_blocksIn_1 : decode cX13_blocksIn 1 = .ok (.getfield 103, 3) := by decide +kernel
theorem dX13_blocksIn_4 : decode cX13_blocksIn 4 = .ok (.iload_n 1, 1) := by decide +kernel
theorem dX13_blocksIn_5 : decode cX13_blocksIn 5 = .ok (.ishr, 1) := by decide +kernel
theorem dX13_blocksIn_6 : decode cX13_blocksIn 6 = .ok (.iconst 1, 1) := by decide +kernel
theorem dX13_blocksIn_7 : decode cX13_blocksIn 7 = .ok (.iand, 1) := by decide +kernel
theorem dX13_blocksIn_8 : decode cX13_blocksIn 8 = .ok (.ifCond .ne 7, 3) := by decide +kernel
theorem dX13_blocksIn_11 : decode cX13_blocksIn 11 = .ok (.iconst 0, 1) := by decide +kernel
theorem dX13_blocksIn_12 : decode cX13_blocksIn 12 = .ok (.goto 31, 3) := by decide +kernel
theorem dX13_blocksIn_15 : decode cX13_blocksIn 15 = .ok (.aload_n 0, 1) := by decide +kernel
theorem dX13_blocksIn_16 : decode cX13_blocksIn 16 = .ok (.getfield 103, 3) := by decide +kernel
theorem dX13_blocksIn_19 : decode cX13_blocksIn 19 = .ok (.invokestatic 138, 3) := by decide +kernel
theorem dX13_blocksIn_22 : decode cX13_blocksIn 22 = .ok (.iconst 1, 1) := by decide +kernel
theorem dX13_blocksIn_23 : decode cX13_blocksIn 23 = .ok (.if_icmp .ne 7, 3) := by decide +kernel
theorem dX13_blocksIn_26 : decode cX13_blocksIn 26 = .ok (.iconst 1, 1) := by decide +kernel
theorem dX13_blocksIn_27 : decode cX13_blocksIn 27 = .ok (.goto 16, 3) := by decide +kernel
theorem dX13_blocksIn_30 : decode cX13_blocksIn 30 = .ok (.aload_n 0, 1) := by decide +kernel
theorem dX13_blocksIn_31 : decode cX13_blocksIn 31 = .ok (.getfield 9, 3) := by decide +kernel
theorem dX13_blocksIn_34 : decode cX13_blocksIn 34 = .ok (.iload_n 1, 1) := by decide +kernel
theorem dX13_blocksIn_35 : decode cX13_blocksIn 35 = .ok (.iaload, 1) := by decide +kernel
theorem dX13_blocksIn_36 : decode cX13_blocksIn 36 = .ok (.aload_n 0, 1) := by decide +kernel
theorem dX13_blocksIn_37 : decode cX13_blocksIn 37 = .ok (.getfield 15, 3) := by decide +kernel
theorem dX13_blocksIn_40 : decode cX13_blocksIn 40 = .ok (.iload_n 1, 1) := by decide +kernel
theorem dX13_blocksIn_41 : decode cX13_blocksIn 41 = .ok (.iaload, 1) := by decide +kernel
theorem dX13_blocksIn_42 : decode cX13_blocksIn 42 = .ok (.imul, 1) := by decide +kernel
theorem dX13_blocksIn_43 : decode cX13_blocksIn 43 = .ok (.ireturn, 1) := by decide +kernel
theorem kcX13_blocksIn_138 : px_cS mX13_blocksIn 138 mX13_ones 1 := ⟨⟨mbX13_ones, by decide, by decide⟩, Or.inl (tb9 (List.mem_of_getElem? (i := 5) rfl)), tb9 (List.mem_of_getElem? (i := 6) rfl)⟩
set_option maxRecDepth 100000 in
set_option maxHeartbeats 4000000 in
theorem eX13_blocksIn {X : px_X} {w : px_W} {a0 : Nat} {a1 : Int32} {q : Int32 × px_W} (h : fX13_blocksIn X w a0 a1 = some q) : EV X mX13_blocksIn 0 (lv_args 0 [.ref a0, .int a1]) [] w (some (.int q.1)) q.2 := by
  unfold fX13_blocksIn at h
  show EV X mX13_blocksIn 0 [(0, .ref a0), (1, .int a1)] [] w (some (.int q.1)) q.2
  refine EV.aload_n 0 dX13_blocksIn_0 rfl rfl ?_
  obtain ⟨v8, gv8, h⟩ := px_bs h
  refine ev_gI dX13_blocksIn_1 flRX13_103 gv8 ?_
  refine EV.iload_n 1 dX13_blocksIn_4 rfl rfl ?_
  refine EV.ishr dX13_blocksIn_5 ?_
  refine EV.iconst (1) dX13_blocksIn_6 (by decide) ?_
  refine EV.iand dX13_blocksIn_7 ?_
  refine EV.if_ne 15 dX13_blocksIn_8 (by decide) (fun c9 => ?_) (fun c9 => ?_)
  · rw [if_neg c9] at h
    refine EV.aload_n 0 dX13_blocksIn_15 rfl rfl ?_
    obtain ⟨v10, gv10, h⟩ := px_bs h
    refine ev_gI dX13_blocksIn_16 flRX13_103 gv10 ?_
    obtain ⟨q11, gq11, h⟩ := px_bs h
    refine EV.callS (As := [.int v10]) (rest := []) dX13_blocksIn_19 kcX13_blocksIn_138 rfl (Nat.le_of_ble_eq_true rfl) (Nat.le_of_ble_eq_true rfl) (eX13_ones gq11) ?_
    refine EV.iconst (1) dX13_blocksIn_22 (by decide) ?_
    refine EV.icmp_ne 30 dX13_blocksIn_23 (by decide) (fun c12 => ?_) (fun c12 => ?_)
    · rw [if_neg c12] at h
      refine EV.aload_n 0 dX13_blocksIn_30 rfl rfl ?_
      obtain ⟨v13, gv13, h⟩ := px_bs h
      refine ev_gR dX13_blocksIn_31 flRX13_9 gv13 ?_
      refine EV.iload_n 1 dX13_blocksIn_34 rfl rfl ?_
      obtain ⟨v14, gv14, h⟩ := px_bs h
      refine ev_aI dX13_blocksIn_35 gv14 ?_
      refine EV.aload_n 0 dX13_blocksIn_36 rfl rfl ?_
      obtain ⟨v15, gv15, h⟩ := px_bs h
      refine ev_gR dX13_blocksIn_37 flRX13_15 gv15 ?_
      refine EV.iload_n 1 dX13_blocksIn_40 rfl rfl ?_
      obtain ⟨v16, gv16, h⟩ := px_bs h
      refine ev_aI dX13_blocksIn_41 gv16 ?_
      refine EV.imul dX13_blocksIn_42 ?_
      cases h
      exact EV.reti dX13_blocksIn_43 rfl
    · rw [if_pos c12] at h
      refine EV.iconst (1) dX13_blocksIn_26 (by decide) ?_
      refine EV.goto 43 dX13_blocksIn_27 (by decide) ?_
      cases h
      exact EV.reti dX13_blocksIn_43 rfl
  · rw [if_pos c9] at h
    refine EV.iconst (0) dX13_blocksIn_11 (by decide) ?_
    refine EV.goto 43 dX13_blocksIn_12 (by decide) ?_
    cases h
    exact EV.reti dX13_blocksIn_43 rfl
/-! WavePicturesModel$Scans.align()V -/
theorem dX13_align_0 : decode cX13_align 0 = .ok (.aload_n 0, 1) := by decide +kernel
theorem dX13_align_1 : decode cX13_align 1 = .ok (.getfield 154, 3) := by decide +kernel
theorem dX13_align_4 : decode cX13_align 4 = .ok (.ifCond .le 11, 3) := by decide +kernel
theorem dX13_align_7 : decode cX13_align 7 = .ok (.aload_n 0, 1) := by decide +kernel
theorem dX13_align_8 : decode cX13_align 8 = .ok (.iconst 1, 1) := by decide +kernel
theorem dX13_align_9 : decode cX13_align 9 = .ok (.invokevirtual 167, 3) := by decide +kernel
theorem dX13_align_12 : decode cX13_align 12 = .ok (.goto (-12), 3) := by decide +kernel
theorem dX13_align_15 : decode cX13_align 15 = .ok (.return_, 1) := by decide +kernel
theorem kcX13_align_167 : px_cV mX13_align 167 mX13_bit 1 := ⟨⟨mbX13_bit, by decide, by decide⟩, Or.inl (tb9 (List.mem_of_getElem? (i := 174) rfl)), vbX13_bit⟩
set_option maxRecDepth 100000 in
set_option maxHeartbeats 4000000 in
theorem eX13_align_0 {X : px_X}  : ∀ (m : Nat) (a0 : Nat) (w : px_W) (q : px_W), fX13_align_0 X  m a0 w = some q → EV X mX13_align 0 [(0, .ref a0)] [] w none q := by
  intro m
  induction m with
  | zero => intro a0 w q h; cases h
  | succ m ih =>
    intro a0 w q h
    rw [fX13_align_0.eq_2] at h
    refine EV.aload_n 0 dX13_align_0 rfl rfl ?_
    obtain ⟨v4, gv4, h⟩ := px_bs h
    refine ev_gI dX13_align_1 flRX13_154 gv4 ?_
    refine EV.if_le 15 dX13_align_4 (by decide) (fun c5 => ?_) (fun c5 => ?_)
    · rw [if_pos c5] at h
      cases h
      exact EV.ret0 dX13_align_15 trivial
    · rw [if_neg c5] at h
      refine EV.aload_n 0 dX13_align_7 rfl rfl ?_
      refine EV.iconst (1) dX13_align_8 (by decide) ?_
      obtain ⟨o6, go6, h⟩ := px_bs h
      obtain ⟨q7, gq7, h⟩ := px_bs h
      refine EV.callV (As := [.int 1]) (rest := []) dX13_align_9 kcX13_align_167 (gO_ok go6) rfl rfl rfl (Nat.le_of_ble_eq_true rfl) (Nat.le_of_ble_eq_true rfl) (eX13_bit gq7) ?_
      refine EV.goto 0 dX13_align_12 (by decide) ?_
      refine EV.sub [0] rfl ?_
      exact ih _ _ _ h
set_option maxRecDepth 100000 in
set_option maxHeartbeats 4000000 in
theorem eX13_align {X : px_X} {w : px_W} {a0 : Nat} {q : px_W} (h : fX13_align X w a0 = some q) : EV X mX13_align 0 (lv_args 0 [.ref a0]) [] w none q := by
  unfold fX13_align at h
  show EV X mX13_align 0 [(0, .ref a0)] [] w none q
  refine EV.sub [0] rfl ?_
  exact eX13_align_0  FU _ _ _ h
