/-! WavePictures$SegmentReader.<init>(LWavePictures$Bytes;LWavePictures$Picture;)V -/
theorem dX8_init_0 : decode cX8_init 0 = .ok (.aload_n 0, 1) := by decide +kernel
theorem dX8_init_1 : decode cX8_init 1 = .ok (.invokespecial 3, 3) := by decide +kernel
theorem dX8_init_4 : decode cX8_init 4 = .ok (.aload_n 0, 1) := by decide +kernel
theorem dX8_init_5 : decode cX8_init 5 = .ok (.new 9, 3) := by decide +kernel
theorem dX8_init_8 : decode cX8_init 8 = .ok (.dup, 1) := by decide +kernel
theorem dX8_init_9 : decode cX8_init 9 = .ok (.invokespecial 11, 3) := by decide +kernel
theorem dX8_init_12 : decode cX8_init 12 = .ok (.putfield 12, 3) := by decide +kernel
theorem dX8_init_15 : decode cX8_init 15 = .ok (.aload_n 0, 1) := by decide +kernel
theorem dX8_init_16 : decode cX8_init 16 = .ok (.bipush 8, 2) := by decide +kernel
theorem dX8_init_18 : decode cX8_init 18 = .ok (.anewarray 18, 3) := by decide +kernel
theorem dX8_init_21 : decode cX8_init 21 = .ok (.putfield 20, 3) := by decide +kernel
theorem dX8_init_24 : decode cX8_init 24 = .ok (.aload_n 0, 1) := by decide +kernel
theorem dX8_init_25 : decode cX8_init 25 = .ok (.iconst 4, 1) := by decide +kernel
theorem dX8_init_26 : decode cX8_init 26 = .ok (.newarray .int, 2) := by decide +kernel
theorem dX8_init_28 : decode cX8_init 28 = .ok (.putfield 24, 3) := by decide +kernel
theorem dX8_init_31 : decode cX8_init 31 = .ok (.aload_n 0, 1) := by decide +kernel
theorem dX8_init_32 : decode cX8_init 32 = .ok (.iconst 4, 1) := by decide +kernel
theorem dX8_init_33 : decode cX8_init 33 = .ok (.newarray .int, 2) := by decide +kernel
theorem dX8_init_35 : decode cX8_init 35 = .ok (.putfield 28, 3) := by decide +kernel
theorem dX8_init_38 : decode cX8_init 38 = .ok (.aload_n 0, 1) := by decide +kernel
theorem dX8_init_39 : decode cX8_init 39 = .ok (.sipush 256, 3) := by decide +kernel
theorem dX8_init_42 : decode cX8_init 42 = .ok (.newarray .int, 2) := by decide +kernel
theorem dX8_init_44 : decode cX8_init 44 = .ok (.putfield 31, 3) := by decide +kernel
theorem dX8_init_47 : decode cX8_init 47 = .ok (.aload_n 0, 1) := by decide +kernel
theorem dX8_init_48 : decode cX8_init 48 = .ok (.sipush 256, 3) := by decide +kernel
theorem dX8_init_51 : decode cX8_init 51 = .ok (.newarray .int, 2) := by decide +kernel
theorem dX8_init_53 : decode cX8_init 53 = .ok (.putfield 34, 3) := by decide +kernel
theorem dX8_init_56 : decode cX8_init 56 = .ok (.aload_n 0, 1) := by decide +kernel
theorem dX8_init_57 : decode cX8_init 57 = .ok (.sipush 256, 3) := by decide +kernel
theorem dX8_init_60 : decode cX8_init 60 = .ok (.newarray .int, 2) := by decide +kernel
theorem dX8_init_62 : decode cX8_init 62 = .ok (.putfield 37, 3) := by decide +kernel
theorem dX8_init_65 : decode cX8_init 65 = .ok (.aload_n 0, 1) := by decide +kernel
theorem dX8_init_66 : decode cX8_init 66 = .ok (.aload_n 1, 1) := by decide +kernel
theorem dX8_init_67 : decode cX8_init 67 = .ok (.putfield 40, 3) := by decide +kernel
theorem dX8_init_70 : decode cX8_init 70 = .ok (.aload_n 0, 1) := by decide +kernel
theorem dX8_init_71 : decode cX8_init 71 = .ok (.aload_n 2, 1) := by decide +kernel
theorem dX8_init_72 : decode cX8_init 72 = .ok (.putfield 44, 3) := by decide +kernel
theorem dX8_init_75 : decode cX8_init 75 = .ok (.iconst 0, 1) := by decide +kernel
theorem dX8_init_76 : decode cX8_init 76 = .ok (.istore_n 3, 1) := by decide +kernel
theorem dX8_init_77 : decode cX8_init 77 = .ok (.iload_n 3, 1) := by decide +kernel
theorem dX8_init_78 : decode cX8_init 78 = .ok (.bipush 8, 2) := by decide +kernel
theorem dX8_init_80 : decode cX8_init 80 = .ok (.if_icmp .ge 22, 3) := by decide +kernel
theorem dX8_init_83 : decode cX8_init 83 = .ok (.aload_n 0, 1) := by decide +kernel
theorem dX8_init_84 : decode cX8_init 84 = .ok (.getfield 20, 3) := by decide +kernel
theorem dX8_init_87 : decode cX8_init 87 = .ok (.iload_n 3, 1) := by decide +kernel
theorem dX8_init_88 : decode cX8_init 88 = .ok (.new 18, 3) := by decide +kernel
theorem dX8_init_91 : decode cX8_init 91 = .ok (.dup, 1) := by decide +kernel
theorem dX8_init_92 : decode cX8_init 92 = .ok (.invokespecial 48, 3) := by decide +kernel
theorem dX8_init_95 : decode cX8_init 95 = .ok (.aastore, 1) := by decide +kernel
theorem dX8_init_96 : decode cX8_init 96 = .ok (.iinc 3 1, 3) := by decide +kernel
theorem dX8_init_99 : decode cX8_init 99 = .ok (.goto (-22), 3) := by decide +kernel
theorem dX8_init_102 : decode cX8_init 102 = .ok (.return_, 1) := by decide +kernel
theorem flRX8_20 : px_f RX8 20 8 3 := ⟨_, rfl, by decide, Or.inl (tb2 (List.mem_of_getElem? (i := 62) rfl))⟩
theorem flRX8_44 : px_f RX8 44 8 1 := ⟨_, rfl, by decide, Or.inl (tb2 (List.mem_of_getElem? (i := 59) rfl))⟩
theorem nd10 : ∀ j, j < 6 → defaultValue (px_fty (RX10, TX10, 6) j) = vp_V [.null, .null, .null, .null, .int 0, .int 0] j := by decide +kernel
theorem kcX8_init_11 : px_cI mX8_init 11 mX5_init 0 := ⟨⟨mbX5_init, by decide, by decide⟩, Or.inr ⟨"WavePictures", tT1 (List.mem_of_getElem? (i := 180) rfl)⟩, rfl, tb1 (List.mem_of_getElem? (i := 181) rfl), rfl⟩
theorem mbX10_init : px_mB mX10_init 0 := ⟨tb2 (List.mem_of_getElem? (i := 33) rfl), by decide +kernel, tb1 (List.mem_of_getElem? (i := 8) rfl), by decide +kernel, by decide +kernel⟩
theorem kcX8_init_48 : px_cI mX8_init 48 mX10_init 0 := ⟨⟨mbX10_init, by decide, by decide⟩, Or.inr ⟨"WavePictures", tT2 (List.mem_of_getElem? (i := 31) rfl)⟩, rfl, tb2 (List.mem_of_getElem? (i := 32) rfl), rfl⟩
set_option maxRecDepth 100000 in
set_option maxHeartbeats 4000000 in
theorem eX8_init_77 {X : px_X}  : ∀ (m : Nat) (a0 : Nat) (a3 : Int32) (w : px_W) (q : px_W), fX8_init_77 X  m a0 a3 w = some q → EV X mX8_init 77 [(0, .ref a0), (3, .int a3)] [] w none q := by
  intro m
  induction m with
  | zero => intro a0 a3 w q h; cases h
  | succ m ih =>
    intro a0 a3 w q h
    rw [fX8_init_77.eq_2] at h
    refine EV.iload_n 1 dX8_init_77 rfl rfl ?_
    refine EV.bipush (8) dX8_init_78 (by decide) ?_
    refine EV.icmp_ge 102 dX8_init_80 (by decide) (fun c22 => ?_) (fun c22 => ?_)
    · rw [if_pos c22] at h
      cases h
      exact EV.ret0 dX8_init_102 trivial
    · rw [if_neg c22] at h
      refine EV.aload_n 0 dX8_init_83 rfl rfl ?_
      obtain ⟨v23, gv23, h⟩ := px_bs h
      refine ev_gR dX8_init_84 flRX8_20 gv23 ?_
      refine EV.iload_n 1 dX8_init_87 rfl rfl ?_
      obtain ⟨q24, gq24, h⟩ := px_bs h
      refine ev_nO (q := (RX10, TX10, 6)) dX8_init_88 rfl rfl (tb2 (List.mem_of_getElem? (i := 28) rfl)) (tb2 (List.mem_of_getElem? (i := 30) rfl)) (tb1 (List.mem_of_getElem? (i := 8) rfl)) nd10 gq24 ?_
      refine EV.dup dX8_init_91 rfl ?_
      obtain ⟨q25, gq25, h⟩ := px_bs h
      refine EV.callI (As := []) (rest := [.ref q24.1, .int a3, .ref v23]) dX8_init_92 kcX8_init_48 rfl (Nat.le_of_ble_eq_true rfl) (Nat.le_of_ble_eq_true rfl) (eX10_init gq25) ?_
      obtain ⟨w26, gw26, h⟩ := px_bs h
      refine ev_sQ dX8_init_95 (ci := 10) rfl rfl gw26 ?_
      refine EV.iinc 1 (a3 + 1) [(3, .int (a3 + 1)), (0, .ref a0)] dX8_init_96 rfl rfl (by decide) rfl ?_
      refine EV.goto 77 dX8_init_99 (by decide) ?_
      refine EV.sub [1, 0] rfl ?_
      exact ih _ _ _ _ h
set_option maxRecDepth 100000 in
set_option maxHeartbeats 4000000 in
theorem eX8_init {X : px_X} {w : px_W} {a0 : Nat} {a1 : Nat} {a2 : Nat} {q : px_W} (h : fX8_init X w a0 a1 a2 = some q) : EV X mX8_init 0 (lv_args 0 [.ref a0, .ref a1, .ref a2]) [] w none q := by
  unfold fX8_init at h
  show EV X mX8_init 0 [(0, .ref a0), (1, .ref a1), (2, .ref a2)] [] w none q
  refine EV.aload_n 0 dX8_init_0 rfl rfl ?_
  refine EV.objI dX8_init_1 (tb1 (List.mem_of_getElem? (i := 177) rfl)) (by decide) (by decide) (Nat.le_of_ble_eq_true rfl) ?_
  refine EV.aload_n 0 dX8_init_4 rfl rfl ?_
  obtain ⟨q27, gq27, h⟩ := px_bs h
  refine ev_nO (q := (RX5, TX5, 17)) dX8_init_5 rfl rfl (tb1 (List.mem_of_getElem? (i := 178) rfl)) (tb1 (List.mem_of_getElem? (i := 179) rfl)) (tb1 (List.mem_of_getElem? (i := 7) rfl)) nd5 gq27 ?_
  refine EV.dup dX8_init_8 rfl ?_
  obtain ⟨q28, gq28, h⟩ := px_bs h
  refine EV.callI (As := []) (rest := [.ref q27.1, .ref a0]) dX8_init_9 kcX8_init_11 rfl (Nat.le_of_ble_eq_true rfl) (Nat.le_of_ble_eq_true rfl) (eX5_init gq28) ?_
  obtain ⟨w29, gw29, h⟩ := px_bs h
  refine ev_pF dX8_init_12 (ci := 8) (k := 2) rfl (by decide) (tb2 (List.mem_of_getElem? (i := 60) rfl)) rfl rfl rfl rfl rfl gw29 ?_
  refine EV.aload_n 0 dX8_init_15 rfl rfl ?_
  refine EV.bipush (8) dX8_init_16 (by decide) ?_
  obtain ⟨q30, gq30, h⟩ := px_bs h
  refine ev_nQ dX8_init_18 (t := 7) rfl (tb2 (List.mem_of_getElem? (i := 28) rfl)) (List.mem_of_getElem? (i := 269) (by decide +kernel)) gq30 ?_
  obtain ⟨w31, gw31, h⟩ := px_bs h
  refine ev_pF dX8_init_21 (ci := 8) (k := 3) rfl (by decide) (tb2 (List.mem_of_getElem? (i := 62) rfl)) rfl rfl rfl rfl rfl gw31 ?_
  refine EV.aload_n 0 dX8_init_24 rfl rfl ?_
  refine EV.iconst (4) dX8_init_25 (by decide) ?_
  obtain ⟨q32, gq32, h⟩ := px_bs h
  refine ev_nI dX8_init_26 gq32 ?_
  obtain ⟨w33, gw33, h⟩ := px_bs h
  refine ev_pF dX8_init_28 (ci := 8) (k := 15) rfl (by decide) (tb2 (List.mem_of_getElem? (i := 79) rfl)) rfl rfl rfl rfl rfl gw33 ?_
  refine EV.aload_n 0 dX8_init_31 rfl rfl ?_
  refine EV.iconst (4) dX8_init_32 (by decide) ?_
  obtain ⟨q34, gq34, h⟩ := px_bs h
  refine ev_nI dX8_init_33 gq34 ?_
  obtain ⟨w35, gw35, h⟩ := px_bs h
  refine ev_pF dX8_init_35 (ci := 8) (k := 16) rfl (by decide) (tb2 (List.mem_of_getElem? (i := 80) rfl)) rfl rfl rfl rfl rfl gw35 ?_
  refine EV.aload_n 0 dX8_init_38 rfl rfl ?_
  refine EV.sipush (256) dX8_init_39 (by decide) ?_
  obtain ⟨q36, gq36, h⟩ := px_bs h
  refine ev_nI dX8_init_42 gq36 ?_
  obtain ⟨w37, gw37, h⟩ := px_bs h
  refine ev_pF dX8_init_44 (ci := 8) (k := 17) rfl (by decide) (tb2 (List.mem_of_getElem? (i := 81) rfl)) rfl rfl rfl rfl rfl gw37 ?_
  refine EV.aload_n 0 dX8_init_47 rfl rfl ?_
  refine EV.sipush (256) dX8_init_48 (by decide) ?_
  obtain ⟨q38, gq38, h⟩ := px_bs h
  refine ev_nI dX8_init_51 gq38 ?_
  obtain ⟨w39, gw39, h⟩ := px_bs h
  refine ev_pF dX8_init_53 (ci := 8) (k := 18) rfl (by decide) (tb2 (List.mem_of_getElem? (i := 82) rfl)) rfl rfl rfl rfl rfl gw39 ?_
  refine EV.aload_n 0 dX8_init_56 rfl rfl ?_
  refine EV.sipush (256) dX8_init_57 (by decide) ?_
  obtain ⟨q40, gq40, h⟩ := px_bs h
  refine ev_nI dX8_init_60 gq40 ?_
  obtain ⟨w41, gw41, h⟩ := px_bs h
  refine ev_pF dX8_init_62 (ci := 8) (k := 19) rfl (by decide) (tb2 (List.mem_of_getElem? (i := 83) rfl)) rfl rfl rfl rfl rfl gw41 ?_
  refine EV.aload_n 0 dX8_init_65 rfl rfl ?_
  refine EV.aload_n 1 dX8_init_66 rfl rfl ?_
  obtain ⟨w42, gw42, h⟩ := px_bs h
  refine ev_pF dX8_init_67 (ci := 8) (k := 0) rfl (by decide) (tb2 (List.mem_of_getElem? (i := 58) rfl)) rfl rfl rfl rfl rfl gw42 ?_
  refine EV.aload_n 0 dX8_init_70 rfl rfl ?_
  refine EV.aload_n 2 dX8_init_71 rfl rfl ?_
  obtain ⟨w43, gw43, h⟩ := px_bs h
  refine ev_pV dX8_init_72 flRX8_44 rfl rfl rfl rfl gw43 ?_
  refine EV.iconst (0) dX8_init_75 (by decide) ?_
  refine EV.istore_n [(3, .int 0), (0, .ref a0), (1, .ref a1), (2, .ref a2)] dX8_init_76 rfl (by decide) rfl ?_
  refine EV.sub [1, 0] rfl ?_
  exact eX8_init_77  FU _ _ _ _ h
/-! WavePictures$SegmentReader.fail(II)I -/
theorem dX8_fail_0 : decode cX8_fail 0 = .ok (.aload_n 0, 1) := by decide +kernel
theorem dX8_fail_1 : decode cX8_fail 1 = .ok (.iload_n 1, 1) := by decide +kernel
theorem dX8_fail_2 : decode cX8_fail 2 = .ok (.putfield 62, 3) := by decide +kernel
theorem dX8_fail_5 : decode cX8_fail 5 = .ok (.aload_n 0, 1) := by decide +kernel
theorem dX8_fail_6 : decode cX8_fail 6 = .ok (.iload_n 2, 1) := by decide +kernel
theorem dX8_fail_7 : decode cX8_fail 7 = .ok (.putfield 65, 3) := by decide +kernel
theorem dX8_fail_10 : decode cX8_fail 10 = .ok (.iconst (-1), 1) := by decide +kernel
theorem dX8_fail_11 : decode cX8_fail 11 = .ok (.ireturn, 1) := by decide +kernel
theorem flRX8_62 : px_f RX8 62 8 6 := ⟨_, rfl, by decide, Or.inl (tb2 (List.mem_of_getElem? (i := 68) rfl))⟩
theorem flRX8_65 : px_f RX8 65 8 7 := ⟨_, rfl, by decide, Or.inl (tb2 (List.mem_of_getElem? (i := 70) rfl))⟩
set_option maxRecDepth 100000 in
set_option maxHeartbeats 4000000 in
theorem eX8_fail {X : px_X} {w : px_W} {a0 : Nat} {a1 : Int32} {a2 : Int32} {q : Int32 × px_W} (h : fX8_fail X w a0 a1 a2 = some q) : EV X mX8_fail 0 (lv_args 0 [.ref a0, .int a1, .int a2]) [] w (some (.int q.1)) q.2 := by
  unfold fX8_fail at h
  show EV X mX8_fail 0 [(0, .ref a0), (1, .int a1), (2, .int a2)] [] w (some (.int q.1)) q.2
  refine EV.aload_n 0 dX8_fail_0 rfl rfl ?_
  refine EV.iload_n 1 dX8_fail_1 rfl rfl ?_
  obtain ⟨w3, gw3, h⟩ := px_bs h
  refine ev_pV dX8_fail_2 flRX8_62 rfl rfl rfl rfl gw3 ?_
  refine EV.aload_n 0 dX8_fail_5 rfl rfl ?_
  refine EV.iload_n 2 dX8_fail_6 rfl rfl ?_
  obtain ⟨w4, gw4, h⟩ := px_bs h
  refine ev_pV dX8_fail_7 flRX8_65 rfl rfl rfl rfl gw4 ?_
  refine EV.iconst ((-1)) dX8_fail_10 (by decide) ?_
  cases h
  exact EV.reti dX8_fail_11 rfl
/-! WavePictures$SegmentReader.beginAgain()V -/
theorem dX8_beginAgain_0 : decode cX8_beginAgain 0 = .ok (.aload_n 0, 1) := by decide +kernel
theorem dX8_beginAgain_1 : decode cX8_beginAgain 1 = .ok (.iconst 0, 1) := by decide +kernel
theorem dX8_beginAgain_2 : decode cX8_beginAgain 2 = .ok (.putfield 56, 3) := by decide +kernel
theorem dX8_beginAgain_5 : decode cX8_beginAgain 5 = .ok (.aload_n 0, 1) := by decide +kernel
theorem dX8_beginAgain_6 : decode cX8_beginAgain 6 = .ok (.iconst 0, 1) := by decide +kernel
theorem dX8_beginAgain_7 : decode cX8_beginAgain 7 = .ok (.putfield 59, 3) := by decide +kernel
theorem dX8_beginAgain_10 : decode cX8_beginAgain 10 = .ok (.aload_n 0, 1) := by decide +kernel
theorem dX8_beginAgain_11 : decode cX8_beginAgain 11 = .ok (.iconst 0, 1) := by decide +kernel
theorem dX8_beginAgain_12 : decode cX8_beginAgain 12 = .ok (.putfield 62, 3) := by decide +kernel
theorem dX8_beginAgain_15 : decode cX8_beginAgain 15 = .ok (.aload_n 0, 1) := by decide +kernel
theorem dX8_beginAgain_16 : decode cX8_beginAgain 16 = .ok (.iconst (-1), 1) := by decide +kernel
theorem dX8_beginAgain_17 : decode cX8_beginAgain 17 = .ok (.putfield 65, 3) := by decide +kernel
theorem dX8_beginAgain_20 : decode cX8_beginAgain 20 = .ok (.aload_n 0, 1) := by decide +kernel
theorem dX8_beginAgain_21 : decode cX8_beginAgain 21 = .ok (.iconst 0, 1) := by decide +kernel
theorem dX8_beginAgain_22 : decode cX8_beginAgain 22 = .ok (.putfield 68, 3) := by decide +kernel
theorem dX8_beginAgain_25 : decode cX8_beginAgain 25 = .ok (.aload_n 0, 1) := by decide +kernel
theorem dX8_beginAgain_26 : decode cX8_beginAgain 26 = .ok (.iconst 0, 1) := by decide +kernel
theorem dX8_beginAgain_27 : decode cX8_beginAgain 27 = .ok (.putfield 71, 3) := by decide +kernel
theorem dX8_beginAgain_30 : decode cX8_beginAgain 30 = .ok (.aload_n 0, 1) := by decide +kernel
theorem dX8_beginAgain_31 : decode cX8_beginAgain 31 = .ok (.iconst 0, 1) := by decide +kernel
theorem dX8_beginAgain_32 : decode cX8_beginAgain 32 = .ok (.putfield 75, 3) := by decide +kernel
theorem dX8_beginAgain_35 : decode cX8_beginAgain 35 = .ok (.aload_n 0, 1) := by decide +kernel
theorem dX8_beginAgain_36 : decode cX8_beginAgain 36 = .ok (.getfield 44, 3) := by decide +kernel
theorem dX8_beginAgain_39 : decode cX8_beginAgain 39 = .ok (.iconst 0, 1) := by decide +kernel
theorem dX8_beginAgain_40 : decode cX8_beginAgain 40 = .ok (.putfield 78, 3) := by decide +kernel
theorem dX8_beginAgain_43 : decode cX8_beginAgain 43 = .ok (.aload_n 0, 1) := by decide +kernel
theorem dX8_beginAgain_44 : decode cX8_beginAgain 44 = .ok (.getfield 31, 3) := by decide +kernel
theorem dX8_beginAgain_47 : decode cX8_beginAgain 47 = .ok (.iconst 0, 1) := by decide +kernel
theorem dX8_beginAgain_48 : decode cX8_beginAgain 48 = .ok (.invokestatic 83, 3) := by decide +kernel
theorem dX8_beginAgain_51 : decode cX8_beginAgain 51 = .ok (.aload_n 0, 1) := by decide +kernel
theorem dX8_beginAgain_52 : decode cX8_beginAgain 52 = .ok (.getfield 34, 3) := by decide +kernel
theorem dX8_beginAgain_55 : decode cX8_beginAgain 55 = .ok (.iconst (-1), 1) := by decide +kernel
theorem dX8_beginAgain_56 : decode cX8_beginAgain 56 = .ok (.invokestatic 83, 3) := by decide +kernel
theorem dX8_beginAgain_59 : decode cX8_beginAgain 59 = .ok (.iconst 0, 1) := by decide +kernel
theorem dX8_beginAgain_60 : decode cX8_beginAgain 60 = .ok (.istore_n 1, 1) := by decide +kernel
theorem dX8_beginAgain_61 : decode cX8_beginAgain 61 = .ok (.iload_n 1, 1) := by decide +kernel
theorem dX8_beginAgain_62 : decode cX8_beginAgain 62 = .ok (.bipush 8, 2) := by decide +kernel
theorem dX8_beginAgain_64 : decode cX8_beginAgain 64 = .ok (.if_icmp .ge 19, 3) := by decide +kernel
theorem dX8_beginAgain_67 : decode cX8_beginAgain 67 = .ok (.aload_n 0, 1) := by decide +kernel
theorem dX8_beginAgain_68 : decode cX8_beginAgain 68 = .ok (.getfield 20, 3) := by decide +kernel
theorem dX8_beginAgain_71 : decode cX8_beginAgain 71 = .ok (.iload_n 1, 1) := by decide +kernel
theorem dX8_beginAgain_72 : decode cX8_beginAgain 72 = .ok (.aaload, 1) := by decide +kernel
theorem dX8_beginAgain_73 : decode cX8_beginAgain 73 = .ok (.iconst 0, 1) := by decide +kernel
theorem dX8_beginAgain_74 : decode cX8_beginAgain 74 = .ok (.putfield 89, 3) := by decide +kernel
theorem dX8_beginAgain_77 : decode cX8_beginAgain 77 = .ok (.iinc 1 1, 3) := by decide +kernel
theorem dX8_beginAgain_80 : decode cX8_beginAgain 80 = .ok (.goto (-19), 3) := by decide +kernel
theorem dX8_beginAgain_83 : decode cX8_beginAgain 83 = .ok (.aload_n 0, 1) := by decide +kernel
theorem dX8_beginAgain_84 : decode cX8_beginAgain 84 = .ok (.iconst 2, 1) := by decide +kernel
theorem dX8_beginAgain_85 : decode cX8_beginAgain 85 = .ok (.putfield 92, 3) := by decide +kernel
theorem dX8_beginAgain_88 : decode cX8_beginAgain 88 = .ok (.aload_n 0, 1) := by decide +kernel
theorem dX8_beginAgain_89 : decode cX8_beginAgain 89 = .ok (.getfield 40, 3) := by decide +kernel
theorem dX8_beginAgain_92 : decode cX8_beginAgain 92 = .ok (.getfield 95, 3) := by decide +kernel
theorem dX8_beginAgain_95 : decode cX8_beginAgain 95 = .ok (.ifCond .ne 13, 3) := by decide +kernel
theorem dX8_beginAgain_98 : decode cX8_beginAgain 98 = .ok (.aload_n 0, 1) := by decide +kernel
theorem dX8_beginAgain_99 : decode cX8_beginAgain 99 = .ok (.iconst 1, 1) := by decide +kernel
theorem dX8_beginAgain_100 : decode cX8_beginAgain 100 = .ok (.iconst 0, 1) := by decide +kernel
theorem dX8_beginAgain_101 : decode cX8_beginAgain 101 = .ok (.invokevirtual 100, 3) := by decide +kernel
theorem dX8_beginAgain_104 : decode cX8_beginAgain 104 = .ok (.pop, 1) := by decide +kernel
theorem dX8_beginAgain_105 : decode cX8_beginAgain 105 = .ok (.goto 69, 3) := by decide +kernel
theorem dX8_beginAgain_108 : decode cX8_beginAgain 108 = .ok (.aload_n 0, 1) := by decide +kernel
theorem dX8_beginAgain_109 : decode cX8_beginAgain 109 = .ok (.getfield 40, 3) := by decide +kernel
theorem dX8_beginAgain_112 : decode cX8_beginAgain 112 = .ok (.iconst 0, 1) := by decide +kernel
theorem dX8_beginAgain_113 : decode cX8_beginAgain 113 = .ok (.invokevirtual 104, 3) := by decide +kernel
theorem dX8_beginAgain_116 : decode cX8_beginAgain 116 = .ok (.sipush 255, 3) := by decide +kernel
theorem dX8_beginAgain_119 : decode cX8_beginAgain 119 = .ok (.if_icmp .eq 13, 3) := by decide +kernel
theorem dX8_beginAgain_122 : decode cX8_beginAgain 122 = .ok (.aload_n 0, 1) := by decide +kernel
theorem dX8_beginAgain_123 : decode cX8_beginAgain 123 = .ok (.iconst 2, 1) := by decide +kernel
theorem dX8_beginAgain_124 : decode cX8_beginAgain 124 = .ok (.iconst 0, 1) := by decide +kernel
theorem dX8_beginAgain_125 : decode cX8_beginAgain 125 = .ok (.invokevirtual 100, 3) := by decide +kernel
theorem dX8_beginAgain_128 : decode cX8_beginAgain 128 = .ok (.pop, 1) := by decide +kernel
theorem dX8_beginAgain_129 : decode cX8_beginAgain 129 = .ok (.goto 45, 3) := by decide +kernel
theorem dX8_beginAgain_132 : decode cX8_beginAgain 132 = .ok (.aload_n 0, 1) := by decide +kernel
theorem dX8_beginAgain_133 : decode cX8_beginAgain 133 = .ok (.getfield 40, 3) := by decide +kernel
theorem dX8_beginAgain_136 : decode cX8_beginAgain 136 = .ok (.getfield 95, 3) := by decide +kernel
theorem dX8_beginAgain_139 : decode cX8_beginAgain 139 = .ok (.iconst 1, 1) := by decide +kernel
theorem dX8_beginAgain_140 : decode cX8_beginAgain 140 = .ok (.if_icmp .ne 13, 3) := by decide +kernel
theorem dX8_beginAgain_143 : decode cX8_beginAgain 143 = .ok (.aload_n 0, 1) := by decide +kernel
theorem dX8_beginAgain_144 : decode cX8_beginAgain 144 = .ok (.iconst 1, 1) := by decide +kernel
theorem dX8_beginAgain_145 : decode cX8_beginAgain 145 = .ok (.iconst 1, 1) := by decide +kernel
theorem dX8_beginAgain_146 : decode cX8_beginAgain 146 = .ok (.invokevirtual 100, 3) := by decide +kernel
theorem dX8_beginAgain_149 : decode cX8_beginAgain 149 = .ok (.pop, 1) := by decide +kernel
theorem dX8_beginAgain_150 : decode cX8_beginAgain 150 = .ok (.goto 24, 3) := by decide +kernel
theorem dX8_beginAgain_153 : decode cX8_beginAgain 153 = .ok (.aload_n 0, 1) := by decide +kernel
theorem dX8_beginAgain_154 : decode cX8_beginAgain 154 = .ok (.getfield 40, 3) := by decide +kernel
theorem dX8_beginAgain_157 : decode cX8_beginAgain 157 = .ok (.iconst 1, 1) := by decide +kernel
theorem dX8_beginAgain_158 : decode cX8_beginAgain 158 = .ok (.invokevirtual 104, 3) := by decide +kernel
theorem dX8_beginAgain_161 : decode cX8_beginAgain 161 = .ok (.sipush 216, 3) := by decide +kernel
theorem dX8_beginAgain_164 : decode cX8_beginAgain 164 = .ok (.if_icmp .eq 10, 3) := by decide +kernel
theorem dX8_beginAgain_167 : decode cX8_beginAgain 167 = .ok (.aload_n 0, 1) := by decide +kernel
theorem dX8_beginAgain_168 : decode cX8_beginAgain 168 = .ok (.iconst 2, 1) := by decide +kernel
theorem dX8_beginAgain_169 : decode cX8_beginAgain 169 = .ok (.iconst 0, 1) := by decide +kernel
theorem dX8_beginAgain_170 : decode cX8_beginAgain 170 = .ok (.invokevirtual 100, 3) := by decide +kernel
theorem dX8_beginAgain_173 : decode cX8_beginAgain 173 = .ok (.pop, 1) := by decide +kernel
theorem dX8_beginAgain_174 : decode cX8_beginAgain 174 = .ok (.return_, 1) := by decide +kernel
theorem flRX8_31 : px_f RX8 31 8 17 := ⟨_, rfl, by decide, Or.inl (tb2 (List.mem_of_getElem? (i := 81) rfl))⟩
theorem flRX8_34 : px_f RX8 34 8 18 := ⟨_, rfl, by decide, Or.inl (tb2 (List.mem_of_getElem? (i := 82) rfl))⟩
theorem flRX8_40 : px_f RX8 40 8 0 := ⟨_, rfl, by decide, Or.inl (tb2 (List.mem_of_getElem? (i := 58) rfl))⟩
theorem flRX8_56 : px_f RX8 56 8 4 := ⟨_, rfl, by decide, Or.inl (tb2 (List.mem_of_getElem? (i := 64) rfl))⟩
theorem flRX8_59 : px_f RX8 59 8 5 := ⟨_, rfl, by decide, Or.inl (tb2 (List.mem_of_getElem? (i := 66) rfl))⟩
theorem flRX8_68 : px_f RX8 68 8 11 := ⟨_, rfl, by decide, Or.inl (tb2 (List.mem_of_getElem? (i := 75) rfl))⟩
theorem flRX8_71 : px_f RX8 71 8 12 := ⟨_, rfl, by decide, Or.inl (tb2 (List.mem_of_getElem? (i := 76) rfl))⟩
theorem flRX8_75 : px_f RX8 75 8 13 := ⟨_, rfl, by decide, Or.inl (tb2 (List.mem_of_getElem? (i := 77) rfl))⟩
theorem flRX8_78 : px_f RX8 78 2 2 := ⟨_, rfl, by decide, Or.inl (tb1 (List.mem_of_getElem? (i := 65) rfl))⟩
theorem flRX8_89 : px_f RX8 89 10 4 := ⟨_, rfl, by decide, Or.inl (tb2 (List.mem_of_getElem? (i := 43) rfl))⟩
theorem flRX8_92 : px_f RX8 92 8 8 := ⟨_, rfl, by decide, Or.inl (tb2 (List.mem_of_getElem? (i := 72) rfl))⟩
theorem flRX8_95 : px_f RX8 95 1 1 := ⟨_, rfl, by decide, Or.inl (tb1 (List.mem_of_getElem? (i := 39) rfl))⟩
theorem kcX8_beginAgain_83 : px_cS mX8_beginAgain 83 mJ7_fill_53178 2 := ⟨⟨mbJ7_fill_53178, by decide, by decide⟩, Or.inl (tb3 (List.mem_of_getElem? (i := 140) rfl)), tb3 (List.mem_of_getElem? (i := 141) rfl)⟩
theorem mbX8_fail : px_mB mX8_fail 2 := ⟨tb3 (List.mem_of_getElem? (i := 146) rfl), by decide +kernel, tb1 (List.mem_of_getElem? (i := 6) rfl), by decide +kernel, by decide +kernel⟩
theorem vbX8_fail : px_vB mX8_fail := ⟨tb3 (List.mem_of_getElem? (i := 145) rfl), List.mem_append_left _ (List.mem_of_getElem? (i := 0) (by decide +kernel))⟩
theorem kcX8_beginAgain_100 : px_cV mX8_beginAgain 100 mX8_fail 2 := ⟨⟨mbX8_fail, by decide, by decide⟩, Or.inl (tb3 (List.mem_of_getElem? (i := 143) rfl)), vbX8_fail⟩
theorem kcX8_beginAgain_104 : px_cV mX8_beginAgain 104 mX1_at 1 := ⟨⟨mbX1_at, by decide, by decide⟩, Or.inl (tb3 (List.mem_of_getElem? (i := 147) rfl)), vbX1_at⟩
set_option maxRecDepth 100000 in
set_option maxHeartbeats 4000000 in
theorem eX8_beginAgain_83 {X : px_X}  : ∀ (a0 : Nat) (w : px_W) (q : px_W), fX8_beginAgain_83 X  a0 w = some q → EV X mX8_beginAgain 83 [(0, .ref a0)] [] w none q := by
  intro a0 w q h
  unfold fX8_beginAgain_83 at h
  refine EV.aload_n 0 dX8_beginAgain_83 rfl rfl ?_
  refine EV.iconst (2) dX8_beginAgain_84 (by decide) ?_
  obtain ⟨w36, gw36, h⟩ := px_bs h
  refine ev_pV dX8_beginAgain_85 flRX8_92 rfl rfl rfl rfl gw36 ?_
  refine EV.aload_n 0 dX8_beginAgain_88 rfl rfl ?_
  obtain ⟨v37, gv37, h⟩ := px_bs h
  refine ev_gR dX8_beginAgain_89 flRX8_40 gv37 ?_
  obtain ⟨v38, gv38, h⟩ := px_bs h
  refine ev_gI dX8_beginAgain_92 flRX8_95 gv38 ?_
  refine EV.if_ne 108 dX8_beginAgain_95 (by decide) (fun c39 => ?_) (fun c39 => ?_)
  · rw [if_neg c39] at h
    refine EV.aload_n 0 dX8_beginAgain_108 rfl rfl ?_
    obtain ⟨v40, gv40, h⟩ := px_bs h
    refine ev_gR dX8_beginAgain_109 flRX8_40 gv40 ?_
    refine EV.iconst (0) dX8_beginAgain_112 (by decide) ?_
    obtain ⟨o41, go41, h⟩ := px_bs h
    obtain ⟨q42, gq42, h⟩ := px_bs h
    refine EV.callV (As := [.int 0]) (rest := []) dX8_beginAgain_113 kcX8_beginAgain_104 (gO_ok go41) rfl rfl rfl (Nat.le_of_ble_eq_true rfl) (Nat.le_of_ble_eq_true rfl) (eX1_at gq42) ?_
    refine EV.sipush (255) dX8_beginAgain_116 (by decide) ?_
    refine EV.icmp_eq 132 dX8_beginAgain_119 (by decide) (fun c43 => ?_) (fun c43 => ?_)
    · rw [if_pos c43] at h
      refine EV.aload_n 0 dX8_beginAgain_132 rfl rfl ?_
      obtain ⟨v44, gv44, h⟩ := px_bs h
      refine ev_gR dX8_beginAgain_133 flRX8_40 gv44 ?_
      obtain ⟨v45, gv45, h⟩ := px_bs h
      refine ev_gI dX8_beginAgain_136 flRX8_95 gv45 ?_
      refine EV.iconst (1) dX8_beginAgain_139 (by decide) ?_
      refine EV.icmp_ne 153 dX8_beginAgain_140 (by decide) (fun c46 => ?_) (fun c46 => ?_)
      · rw [if_neg c46] at h
        refine EV.aload_n 0 dX8_beginAgain_153 rfl rfl ?_
        obtain ⟨v47, gv47, h⟩ := px_bs h
        refine ev_gR dX8_beginAgain_154 flRX8_40 gv47 ?_
        refine EV.iconst (1) dX8_beginAgain_157 (by decide) ?_
        obtain ⟨o48, go48, h⟩ := px_bs h
        obtain ⟨q49, gq49, h⟩ := px_bs h
        refine EV.callV (As := [.int 1]) (rest := []) dX8_beginAgain_158 kcX8_beginAgain_104 (gO_ok go48) rfl rfl rfl (Nat.le_of_ble_eq_true rfl) (Nat.le_of_ble_eq_true rfl) (eX1_at gq49) ?_
        refine EV.sipush (216) dX8_beginAgain_161 (by decide) ?_
        refine EV.icmp_eq 174 dX8_beginAgain_164 (by decide) (fun c50 => ?_) (fun c50 => ?_)
        · rw [if_pos c50] at h
          cases h
          exact EV.ret0 dX8_beginAgain_174 trivial
        · rw [if_neg c50] at h
          refine EV.aload_n 0 dX8_beginAgain_167 rfl rfl ?_
          refine EV.iconst (2) dX8_beginAgain_168 (by decide) ?_
          refine EV.iconst (0) dX8_beginAgain_169 (by decide) ?_
          obtain ⟨o51, go51, h⟩ := px_bs h
          obtain ⟨q52, gq52, h⟩ := px_bs h
          refine EV.callV (As := [.int 2, .int 0]) (rest := []) dX8_beginAgain_170 kcX8_beginAgain_100 (gO_ok go51) rfl rfl rfl (Nat.le_of_ble_eq_true rfl) (Nat.le_of_ble_eq_true rfl) (eX8_fail gq52) ?_
          refine EV.pop dX8_beginAgain_173 rfl ?_
          cases h
          exact EV.ret0 dX8_beginAgain_174 trivial
      · rw [if_pos c46] at h
        refine EV.aload_n 0 dX8_beginAgain_143 rfl rfl ?_
        refine EV.iconst (1) dX8_beginAgain_144 (by decide) ?_
        refine EV.iconst (1) dX8_beginAgain_145 (by decide) ?_
        obtain ⟨o53, go53, h⟩ := px_bs h
        obtain ⟨q54, gq54, h⟩ := px_bs h
        refine EV.callV (As := [.int 1, .int 1]) (rest := []) dX8_beginAgain_146 kcX8_beginAgain_100 (gO_ok go53) rfl rfl rfl (Nat.le_of_ble_eq_true rfl) (Nat.le_of_ble_eq_true rfl) (eX8_fail gq54) ?_
        refine EV.pop dX8_beginAgain_149 rfl ?_
        refine EV.goto 174 dX8_beginAgain_150 (by decide) ?_
        cases h
        exact EV.ret0 dX8_beginAgain_174 trivial
    · rw [if_neg c43] at h
      refine EV.aload_n 0 dX8_beginAgain_122 rfl rfl ?_
      refine EV.iconst (2) dX8_beginAgain_123 (by decide) ?_
      refine EV.iconst (0) dX8_beginAgain_124 (by decide) ?_
      obtain ⟨o55, go55, h⟩ := px_bs h
      obtain ⟨q56, gq56, h⟩ := px_bs h
      refine EV.callV (As := [.int 2, .int 0]) (rest := []) dX8_beginAgain_125 kcX8_beginAgain_100 (gO_ok go55) rfl rfl rfl (Nat.le_of_ble_eq_true rfl) (Nat.le_of_ble_eq_true rfl) (eX8_fail gq56) ?_
      refine EV.pop dX8_beginAgain_128 rfl ?_
      refine EV.goto 174 dX8_beginAgain_129 (by decide) ?_
      cases h
      exact EV.ret0 dX8_beginAgain_174 trivial
  · rw [if_pos c39] at h
    refine EV.aload_n 0 dX8_beginAgain_98 rfl rfl ?_
    refine EV.iconst (1) dX8_beginAgain_99 (by decide) ?_
    refine EV.iconst (0) dX8_beginAgain_100 (by decide) ?_
    obtain ⟨o57, go57, h⟩ := px_bs h
    obtain ⟨q58, gq58, h⟩ := px_bs h
    refine EV.callV (As := [.int 1, .int 0]) (rest := []) dX8_beginAgain_101 kcX8_beginAgain_100 (gO_ok go57) rfl rfl rfl (Nat.le_of_ble_eq_true rfl) (Nat.le_of_ble_eq_true rfl) (eX8_fail gq58) ?_
    refine EV.pop dX8_beginAgain_104 rfl ?_
    refine EV.goto 174 dX8_beginAgain_105 (by decide) ?_
    cases h
    exact EV.ret0 dX8_beginAgain_174 trivial
set_option maxRecDepth 100000 in
set_option maxHeartbeats 4000000 in
theorem eX8_beginAgain_61 {X : px_X}  : ∀ (m : Nat) (a0 : Nat) (a1 : Int32) (w : px_W) (q : px_W), fX8_beginAgain_61 X  m a0 a1 w = some q → EV X mX8_beginAgain 61 [(0, .ref a0), (1, .int a1)] [] w none q := by
  intro m
  induction m with
  | zero => intro a0 a1 w q h; cases h
  | succ m ih =>
    intro a0 a1 w q h
    rw [fX8_beginAgain_61.eq_2] at h
    refine EV.iload_n 1 dX8_beginAgain_61 rfl rfl ?_
    refine EV.bipush (8) dX8_beginAgain_62 (by decide) ?_
    refine EV.icmp_ge 83 dX8_beginAgain_64 (by decide) (fun c59 => ?_) (fun c59 => ?_)
    · rw [if_pos c59] at h
      refine EV.sub [0] rfl ?_
      exact eX8_beginAgain_83  _ _ _ h
    · rw [if_neg c59] at h
      refine EV.aload_n 0 dX8_beginAgain_67 rfl rfl ?_
      obtain ⟨v60, gv60, h⟩ := px_bs h
      refine ev_gR dX8_beginAgain_68 flRX8_20 gv60 ?_
      refine EV.iload_n 1 dX8_beginAgain_71 rfl rfl ?_
      obtain ⟨v61, gv61, h⟩ := px_bs h
      refine ev_aQ dX8_beginAgain_72 (t := 7) rfl gv61 ?_
      refine EV.iconst (0) dX8_beginAgain_73 (by decide) ?_
      obtain ⟨w62, gw62, h⟩ := px_bs h
      refine ev_pV dX8_beginAgain_74 flRX8_89 rfl rfl rfl rfl gw62 ?_
      refine EV.iinc 1 (a1 + 1) [(1, .int (a1 + 1)), (0, .ref a0)] dX8_beginAgain_77 rfl rfl (by decide) rfl ?_
      refine EV.goto 61 dX8_beginAgain_80 (by decide) ?_
      refine EV.sub [1, 0] rfl ?_
      exact ih _ _ _ _ h
set_option maxRecDepth 100000 in
set_option maxHeartbeats 4000000 in
theorem eX8_beginAgain {X : px_X} {w : px_W} {a0 : Nat} {q : px_W} (h : fX8_beginAgain X w a0 = some q) : EV X mX8_beginAgain 0 (lv_args 0 [.ref a0]) [] w none q := by
  unfold fX8_beginAgain at h
  show EV X mX8_beginAgain 0 [(0, .ref a0)] [] w none q
  refine EV.aload_n 0 dX8_beginAgain_0 rfl rfl ?_
  refine EV.iconst (0) dX8_beginAgain_1 (by decide) ?_
  obtain ⟨w63, gw63, h⟩ := px_bs h
  refine ev_pV dX8_beginAgain_2 flRX8_56 rfl rfl rfl rfl gw63 ?_
  refine EV.aload_n 0 dX8_beginAgain_5 rfl rfl ?_
  refine EV.iconst (0) dX8_beginAgain_6 (by decide) ?_
  obtain ⟨w64, gw64, h⟩ := px_bs h
  refine ev_pV dX8_beginAgain_7 flRX8_59 rfl rfl rfl rfl gw64 ?_
  refine EV.aload_n 0 dX8_beginAgain_10 rfl rfl ?_
  refine EV.iconst (0) dX8_beginAgain_11 (by decide) ?_
  obtain ⟨w65, gw65, h⟩ := px_bs h
  refine ev_pV dX8_beginAgain_12 flRX8_62 rfl rfl rfl rfl gw65 ?_
  refine EV.aload_n 0 dX8_beginAgain_15 rfl rfl ?_
  refine EV.iconst ((-1)) dX8_beginAgain_16 (by decide) ?_
  obtain ⟨w66, gw66, h⟩ := px_bs h
  refine ev_pV dX8_beginAgain_17 flRX8_65 rfl rfl rfl rfl gw66 ?_
  refine EV.aload_n 0 dX8_beginAgain_20 rfl rfl ?_
  refine EV.iconst (0) dX8_beginAgain_21 (by decide) ?_
  obtain ⟨w67, gw67, h⟩ := px_bs h
  refine ev_pV dX8_beginAgain_22 flRX8_68 rfl rfl rfl rfl gw67 ?_
  refine EV.aload_n 0 dX8_beginAgain_25 rfl rfl ?_
  refine EV.iconst (0) dX8_beginAgain_26 (by decide) ?_
  obtain ⟨w68, gw68, h⟩ := px_bs h
  refine ev_pZ dX8_beginAgain_27 flRX8_71 rfl rfl (by decide +kernel) gw68 ?_
  refine EV.aload_n 0 dX8_beginAgain_30 rfl rfl ?_
  refine EV.iconst (0) dX8_beginAgain_31 (by decide) ?_
  obtain ⟨w69, gw69, h⟩ := px_bs h
  refine ev_pZ dX8_beginAgain_32 flRX8_75 rfl rfl (by decide +kernel) gw69 ?_
  refine EV.aload_n 0 dX8_beginAgain_35 rfl rfl ?_
  obtain ⟨v70, gv70, h⟩ := px_bs h
  refine ev_gR dX8_beginAgain_36 flRX8_44 gv70 ?_
  refine EV.iconst (0) dX8_beginAgain_39 (by decide) ?_
  obtain ⟨w71, gw71, h⟩ := px_bs h
  refine ev_pV dX8_beginAgain_40 flRX8_78 rfl rfl rfl rfl gw71 ?_
  refine EV.aload_n 0 dX8_beginAgain_43 rfl rfl ?_
  obtain ⟨v72, gv72, h⟩ := px_bs h
  refine ev_gR dX8_beginAgain_44 flRX8_31 gv72 ?_
  refine EV.iconst (0) dX8_beginAgain_47 (by decide) ?_
  obtain ⟨q73, gq73, h⟩ := px_bs h
  refine EV.callS (As := [.ref v72, .int 0]) (rest := []) dX8_beginAgain_48 kcX8_beginAgain_83 rfl (Nat.le_of_ble_eq_true rfl) (Nat.le_of_ble_eq_true rfl) (eJ7_fill_53178 gq73) ?_
  refine EV.aload_n 0 dX8_beginAgain_51 rfl rfl ?_
  obtain ⟨v74, gv74, h⟩ := px_bs h
  refine ev_gR dX8_beginAgain_52 flRX8_34 gv74 ?_
  refine EV.iconst ((-1)) dX8_beginAgain_55 (by decide) ?_
  obtain ⟨q75, gq75, h⟩ := px_bs h
  refine EV.callS (As := [.ref v74, .int ((-1))]) (rest := []) dX8_beginAgain_56 kcX8_beginAgain_83 rfl (Nat.le_of_ble_eq_true rfl) (Nat.le_of_ble_eq_true rfl) (eJ7_fill_53178 gq75) ?_
  refine EV.iconst (0) dX8_beginAgain_59 (by decide) ?_
  refine EV.istore_n [(1, .int 0), (0, .ref a0)] dX8_beginAgain_60 rfl (by decide) rfl ?_
  refine EV.sub [1, 0] rfl ?_
  exact eX8_beginAgain_61  FU _ _ _ _ h
/-! WavePictures$SegmentReader.begin(LWavePictures$Picture;)V -/
theorem dX8_begin_0 : decode cX8_begin 0 = .ok (.aload_n 0, 1) := by decide +kernel
theorem dX8_begin_1 : decode cX8_begin 1 = .ok (.aload_n 1, 1) := by decide +kernel
theorem dX8_begin_2 : decode cX8_begin 2 = .ok (.putfield 44, 3) := by decide +kernel
theorem dX8_begin_5 : decode cX8_begin 5 = .ok (.aload_n 0, 1) := by decide +kernel
theorem dX8_begin_6 : decode cX8_begin 6 = .ok (.iconst 0, 1) := by decide +kernel
theorem dX8_begin_7 : decode cX8_begin 7 = .ok (.putfield 49, 3) := by decide +kernel
theorem dX8_begin_10 : decode cX8_begin 10 = .ok (.aload_n 0, 1) := by decide +kernel
theorem dX8_begin_11 : decode cX8_begin 11 = .ok (.invokevirtual 53, 3) := by decide +kernel
theorem dX8_begin_14 : decode cX8_begin 14 = .ok (.return_, 1) := by decide +kernel
theorem flRX8_49 : px_f RX8 49 8 14 := ⟨_, rfl, by decide, Or.inl (tb2 (List.mem_of_getElem? (i := 78) rfl))⟩
theorem mbX8_beginAgain : px_mB mX8_beginAgain 0 := ⟨tb3 (List.mem_of_getElem? (i := 139) rfl), by decide +kernel, tb1 (List.mem_of_getElem? (i := 6) rfl), by decide +kernel, by decide +kernel⟩
theorem vbX8_beginAgain : px_vB mX8_beginAgain := ⟨tb3 (List.mem_of_getElem? (i := 137) rfl), tb3 (List.mem_of_getElem? (i := 138) rfl)⟩
theorem kcX8_begin_53 : px_cV mX8_begin 53 mX8_beginAgain 0 := ⟨⟨mbX8_beginAgain, by decide, by decide⟩, Or.inl (tb3 (List.mem_of_getElem? (i := 136) rfl)), vbX8_beginAgain⟩
set_option maxRecDepth 100000 in
set_option maxHeartbeats 4000000 in
theorem eX8_begin {X : px_X} {w : px_W} {a0 : Nat} {a1 : Nat} {q : px_W} (h : fX8_begin X w a0 a1 = some q) : EV X mX8_begin 0 (lv_args 0 [.ref a0, .ref a1]) [] w none q := by
  unfold fX8_begin at h
  show EV X mX8_begin 0 [(0, .ref a0), (1, .ref a1)] [] w none q
  refine EV.aload_n 0 dX8_begin_0 rfl rfl ?_
  refine EV.aload_n 1 dX8_begin_1 rfl rfl ?_
  obtain ⟨w5, gw5, h⟩ := px_bs h
  refine ev_pV dX8_begin_2 flRX8_44 rfl rfl rfl rfl gw5 ?_
  refine EV.aload_n 0 dX8_begin_5 rfl rfl ?_
  refine EV.iconst (0) dX8_begin_6 (by decide) ?_
  obtain ⟨w6, gw6, h⟩ := px_bs h
  refine ev_pV dX8_begin_7 flRX8_49 rfl rfl rfl rfl gw6 ?_
  refine EV.aload_n 0 dX8_begin_10 rfl rfl ?_
  obtain ⟨o7, go7, h⟩ := px_bs h
  obtain ⟨q8, gq8, h⟩ := px_bs h
  refine EV.callV (As := []) (rest := []) dX8_begin_11 kcX8_begin_53 (gO_ok go7) rfl rfl rfl (Nat.le_of_ble_eq_true rfl) (Nat.le_of_ble_eq_true rfl) (eX8_beginAgain gq8) ?_
  cases h
  exact EV.ret0 dX8_begin_14 trivial
/-! WavePictures$SegmentReader.allWereInScans()Z -/
theorem dX8_allWereInScans_0 : decode cX8_allWereInScans 0 = .ok (.iconst 0, 1) := by decide +kernel
theorem dX8_allWereInScans_1 : decode cX8_allWereInScans 1 = .ok (.istore_n 1, 1) := by decide +kernel
theorem dX8_allWereInScans_2 : decode cX8_allWereInScans 2 = .ok (.iload_n 1, 1) := by decide +kernel
theorem dX8_allWereInScans_3 : decode cX8_allWereInScans 3 = .ok (.aload_n 0, 1) := by decide +kernel
theorem dX8_allWereInScans_4 : decode cX8_allWereInScans 4 = .ok (.getfield 44, 3) := by decide +kernel
theorem dX8_allWereInScans_7 : decode cX8_allWereInScans 7 = .ok (.getfield 78, 3) := by decide +kernel
theorem dX8_allWereInScans_10 : decode cX8_allWereInScans 10 = .ok (.if_icmp .ge 24, 3) := by decide +kernel
theorem dX8_allWereInScans_13 : decode cX8_allWereInScans 13 = .ok (.aload_n 0, 1) := by decide +kernel
theorem dX8_allWereInScans_14 : decode cX8_allWereInScans 14 = .ok (.getfield 34, 3) := by decide +kernel
theorem dX8_allWereInScans_17 : decode cX8_allWereInScans 17 = .ok (.bipush 64, 2) := by decide +kernel
theorem dX8_allWereInScans_19 : decode cX8_allWereInScans 19 = .ok (.iload_n 1, 1) := by decide +kernel
theorem dX8_allWereInScans_20 : decode cX8_allWereInScans 20 = .ok (.imul, 1) := by decide +kernel
theorem dX8_allWereInScans_21 : decode cX8_allWereInScans 21 = .ok (.iaload, 1) := by decide +kernel
theorem dX8_allWereInScans_22 : decode cX8_allWereInScans 22 = .ok (.iconst (-1), 1) := by decide +kernel
theorem dX8_allWereInScans_23 : decode cX8_allWereInScans 23 = .ok (.if_icmp .ne 5, 3) := by decide +kernel
theorem dX8_allWereInScans_26 : decode cX8_allWereInScans 26 = .ok (.iconst 0, 1) := by decide +kernel
theorem dX8_allWereInScans_27 : decode cX8_allWereInScans 27 = .ok (.ireturn, 1) := by decide +kernel
theorem dX8_allWereInScans_28 : decode cX8_allWereInScans 28 = .ok (.iinc 1 1, 3) := by decide +kernel
theorem dX8_allWereInScans_31 : decode cX8_allWereInScans 31 = .ok (.goto (-29), 3) := by decide +kernel
theorem dX8_allWereInScans_34 : decode cX8_allWereInScans 34 = .ok (.iconst 1, 1) := by decide +kernel
theorem dX8_allWereInScans_35 : decode cX8_allWereInScans 35 = .ok (.ireturn, 1) := by decide +kernel
set_option maxRecDepth 100000 in
set_option maxHeartbeats 4000000 in
theorem eX8_allWereInScans_2 {X : px_X}  : ∀ (m : Nat) (a0 : Nat) (a1 : Int32) (w : px_W) (q : Int32 × px_W), fX8_allWereInScans_2 X  m a0 a1 w = some q → EV X mX8_allWereInScans 2 [(0, .ref a0), (1, .int a1)] [] w (some (.int q.1)) q.2 := by
  intro m
  induction m with
  | zero => intro a0 a1 w q h; cases h
  | succ m ih =>
    intro a0 a1 w q h
    rw [fX8_allWereInScans_2.eq_2] at h
    refine EV.iload_n 1 dX8_allWereInScans_2 rfl rfl ?_
    refine EV.aload_n 0 dX8_allWereInScans_3 rfl rfl ?_
    obtain ⟨v5, gv5, h⟩ := px_bs h
    refine ev_gR dX8_allWereInScans_4 flRX8_44 gv5 ?_
    obtain ⟨v6, gv6, h⟩ := px_bs h
    refine ev_gI dX8_allWereInScans_7 flRX8_78 gv6 ?_
    refine EV.icmp_ge 34 dX8_allWereInScans_10 (by decide) (fun c7 => ?_) (fun c7 => ?_)
    · rw [if_pos c7] at h
      refine EV.iconst (1) dX8_allWereInScans_34 (by decide) ?_
      cases h
      exact EV.reti dX8_allWereInScans_35 rfl
    · rw [if_neg c7] at h
      refine EV.aload_n 0 dX8_allWereInScans_13 rfl rfl ?_
      obtain ⟨v8, gv8, h⟩ := px_bs h
      refine ev_gR dX8_allWereInScans_14 flRX8_34 gv8 ?_
      refine EV.bipush (64) dX8_allWereInScans_17 (by decide) ?_
      refine EV.iload_n 1 dX8_allWereInScans_19 rfl rfl ?_
      refine EV.imul dX8_allWereInScans_20 ?_
      obtain ⟨v9, gv9, h⟩ := px_bs h
      refine ev_aI dX8_allWereInScans_21 gv9 ?_
      refine EV.iconst ((-1)) dX8_allWereInScans_22 (by decide) ?_
      refine EV.icmp_ne 28 dX8_allWereInScans_23 (by decide) (fun c10 => ?_) (fun c10 => ?_)
      · rw [if_neg c10] at h
        refine EV.iinc 1 (a1 + 1) [(1, .int (a1 + 1)), (0, .ref a0)] dX8_allWereInScans_28 rfl rfl (by decide) rfl ?_
        refine EV.goto 2 dX8_allWereInScans_31 (by decide) ?_
        refine EV.sub [1, 0] rfl ?_
        exact ih _ _ _ _ h
      · rw [if_pos c10] at h
        refine EV.iconst (0) dX8_allWereInScans_26 (by decide) ?_
        cases h
        exact EV.reti dX8_allWereInScans_27 rfl
set_option maxRecDepth 100000 in
set_option maxHeartbeats 4000000 in
theorem eX8_allWereInScans {X : px_X} {w : px_W} {a0 : Nat} {q : Int32 × px_W} (h : fX8_allWereInScans X w a0 = some q) : EV X mX8_allWereInScans 0 (lv_args 0 [.ref a0]) [] w (some (.int q.1)) q.2 := by
  unfold fX8_allWereInScans at h
  show EV X mX8_allWereInScans 0 [(0, .ref a0)] [] w (some (.int q.1)) q.2
  refine EV.iconst (0) dX8_allWereInScans_0 (by decide) ?_
  refine EV.istore_n [(1, .int 0), (0, .ref a0)] dX8_allWereInScans_1 rfl (by decide) rfl ?_
  refine EV.sub [1, 0] rfl ?_
  exact eX8_allWereInScans_2  FU _ _ _ _ h
/-! WavePictures$SegmentReader.canStandHere(I)Z -/
theorem dX8_canStandHere_0 : decode cX8_canStandHere 0 = .ok (.aload_n 0, 1) := by decide +kernel
theorem dX8_canStandHere_1 : decode cX8_canStandHere 1 = .ok (.getfield 75, 3) := by decide +kernel
theorem dX8_canStandHere_4 : decode cX8_canStandHere 4 = .ok (.ifCond .eq 16, 3) := by decide +kernel
theorem dX8_canStandHere_7 : decode cX8_canStandHere 7 = .ok (.iload_n 1, 1) := by decide +kernel
theorem dX8_canStandHere_8 : decode cX8_canStandHere 8 = .ok (.sipush 220, 3) := by decide +kernel
theorem dX8_canStandHere_11 : decode cX8_canStandHere 11 = .ok (.if_icmp .ne 7, 3) := by decide +kernel
theorem dX8_canStandHere_14 : decode cX8_canStandHere 14 = .ok (.iconst 1, 1) := by decide +kernel
theorem dX8_canStandHere_15 : decode cX8_canStandHere 15 = .ok (.goto 4, 3) := by decide +kernel
theorem dX8_canStandHere_18 : decode cX8_canStandHere 18 = .ok (.iconst 0, 1) := by decide +kernel
theorem dX8_canStandHere_19 : decode cX8_canStandHere 19 = .ok (.ireturn, 1) := by decide +kernel
theorem dX8_canStandHere_20 : decode cX8_canStandHere 20 = .ok (.iload_n 1, 1) := by decide +kernel
theorem dX8_canStandHere_21 : decode cX8_canStandHere 21 = .ok (.lookupswitch 123 #[(192, 75), (194, 75), (196, 121), (217, 101), (218, 88), (219, 121), (221, 121), (254, 121)], 75) := by decide +kernel
theorem dX8_canStandHere_96 : decode cX8_canStandHere 96 = .ok (.aload_n 0, 1) := by decide +kernel
theorem dX8_canStandHere_97 : decode cX8_canStandHere 97 = .ok (.getfield 68, 3) := by decide +kernel
theorem dX8_canStandHere_100 : decode cX8_canStandHere 100 = .ok (.ifCond .ne 7, 3) := by decide +kernel
theorem dX8_canStandHere_103 : decode cX8_canStandHere 103 = .ok (.iconst 1, 1) := by decide +kernel
theorem dX8_canStandHere_104 : decode cX8_canStandHere 104 = .ok (.goto 4, 3) := by decide +kernel
theorem dX8_canStandHere_107 : decode cX8_canStandHere 107 = .ok (.iconst 0, 1) := by decide +kernel
theorem dX8_canStandHere_108 : decode cX8_canStandHere 108 = .ok (.ireturn, 1) := by decide +kernel
theorem dX8_canStandHere_109 : decode cX8_canStandHere 109 = .ok (.aload_n 0, 1) := by decide +kernel
theorem dX8_canStandHere_110 : decode cX8_canStandHere 110 = .ok (.getfield 68, 3) := by decide +kernel
theorem dX8_canStandHere_113 : decode cX8_canStandHere 113 = .ok (.ifCond .eq 7, 3) := by decide +kernel
theorem dX8_canStandHere_116 : decode cX8_canStandHere 116 = .ok (.iconst 1, 1) := by decide +kernel
theorem dX8_canStandHere_117 : decode cX8_canStandHere 117 = .ok (.goto 4, 3) := by decide +kernel
theorem dX8_canStandHere_120 : decode cX8_canStandHere 120 = .ok (.iconst 0, 1) := by decide +kernel
theorem dX8_canStandHere_121 : decode cX8_canStandHere 121 = .ok (.ireturn, 1) := by decide +kernel
theorem dX8_canStandHere_122 : decode cX8_canStandHere 122 = .ok (.aload_n 0, 1) := by decide +kernel
theorem dX8_canStandHere_123 : decode cX8_canStandHere 123 = .ok (.getfield 68, 3) := by decide +kernel
theorem dX8_canStandHere_126 : decode cX8_canStandHere 126 = .ok (.ifCond .eq 14, 3) := by decide +kernel
theorem dX8_canStandHere_129 : decode cX8_canStandHere 129 = .ok (.aload_n 0, 1) := by decide +kernel
theorem dX8_canStandHere_130 : decode cX8_canStandHere 130 = .ok (.invokevirtual 119, 3) := by decide +kernel
theorem dX8_canStandHere_133 : decode cX8_canStandHere 133 = .ok (.ifCond .eq 7, 3) := by decide +kernel
theorem dX8_canStandHere_136 : decode cX8_canStandHere 136 = .ok (.iconst 1, 1) := by decide +kernel
theorem dX8_canStandHere_137 : decode cX8_canStandHere 137 = .ok (.goto 4, 3) := by decide +kernel
theorem dX8_canStandHere_140 : decode cX8_canStandHere 140 = .ok (.iconst 0, 1) := by decide +kernel
theorem dX8_canStandHere_141 : decode cX8_canStandHere 141 = .ok (.ireturn, 1) := by decide +kernel
theorem dX8_canStandHere_142 : decode cX8_canStandHere 142 = .ok (.iconst 1, 1) := by decide +kernel
theorem dX8_canStandHere_143 : decode cX8_canStandHere 143 = .ok (.ireturn, 1) := by decide +kernel
theorem dX8_canStandHere_144 : decode cX8_canStandHere 144 = .ok (.iload_n 1, 1) := by decide +kernel
theorem dX8_canStandHere_145 : decode cX8_canStandHere 145 = .ok (.sipush 224, 3) := by decide +kernel
theorem dX8_canStandHere_148 : decode cX8_canStandHere 148 = .ok (.if_icmp .lt 14, 3) := by decide +kernel
theorem dX8_canStandHere_151 : decode cX8_canStandHere 151 = .ok (.iload_n 1, 1) := by decide +kernel
theorem dX8_canStandHere_152 : decode cX8_canStandHere 152 = .ok (.sipush 239, 3) := by decide +kernel
theorem dX8_canStandHere_155 : decode cX8_canStandHere 155 = .ok (.if_icmp .gt 7, 3) := by decide +kernel
theorem dX8_canStandHere_158 : decode cX8_canStandHere 158 = .ok (.iconst 1, 1) := by decide +kernel
theorem dX8_canStandHere_159 : decode cX8_canStandHere 159 = .ok (.goto 4, 3) := by decide +kernel
theorem dX8_canStandHere_162 : decode cX8_canStandHere 162 = .ok (.iconst 0, 1) := by decide +kernel
theorem dX8_canStandHere_163 : decode cX8_canStandHere 163 = .ok (.ireturn, 1) := by decide +kernel
theorem mbX8_allWereInScans : px_mB mX8_allWereInScans 0 := ⟨tb3 (List.mem_of_getElem? (i := 163) rfl), by decide +kernel, tb1 (List.mem_of_getElem? (i := 6) rfl), by decide +kernel, by decide +kernel⟩
theorem vbX8_allWereInScans : px_vB mX8_allWereInScans := ⟨tb3 (List.mem_of_getElem? (i := 162) rfl), List.mem_append_left _ (List.mem_of_getElem? (i := 3) (by decide +kernel))⟩
theorem kcX8_canStandHere_119 : px_cV mX8_canStandHere 119 mX8_allWereInScans 0 := ⟨⟨mbX8_allWereInScans, by decide, by decide⟩, Or.inl (tb3 (List.mem_of_getElem? (i := 160) rfl)), vbX8_allWereInScans⟩
set_option maxRecDepth 100000 in
set_option maxHeartbeats 4000000 in
theorem eX8_canStandHere {X : px_X} {w : px_W} {a0 : Nat} {a1 : Int32} {q : Int32 × px_W} (h : fX8_canStandHere X w a0 a1 = some q) : EV X mX8_canStandHere 0 (lv_args 0 [.ref a0, .int a1]) [] w (some (.int q.1)) q.2 := by
  unfold fX8_canStandHere at h
  show EV X mX8_canStandHere 0 [(0, .ref a0), (1, .int a1)] [] w (some (.int q.1)) q.2
  refine EV.aload_n 0 dX8_canStandHere_0 rfl rfl ?_
  obtain ⟨v7, gv7, h⟩ := px_bs h
  refine ev_gI dX8_canStandHere_1 flRX8_75 gv7 ?_
  refine EV.if_eq 20 dX8_canStandHere_4 (by decide) (fun c8 => ?_) (fun c8 => ?_)
  · rw [if_pos c8] at h
    refine EV.iload_n 1 dX8_canStandHere_20 rfl rfl ?_
    by_cases c9 : a1 = 192
    · rw [if_pos c9] at h
      refine EV.lookup 96 dX8_canStandHere_21 (by decide) (by rw [c9] <;> rfl) (by decide) ?_
      refine EV.aload_n 0 dX8_canStandHere_96 rfl rfl ?_
      obtain ⟨v10, gv10, h⟩ := px_bs h
      refine ev_gI dX8_canStandHere_97 flRX8_68 gv10 ?_
      refine EV.if_ne 107 dX8_canStandHere_100 (by decide) (fun c11 => ?_) (fun c11 => ?_)
      · rw [if_neg c11] at h
        refine EV.iconst (0) dX8_canStandHere_107 (by decide) ?_
        cases h
        exact EV.reti dX8_canStandHere_108 rfl
      · rw [if_pos c11] at h
        refine EV.iconst (1) dX8_canStandHere_103 (by decide) ?_
        refine EV.goto 108 dX8_canStandHere_104 (by decide) ?_
        cases h
        exact EV.reti dX8_canStandHere_108 rfl
    rw [if_neg c9] at h
    by_cases c12 : a1 = 194
    · rw [if_pos c12] at h
      refine EV.lookup 96 dX8_canStandHere_21 (by decide) (by rw [c12] <;> rfl) (by decide) ?_
      refine EV.aload_n 0 dX8_canStandHere_96 rfl rfl ?_
      obtain ⟨v13, gv13, h⟩ := px_bs h
      refine ev_gI dX8_canStandHere_97 flRX8_68 gv13 ?_
      refine EV.if_ne 107 dX8_canStandHere_100 (by decide) (fun c14 => ?_) (fun c14 => ?_)
      · rw [if_neg c14] at h
        refine EV.iconst (0) dX8_canStandHere_107 (by decide) ?_
        cases h
        exact EV.reti dX8_canStandHere_108 rfl
      · rw [if_pos c14] at h
        refine EV.iconst (1) dX8_canStandHere_103 (by decide) ?_
        refine EV.goto 108 dX8_canStandHere_104 (by decide) ?_
        cases h
        exact EV.reti dX8_canStandHere_108 rfl
    rw [if_neg c12] at h
    by_cases c15 : a1 = 196
    · rw [if_pos c15] at h
      refine EV.lookup 142 dX8_canStandHere_21 (by decide) (by rw [c15] <;> rfl) (by decide) ?_
      refine EV.iconst (1) dX8_canStandHere_142 (by decide) ?_
      cases h
      exact EV.reti dX8_canStandHere_143 rfl
    rw [if_neg c15] at h
    by_cases c16 : a1 = 217
    · rw [if_pos c16] at h
      refine EV.lookup 122 dX8_canStandHere_21 (by decide) (by rw [c16] <;> rfl) (by decide) ?_
      refine EV.aload_n 0 dX8_canStandHere_122 rfl rfl ?_
      obtain ⟨v17, gv17, h⟩ := px_bs h
      refine ev_gI dX8_canStandHere_123 flRX8_68 gv17 ?_
      refine EV.if_eq 140 dX8_canStandHere_126 (by decide) (fun c18 => ?_) (fun c18 => ?_)
      · rw [if_pos c18] at h
        refine EV.iconst (0) dX8_canStandHere_140 (by decide) ?_
        cases h
        exact EV.reti dX8_canStandHere_141 rfl
      · rw [if_neg c18] at h
        refine EV.aload_n 0 dX8_canStandHere_129 rfl rfl ?_
        obtain ⟨o19, go19, h⟩ := px_bs h
        obtain ⟨q20, gq20, h⟩ := px_bs h
        refine EV.callV (As := []) (rest := []) dX8_canStandHere_130 kcX8_canStandHere_119 (gO_ok go19) rfl rfl rfl (Nat.le_of_ble_eq_true rfl) (Nat.le_of_ble_eq_true rfl) (eX8_allWereInScans gq20) ?_
        refine EV.if_eq 140 dX8_canStandHere_133 (by decide) (fun c21 => ?_) (fun c21 => ?_)
        · rw [if_pos c21] at h
          refine EV.iconst (0) dX8_canStandHere_140 (by decide) ?_
          cases h
          exact EV.reti dX8_canStandHere_141 rfl
        · rw [if_neg c21] at h
          refine EV.iconst (1) dX8_canStandHere_136 (by decide) ?_
          refine EV.goto 141 dX8_canStandHere_137 (by decide) ?_
          cases h
          exact EV.reti dX8_canStandHere_141 rfl
    rw [if_neg c16] at h
    by_cases c22 : a1 = 218
    · rw [if_pos c22] at h
      refine EV.lookup 109 dX8_canStandHere_21 (by decide) (by rw [c22] <;> rfl) (by decide) ?_
      refine EV.aload_n 0 dX8_canStandHere_109 rfl rfl ?_
      obtain ⟨v23, gv23, h⟩ := px_bs h
      refine ev_gI dX8_canStandHere_110 flRX8_68 gv23 ?_
      refine EV.if_eq 120 dX8_canStandHere_113 (by decide) (fun c24 => ?_) (fun c24 => ?_)
      · rw [if_pos c24] at h
        refine EV.iconst (0) dX8_canStandHere_120 (by decide) ?_
        cases h
        exact EV.reti dX8_canStandHere_121 rfl
      · rw [if_neg c24] at h
        refine EV.iconst (1) dX8_canStandHere_116 (by decide) ?_
        refine EV.goto 121 dX8_canStandHere_117 (by decide) ?_
        cases h
        exact EV.reti dX8_canStandHere_121 rfl
    rw [if_neg c22] at h
    by_cases c25 : a1 = 219
    · rw [if_pos c25] at h
      refine EV.lookup 142 dX8_canStandHere_21 (by decide) (by rw [c25] <;> rfl) (by decide) ?_
      refine EV.iconst (1) dX8_canStandHere_142 (by decide) ?_
      cases h
      exact EV.reti dX8_canStandHere_143 rfl
    rw [if_neg c25] at h
    by_cases c26 : a1 = 221
    · rw [if_pos c26] at h
      refine EV.lookup 142 dX8_canStandHere_21 (by decide) (by rw [c26] <;> rfl) (by decide) ?_
      refine EV.iconst (1) dX8_canStandHere_142 (by decide) ?_
      cases h
      exact EV.reti dX8_canStandHere_143 rfl
    rw [if_neg c26] at h
    by_cases c27 : a1 = 254
    · rw [if_pos c27] at h
      refine EV.lookup 142 dX8_canStandHere_21 (by decide) (by rw [c27] <;> rfl) (by decide) ?_
      refine EV.iconst (1) dX8_canStandHere_142 (by decide) ?_
      cases h
      exact EV.reti dX8_canStandHere_143 rfl
    rw [if_neg c27] at h
    refine EV.lookup (off := 123) 144 dX8_canStandHere_21 (by decide) (by rw [lv_osw c9 (by decide), lv_osw c12 (by decide), lv_osw c15 (by decide), lv_osw c16 (by decide), lv_osw c22 (by decide), lv_osw c25 (by decide), lv_osw c26 (by decide), lv_osw c27 (by decide)] <;> rfl) (by decide) ?_
    refine EV.iload_n 1 dX8_canStandHere_144 rfl rfl ?_
    refine EV.sipush (224) dX8_canStandHere_145 (by decide) ?_
    refine EV.icmp_lt 162 dX8_canStandHere_148 (by decide) (fun c28 => ?_) (fun c28 => ?_)
    · rw [if_pos c28] at h
      refine EV.iconst (0) dX8_canStandHere_162 (by decide) ?_
      cases h
      exact EV.reti dX8_canStandHere_163 rfl
    · rw [if_neg c28] at h
      refine EV.iload_n 1 dX8_canStandHere_151 rfl rfl ?_
      refine EV.sipush (239) dX8_canStandHere_152 (by decide) ?_
      refine EV.icmp_gt 162 dX8_canStandHere_155 (by decide) (fun c29 => ?_) (fun c29 => ?_)
      · rw [if_pos c29] at h
        refine EV.iconst (0) dX8_canStandHere_162 (by decide) ?_
        cases h
        exact EV.reti dX8_canStandHere_163 rfl
      · rw [if_neg c29] at h
        refine EV.iconst (1) dX8_canStandHere_158 (by decide) ?_
        refine EV.goto 163 dX8_canStandHere_159 (by decide) ?_
        cases h
        exact EV.reti dX8_canStandHere_163 rfl
  · rw [if_neg c8] at h
    refine EV.iload_n 1 dX8_canStandHere_7 rfl rfl ?_
    refine EV.sipush (220) dX8_canStandHere_8 (by decide) ?_
    refine EV.icmp_ne 18 dX8_canStandHere_11 (by decide) (fun c30 => ?_) (fun c30 => ?_)
    · rw [if_neg c30] at h
      refine EV.iconst (0) dX8_canStandHere_18 (by decide) ?_
      cases h
      exact EV.reti dX8_canStandHere_19 rfl
    · rw [if_pos c30] at h
      refine EV.iconst (1) dX8_canStandHere_14 (by decide) ?_
      refine EV.goto 19 dX8_canStandHere_15 (by decide) ?_
      cases h
      exact EV.reti dX8_canStandHere_19 rfl
/-! WavePictures$SegmentReader.readMarker()I -/
theorem dX8_readMarker_0 : decode cX8_readMarker 0 = .ok (.aload_n 0, 1) := by decide +kernel
theorem dX8_readMarker_1 : decode cX8_readMarker 1 = .ok (.getfield 92, 3) := by decide +kernel
theorem dX8_readMarker_4 : decode cX8_readMarker 4 = .ok (.aload_n 0, 1) := by decide +kernel
theorem dX8_readMarker_5 : decode cX8_readMarker 5 = .ok (.getfield 40, 3) := by decide +kernel
theorem dX8_readMarker_8 : decode cX8_readMarker 8 = .ok (.getfield 95, 3) := by decide +kernel
theorem dX8_readMarker_11 : decode cX8_readMarker 11 = .ok (.if_icmp .ge 30, 3) := by decide +kernel
theorem dX8_readMarker_14 : decode cX8_readMarker 14 = .ok (.aload_n 0, 1) := by decide +kernel
theorem dX8_readMarker_15 : decode cX8_readMarker 15 = .ok (.getfield 40, 3) := by decide +kernel
theorem dX8_readMarker_18 : decode cX8_readMarker 18 = .ok (.aload_n 0, 1) := by decide +kernel
theorem dX8_readMarker_19 : decode cX8_readMarker 19 = .ok (.getfield 92, 3) := by decide +kernel
theorem dX8_readMarker_22 : decode cX8_readMarker 22 = .ok (.invokevirtual 104, 3) := by decide +kernel
theorem dX8_readMarker_25 : decode cX8_readMarker 25 = .ok (.sipush 255, 3) := by decide +kernel
theorem dX8_readMarker_28 : decode cX8_readMarker 28 = .ok (.if_icmp .eq 13, 3) := by decide +kernel
theorem dX8_readMarker_31 : decode cX8_readMarker 31 = .ok (.aload_n 0, 1) := by decide +kernel
theorem dX8_readMarker_32 : decode cX8_readMarker 32 = .ok (.iconst 3, 1) := by decide +kernel
theorem dX8_readMarker_33 : decode cX8_readMarker 33 = .ok (.aload_n 0, 1) := by decide +kernel
theorem dX8_readMarker_34 : decode cX8_readMarker 34 = .ok (.getfield 92, 3) := by decide +kernel
theorem dX8_readMarker_37 : decode cX8_readMarker 37 = .ok (.invokevirtual 100, 3) := by decide +kernel
theorem dX8_readMarker_40 : decode cX8_readMarker 40 = .ok (.ireturn, 1) := by decide +kernel
theorem dX8_readMarker_41 : decode cX8_readMarker 41 = .ok (.aload_n 0, 1) := by decide +kernel
theorem dX8_readMarker_42 : decode cX8_readMarker 42 = .ok (.getfield 92, 3) := by decide +kernel
theorem dX8_readMarker_45 : decode cX8_readMarker 45 = .ok (.aload_n 0, 1) := by decide +kernel
theorem dX8_readMarker_46 : decode cX8_readMarker 46 = .ok (.getfield 40, 3) := by decide +kernel
theorem dX8_readMarker_49 : decode cX8_readMarker 49 = .ok (.getfield 95, 3) := by decide +kernel
theorem dX8_readMarker_52 : decode cX8_readMarker 52 = .ok (.if_icmp .ge 33, 3) := by decide +kernel
theorem dX8_readMarker_55 : decode cX8_readMarker 55 = .ok (.aload_n 0, 1) := by decide +kernel
theorem dX8_readMarker_56 : decode cX8_readMarker 56 = .ok (.getfield 40, 3) := by decide +kernel
theorem dX8_readMarker_59 : decode cX8_readMarker 59 = .ok (.aload_n 0, 1) := by decide +kernel
theorem dX8_readMarker_60 : decode cX8_readMarker 60 = .ok (.getfield 92, 3) := by decide +kernel
theorem dX8_readMarker_63 : decode cX8_readMarker 63 = .ok (.invokevirtual 104, 3) := by decide +kernel
theorem dX8_readMarker_66 : decode cX8_readMarker 66 = .ok (.sipush 255, 3) := by decide +kernel
theorem dX8_readMarker_69 : decode cX8_readMarker 69 = .ok (.if_icmp .ne 16, 3) := by decide +kernel
theorem dX8_readMarker_72 : decode cX8_readMarker 72 = .ok (.aload_n 0, 1) := by decide +kernel
theorem dX8_readMarker_73 : decode cX8_readMarker 73 = .ok (.dup, 1) := by decide +kernel
theorem dX8_readMarker_74 : decode cX8_readMarker 74 = .ok (.getfield 92, 3) := by decide +kernel
theorem dX8_readMarker_77 : decode cX8_readMarker 77 = .ok (.iconst 1, 1) := by decide +kernel
theorem dX8_readMarker_78 : decode cX8_readMarker 78 = .ok (.iadd, 1) := by decide +kernel
theorem dX8_readMarker_79 : decode cX8_readMarker 79 = .ok (.putfield 92, 3) := by decide +kernel
theorem dX8_readMarker_82 : decode cX8_readMarker 82 = .ok (.goto (-41), 3) := by decide +kernel
theorem dX8_readMarker_85 : decode cX8_readMarker 85 = .ok (.aload_n 0, 1) := by decide +kernel
theorem dX8_readMarker_86 : decode cX8_readMarker 86 = .ok (.getfield 92, 3) := by decide +kernel
theorem dX8_readMarker_89 : decode cX8_readMarker 89 = .ok (.aload_n 0, 1) := by decide +kernel
theorem dX8_readMarker_90 : decode cX8_readMarker 90 = .ok (.getfield 40, 3) := by decide +kernel
theorem dX8_readMarker_93 : decode cX8_readMarker 93 = .ok (.getfield 95, 3) := by decide +kernel
theorem dX8_readMarker_96 : decode cX8_readMarker 96 = .ok (.if_icmp .lt 16, 3) := by decide +kernel
theorem dX8_readMarker_99 : decode cX8_readMarker 99 = .ok (.aload_n 0, 1) := by decide +kernel
theorem dX8_readMarker_100 : decode cX8_readMarker 100 = .ok (.iconst 1, 1) := by decide +kernel
theorem dX8_readMarker_101 : decode cX8_readMarker 101 = .ok (.aload_n 0, 1) := by decide +kernel
theorem dX8_readMarker_102 : decode cX8_readMarker 102 = .ok (.getfield 40, 3) := by decide +kernel
theorem dX8_readMarker_105 : decode cX8_readMarker 105 = .ok (.getfield 95, 3) := by decide +kernel
theorem dX8_readMarker_108 : decode cX8_readMarker 108 = .ok (.invokevirtual 100, 3) := by decide +kernel
theorem dX8_readMarker_111 : decode cX8_readMarker 111 = .ok (.ireturn, 1) := by decide +kernel
theorem dX8_readMarker_112 : decode cX8_readMarker 112 = .ok (.aload_n 0, 1) := by decide +kernel
theorem dX8_readMarker_113 : decode cX8_readMarker 113 = .ok (.getfield 40, 3) := by decide +kernel
theorem dX8_readMarker_116 : decode cX8_readMarker 116 = .ok (.aload_n 0, 1) := by decide +kernel
theorem dX8_readMarker_117 : decode cX8_readMarker 117 = .ok (.getfield 92, 3) := by decide +kernel
theorem dX8_readMarker_120 : decode cX8_readMarker 120 = .ok (.invokevirtual 104, 3) := by decide +kernel
theorem dX8_readMarker_123 : decode cX8_readMarker 123 = .ok (.istore_n 1, 1) := by decide +kernel
theorem dX8_readMarker_124 : decode cX8_readMarker 124 = .ok (.aload_n 0, 1) := by decide +kernel
theorem dX8_readMarker_125 : decode cX8_readMarker 125 = .ok (.iload_n 1, 1) := by decide +kernel
theorem dX8_readMarker_126 : decode cX8_readMarker 126 = .ok (.invokevirtual 116, 3) := by decide +kernel
theorem dX8_readMarker_129 : decode cX8_readMarker 129 = .ok (.ifCond .ne 13, 3) := by decide +kernel
theorem dX8_readMarker_132 : decode cX8_readMarker 132 = .ok (.aload_n 0, 1) := by decide +kernel
theorem dX8_readMarker_133 : decode cX8_readMarker 133 = .ok (.iconst 4, 1) := by decide +kernel
theorem dX8_readMarker_134 : decode cX8_readMarker 134 = .ok (.aload_n 0, 1) := by decide +kernel
theorem dX8_readMarker_135 : decode cX8_readMarker 135 = .ok (.getfield 92, 3) := by decide +kernel
theorem dX8_readMarker_138 : decode cX8_readMarker 138 = .ok (.invokevirtual 100, 3) := by decide +kernel
theorem dX8_readMarker_141 : decode cX8_readMarker 141 = .ok (.ireturn, 1) := by decide +kernel
theorem dX8_readMarker_142 : decode cX8_readMarker 142 = .ok (.aload_n 0, 1) := by decide +kernel
theorem dX8_readMarker_143 : decode cX8_readMarker 143 = .ok (.dup, 1) := by decide +kernel
theorem dX8_readMarker_144 : decode cX8_readMarker 144 = .ok (.getfield 92, 3) := by decide +kernel
theorem dX8_readMarker_147 : decode cX8_readMarker 147 = .ok (.iconst 1, 1) := by decide +kernel
theorem dX8_readMarker_148 : decode cX8_readMarker 148 = .ok (.iadd, 1) := by decide +kernel
theorem dX8_readMarker_149 : decode cX8_readMarker 149 = .ok (.putfield 92, 3) := by decide +kernel
theorem dX8_readMarker_152 : decode cX8_readMarker 152 = .ok (.iload_n 1, 1) := by decide +kernel
theorem dX8_readMarker_153 : decode cX8_readMarker 153 = .ok (.ireturn, 1) := by decide +kernel
theorem kcX8_readMarker_100 : px_cV mX8_readMarker 100 mX8_fail 2 := ⟨⟨mbX8_fail, by decide, by decide⟩, Or.inl (tb3 (List.mem_of_getElem? (i := 143) rfl)), vbX8_fail⟩
theorem kcX8_readMarker_104 : px_cV mX8_readMarker 104 mX1_at 1 := ⟨⟨mbX1_at, by decide, by decide⟩, Or.inl (tb3 (List.mem_of_getElem? (i := 147) rfl)), vbX1_at⟩
theorem mbX8_canStandHere : px_mB mX8_canStandHere 1 := ⟨tb3 (List.mem_of_getElem? (i := 159) rfl), by decide +kernel, tb1 (List.mem_of_getElem? (i := 6) rfl), by decide +kernel, by decide +kernel⟩
theorem vbX8_canStandHere : px_vB mX8_canStandHere := ⟨tb3 (List.mem_of_getElem? (i := 158) rfl), List.mem_append_left _ (List.mem_of_getElem? (i := 2) (by decide +kernel))⟩
theorem kcX8_readMarker_116 : px_cV mX8_readMarker 116 mX8_canStandHere 1 := ⟨⟨mbX8_canStandHere, by decide, by decide⟩, Or.inl (tb3 (List.mem_of_getElem? (i := 156) rfl)), vbX8_canStandHere⟩
set_option maxRecDepth 100000 in
set_option maxHeartbeats 4000000 in
theorem eX8_readMarker_85 {X : px_X}  : ∀ (a0 : Nat) (w : px_W) (q : Int32 × px_W), fX8_readMarker_85 X  a0 w = some q → EV X mX8_readMarker 85 [(0, .ref a0)] [] w (some (.int q.1)) q.2 := by
  intro a0 w q h
  unfold fX8_readMarker_85 at h
  refine EV.aload_n 0 dX8_readMarker_85 rfl rfl ?_
  obtain ⟨v38, gv38, h⟩ := px_bs h
  refine ev_gI dX8_readMarker_86 flRX8_92 gv38 ?_
  refine EV.aload_n 0 dX8_readMarker_89 rfl rfl ?_
  obtain ⟨v39, gv39, h⟩ := px_bs h
  refine ev_gR dX8_readMarker_90 flRX8_40 gv39 ?_
  obtain ⟨v40, gv40, h⟩ := px_bs h
  refine ev_gI dX8_readMarker_93 flRX8_95 gv40 ?_
  refine EV.icmp_lt 112 dX8_readMarker_96 (by decide) (fun c41 => ?_) (fun c41 => ?_)
  · rw [if_pos c41] at h
    refine EV.aload_n 0 dX8_readMarker_112 rfl rfl ?_
    obtain ⟨v42, gv42, h⟩ := px_bs h
    refine ev_gR dX8_readMarker_113 flRX8_40 gv42 ?_
    refine EV.aload_n 0 dX8_readMarker_116 rfl rfl ?_
    obtain ⟨v43, gv43, h⟩ := px_bs h
    refine ev_gI dX8_readMarker_117 flRX8_92 gv43 ?_
    obtain ⟨o44, go44, h⟩ := px_bs h
    obtain ⟨q45, gq45, h⟩ := px_bs h
    refine EV.callV (As := [.int v43]) (rest := []) dX8_readMarker_120 kcX8_readMarker_104 (gO_ok go44) rfl rfl rfl (Nat.le_of_ble_eq_true rfl) (Nat.le_of_ble_eq_true rfl) (eX1_at gq45) ?_
    refine EV.istore_n [(1, .int q45.1), (0, .ref a0)] dX8_readMarker_123 rfl (by decide) rfl ?_
    refine EV.aload_n 1 dX8_readMarker_124 rfl rfl ?_
    refine EV.iload_n 0 dX8_readMarker_125 rfl rfl ?_
    obtain ⟨o46, go46, h⟩ := px_bs h
    obtain ⟨q47, gq47, h⟩ := px_bs h
    refine EV.callV (As := [.int q45.1]) (rest := []) dX8_readMarker_126 kcX8_readMarker_116 (gO_ok go46) rfl rfl rfl (Nat.le_of_ble_eq_true rfl) (Nat.le_of_ble_eq_true rfl) (eX8_canStandHere gq47) ?_
    refine EV.if_ne 142 dX8_readMarker_129 (by decide) (fun c48 => ?_) (fun c48 => ?_)
    · rw [if_neg c48] at h
      refine EV.aload_n 1 dX8_readMarker_142 rfl rfl ?_
      refine EV.dup dX8_readMarker_143 rfl ?_
      obtain ⟨v49, gv49, h⟩ := px_bs h
      refine ev_gI dX8_readMarker_144 flRX8_92 gv49 ?_
      refine EV.iconst (1) dX8_readMarker_147 (by decide) ?_
      refine EV.iadd dX8_readMarker_148 ?_
      obtain ⟨w50, gw50, h⟩ := px_bs h
      refine ev_pV dX8_readMarker_149 flRX8_92 rfl rfl rfl rfl gw50 ?_
      refine EV.iload_n 0 dX8_readMarker_152 rfl rfl ?_
      cases h
      exact EV.reti dX8_readMarker_153 rfl
    · rw [if_pos c48] at h
      refine EV.aload_n 1 dX8_readMarker_132 rfl rfl ?_
      refine EV.iconst (4) dX8_readMarker_133 (by decide) ?_
      refine EV.aload_n 1 dX8_readMarker_134 rfl rfl ?_
      obtain ⟨v51, gv51, h⟩ := px_bs h
      refine ev_gI dX8_readMarker_135 flRX8_92 gv51 ?_
      obtain ⟨o52, go52, h⟩ := px_bs h
      obtain ⟨q53, gq53, h⟩ := px_bs h
      refine EV.callV (As := [.int 4, .int v51]) (rest := []) dX8_readMarker_138 kcX8_readMarker_100 (gO_ok go52) rfl rfl rfl (Nat.le_of_ble_eq_true rfl) (Nat.le_of_ble_eq_true rfl) (eX8_fail gq53) ?_
      cases h
      exact EV.reti dX8_readMarker_141 rfl
  · rw [if_neg c41] at h
    refine EV.aload_n 0 dX8_readMarker_99 rfl rfl ?_
    refine EV.iconst (1) dX8_readMarker_100 (by decide) ?_
    refine EV.aload_n 0 dX8_readMarker_101 rfl rfl ?_
    obtain ⟨v54, gv54, h⟩ := px_bs h
    refine ev_gR dX8_readMarker_102 flRX8_40 gv54 ?_
    obtain ⟨v55, gv55, h⟩ := px_bs h
    refine ev_gI dX8_readMarker_105 flRX8_95 gv55 ?_
    obtain ⟨o56, go56, h⟩ := px_bs h
    obtain ⟨q57, gq57, h⟩ := px_bs h
    refine EV.callV (As := [.int 1, .int v55]) (rest := []) dX8_readMarker_108 kcX8_readMarker_100 (gO_ok go56) rfl rfl rfl (Nat.le_of_ble_eq_true rfl) (Nat.le_of_ble_eq_true rfl) (eX8_fail gq57) ?_
    cases h
    exact EV.reti dX8_readMarker_111 rfl
set_option maxRecDepth 100000 in
set_option maxHeartbeats 4000000 in
theorem eX8_readMarker_41 {X : px_X}  : ∀ (m : Nat) (a0 : Nat) (w : px_W) (q : Int32 × px_W), fX8_readMarker_41 X  m a0 w = some q → EV X mX8_readMarker 41 [(0, .ref a0)] [] w (some (.int q.1)) q.2 := by
  intro m
  induction m with
  | zero => intro a0 w q h; cases h
  | succ m ih =>
    intro a0 w q h
    rw [fX8_readMarker_41.eq_2] at h
    refine EV.aload_n 0 dX8_readMarker_41 rfl rfl ?_
    obtain ⟨v58, gv58, h⟩ := px_bs h
    refine ev_gI dX8_readMarker_42 flRX8_92 gv58 ?_
    refine EV.aload_n 0 dX8_readMarker_45 rfl rfl ?_
    obtain ⟨v59, gv59, h⟩ := px_bs h
    refine ev_gR dX8_readMarker_46 flRX8_40 gv59 ?_
    obtain ⟨v60, gv60, h⟩ := px_bs h
    refine ev_gI dX8_readMarker_49 flRX8_95 gv60 ?_
    refine EV.icmp_ge 85 dX8_readMarker_52 (by decide) (fun c61 => ?_) (fun c61 => ?_)
    · rw [if_pos c61] at h
      refine EV.sub [0] rfl ?_
      exact eX8_readMarker_85  _ _ _ h
    · rw [if_neg c61] at h
      refine EV.aload_n 0 dX8_readMarker_55 rfl rfl ?_
      obtain ⟨v62, gv62, h⟩ := px_bs h
      refine ev_gR dX8_readMarker_56 flRX8_40 gv62 ?_
      refine EV.aload_n 0 dX8_readMarker_59 rfl rfl ?_
      obtain ⟨v63, gv63, h⟩ := px_bs h
      refine ev_gI dX8_readMarker_60 flRX8_92 gv63 ?_
      obtain ⟨o64, go64, h⟩ := px_bs h
      obtain ⟨q65, gq65, h⟩ := px_bs h
      refine EV.callV (As := [.int v63]) (rest := []) dX8_readMarker_63 kcX8_readMarker_104 (gO_ok go64) rfl rfl rfl (Nat.le_of_ble_eq_true rfl) (Nat.le_of_ble_eq_true rfl) (eX1_at gq65) ?_
      refine EV.sipush (255) dX8_readMarker_66 (by decide) ?_
      refine EV.icmp_ne 85 dX8_readMarker_69 (by decide) (fun c66 => ?_) (fun c66 => ?_)
      · rw [if_neg c66] at h
        refine EV.sub [0] rfl ?_
        exact eX8_readMarker_85  _ _ _ h
      · rw [if_pos c66] at h
        refine EV.aload_n 0 dX8_readMarker_72 rfl rfl ?_
        refine EV.dup dX8_readMarker_73 rfl ?_
        obtain ⟨v67, gv67, h⟩ := px_bs h
        refine ev_gI dX8_readMarker_74 flRX8_92 gv67 ?_
        refine EV.iconst (1) dX8_readMarker_77 (by decide) ?_
        refine EV.iadd dX8_readMarker_78 ?_
        obtain ⟨w68, gw68, h⟩ := px_bs h
        refine ev_pV dX8_readMarker_79 flRX8_92 rfl rfl rfl rfl gw68 ?_
        refine EV.goto 41 dX8_readMarker_82 (by decide) ?_
        refine EV.sub [0] rfl ?_
        exact ih _ _ _ h
set_option maxRecDepth 100000 in
set_option maxHeartbeats 4000000 in
theorem eX8_readMarker {X : px_X} {w : px_W} {a0 : Nat} {q : Int32 × px_W} (h : fX8_readMarker X w a0 = some q) : EV X mX8_readMarker 0 (lv_args 0 [.ref a0]) [] w (some (.int q.1)) q.2 := by
  unfold fX8_readMarker at h
  show EV X mX8_readMarker 0 [(0, .ref a0)] [] w (some (.int q.1)) q.2
  refine EV.aload_n 0 dX8_readMarker_0 rfl rfl ?_
  obtain ⟨v69, gv69, h⟩ := px_bs h
  refine ev_gI dX8_readMarker_1 flRX8_92 gv69 ?_
  refine EV.aload_n 0 dX8_readMarker_4 rfl rfl ?_
  obtain ⟨v70, gv70, h⟩ := px_bs h
  refine ev_gR dX8_readMarker_5 flRX8_40 gv70 ?_
  obtain ⟨v71, gv71, h⟩ := px_bs h
  refine ev_gI dX8_readMarker_8 flRX8_95 gv71 ?_
  refine EV.icmp_ge 41 dX8_readMarker_11 (by decide) (fun c72 => ?_) (fun c72 => ?_)
  · rw [if_pos c72] at h
    refine EV.sub [0] rfl ?_
    exact eX8_readMarker_41  FU _ _ _ h
  · rw [if_neg c72] at h
    refine EV.aload_n 0 dX8_readMarker_14 rfl rfl ?_
    obtain ⟨v73, gv73, h⟩ := px_bs h
    refine ev_gR dX8_readMarker_15 flRX8_40 gv73 ?_
    refine EV.aload_n 0 dX8_readMarker_18 rfl rfl ?_
    obtain ⟨v74, gv74, h⟩ := px_bs h
    refine ev_gI dX8_readMarker_19 flRX8_92 gv74 ?_
    obtain ⟨o75, go75, h⟩ := px_bs h
    obtain ⟨q76, gq76, h⟩ := px_bs h
    refine EV.callV (As := [.int v74]) (rest := []) dX8_readMarker_22 kcX8_readMarker_104 (gO_ok go75) rfl rfl rfl (Nat.le_of_ble_eq_true rfl) (Nat.le_of_ble_eq_true rfl) (eX1_at gq76) ?_
    refine EV.sipush (255) dX8_readMarker_25 (by decide) ?_
    refine EV.icmp_eq 41 dX8_readMarker_28 (by decide) (fun c77 => ?_) (fun c77 => ?_)
    · rw [if_pos c77] at h
      refine EV.sub [0] rfl ?_
      exact eX8_readMarker_41  FU _ _ _ h
    · rw [if_neg c77] at h
      refine EV.aload_n 0 dX8_readMarker_31 rfl rfl ?_
      refine EV.iconst (3) dX8_readMarker_32 (by decide) ?_
      refine EV.aload_n 0 dX8_readMarker_33 rfl rfl ?_
      obtain ⟨v78, gv78, h⟩ := px_bs h
      refine ev_gI dX8_readMarker_34 flRX8_92 gv78 ?_
      obtain ⟨o79, go79, h⟩ := px_bs h
      obtain ⟨q80, gq80, h⟩ := px_bs h
      refine EV.callV (As := [.int 3, .int v78]) (rest := []) dX8_readMarker_37 kcX8_readMarker_100 (gO_ok go79) rfl rfl rfl (Nat.le_of_ble_eq_true rfl) (Nat.le_of_ble_eq_true rfl) (eX8_fail gq80) ?_
      cases h
      exact EV.reti dX8_readMarker_40 rfl
/-! WavePictures$SegmentReader.contentByte()I -/
theorem dX8_contentByte_0 : decode cX8_contentByte 0 = .ok (.aload_n 0, 1) := by decide +kernel
theorem dX8_contentByte_1 : decode cX8_contentByte 1 = .ok (.getfield 92, 3) := by decide +kernel
theorem dX8_contentByte_4 : decode cX8_contentByte 4 = .ok (.aload_n 0, 1) := by decide +kernel
theorem dX8_contentByte_5 : decode cX8_contentByte 5 = .ok (.getfield 126, 3) := by decide +kernel
theorem dX8_contentByte_8 : decode cX8_contentByte 8 = .ok (.if_icmp .lt 13, 3) := by decide +kernel
theorem dX8_contentByte_11 : decode cX8_contentByte 11 = .ok (.aload_n 0, 1) := by decide +kernel
theorem dX8_contentByte_12 : decode cX8_contentByte 12 = .ok (.iconst 5, 1) := by decide +kernel
theorem dX8_contentByte_13 : decode cX8_contentByte 13 = .ok (.aload_n 0, 1) := by decide +kernel
theorem dX8_contentByte_14 : decode cX8_contentByte 14 = .ok (.getfield 123, 3) := by decide +kernel
theorem dX8_contentByte_17 : decode cX8_contentByte 17 = .ok (.invokevirtual 100, 3) := by decide +kernel
theorem dX8_contentByte_20 : decode cX8_contentByte 20 = .ok (.ireturn, 1) := by decide +kernel
theorem dX8_contentByte_21 : decode cX8_contentByte 21 = .ok (.aload_n 0, 1) := by decide +kernel
theorem dX8_contentByte_22 : decode cX8_contentByte 22 = .ok (.getfield 92, 3) := by decide +kernel
theorem dX8_contentByte_25 : decode cX8_contentByte 25 = .ok (.aload_n 0, 1) := by decide +kernel
theorem dX8_contentByte_26 : decode cX8_contentByte 26 = .ok (.getfield 40, 3) := by decide +kernel
theorem dX8_contentByte_29 : decode cX8_contentByte 29 = .ok (.getfield 95, 3) := by decide +kernel
theorem dX8_contentByte_32 : decode cX8_contentByte 32 = .ok (.if_icmp .lt 16, 3) := by decide +kernel
theorem dX8_contentByte_35 : decode cX8_contentByte 35 = .ok (.aload_n 0, 1) := by decide +kernel
theorem dX8_contentByte_36 : decode cX8_contentByte 36 = .ok (.iconst 1, 1) := by decide +kernel
theorem dX8_contentByte_37 : decode cX8_contentByte 37 = .ok (.aload_n 0, 1) := by decide +kernel
theorem dX8_contentByte_38 : decode cX8_contentByte 38 = .ok (.getfield 40, 3) := by decide +kernel
theorem dX8_contentByte_41 : decode cX8_contentByte 41 = .ok (.getfield 95, 3) := by decide +kernel
theorem dX8_contentByte_44 : decode cX8_contentByte 44 = .ok (.invokevirtual 100, 3) := by decide +kernel
theorem dX8_contentByte_47 : decode cX8_contentByte 47 = .ok (.ireturn, 1) := by decide +kernel
theorem dX8_contentByte_48 : decode cX8_contentByte 48 = .ok (.aload_n 0, 1) := by decide +kernel
theorem dX8_contentByte_49 : decode cX8_contentByte 49 = .ok (.dup, 1) := by decide +kernel
theorem dX8_contentByte_50 : decode cX8_contentByte 50 = .ok (.getfield 92, 3) := by decide +kernel
theorem dX8_contentByte_53 : decode cX8_contentByte 53 = .ok (.iconst 1, 1) := by decide +kernel
theorem dX8_contentByte_54 : decode cX8_contentByte 54 = .ok (.iadd, 1) := by decide +kernel
theorem dX8_contentByte_55 : decode cX8_contentByte 55 = .ok (.putfield 92, 3) := by decide +kernel
theorem dX8_contentByte_58 : decode cX8_contentByte 58 = .ok (.aload_n 0, 1) := by decide +kernel
theorem dX8_contentByte_59 : decode cX8_contentByte 59 = .ok (.getfield 40, 3) := by decide +kernel
theorem dX8_contentByte_62 : decode cX8_contentByte 62 = .ok (.aload_n 0, 1) := by decide +kernel
theorem dX8_contentByte_63 : decode cX8_contentByte 63 = .ok (.getfield 92, 3) := by decide +kernel
theorem dX8_contentByte_66 : decode cX8_contentByte 66 = .ok (.iconst 1, 1) := by decide +kernel
theorem dX8_contentByte_67 : decode cX8_contentByte 67 = .ok (.isub, 1) := by decide +kernel
theorem dX8_contentByte_68 : decode cX8_contentByte 68 = .ok (.invokevirtual 104, 3) := by decide +kernel
theorem dX8_contentByte_71 : decode cX8_contentByte 71 = .ok (.ireturn, 1) := by decide +kernel
theorem flRX8_123 : px_f RX8 123 8 9 := ⟨_, rfl, by decide, Or.inl (tb2 (List.mem_of_getElem? (i := 73) rfl))⟩
theorem flRX8_126 : px_f RX8 126 8 10 := ⟨_, rfl, by decide, Or.inl (tb2 (List.mem_of_getElem? (i := 74) rfl))⟩
theorem kcX8_contentByte_100 : px_cV mX8_contentByte 100 mX8_fail 2 := ⟨⟨mbX8_fail, by decide, by decide⟩, Or.inl (tb3 (List.mem_of_getElem? (i := 143) rfl)), vbX8_fail⟩
theorem kcX8_contentByte_104 : px_cV mX8_contentByte 104 mX1_at 1 := ⟨⟨mbX1_at, by decide, by decide⟩, Or.inl (tb3 (List.mem_of_getElem? (i := 147) rfl)), vbX1_at⟩
set_option maxRecDepth 100000 in
set_option maxHeartbeats 4000000 in
theorem eX8_contentByte {X : px_X} {w : px_W} {a0 : Nat} {q : Int32 × px_W} (h : fX8_contentByte X w a0 = some q) : EV X mX8_contentByte 0 (lv_args 0 [.ref a0]) [] w (some (.int q.1)) q.2 := by
  unfold fX8_contentByte at h
  show EV X mX8_contentByte 0 [(0, .ref a0)] [] w (some (.int q.1)) q.2
  refine EV.aload_n 0 dX8_contentByte_0 rfl rfl ?_
  obtain ⟨v19, gv19, h⟩ := px_bs h
  refine ev_gI dX8_contentByte_1 flRX8_92 gv19 ?_
  refine EV.aload_n 0 dX8_contentByte_4 rfl rfl ?_
  obtain ⟨v20, gv20, h⟩ := px_bs h
  refine ev_gI dX8_contentByte_5 flRX8_126 gv20 ?_
  refine EV.icmp_lt 21 dX8_contentByte_8 (by decide) (fun c21 => ?_) (fun c21 => ?_)
  · rw [if_pos c21] at h
    refine EV.aload_n 0 dX8_contentByte_21 rfl rfl ?_
    obtain ⟨v22, gv22, h⟩ := px_bs h
    refine ev_gI dX8_contentByte_22 flRX8_92 gv22 ?_
    refine EV.aload_n 0 dX8_contentByte_25 rfl rfl ?_
    obtain ⟨v23, gv23, h⟩ := px_bs h
    refine ev_gR dX8_contentByte_26 flRX8_40 gv23 ?_
    obtain ⟨v24, gv24, h⟩ := px_bs h
    refine ev_gI dX8_contentByte_29 flRX8_95 gv24 ?_
    refine EV.icmp_lt 48 dX8_contentByte_32 (by decide) (fun c25 => ?_) (fun c25 => ?_)
    · rw [if_pos c25] at h
      refine EV.aload_n 0 dX8_contentByte_48 rfl rfl ?_
      refine EV.dup dX8_contentByte_49 rfl ?_
      obtain ⟨v26, gv26, h⟩ := px_bs h
      refine ev_gI dX8_contentByte_50 flRX8_92 gv26 ?_
      refine EV.iconst (1) dX8_contentByte_53 (by decide) ?_
      refine EV.iadd dX8_contentByte_54 ?_
      obtain ⟨w27, gw27, h⟩ := px_bs h
      refine ev_pV dX8_contentByte_55 flRX8_92 rfl rfl rfl rfl gw27 ?_
      refine EV.aload_n 0 dX8_contentByte_58 rfl rfl ?_
      obtain ⟨v28, gv28, h⟩ := px_bs h
      refine ev_gR dX8_contentByte_59 flRX8_40 gv28 ?_
      refine EV.aload_n 0 dX8_contentByte_62 rfl rfl ?_
      obtain ⟨v29, gv29, h⟩ := px_bs h
      refine ev_gI dX8_contentByte_63 flRX8_92 gv29 ?_
      refine EV.iconst (1) dX8_contentByte_66 (by decide) ?_
      refine EV.isub dX8_contentByte_67 ?_
      obtain ⟨o30, go30, h⟩ := px_bs h
      obtain ⟨q31, gq31, h⟩ := px_bs h
      refine EV.callV (As := [.int (v29 - 1)]) (rest := []) dX8_contentByte_68 kcX8_contentByte_104 (gO_ok go30) rfl rfl rfl (Nat.le_of_ble_eq_true rfl) (Nat.le_of_ble_eq_true rfl) (eX1_at gq31) ?_
      cases h
      exact EV.reti dX8_contentByte_71 rfl
    · rw [if_neg c25] at h
      refine EV.aload_n 0 dX8_contentByte_35 rfl rfl ?_
      refine EV.iconst (1) dX8_contentByte_36 (by decide) ?_
      refine EV.aload_n 0 dX8_contentByte_37 rfl rfl ?_
      obtain ⟨v32, gv32, h⟩ := px_bs h
      refine ev_gR dX8_contentByte_38 flRX8_40 gv32 ?_
      obtain ⟨v33, gv33, h⟩ := px_bs h
      refine ev_gI dX8_contentByte_41 flRX8_95 gv33 ?_
      obtain ⟨o34, go34, h⟩ := px_bs h
      obtain ⟨q35, gq35, h⟩ := px_bs h
      refine EV.callV (As := [.int 1, .int v33]) (rest := []) dX8_contentByte_44 kcX8_contentByte_100 (gO_ok go34) rfl rfl rfl (Nat.le_of_ble_eq_true rfl) (Nat.le_of_ble_eq_true rfl) (eX8_fail gq35) ?_
      cases h
      exact EV.reti dX8_contentByte_47 rfl
  · rw [if_neg c21] at h
    refine EV.aload_n 0 dX8_contentByte_11 rfl rfl ?_
    refine EV.iconst (5) dX8_contentByte_12 (by decide) ?_
    refine EV.aload_n 0 dX8_contentByte_13 rfl rfl ?_
    obtain ⟨v36, gv36, h⟩ := px_bs h
    refine ev_gI dX8_contentByte_14 flRX8_123 gv36 ?_
    obtain ⟨o37, go37, h⟩ := px_bs h
    obtain ⟨q38, gq38, h⟩ := px_bs h
    refine EV.callV (As := [.int 5, .int v36]) (rest := []) dX8_contentByte_17 kcX8_contentByte_100 (gO_ok go37) rfl rfl rfl (Nat.le_of_ble_eq_true rfl) (Nat.le_of_ble_eq_true rfl) (eX8_fail gq38) ?_
    cases h
    exact EV.reti dX8_contentByte_20 rfl
/-! WavePictures$SegmentReader.byteIn(II)I -/
theorem dX8_byteIn_0 : decode cX8_byteIn 0 = .ok (.aload_n 0, 1) := by decide +kernel
theorem dX8_byteIn_1 : decode cX8_byteIn 1 = .ok (.invokevirtual 150, 3) := by decide +kernel
theorem dX8_byteIn_4 : decode cX8_byteIn 4 = .ok (.istore_n 3, 1) := by decide +kernel
theorem dX8_byteIn_5 : decode cX8_byteIn 5 = .ok (.iload_n 3, 1) := by decide +kernel
theorem dX8_byteIn_6 : decode cX8_byteIn 6 = .ok (.iconst (-1), 1) := by decide +kernel
theorem dX8_byteIn_7 : decode cX8_byteIn 7 = .ok (.if_icmp .eq 26, 3) := by decide +kernel
theorem dX8_byteIn_10 : decode cX8_byteIn 10 = .ok (.iload_n 3, 1) := by decide +kernel
theorem dX8_byteIn_11 : decode cX8_byteIn 11 = .ok (.iload_n 1, 1) := by decide +kernel
theorem dX8_byteIn_12 : decode cX8_byteIn 12 = .ok (.if_icmp .lt 8, 3) := by decide +kernel
theorem dX8_byteIn_15 : decode cX8_byteIn 15 = .ok (.iload_n 3, 1) := by decide +kernel
theorem dX8_byteIn_16 : decode cX8_byteIn 16 = .ok (.iload_n 2, 1) := by decide +kernel
theorem dX8_byteIn_17 : decode cX8_byteIn 17 = .ok (.if_icmp .le 16, 3) := by decide +kernel
theorem dX8_byteIn_20 : decode cX8_byteIn 20 = .ok (.aload_n 0, 1) := by decide +kernel
theorem dX8_byteIn_21 : decode cX8_byteIn 21 = .ok (.bipush 6, 2) := by decide +kernel
theorem dX8_byteIn_23 : decode cX8_byteIn 23 = .ok (.aload_n 0, 1) := by decide +kernel
theorem dX8_byteIn_24 : decode cX8_byteIn 24 = .ok (.getfield 92, 3) := by decide +kernel
theorem dX8_byteIn_27 : decode cX8_byteIn 27 = .ok (.iconst 1, 1) := by decide +kernel
theorem dX8_byteIn_28 : decode cX8_byteIn 28 = .ok (.isub, 1) := by decide +kernel
theorem dX8_byteIn_29 : decode cX8_byteIn 29 = .ok (.invokevirtual 100, 3) := by decide +kernel
theorem dX8_byteIn_32 : decode cX8_byteIn 32 = .ok (.ireturn, 1) := by decide +kernel
theorem dX8_byteIn_33 : decode cX8_byteIn 33 = .ok (.iload_n 3, 1) := by decide +kernel
theorem dX8_byteIn_34 : decode cX8_byteIn 34 = .ok (.ireturn, 1) := by decide +kernel
theorem kcX8_byteIn_100 : px_cV mX8_byteIn 100 mX8_fail 2 := ⟨⟨mbX8_fail, by decide, by decide⟩, Or.inl (tb3 (List.mem_of_getElem? (i := 143) rfl)), vbX8_fail⟩
theorem mbX8_contentByte : px_mB mX8_contentByte 0 := ⟨tb3 (List.mem_of_getElem? (i := 183) rfl), by decide +kernel, tb1 (List.mem_of_getElem? (i := 6) rfl), by decide +kernel, by decide +kernel⟩
theorem vbX8_contentByte : px_vB mX8_contentByte := ⟨tb3 (List.mem_of_getElem? (i := 182) rfl), List.mem_append_left _ (List.mem_of_getElem? (i := 8) (by decide +kernel))⟩
theorem kcX8_byteIn_150 : px_cV mX8_byteIn 150 mX8_contentByte 0 := ⟨⟨mbX8_contentByte, by decide, by decide⟩, Or.inl (tb3 (List.mem_of_getElem? (i := 180) rfl)), vbX8_contentByte⟩
set_option maxRecDepth 100000 in
set_option maxHeartbeats 4000000 in
theorem eX8_byteIn_20 {X : px_X}  : ∀ (a0 : Nat) (w : px_W) (q : Int32 × px_W), fX8_byteIn_20 X  a0 w = some q → EV X mX8_byteIn 20 [(0, .ref a0)] [] w (some (.int q.1)) q.2 := by
  intro a0 w q h
  unfold fX8_byteIn_20 at h
  refine EV.aload_n 0 dX8_byteIn_20 rfl rfl ?_
  refine EV.bipush (6) dX8_byteIn_21 (by decide) ?_
  refine EV.aload_n 0 dX8_byteIn_23 rfl rfl ?_
  obtain ⟨v6, gv6, h⟩ := px_bs h
  refine ev_gI dX8_byteIn_24 flRX8_92 gv6 ?_
  refine EV.iconst (1) dX8_byteIn_27 (by decide) ?_
  refine EV.isub dX8_byteIn_28 ?_
  obtain ⟨o7, go7, h⟩ := px_bs h
  obtain ⟨q8, gq8, h⟩ := px_bs h
  refine EV.callV (As := [.int 6, .int (v6 - 1)]) (rest := []) dX8_byteIn_29 kcX8_byteIn_100 (gO_ok go7) rfl rfl rfl (Nat.le_of_ble_eq_true rfl) (Nat.le_of_ble_eq_true rfl) (eX8_fail gq8) ?_
  cases h
  exact EV.reti dX8_byteIn_32 rfl
set_option maxRecDepth 100000 in
set_option maxHeartbeats 4000000 in
theorem eX8_byteIn {X : px_X} {w : px_W} {a0 : Nat} {a1 : Int32} {a2 : Int32} {q : Int32 × px_W} (h : fX8_byteIn X w a0 a1 a2 = some q) : EV X mX8_byteIn 0 (lv_args 0 [.ref a0, .int a1, .int a2]) [] w (some (.int q.1)) q.2 := by
  unfold fX8_byteIn at h
  show EV X mX8_byteIn 0 [(0, .ref a0), (1, .int a1), (2, .int a2)] [] w (some (.int q.1)) q.2
  refine EV.aload_n 0 dX8_byteIn_0 rfl rfl ?_
  obtain ⟨o9, go9, h⟩ := px_bs h
  obtain ⟨q10, gq10, h⟩ := px_bs h
  refine EV.callV (As := []) (rest := []) dX8_byteIn_1 kcX8_byteIn_150 (gO_ok go9) rfl rfl rfl (Nat.le_of_ble_eq_true rfl) (Nat.le_of_ble_eq_true rfl) (eX8_contentByte gq10) ?_
  refine EV.istore_n [(3, .int q10.1), (0, .ref a0), (1, .int a1), (2, .int a2)] dX8_byteIn_4 rfl (by decide) rfl ?_
  refine EV.iload_n 0 dX8_byteIn_5 rfl rfl ?_
  refine EV.iconst ((-1)) dX8_byteIn_6 (by decide) ?_
  refine EV.icmp_eq 33 dX8_byteIn_7 (by decide) (fun c11 => ?_) (fun c11 => ?_)
  · rw [if_pos c11] at h
    refine EV.iload_n 0 dX8_byteIn_33 rfl rfl ?_
    cases h
    exact EV.reti dX8_byteIn_34 rfl
  · rw [if_neg c11] at h
    refine EV.iload_n 0 dX8_byteIn_10 rfl rfl ?_
    refine EV.iload_n 2 dX8_byteIn_11 rfl rfl ?_
    refine EV.icmp_lt 20 dX8_byteIn_12 (by decide) (fun c12 => ?_) (fun c12 => ?_)
    · rw [if_pos c12] at h
      refine EV.sub [1] rfl ?_
      exact eX8_byteIn_20  _ _ _ h
    · rw [if_neg c12] at h
      refine EV.iload_n 0 dX8_byteIn_15 rfl rfl ?_
      refine EV.iload_n 3 dX8_byteIn_16 rfl rfl ?_
      refine EV.icmp_le 33 dX8_byteIn_17 (by decide) (fun c13 => ?_) (fun c13 => ?_)
      · rw [if_pos c13] at h
        refine EV.iload_n 0 dX8_byteIn_33 rfl rfl ?_
        cases h
        exact EV.reti dX8_byteIn_34 rfl
      · rw [if_neg c13] at h
        refine EV.sub [1] rfl ?_
        exact eX8_byteIn_20  _ _ _ h
/-! WavePictures$SegmentReader.readQuantiser()Z -/
theorem dX8_readQuantiser_0 : decode cX8_readQuantiser 0 = .ok (.aload_n 0, 1) := by decide +kernel
theorem dX8_readQuantiser_1 : decode cX8_readQuantiser 1 = .ok (.iconst 0, 1) := by decide +kernel
theorem dX8_readQuantiser_2 : decode cX8_readQuantiser 2 = .ok (.iconst 3, 1) := by decide +kernel
theorem dX8_readQuantiser_3 : decode cX8_readQuantiser 3 = .ok (.invokevirtual 156, 3) := by decide +kernel
theorem dX8_readQuantiser_6 : decode cX8_readQuantiser 6 = .ok (.istore_n 1, 1) := by decide +kernel
theorem dX8_readQuantiser_7 : decode cX8_readQuantiser 7 = .ok (.iconst 0, 1) := by decide +kernel
theorem dX8_readQuantiser_8 : decode cX8_readQuantiser 8 = .ok (.istore_n 2, 1) := by decide +kernel
theorem dX8_readQuantiser_9 : decode cX8_readQuantiser 9 = .ok (.iload_n 2, 1) := by decide +kernel
theorem dX8_readQuantiser_10 : decode cX8_readQuantiser 10 = .ok (.bipush 64, 2) := by decide +kernel
theorem dX8_readQuantiser_12 : decode cX8_readQuantiser 12 = .ok (.if_icmp .ge 42, 3) := by decide +kernel
theorem dX8_readQuantiser_15 : decode cX8_readQuantiser 15 = .ok (.aload_n 0, 1) := by decide +kernel
theorem dX8_readQuantiser_16 : decode cX8_readQuantiser 16 = .ok (.getfield 62, 3) := by decide +kernel
theorem dX8_readQuantiser_19 : decode cX8_readQuantiser 19 = .ok (.ifCond .ne 35, 3) := by decide +kernel
theorem dX8_readQuantiser_22 : decode cX8_readQuantiser 22 = .ok (.aload_n 0, 1) := by decide +kernel
theorem dX8_readQuantiser_23 : decode cX8_readQuantiser 23 = .ok (.iconst 1, 1) := by decide +kernel
theorem dX8_readQuantiser_24 : decode cX8_readQuantiser 24 = .ok (.sipush 255, 3) := by decide +kernel
theorem dX8_readQuantiser_27 : decode cX8_readQuantiser 27 = .ok (.invokevirtual 156, 3) := by decide +kernel
theorem dX8_readQuantiser_30 : decode cX8_readQuantiser 30 = .ok (.istore_n 3, 1) := by decide +kernel
theorem dX8_readQuantiser_31 : decode cX8_readQuantiser 31 = .ok (.iload_n 3, 1) := by decide +kernel
theorem dX8_readQuantiser_32 : decode cX8_readQuantiser 32 = .ok (.iconst (-1), 1) := by decide +kernel
theorem dX8_readQuantiser_33 : decode cX8_readQuantiser 33 = .ok (.if_icmp .eq 15, 3) := by decide +kernel
theorem dX8_readQuantiser_36 : decode cX8_readQuantiser 36 = .ok (.aload_n 0, 1) := by decide +kernel
theorem dX8_readQuantiser_37 : decode cX8_readQuantiser 37 = .ok (.getfield 31, 3) := by decide +kernel
theorem dX8_readQuantiser_40 : decode cX8_readQuantiser 40 = .ok (.bipush 64, 2) := by decide +kernel
theorem dX8_readQuantiser_42 : decode cX8_readQuantiser 42 = .ok (.iload_n 1, 1) := by decide +kernel
theorem dX8_readQuantiser_43 : decode cX8_readQuantiser 43 = .ok (.imul, 1) := by decide +kernel
theorem dX8_readQuantiser_44 : decode cX8_readQuantiser 44 = .ok (.iload_n 2, 1) := by decide +kernel
theorem dX8_readQuantiser_45 : decode cX8_readQuantiser 45 = .ok (.iadd, 1) := by decide +kernel
theorem dX8_readQuantiser_46 : decode cX8_readQuantiser 46 = .ok (.iload_n 3, 1) := by decide +kernel
theorem dX8_readQuantiser_47 : decode cX8_readQuantiser 47 = .ok (.iastore, 1) := by decide +kernel
theorem dX8_readQuantiser_48 : decode cX8_readQuantiser 48 = .ok (.iinc 2 1, 3) := by decide +kernel
theorem dX8_readQuantiser_51 : decode cX8_readQuantiser 51 = .ok (.goto (-42), 3) := by decide +kernel
theorem dX8_readQuantiser_54 : decode cX8_readQuantiser 54 = .ok (.aload_n 0, 1) := by decide +kernel
theorem dX8_readQuantiser_55 : decode cX8_readQuantiser 55 = .ok (.getfield 62, 3) := by decide +kernel
theorem dX8_readQuantiser_58 : decode cX8_readQuantiser 58 = .ok (.ifCond .ne 7, 3) := by decide +kernel
theorem dX8_readQuantiser_61 : decode cX8_readQuantiser 61 = .ok (.iconst 1, 1) := by decide +kernel
theorem dX8_readQuantiser_62 : decode cX8_readQuantiser 62 = .ok (.goto 4, 3) := by decide +kernel
theorem dX8_readQuantiser_65 : decode cX8_readQuantiser 65 = .ok (.iconst 0, 1) := by decide +kernel
theorem dX8_readQuantiser_66 : decode cX8_readQuantiser 66 = .ok (.ireturn, 1) := by decide +kernel
theorem mbX8_byteIn : px_mB mX8_byteIn 2 := ⟨tb3 (List.mem_of_getElem? (i := 179) rfl), by decide +kernel, tb1 (List.mem_of_getElem? (i := 6) rfl), by decide +kernel, by decide +kernel⟩
theorem vbX8_byteIn : px_vB mX8_byteIn := ⟨tb3 (List.mem_of_getElem? (i := 178) rfl), List.mem_append_left _ (List.mem_of_getElem? (i := 7) (by decide +kernel))⟩
theorem kcX8_readQuantiser_156 : px_cV mX8_readQuantiser 156 mX8_byteIn 2 := ⟨⟨mbX8_byteIn, by decide, by decide⟩, Or.inl (tb3 (List.mem_of_getElem? (i := 176) rfl)), vbX8_byteIn⟩
set_option maxRecDepth 100000 in
set_option maxHeartbeats 4000000 in
theorem eX8_readQuantiser_48 {X : px_X} {k9 : Nat → Int32 → Int32 → px_W → Option (Int32 × px_W)} (hk9 : ∀ (a0 : Nat) (a1 : Int32) (a2 : Int32) (w : px_W) (q : Int32 × px_W), k9 a0 a1 a2 w = some q → EV X mX8_readQuantiser 9 [(0, .ref a0), (1, .int a1), (2, .int a2)] [] w (some (.int q.1)) q.2) : ∀ (a0 : Nat) (a1 : Int32) (a2 : Int32) (w : px_W) (q : Int32 × px_W), fX8_readQuantiser_48 X k9 a0 a1 a2 w = some q → EV X mX8_readQuantiser 48 [(0, .ref a0), (1, .int a1), (2, .int a2)] [] w (some (.int q.1)) q.2 := by
  intro a0 a1 a2 w q h
  unfold fX8_readQuantiser_48 at h
  refine EV.iinc 2 (a2 + 1) [(2, .int (a2 + 1)), (0, .ref a0), (1, .int a1)] dX8_readQuantiser_48 rfl rfl (by decide) rfl ?_
  refine EV.goto 9 dX8_readQuantiser_51 (by decide) ?_
  refine EV.sub [1, 2, 0] rfl ?_
  exact hk9 _ _ _ _ _ h
set_option maxRecDepth 100000 in
set_option maxHeartbeats 4000000 in
theorem eX8_readQuantiser_54 {X : px_X}  : ∀ (a0 : Nat) (w : px_W) (q : Int32 × px_W), fX8_readQuantiser_54 X  a0 w = some q → EV X mX8_readQuantiser 54 [(0, .ref a0)] [] w (some (.int q.1)) q.2 := by
  intro a0 w q h
  unfold fX8_readQuantiser_54 at h
  refine EV.aload_n 0 dX8_readQuantiser_54 rfl rfl ?_
  obtain ⟨v9, gv9, h⟩ := px_bs h
  refine ev_gI dX8_readQuantiser_55 flRX8_62 gv9 ?_
  refine EV.if_ne 65 dX8_readQuantiser_58 (by decide) (fun c10 => ?_) (fun c10 => ?_)
  · rw [if_neg c10] at h
    refine EV.iconst (0) dX8_readQuantiser_65 (by decide) ?_
    cases h
    exact EV.reti dX8_readQuantiser_66 rfl
  · rw [if_pos c10] at h
    refine EV.iconst (1) dX8_readQuantiser_61 (by decide) ?_
    refine EV.goto 66 dX8_readQuantiser_62 (by decide) ?_
    cases h
    exact EV.reti dX8_readQuantiser_66 rfl
set_option maxRecDepth 100000 in
set_option maxHeartbeats 4000000 in
theorem eX8_readQuantiser_9 {X : px_X}  : ∀ (m : Nat) (a0 : Nat) (a1 : Int32) (a2 : Int32) (w : px_W) (q : Int32 × px_W), fX8_readQuantiser_9 X  m a0 a1 a2 w = some q → EV X mX8_readQuantiser 9 [(0, .ref a0), (1, .int a1), (2, .int a2)] [] w (some (.int q.1)) q.2 := by
  intro m
  induction m with
  | zero => intro a0 a1 a2 w q h; cases h
  | succ m ih =>
    intro a0 a1 a2 w q h
    rw [fX8_readQuantiser_9.eq_2] at h
    refine EV.iload_n 2 dX8_readQuantiser_9 rfl rfl ?_
    refine EV.bipush (64) dX8_readQuantiser_10 (by decide) ?_
    refine EV.icmp_ge 54 dX8_readQuantiser_12 (by decide) (fun c11 => ?_) (fun c11 => ?_)
    · rw [if_pos c11] at h
      refine EV.sub [0] rfl ?_
      exact eX8_readQuantiser_54  _ _ _ h
    · rw [if_neg c11] at h
      refine EV.aload_n 0 dX8_readQuantiser_15 rfl rfl ?_
      obtain ⟨v12, gv12, h⟩ := px_bs h
      refine ev_gI dX8_readQuantiser_16 flRX8_62 gv12 ?_
      refine EV.if_ne 54 dX8_readQuantiser_19 (by decide) (fun c13 => ?_) (fun c13 => ?_)
      · rw [if_neg c13] at h
        refine EV.sub [0] rfl ?_
        exact eX8_readQuantiser_54  _ _ _ h
      · rw [if_pos c13] at h
        refine EV.aload_n 0 dX8_readQuantiser_22 rfl rfl ?_
        refine EV.iconst (1) dX8_readQuantiser_23 (by decide) ?_
        refine EV.sipush (255) dX8_readQuantiser_24 (by decide) ?_
        obtain ⟨o14, go14, h⟩ := px_bs h
        obtain ⟨q15, gq15, h⟩ := px_bs h
        refine EV.callV (As := [.int 1, .int 255]) (rest := []) dX8_readQuantiser_27 kcX8_readQuantiser_156 (gO_ok go14) rfl rfl rfl (Nat.le_of_ble_eq_true rfl) (Nat.le_of_ble_eq_true rfl) (eX8_byteIn gq15) ?_
        refine EV.istore_n [(3, .int q15.1), (0, .ref a0), (1, .int a1), (2, .int a2)] dX8_readQuantiser_30 rfl (by decide) rfl ?_
        refine EV.iload_n 0 dX8_readQuantiser_31 rfl rfl ?_
        refine EV.iconst ((-1)) dX8_readQuantiser_32 (by decide) ?_
        refine EV.icmp_eq 48 dX8_readQuantiser_33 (by decide) (fun c16 => ?_) (fun c16 => ?_)
        · rw [if_pos c16] at h
          refine EV.sub [1, 2, 3] rfl ?_
          exact eX8_readQuantiser_48 ih _ _ _ _ _ h
        · rw [if_neg c16] at h
          refine EV.aload_n 1 dX8_readQuantiser_36 rfl rfl ?_
          obtain ⟨v17, gv17, h⟩ := px_bs h
          refine ev_gR dX8_readQuantiser_37 flRX8_31 gv17 ?_
          refine EV.bipush (64) dX8_readQuantiser_40 (by decide) ?_
          refine EV.iload_n 2 dX8_readQuantiser_42 rfl rfl ?_
          refine EV.imul dX8_readQuantiser_43 ?_
          refine EV.iload_n 3 dX8_readQuantiser_44 rfl rfl ?_
          refine EV.iadd dX8_readQuantiser_45 ?_
          refine EV.iload_n 0 dX8_readQuantiser_46 rfl rfl ?_
          obtain ⟨w18, gw18, h⟩ := px_bs h
          refine ev_sI dX8_readQuantiser_47 gw18 ?_
          refine EV.sub [1, 2, 3] rfl ?_
          exact eX8_readQuantiser_48 ih _ _ _ _ _ h
set_option maxRecDepth 100000 in
set_option maxHeartbeats 4000000 in
theorem eX8_readQuantiser {X : px_X} {w : px_W} {a0 : Nat} {q : Int32 × px_W} (h : fX8_readQuantiser X w a0 = some q) : EV X mX8_readQuantiser 0 (lv_args 0 [.ref a0]) [] w (some (.int q.1)) q.2 := by
  unfold fX8_readQuantiser at h
  show EV X mX8_readQuantiser 0 [(0, .ref a0)] [] w (some (.int q.1)) q.2
  refine EV.aload_n 0 dX8_readQuantiser_0 rfl rfl ?_
  refine EV.iconst (0) dX8_readQuantiser_1 (by decide) ?_
  refine EV.iconst (3) dX8_readQuantiser_2 (by decide) ?_
  obtain ⟨o19, go19, h⟩ := px_bs h
  obtain ⟨q20, gq20, h⟩ := px_bs h
  refine EV.callV (As := [.int 0, .int 3]) (rest := []) dX8_readQuantiser_3 kcX8_readQuantiser_156 (gO_ok go19) rfl rfl rfl (Nat.le_of_ble_eq_true rfl) (Nat.le_of_ble_eq_true rfl) (eX8_byteIn gq20) ?_
  refine EV.istore_n [(1, .int q20.1), (0, .ref a0)] dX8_readQuantiser_6 rfl (by decide) rfl ?_
  refine EV.iconst (0) dX8_readQuantiser_7 (by decide) ?_
  refine EV.istore_n [(2, .int 0), (1, .int q20.1), (0, .ref a0)] dX8_readQuantiser_8 rfl (by decide) rfl ?_
  refine EV.sub [2, 1, 0] rfl ?_
  exact eX8_readQuantiser_9  FU _ _ _ _ _ h
/-! WavePictures$SegmentReader.readQuantisers()Z -/
theorem dX8_readQuantisers_0 : decode cX8_readQuantisers 0 = .ok (.iconst 1, 1) := by decide +kernel
theorem dX8_readQuantisers_1 : decode cX8_readQuantisers 1 = .ok (.istore_n 1, 1) := by decide +kernel
theorem dX8_readQuantisers_2 : decode cX8_readQuantisers 2 = .ok (.iconst 0, 1) := by decide +kernel
theorem dX8_readQuantisers_3 : decode cX8_readQuantisers 3 = .ok (.istore_n 2, 1) := by decide +kernel
theorem dX8_readQuantisers_4 : decode cX8_readQuantisers 4 = .ok (.iload_n 1, 1) := by decide +kernel
theorem dX8_readQuantisers_5 : decode cX8_readQuantisers 5 = .ok (.ifCond .eq 36, 3) := by decide +kernel
theorem dX8_readQuantisers_8 : decode cX8_readQuantisers 8 = .ok (.iload_n 2, 1) := by decide +kernel
theorem dX8_readQuantisers_9 : decode cX8_readQuantisers 9 = .ok (.sipush 16384, 3) := by decide +kernel
theorem dX8_readQuantisers_12 : decode cX8_readQuantisers 12 = .ok (.if_icmp .ge 29, 3) := by decide +kernel
theorem dX8_readQuantisers_15 : decode cX8_readQuantisers 15 = .ok (.iload_n 2, 1) := by decide +kernel
theorem dX8_readQuantisers_16 : decode cX8_readQuantisers 16 = .ok (.ifCond .eq 14, 3) := by decide +kernel
theorem dX8_readQuantisers_19 : decode cX8_readQuantisers 19 = .ok (.aload_n 0, 1) := by decide +kernel
theorem dX8_readQuantisers_20 : decode cX8_readQuantisers 20 = .ok (.getfield 92, 3) := by decide +kernel
theorem dX8_readQuantisers_23 : decode cX8_readQuantisers 23 = .ok (.aload_n 0, 1) := by decide +kernel
theorem dX8_readQuantisers_24 : decode cX8_readQuantisers 24 = .ok (.getfield 126, 3) := by decide +kernel
theorem dX8_readQuantisers_27 : decode cX8_readQuantisers 27 = .ok (.if_icmp .ge 14, 3) := by decide +kernel
theorem dX8_readQuantisers_30 : decode cX8_readQuantisers 30 = .ok (.aload_n 0, 1) := by decide +kernel
theorem dX8_readQuantisers_31 : decode cX8_readQuantisers 31 = .ok (.invokevirtual 153, 3) := by decide +kernel
theorem dX8_readQuantisers_34 : decode cX8_readQuantisers 34 = .ok (.istore_n 1, 1) := by decide +kernel
theorem dX8_readQuantisers_35 : decode cX8_readQuantisers 35 = .ok (.iinc 2 1, 3) := by decide +kernel
theorem dX8_readQuantisers_38 : decode cX8_readQuantisers 38 = .ok (.goto (-34), 3) := by decide +kernel
theorem dX8_readQuantisers_41 : decode cX8_readQuantisers 41 = .ok (.iload_n 1, 1) := by decide +kernel
theorem dX8_readQuantisers_42 : decode cX8_readQuantisers 42 = .ok (.ireturn, 1) := by decide +kernel
theorem mbX8_readQuantiser : px_mB mX8_readQuantiser 0 := ⟨tb3 (List.mem_of_getElem? (i := 175) rfl), by decide +kernel, tb1 (List.mem_of_getElem? (i := 6) rfl), by decide +kernel, by decide +kernel⟩
theorem vbX8_readQuantiser : px_vB mX8_readQuantiser := ⟨tb3 (List.mem_of_getElem? (i := 174) rfl), List.mem_append_left _ (List.mem_of_getElem? (i := 6) (by decide +kernel))⟩
theorem kcX8_readQuantisers_153 : px_cV mX8_readQuantisers 153 mX8_readQuantiser 0 := ⟨⟨mbX8_readQuantiser, by decide, by decide⟩, Or.inl (tb3 (List.mem_of_getElem? (i := 172) rfl)), vbX8_readQuantiser⟩
set_option maxRecDepth 100000 in
set_option maxHeartbeats 4000000 in
theorem eX8_readQuantisers_30 {X : px_X} {k4 : Nat → Int32 → Int32 → px_W → Option (Int32 × px_W)} (hk4 : ∀ (a0 : Nat) (a1 : Int32) (a2 : Int32) (w : px_W) (q : Int32 × px_W), k4 a0 a1 a2 w = some q → EV X mX8_readQuantisers 4 [(0, .ref a0), (1, .int a1), (2, .int a2)] [] w (some (.int q.1)) q.2) : ∀ (a0 : Nat) (a2 : Int32) (w : px_W) (q : Int32 × px_W), fX8_readQuantisers_30 X k4 a0 a2 w = some q → EV X mX8_readQuantisers 30 [(0, .ref a0), (2, .int a2)] [] w (some (.int q.1)) q.2 := by
  intro a0 a2 w q h
  unfold fX8_readQuantisers_30 at h
  refine EV.aload_n 0 dX8_readQuantisers_30 rfl rfl ?_
  obtain ⟨o5, go5, h⟩ := px_bs h
  obtain ⟨q6, gq6, h⟩ := px_bs h
  refine EV.callV (As := []) (rest := []) dX8_readQuantisers_31 kcX8_readQuantisers_153 (gO_ok go5) rfl rfl rfl (Nat.le_of_ble_eq_true rfl) (Nat.le_of_ble_eq_true rfl) (eX8_readQuantiser gq6) ?_
  refine EV.istore_n [(1, .int q6.1), (0, .ref a0), (2, .int a2)] dX8_readQuantisers_34 rfl (by decide) rfl ?_
  refine EV.iinc 2 (a2 + 1) [(2, .int (a2 + 1)), (1, .int q6.1), (0, .ref a0)] dX8_readQuantisers_35 rfl rfl (by decide) rfl ?_
  refine EV.goto 4 dX8_readQuantisers_38 (by decide) ?_
  refine EV.sub [2, 1, 0] rfl ?_
  exact hk4 _ _ _ _ _ h
set_option maxRecDepth 100000 in
set_option maxHeartbeats 4000000 in
theorem eX8_readQuantisers_4 {X : px_X}  : ∀ (m : Nat) (a0 : Nat) (a1 : Int32) (a2 : Int32) (w : px_W) (q : Int32 × px_W), fX8_readQuantisers_4 X  m a0 a1 a2 w = some q → EV X mX8_readQuantisers 4 [(0, .ref a0), (1, .int a1), (2, .int a2)] [] w (some (.int q.1)) q.2 := by
  intro m
  induction m with
  | zero => intro a0 a1 a2 w q h; cases h
  | succ m ih =>
    intro a0 a1 a2 w q h
    rw [fX8_readQuantisers_4.eq_2] at h
    refine EV.iload_n 1 dX8_readQuantisers_4 rfl rfl ?_
    refine EV.if_eq 41 dX8_readQuantisers_5 (by decide) (fun c7 => ?_) (fun c7 => ?_)
    · rw [if_pos c7] at h
      refine EV.iload_n 1 dX8_readQuantisers_41 rfl rfl ?_
      exact ev_retZ dX8_readQuantisers_42 rfl h
    · rw [if_neg c7] at h
      refine EV.iload_n 2 dX8_readQuantisers_8 rfl rfl ?_
      refine EV.sipush (16384) dX8_readQuantisers_9 (by decide) ?_
      refine EV.icmp_ge 41 dX8_readQuantisers_12 (by decide) (fun c8 => ?_) (fun c8 => ?_)
      · rw [if_pos c8] at h
        refine EV.iload_n 1 dX8_readQuantisers_41 rfl rfl ?_
        exact ev_retZ dX8_readQuantisers_42 rfl h
      · rw [if_neg c8] at h
        refine EV.iload_n 2 dX8_readQuantisers_15 rfl rfl ?_
        refine EV.if_eq 30 dX8_readQuantisers_16 (by decide) (fun c9 => ?_) (fun c9 => ?_)
        · rw [if_pos c9] at h
          refine EV.sub [0, 2] rfl ?_
          exact eX8_readQuantisers_30 ih _ _ _ _ h
        · rw [if_neg c9] at h
          refine EV.aload_n 0 dX8_readQuantisers_19 rfl rfl ?_
          obtain ⟨v10, gv10, h⟩ := px_bs h
          refine ev_gI dX8_readQuantisers_20 flRX8_92 gv10 ?_
          refine EV.aload_n 0 dX8_readQuantisers_23 rfl rfl ?_
          obtain ⟨v11, gv11, h⟩ := px_bs h
          refine ev_gI dX8_readQuantisers_24 flRX8_126 gv11 ?_
          refine EV.icmp_ge 41 dX8_readQuantisers_27 (by decide) (fun c12 => ?_) (fun c12 => ?_)
          · rw [if_pos c12] at h
            refine EV.iload_n 1 dX8_readQuantisers_41 rfl rfl ?_
            exact ev_retZ dX8_readQuantisers_42 rfl h
          · rw [if_neg c12] at h
            refine EV.sub [0, 2] rfl ?_
            exact eX8_readQuantisers_30 ih _ _ _ _ h
set_option maxRecDepth 100000 in
set_option maxHeartbeats 4000000 in
theorem eX8_readQuantisers {X : px_X} {w : px_W} {a0 : Nat} {q : Int32 × px_W} (h : fX8_readQuantisers X w a0 = some q) : EV X mX8_readQuantisers 0 (lv_args 0 [.ref a0]) [] w (some (.int q.1)) q.2 := by
  unfold fX8_readQuantisers at h
  show EV X mX8_readQuantisers 0 [(0, .ref a0)] [] w (some (.int q.1)) q.2
  refine EV.iconst (1) dX8_readQuantisers_0 (by decide) ?_
  refine EV.istore_n [(1, .int 1), (0, .ref a0)] dX8_readQuantisers_1 rfl (by decide) rfl ?_
  refine EV.iconst (0) dX8_readQuantisers_2 (by decide) ?_
  refine EV.istore_n [(2, .int 0), (1, .int 1), (0, .ref a0)] dX8_readQuantisers_3 rfl (by decide) rfl ?_
  refine EV.sub [2, 1, 0] rfl ?_
  exact eX8_readQuantisers_4  FU _ _ _ _ _ h
/-! WavePictures$SegmentReader.refuse()Z -/
theorem dX8_refuse_0 : decode cX8_refuse 0 = .ok (.aload_n 0, 1) := by decide +kernel
theorem dX8_refuse_1 : decode cX8_refuse 1 = .ok (.bipush 6, 2) := by decide +kernel
theorem dX8_refuse_3 : decode cX8_refuse 3 = .ok (.aload_n 0, 1) := by decide +kernel
theorem dX8_refuse_4 : decode cX8_refuse 4 = .ok (.getfield 92, 3) := by decide +kernel
theorem dX8_refuse_7 : decode cX8_refuse 7 = .ok (.iconst 1, 1) := by decide +kernel
theorem dX8_refuse_8 : decode cX8_refuse 8 = .ok (.isub, 1) := by decide +kernel
theorem dX8_refuse_9 : decode cX8_refuse 9 = .ok (.invokevirtual 100, 3) := by decide +kernel
theorem dX8_refuse_12 : decode cX8_refuse 12 = .ok (.pop, 1) := by decide +kernel
theorem dX8_refuse_13 : decode cX8_refuse 13 = .ok (.iconst 0, 1) := by decide +kernel
theorem dX8_refuse_14 : decode cX8_refuse 14 = .ok (.ireturn, 1) := by decide +kernel
theorem kcX8_refuse_100 : px_cV mX8_refuse 100 mX8_fail 2 := ⟨⟨mbX8_fail, by decide, by decide⟩, Or.inl (tb3 (List.mem_of_getElem? (i := 143) rfl)), vbX8_fail⟩
set_option maxRecDepth 100000 in
set_option maxHeartbeats 4000000 in
theorem eX8_refuse {X : px_X} {w : px_W} {a0 : Nat} {q : Int32 × px_W} (h : fX8_refuse X w a0 = some q) : EV X mX8_refuse 0 (lv_args 0 [.ref a0]) [] w (some (.int q.1)) q.2 := by
  unfold fX8_refuse at h
  show EV X mX8_refuse 0 [(0, .ref a0)] [] w (some (.int q.1)) q.2
  refine EV.aload_n 0 dX8_refuse_0 rfl rfl ?_
  refine EV.bipush (6) dX8_refuse_1 (by decide) ?_
  refine EV.aload_n 0 dX8_refuse_3 rfl rfl ?_
  obtain ⟨v4, gv4, h⟩ := px_bs h
  refine ev_gI dX8_refuse_4 flRX8_92 gv4 ?_
  refine EV.iconst (1) dX8_refuse_7 (by decide) ?_
  refine EV.isub dX8_refuse_8 ?_
  obtain ⟨o5, go5, h⟩ := px_bs h
  obtain ⟨q6, gq6, h⟩ := px_bs h
  refine EV.callV (As := [.int 6, .int (v4 - 1)]) (rest := []) dX8_refuse_9 kcX8_refuse_100 (gO_ok go5) rfl rfl rfl (Nat.le_of_ble_eq_true rfl) (Nat.le_of_ble_eq_true rfl) (eX8_fail gq6) ?_
  refine EV.pop dX8_refuse_12 rfl ?_
  refine EV.iconst (0) dX8_refuse_13 (by decide) ?_
  cases h
  exact EV.reti dX8_refuse_14 rfl
/-! WavePictures$Words.settle()V -/
theorem dX10_settle_0 : decode cX10_settle 0 = .ok (.iconst 0, 1) := by decide +kernel
theorem dX10_settle_1 : decode cX10_settle 1 = .ok (.istore_n 1, 1) := by decide +kernel
theorem dX10_settle_2 : decode cX10_settle 2 = .ok (.iconst 0, 1) := by decide +kernel
theorem dX10_settle_3 : decode cX10_settle 3 = .ok (.istore_n 2, 1) := by decide +kernel
theorem dX10_settle_4 : decode cX10_settle 4 = .ok (.aload_n 0, 1) := by decide +kernel
theorem dX10_settle_5 : decode cX10_settle 5 = .ok (.iconst 0, 1) := by decide +kernel
theorem dX10_settle_6 : decode cX10_settle 6 = .ok (.putfield 24, 3) := by decide +kernel
theorem dX10_settle_9 : decode cX10_settle 9 = .ok (.iconst 1, 1) := by decide +kernel
theorem dX10_settle_10 : decode cX10_settle 10 = .ok (.istore_n 3, 1) := by decide +kernel
theorem dX10_settle_11 : decode cX10_settle 11 = .ok (.iload_n 3, 1) := by decide +kernel
theorem dX10_settle_12 : decode cX10_settle 12 = .ok (.bipush 16, 2) := by decide +kernel
theorem dX10_settle_14 : decode cX10_settle 14 = .ok (.if_icmp .gt 66, 3) := by decide +kernel
theorem dX10_settle_17 : decode cX10_settle 17 = .ok (.iload_n 1, 1) := by decide +kernel
theorem dX10_settle_18 : decode cX10_settle 18 = .ok (.iconst 2, 1) := by decide +kernel
theorem dX10_settle_19 : decode cX10_settle 19 = .ok (.imul, 1) := by decide +kernel
theorem dX10_settle_20 : decode cX10_settle 20 = .ok (.istore_n 1, 1) := by decide +kernel
theorem dX10_settle_21 : decode cX10_settle 21 = .ok (.aload_n 0, 1) := by decide +kernel
theorem dX10_settle_22 : decode cX10_settle 22 = .ok (.getfield 15, 3) := by decide +kernel
theorem dX10_settle_25 : decode cX10_settle 25 = .ok (.iload_n 3, 1) := by decide +kernel
theorem dX10_settle_26 : decode cX10_settle 26 = .ok (.iload_n 1, 1) := by decide +kernel
theorem dX10_settle_27 : decode cX10_settle 27 = .ok (.iastore, 1) := by decide +kernel
theorem dX10_settle_28 : decode cX10_settle 28 = .ok (.aload_n 0, 1) := by decide +kernel
theorem dX10_settle_29 : decode cX10_settle 29 = .ok (.getfield 18, 3) := by decide +kernel
theorem dX10_settle_32 : decode cX10_settle 32 = .ok (.iload_n 3, 1) := by decide +kernel
theorem dX10_settle_33 : decode cX10_settle 33 = .ok (.iload_n 2, 1) := by decide +kernel
theorem dX10_settle_34 : decode cX10_settle 34 = .ok (.iastore, 1) := by decide +kernel
theorem dX10_settle_35 : decode cX10_settle 35 = .ok (.iload_n 1, 1) := by decide +kernel
theorem dX10_settle_36 : decode cX10_settle 36 = .ok (.aload_n 0, 1) := by decide +kernel
theorem dX10_settle_37 : decode cX10_settle 37 = .ok (.getfield 9, 3) := by decide +kernel
theorem dX10_settle_40 : decode cX10_settle 40 = .ok (.iload_n 3, 1) := by decide +kernel
theorem dX10_settle_41 : decode cX10_settle 41 = .ok (.iaload, 1) := by decide +kernel
theorem dX10_settle_42 : decode cX10_settle 42 = .ok (.iadd, 1) := by decide +kernel
theorem dX10_settle_43 : decode cX10_settle 43 = .ok (.istore_n 1, 1) := by decide +kernel
theorem dX10_settle_44 : decode cX10_settle 44 = .ok (.iload_n 2, 1) := by decide +kernel
theorem dX10_settle_45 : decode cX10_settle 45 = .ok (.aload_n 0, 1) := by decide +kernel
theorem dX10_settle_46 : decode cX10_settle 46 = .ok (.getfield 9, 3) := by decide +kernel
theorem dX10_settle_49 : decode cX10_settle 49 = .ok (.iload_n 3, 1) := by decide +kernel
theorem dX10_settle_50 : decode cX10_settle 50 = .ok (.iaload, 1) := by decide +kernel
theorem dX10_settle_51 : decode cX10_settle 51 = .ok (.iadd, 1) := by decide +kernel
theorem dX10_settle_52 : decode cX10_settle 52 = .ok (.istore_n 2, 1) := by decide +kernel
theorem dX10_settle_53 : decode cX10_settle 53 = .ok (.aload_n 0, 1) := by decide +kernel
theorem dX10_settle_54 : decode cX10_settle 54 = .ok (.getfield 9, 3) := by decide +kernel
theorem dX10_settle_57 : decode cX10_settle 57 = .ok (.iload_n 3, 1) := by decide +kernel
theorem dX10_settle_58 : decode cX10_settle 58 = .ok (.iaload, 1) := by decide +kernel
theorem dX10_settle_59 : decode cX10_settle 59 = .ok (.ifCond .le 15, 3) := by decide +kernel
theorem dX10_settle_62 : decode cX10_settle 62 = .ok (.aload_n 0, 1) := by decide +kernel
theorem dX10_settle_63 : decode cX10_settle 63 = .ok (.iload_n 3, 1) := by decide +kernel
theorem dX10_settle_64 : decode cX10_settle 64 = .ok (.putfield 24, 3) := by decide +kernel
theorem dX10_settle_67 : decode cX10_settle 67 = .ok (.aload_n 0, 1) := by decide +kernel
theorem dX10_settle_68 : decode cX10_settle 68 = .ok (.iload_n 1, 1) := by decide +kernel
theorem dX10_settle_69 : decode cX10_settle 69 = .ok (.iconst 1, 1) := by decide +kernel
theorem dX10_settle_70 : decode cX10_settle 70 = .ok (.isub, 1) := by decide +kernel
theorem dX10_settle_71 : decode cX10_settle 71 = .ok (.putfield 28, 3) := by decide +kernel
theorem dX10_settle_74 : decode cX10_settle 74 = .ok (.iinc 3 1, 3) := by decide +kernel
theorem dX10_settle_77 : decode cX10_settle 77 = .ok (.goto (-66), 3) := by decide +kernel
theorem dX10_settle_80 : decode cX10_settle 80 = .ok (.return_, 1) := by decide +kernel
set_option maxRecDepth 100000 in
set_option maxHeartbeats 4000000 in
theorem eX10_settle_74 {X : px_X} {k11 : Nat → Int32 → Int32 → Int32 → px_W → Option (px_W)} (hk11 : ∀ (a0 : Nat) (a1 : Int32) (a2 : Int32) (a3 : Int32) (w : px_W) (q : px_W), k11 a0 a1 a2 a3 w = some q → EV X mX10_settle 11 [(0, .ref a0), (1, .int a1), (2, .int a2), (3, .int a3)] [] w none q) : ∀ (a0 : Nat) (a1 : Int32) (a2 : Int32) (a3 : Int32) (w : px_W) (q : px_W), fX10_settle_74 X k11 a0 a1 a2 a3 w = some q → EV X mX10_settle 74 [(0, .ref a0), (1, .int a1), (2, .int a2), (3, .int a3)] [] w none q := by
  intro a0 a1 a2 a3 w q h
  unfold fX10_settle_74 at h
  refine EV.iinc 3 (a3 + 1) [(3, .int (a3 + 1)), (0, .ref a0), (1, .int a1), (2, .int a2)] dX10_settle_74 rfl rfl (by decide) rfl ?_
  refine EV.goto 11 dX10_settle_77 (by decide) ?_
  refine EV.sub [1, 2, 3, 0] rfl ?_
  exact hk11 _ _ _ _ _ _ h
set_option maxRecDepth 100000 in
set_option maxHeartbeats 4000000 in
theorem eX10_settle_11 {X : px_X}  : ∀ (m : Nat) (a0 : Nat) (a1 : Int32) (a2 : Int32) (a3 : Int32) (w : px_W) (q : px_W), fX10_settle_11 X  m a0 a1 a2 a3 w = some q → EV X mX10_settle 11 [(0, .ref a0), (1, .int a1), (2, .int a2), (3, .int a3)] [] w none q := by
  intro m
  induction m with
  | zero => intro a0 a1 a2 a3 w q h; cases h
  | succ m ih =>
    intro a0 a1 a2 a3 w q h
    rw [fX10_settle_11.eq_2] at h
    refine EV.iload_n 3 dX10_settle_11 rfl rfl ?_
    refine EV.bipush (16) dX10_settle_12 (by decide) ?_
    refine EV.icmp_gt 80 dX10_settle_14 (by decide) (fun c14 => ?_) (fun c14 => ?_)
    · rw [if_pos c14] at h
      cases h
      exact EV.ret0 dX10_settle_80 trivial
    · rw [if_neg c14] at h
      refine EV.iload_n 1 dX10_settle_17 rfl rfl ?_
      refine EV.iconst (2) dX10_settle_18 (by decide) ?_
      refine EV.imul dX10_settle_19 ?_
      refine EV.istore_n [(1, .int (a1 * 2)), (0, .ref a0), (2, .int a2), (3, .int a3)] dX10_settle_20 rfl (by decide) rfl ?_
      refine EV.aload_n 1 dX10_settle_21 rfl rfl ?_
      obtain ⟨v15, gv15, h⟩ := px_bs h
      refine ev_gR dX10_settle_22 flRX10_15 gv15 ?_
      refine EV.iload_n 3 dX10_settle_25 rfl rfl ?_
      refine EV.iload_n 0 dX10_settle_26 rfl rfl ?_
      obtain ⟨w16, gw16, h⟩ := px_bs h
      refine ev_sI dX10_settle_27 gw16 ?_
      refine EV.aload_n 1 dX10_settle_28 rfl rfl ?_
      obtain ⟨v17, gv17, h⟩ := px_bs h
      refine ev_gR dX10_settle_29 flRX10_18 gv17 ?_
      refine EV.iload_n 3 dX10_settle_32 rfl rfl ?_
      refine EV.iload_n 2 dX10_settle_33 rfl rfl ?_
      obtain ⟨w18, gw18, h⟩ := px_bs h
      refine ev_sI dX10_settle_34 gw18 ?_
      refine EV.iload_n 0 dX10_settle_35 rfl rfl ?_
      refine EV.aload_n 1 dX10_settle_36 rfl rfl ?_
      obtain ⟨v19, gv19, h⟩ := px_bs h
      refine ev_gR dX10_settle_37 flRX10_9 gv19 ?_
      refine EV.iload_n 3 dX10_settle_40 rfl rfl ?_
      obtain ⟨v20, gv20, h⟩ := px_bs h
      refine ev_aI dX10_settle_41 gv20 ?_
      refine EV.iadd dX10_settle_42 ?_
      refine EV.istore_n [(1, .int ((a1 * 2) + v20)), (0, .ref a0), (2, .int a2), (3, .int a3)] dX10_settle_43 rfl (by decide) rfl ?_
      refine EV.iload_n 2 dX10_settle_44 rfl rfl ?_
      refine EV.aload_n 1 dX10_settle_45 rfl rfl ?_
      obtain ⟨v21, gv21, h⟩ := px_bs h
      refine ev_gR dX10_settle_46 flRX10_9 gv21 ?_
      refine EV.iload_n 3 dX10_settle_49 rfl rfl ?_
      obtain ⟨v22, gv22, h⟩ := px_bs h
      refine ev_aI dX10_settle_50 gv22 ?_
      refine EV.iadd dX10_settle_51 ?_
      refine EV.istore_n [(2, .int (a2 + v22)), (1, .int ((a1 * 2) + v20)), (0, .ref a0), (3, .int a3)] dX10_settle_52 rfl (by decide) rfl ?_
      refine EV.aload_n 2 dX10_settle_53 rfl rfl ?_
      obtain ⟨v23, gv23, h⟩ := px_bs h
      refine ev_gR dX10_settle_54 flRX10_9 gv23 ?_
      refine EV.iload_n 3 dX10_settle_57 rfl rfl ?_
      obtain ⟨v24, gv24, h⟩ := px_bs h
      refine ev_aI dX10_settle_58 gv24 ?_
      refine EV.if_le 74 dX10_settle_59 (by decide) (fun c25 => ?_) (fun c25 => ?_)
      · rw [if_pos c25] at h
        refine EV.sub [2, 1, 0, 3] rfl ?_
        exact eX10_settle_74 ih _ _ _ _ _ _ h
      · rw [if_neg c25] at h
        refine EV.aload_n 2 dX10_settle_62 rfl rfl ?_
        refine EV.iload_n 3 dX10_settle_63 rfl rfl ?_
        obtain ⟨w26, gw26, h⟩ := px_bs h
        refine ev_pV dX10_settle_64 flRX10_24 rfl rfl rfl rfl gw26 ?_
        refine EV.aload_n 2 dX10_settle_67 rfl rfl ?_
        refine EV.iload_n 1 dX10_settle_68 rfl rfl ?_
        refine EV.iconst (1) dX10_settle_69 (by decide) ?_
        refine EV.isub dX10_settle_70 ?_
        obtain ⟨w27, gw27, h⟩ := px_bs h
        refine ev_pV dX10_settle_71 flRX10_28 rfl rfl rfl rfl gw27 ?_
        refine EV.sub [2, 1, 0, 3] rfl ?_
        exact eX10_settle_74 ih _ _ _ _ _ _ h
set_option maxRecDepth 100000 in
set_option maxHeartbeats 4000000 in
theorem eX10_settle {X : px_X} {w : px_W} {a0 : Nat} {q : px_W} (h : fX10_settle X w a0 = some q) : EV X mX10_settle 0 (lv_args 0 [.ref a0]) [] w none q := by
  unfold fX10_settle at h
  show EV X mX10_settle 0 [(0, .ref a0)] [] w none q
  refine EV.iconst (0) dX10_settle_0 (by decide) ?_
  refine EV.istore_n [(1, .int 0), (0, .ref a0)] dX10_settle_1 rfl (by decide) rfl ?_
  refine EV.iconst (0) dX10_settle_2 (by decide) ?_
  refine EV.istore_n [(2, .int 0), (1, .int 0), (0, .ref a0)] dX10_settle_3 rfl (by decide) rfl ?_
  refine EV.aload_n 2 dX10_settle_4 rfl rfl ?_
  refine EV.iconst (0) dX10_settle_5 (by decide) ?_
  obtain ⟨w28, gw28, h⟩ := px_bs h
  refine ev_pV dX10_settle_6 flRX10_24 rfl rfl rfl rfl gw28 ?_
  refine EV.iconst (1) dX10_settle_9 (by decide) ?_
  refine EV.istore_n [(3, .int 1), (2, .int 0), (1, .int 0), (0, .ref a0)] dX10_settle_10 rfl (by decide) rfl ?_
  refine EV.sub [3, 2, 1, 0] rfl ?_
  exact eX10_settle_11  FU _ _ _ _ _ _ h
/-! WavePictures$SegmentReader.readCounts(LWavePictures$Words;)Z -/
theorem dX8_readCounts_0 : decode cX8_readCounts 0 = .ok (.iconst 0, 1) := by decide +kernel
theorem dX8_readCounts_1 : decode cX8_readCounts 1 = .ok (.istore_n 2, 1) := by decide +kernel
theorem dX8_readCounts_2 : decode cX8_readCounts 2 = .ok (.iconst 0, 1) := by decide +kernel
theorem dX8_readCounts_3 : decode cX8_readCounts 3 = .ok (.istore_n 3, 1) := by decide +kernel
theorem dX8_readCounts_4 : decode cX8_readCounts 4 = .ok (.iconst 1, 1) := by decide +kernel
theorem dX8_readCounts_5 : decode cX8_readCounts 5 = .ok (.istore 4, 2) := by decide +kernel
theorem dX8_readCounts_7 : decode cX8_readCounts 7 = .ok (.iload 4, 2) := by decide +kernel
theorem dX8_readCounts_9 : decode cX8_readCounts 9 = .ok (.bipush 16, 2) := by decide +kernel
theorem dX8_readCounts_11 : decode cX8_readCounts 11 = .ok (.if_icmp .gt 64, 3) := by decide +kernel
theorem dX8_readCounts_14 : decode cX8_readCounts 14 = .ok (.aload_n 0, 1) := by decide +kernel
theorem dX8_readCounts_15 : decode cX8_readCounts 15 = .ok (.invokevirtual 150, 3) := by decide +kernel
theorem dX8_readCounts_18 : decode cX8_readCounts 18 = .ok (.istore 5, 2) := by decide +kernel
theorem dX8_readCounts_20 : decode cX8_readCounts 20 = .ok (.iload 5, 2) := by decide +kernel
theorem dX8_readCounts_22 : decode cX8_readCounts 22 = .ok (.iconst (-1), 1) := by decide +kernel
theorem dX8_readCounts_23 : decode cX8_readCounts 23 = .ok (.if_icmp .ne 5, 3) := by decide +kernel
theorem dX8_readCounts_26 : decode cX8_readCounts 26 = .ok (.iconst 0, 1) := by decide +kernel
theorem dX8_readCounts_27 : decode cX8_readCounts 27 = .ok (.ireturn, 1) := by decide +kernel
theorem dX8_readCounts_28 : decode cX8_readCounts 28 = .ok (.iload_n 2, 1) := by decide +kernel
theorem dX8_readCounts_29 : decode cX8_readCounts 29 = .ok (.iload 5, 2) := by decide +kernel
theorem dX8_readCounts_31 : decode cX8_readCounts 31 = .ok (.iadd, 1) := by decide +kernel
theorem dX8_readCounts_32 : decode cX8_readCounts 32 = .ok (.istore_n 2, 1) := by decide +kernel
theorem dX8_readCounts_33 : decode cX8_readCounts 33 = .ok (.iconst 2, 1) := by decide +kernel
theorem dX8_readCounts_34 : decode cX8_readCounts 34 = .ok (.iload_n 3, 1) := by decide +kernel
theorem dX8_readCounts_35 : decode cX8_readCounts 35 = .ok (.imul, 1) := by decide +kernel
theorem dX8_readCounts_36 : decode cX8_readCounts 36 = .ok (.iload 5, 2) := by decide +kernel
theorem dX8_readCounts_38 : decode cX8_readCounts 38 = .ok (.iadd, 1) := by decide +kernel
theorem dX8_readCounts_39 : decode cX8_readCounts 39 = .ok (.istore_n 3, 1) := by decide +kernel
theorem dX8_readCounts_40 : decode cX8_readCounts 40 = .ok (.iload_n 2, 1) := by decide +kernel
theorem dX8_readCounts_41 : decode cX8_readCounts 41 = .ok (.sipush 256, 3) := by decide +kernel
theorem dX8_readCounts_44 : decode cX8_readCounts 44 = .ok (.if_icmp .gt 11, 3) := by decide +kernel
theorem dX8_readCounts_47 : decode cX8_readCounts 47 = .ok (.iload_n 3, 1) := by decide +kernel
theorem dX8_readCounts_48 : decode cX8_readCounts 48 = .ok (.iconst 1, 1) := by decide +kernel
theorem dX8_readCounts_49 : decode cX8_readCounts 49 = .ok (.iload 4, 2) := by decide +kernel
theorem dX8_readCounts_51 : decode cX8_readCounts 51 = .ok (.ishl, 1) := by decide +kernel
theorem dX8_readCounts_52 : decode cX8_readCounts 52 = .ok (.if_icmp .lt 8, 3) := by decide +kernel
theorem dX8_readCounts_55 : decode cX8_readCounts 55 = .ok (.aload_n 0, 1) := by decide +kernel
theorem dX8_readCounts_56 : decode cX8_readCounts 56 = .ok (.invokevirtual 159, 3) := by decide +kernel
theorem dX8_readCounts_59 : decode cX8_readCounts 59 = .ok (.ireturn, 1) := by decide +kernel
theorem dX8_readCounts_60 : decode cX8_readCounts 60 = .ok (.aload_n 1, 1) := by decide +kernel
theorem dX8_readCounts_61 : decode cX8_readCounts 61 = .ok (.getfield 170, 3) := by decide +kernel
theorem dX8_readCounts_64 : decode cX8_readCounts 64 = .ok (.iload 4, 2) := by decide +kernel
theorem dX8_readCounts_66 : decode cX8_readCounts 66 = .ok (.iload 5, 2) := by decide +kernel
theorem dX8_readCounts_68 : decode cX8_readCounts 68 = .ok (.iastore, 1) := by decide +kernel
theorem dX8_readCounts_69 : decode cX8_readCounts 69 = .ok (.iinc 4 1, 3) := by decide +kernel
theorem dX8_readCounts_72 : decode cX8_readCounts 72 = .ok (.goto (-65), 3) := by decide +kernel
theorem dX8_readCounts_75 : decode cX8_readCounts 75 = .ok (.iload_n 2, 1) := by decide +kernel
theorem dX8_readCounts_76 : decode cX8_readCounts 76 = .ok (.ifCond .ne 8, 3) := by decide +kernel
theorem dX8_readCounts_79 : decode cX8_readCounts 79 = .ok (.aload_n 0, 1) := by decide +kernel
theorem dX8_readCounts_80 : decode cX8_readCounts 80 = .ok (.invokevirtual 159, 3) := by decide +kernel
theorem dX8_readCounts_83 : decode cX8_readCounts 83 = .ok (.ireturn, 1) := by decide +kernel
theorem dX8_readCounts_84 : decode cX8_readCounts 84 = .ok (.aload_n 1, 1) := by decide +kernel
theorem dX8_readCounts_85 : decode cX8_readCounts 85 = .ok (.invokevirtual 173, 3) := by decide +kernel
theorem dX8_readCounts_88 : decode cX8_readCounts 88 = .ok (.iconst 1, 1) := by decide +kernel
theorem dX8_readCounts_89 : decode cX8_readCounts 89 = .ok (.ireturn, 1) := by decide +kernel
theorem flRX8_170 : px_f RX8 170 10 0 := ⟨_, rfl, by decide, Or.inl (tb2 (List.mem_of_getElem? (i := 36) rfl))⟩
theorem kcX8_readCounts_150 : px_cV mX8_readCounts 150 mX8_contentByte 0 := ⟨⟨mbX8_contentByte, by decide, by decide⟩, Or.inl (tb3 (List.mem_of_getElem? (i := 180) rfl)), vbX8_contentByte⟩
theorem mbX8_refuse : px_mB mX8_refuse 0 := ⟨tb3 (List.mem_of_getElem? (i := 191) rfl), by decide +kernel, tb1 (List.mem_of_getElem? (i := 6) rfl), by decide +kernel, by decide +kernel⟩
theorem vbX8_refuse : px_vB mX8_refuse := ⟨tb3 (List.mem_of_getElem? (i := 190) rfl), List.mem_append_left _ (List.mem_of_getElem? (i := 10) (by decide +kernel))⟩
theorem kcX8_readCounts_159 : px_cV mX8_readCounts 159 mX8_refuse 0 := ⟨⟨mbX8_refuse, by decide, by decide⟩, Or.inl (tb3 (List.mem_of_getElem? (i := 188) rfl)), vbX8_refuse⟩
theorem mbX10_settle : px_mB mX10_settle 0 := ⟨tb3 (List.mem_of_getElem? (i := 199) rfl), by decide +kernel, tb1 (List.mem_of_getElem? (i := 8) rfl), by decide +kernel, by decide +kernel⟩
theorem vbX10_settle : px_vB mX10_settle := ⟨tb3 (List.mem_of_getElem? (i := 197) rfl), tb3 (List.mem_of_getElem? (i := 198) rfl)⟩
theorem kcX8_readCounts_173 : px_cV mX8_readCounts 173 mX10_settle 0 := ⟨⟨mbX10_settle, by decide, by decide⟩, Or.inl (tb3 (List.mem_of_getElem? (i := 196) rfl)), vbX10_settle⟩
set_option maxRecDepth 100000 in
set_option maxHeartbeats 4000000 in
theorem eX8_readCounts_75 {X : px_X}  : ∀ (a0 : Nat) (a1 : Nat) (a2 : Int32) (w : px_W) (q : Int32 × px_W), fX8_readCounts_75 X  a0 a1 a2 w = some q → EV X mX8_readCounts 75 [(0, .ref a0), (1, .ref a1), (2, .int a2)] [] w (some (.int q.1)) q.2 := by
  intro a0 a1 a2 w q h
  unfold fX8_readCounts_75 at h
  refine EV.iload_n 2 dX8_readCounts_75 rfl rfl ?_
  refine EV.if_ne 84 dX8_readCounts_76 (by decide) (fun c11 => ?_) (fun c11 => ?_)
  · rw [if_neg c11] at h
    refine EV.aload_n 1 dX8_readCounts_84 rfl rfl ?_
    obtain ⟨o12, go12, h⟩ := px_bs h
    obtain ⟨q13, gq13, h⟩ := px_bs h
    refine EV.callV (As := []) (rest := []) dX8_readCounts_85 kcX8_readCounts_173 (gO_ok go12) rfl rfl rfl (Nat.le_of_ble_eq_true rfl) (Nat.le_of_ble_eq_true rfl) (eX10_settle gq13) ?_
    refine EV.iconst (1) dX8_readCounts_88 (by decide) ?_
    cases h
    exact EV.reti dX8_readCounts_89 rfl
  · rw [if_pos c11] at h
    refine EV.aload_n 0 dX8_readCounts_79 rfl rfl ?_
    obtain ⟨o14, go14, h⟩ := px_bs h
    obtain ⟨q15, gq15, h⟩ := px_bs h
    refine EV.callV (As := []) (rest := []) dX8_readCounts_80 kcX8_readCounts_159 (gO_ok go14) rfl rfl rfl (Nat.le_of_ble_eq_true rfl) (Nat.le_of_ble_eq_true rfl) (eX8_refuse gq15) ?_
    exact ev_retZ dX8_readCounts_83 rfl h
set_option maxRecDepth 100000 in
set_option maxHeartbeats 4000000 in
theorem eX8_readCounts_55 {X : px_X}  : ∀ (a0 : Nat) (w : px_W) (q : Int32 × px_W), fX8_readCounts_55 X  a0 w = some q → EV X mX8_readCounts 55 [(0, .ref a0)] [] w (some (.int q.1)) q.2 := by
  intro a0 w q h
  unfold fX8_readCounts_55 at h
  refine EV.aload_n 0 dX8_readCounts_55 rfl rfl ?_
  obtain ⟨o16, go16, h⟩ := px_bs h
  obtain ⟨q17, gq17, h⟩ := px_bs h
  refine EV.callV (As := []) (rest := []) dX8_readCounts_56 kcX8_readCounts_159 (gO_ok go16) rfl rfl rfl (Nat.le_of_ble_eq_true rfl) (Nat.le_of_ble_eq_true rfl) (eX8_refuse gq17) ?_
  exact ev_retZ dX8_readCounts_59 rfl h
set_option maxRecDepth 100000 in
set_option maxHeartbeats 4000000 in
theorem eX8_readCounts_7 {X : px_X}  : ∀ (m : Nat) (a0 : Nat) (a1 : Nat) (a2 : Int32) (a3 : Int32) (a4 : Int32) (w : px_W) (q : Int32 × px_W), fX8_readCounts_7 X  m a0 a1 a2 a3 a4 w = some q → EV X mX8_readCounts 7 [(0, .ref a0), (1, .ref a1), (2, .int a2), (3, .int a3), (4, .int a4)] [] w (some (.int q.1)) q.2 := by
  intro m
  induction m with
  | zero => intro a0 a1 a2 a3 a4 w q h; cases h
  | succ m ih =>
    intro a0 a1 a2 a3 a4 w q h
    rw [fX8_readCounts_7.eq_2] at h
    refine EV.iload 4 dX8_readCounts_7 rfl ?_
    refine EV.bipush (16) dX8_readCounts_9 (by decide) ?_
    refine EV.icmp_gt 75 dX8_readCounts_11 (by decide) (fun c18 => ?_) (fun c18 => ?_)
    · rw [if_pos c18] at h
      refine EV.sub [0, 1, 2] rfl ?_
      exact eX8_readCounts_75  _ _ _ _ _ h
    · rw [if_neg c18] at h
      refine EV.aload_n 0 dX8_readCounts_14 rfl rfl ?_
      obtain ⟨o19, go19, h⟩ := px_bs h
      obtain ⟨q20, gq20, h⟩ := px_bs h
      refine EV.callV (As := []) (rest := []) dX8_readCounts_15 kcX8_readCounts_150 (gO_ok go19) rfl rfl rfl (Nat.le_of_ble_eq_true rfl) (Nat.le_of_ble_eq_true rfl) (eX8_contentByte gq20) ?_
      refine EV.istore [(5, .int q20.1), (0, .ref a0), (1, .ref a1), (2, .int a2), (3, .int a3), (4, .int a4)] dX8_readCounts_18 (by decide) rfl ?_
      refine EV.iload 0 dX8_readCounts_20 rfl ?_
      refine EV.iconst ((-1)) dX8_readCounts_22 (by decide) ?_
      refine EV.icmp_ne 28 dX8_readCounts_23 (by decide) (fun c21 => ?_) (fun c21 => ?_)
      · rw [if_neg c21] at h
        refine EV.iload_n 3 dX8_readCounts_28 rfl rfl ?_
        refine EV.iload 0 dX8_readCounts_29 rfl ?_
        refine EV.iadd dX8_readCounts_31 ?_
        refine EV.istore_n [(2, .int (a2 + q20.1)), (5, .int q20.1), (0, .ref a0), (1, .ref a1), (3, .int a3), (4, .int a4)] dX8_readCounts_32 rfl (by decide) rfl ?_
        refine EV.iconst (2) dX8_readCounts_33 (by decide) ?_
        refine EV.iload_n 4 dX8_readCounts_34 rfl rfl ?_
        refine EV.imul dX8_readCounts_35 ?_
        refine EV.iload 1 dX8_readCounts_36 rfl ?_
        refine EV.iadd dX8_readCounts_38 ?_
        refine EV.istore_n [(3, .int ((2 * a3) + q20.1)), (2, .int (a2 + q20.1)), (5, .int q20.1), (0, .ref a0), (1, .ref a1), (4, .int a4)] dX8_readCounts_39 rfl (by decide) rfl ?_
        refine EV.iload_n 1 dX8_readCounts_40 rfl rfl ?_
        refine EV.sipush (256) dX8_readCounts_41 (by decide) ?_
        refine EV.icmp_gt 55 dX8_readCounts_44 (by decide) (fun c22 => ?_) (fun c22 => ?_)
        · rw [if_pos c22] at h
          refine EV.sub [3] rfl ?_
          exact eX8_readCounts_55  _ _ _ h
        · rw [if_neg c22] at h
          refine EV.iload_n 0 dX8_readCounts_47 rfl rfl ?_
          refine EV.iconst (1) dX8_readCounts_48 (by decide) ?_
          refine EV.iload 5 dX8_readCounts_49 rfl ?_
          refine EV.ishl dX8_readCounts_51 ?_
          refine EV.icmp_lt 60 dX8_readCounts_52 (by decide) (fun c23 => ?_) (fun c23 => ?_)
          · rw [if_pos c23] at h
            refine EV.aload_n 4 dX8_readCounts_60 rfl rfl ?_
            obtain ⟨v24, gv24, h⟩ := px_bs h
            refine ev_gR dX8_readCounts_61 flRX8_170 gv24 ?_
            refine EV.iload 5 dX8_readCounts_64 rfl ?_
            refine EV.iload 2 dX8_readCounts_66 rfl ?_
            obtain ⟨w25, gw25, h⟩ := px_bs h
            refine ev_sI dX8_readCounts_68 gw25 ?_
            refine EV.iinc 5 (a4 + 1) [(4, .int (a4 + 1)), (3, .int ((2 * a3) + q20.1)), (2, .int (a2 + q20.1)), (5, .int q20.1), (0, .ref a0), (1, .ref a1)] dX8_readCounts_69 rfl rfl (by decide) rfl ?_
            refine EV.goto 7 dX8_readCounts_72 (by decide) ?_
            refine EV.sub [4, 5, 2, 1, 0] rfl ?_
            exact ih _ _ _ _ _ _ _ h
          · rw [if_neg c23] at h
            refine EV.sub [3] rfl ?_
            exact eX8_readCounts_55  _ _ _ h
      · rw [if_pos c21] at h
        refine EV.iconst (0) dX8_readCounts_26 (by decide) ?_
        cases h
        exact EV.reti dX8_readCounts_27 rfl
set_option maxRecDepth 100000 in
set_option maxHeartbeats 4000000 in
theorem eX8_readCounts {X : px_X} {w : px_W} {a0 : Nat} {a1 : Nat} {q : Int32 × px_W} (h : fX8_readCounts X w a0 a1 = some q) : EV X mX8_readCounts 0 (lv_args 0 [.ref a0, .ref a1]) [] w (some (.int q.1)) q.2 := by
  unfold fX8_readCounts at h
  show EV X mX8_readCounts 0 [(0, .ref a0), (1, .ref a1)] [] w (some (.int q.1)) q.2
  refine EV.iconst (0) dX8_readCounts_0 (by decide) ?_
  refine EV.istore_n [(2, .int 0), (0, .ref a0), (1, .ref a1)] dX8_readCounts_1 rfl (by decide) rfl ?_
  refine EV.iconst (0) dX8_readCounts_2 (by decide) ?_
  refine EV.istore_n [(3, .int 0), (2, .int 0), (0, .ref a0), (1, .ref a1)] dX8_readCounts_3 rfl (by decide) rfl ?_
  refine EV.iconst (1) dX8_readCounts_4 (by decide) ?_
  refine EV.istore [(4, .int 1), (3, .int 0), (2, .int 0), (0, .ref a0), (1, .ref a1)] dX8_readCounts_5 (by decide) rfl ?_
  refine EV.sub [3, 4, 2, 1, 0] rfl ?_
  exact eX8_readCounts_7  FU _ _ _ _ _ _ _ h
/-! WavePictures$SegmentReader.readSymbols(LWavePictures$Words;I)Z -/
theorem dX8_readSymbols_0 : decode cX8_readSymbols 0 = .ok (.aload_n 1, 1) := by decide +kernel
theorem dX8_readSymbols_1 : decode cX8_readSymbols 1 = .ok (.getfield 176, 3) := by decide +kernel
theorem dX8_readSymbols_4 : decode cX8_readSymbols 4 = .ok (.bipush 16, 2) := by decide +kernel
theorem dX8_readSymbols_6 : decode cX8_readSymbols 6 = .ok (.iaload, 1) := by decide +kernel
theorem dX8_readSymbols_7 : decode cX8_readSymbols 7 = .ok (.aload_n 1, 1) := by decide +kernel
theorem dX8_readSymbols_8 : decode cX8_readSymbols 8 = .ok (.getfield 170, 3) := by decide +kernel
theorem dX8_readSymbols_11 : decode cX8_readSymbols 11 = .ok (.bipush 16, 2) := by decide +kernel
theorem dX8_readSymbols_13 : decode cX8_readSymbols 13 = .ok (.iaload, 1) := by decide +kernel
theorem dX8_readSymbols_14 : decode cX8_readSymbols 14 = .ok (.iadd, 1) := by decide +kernel
theorem dX8_readSymbols_15 : decode cX8_readSymbols 15 = .ok (.istore_n 3, 1) := by decide +kernel
theorem dX8_readSymbols_16 : decode cX8_readSymbols 16 = .ok (.aload_n 0, 1) := by decide +kernel
theorem dX8_readSymbols_17 : decode cX8_readSymbols 17 = .ok (.getfield 37, 3) := by decide +kernel
theorem dX8_readSymbols_20 : decode cX8_readSymbols 20 = .ok (.iconst 0, 1) := by decide +kernel
theorem dX8_readSymbols_21 : decode cX8_readSymbols 21 = .ok (.invokestatic 83, 3) := by decide +kernel
theorem dX8_readSymbols_24 : decode cX8_readSymbols 24 = .ok (.iconst 0, 1) := by decide +kernel
theorem dX8_readSymbols_25 : decode cX8_readSymbols 25 = .ok (.istore 4, 2) := by decide +kernel
theorem dX8_readSymbols_27 : decode cX8_readSymbols 27 = .ok (.iload 4, 2) := by decide +kernel
theorem dX8_readSymbols_29 : decode cX8_readSymbols 29 = .ok (.iload_n 3, 1) := by decide +kernel
theorem dX8_readSymbols_30 : decode cX8_readSymbols 30 = .ok (.if_icmp .ge 57, 3) := by decide +kernel
theorem dX8_readSymbols_33 : decode cX8_readSymbols 33 = .ok (.aload_n 0, 1) := by decide +kernel
theorem dX8_readSymbols_34 : decode cX8_readSymbols 34 = .ok (.iconst 0, 1) := by decide +kernel
theorem dX8_readSymbols_35 : decode cX8_readSymbols 35 = .ok (.iload_n 2, 1) := by decide +kernel
theorem dX8_readSymbols_36 : decode cX8_readSymbols 36 = .ok (.invokevirtual 156, 3) := by decide +kernel
theorem dX8_readSymbols_39 : decode cX8_readSymbols 39 = .ok (.istore 5, 2) := by decide +kernel
theorem dX8_readSymbols_41 : decode cX8_readSymbols 41 = .ok (.iload 5, 2) := by decide +kernel
theorem dX8_readSymbols_43 : decode cX8_readSymbols 43 = .ok (.iconst (-1), 1) := by decide +kernel
theorem dX8_readSymbols_44 : decode cX8_readSymbols 44 = .ok (.if_icmp .ne 5, 3) := by decide +kernel
theorem dX8_readSymbols_47 : decode cX8_readSymbols 47 = .ok (.iconst 0, 1) := by decide +kernel
theorem dX8_readSymbols_48 : decode cX8_readSymbols 48 = .ok (.ireturn, 1) := by decide +kernel
theorem dX8_readSymbols_49 : decode cX8_readSymbols 49 = .ok (.aload_n 0, 1) := by decide +kernel
theorem dX8_readSymbols_50 : decode cX8_readSymbols 50 = .ok (.getfield 37, 3) := by decide +kernel
theorem dX8_readSymbols_53 : decode cX8_readSymbols 53 = .ok (.iload 5, 2) := by decide +kernel
theorem dX8_readSymbols_55 : decode cX8_readSymbols 55 = .ok (.iaload, 1) := by decide +kernel
theorem dX8_readSymbols_56 : decode cX8_readSymbols 56 = .ok (.ifCond .eq 8, 3) := by decide +kernel
theorem dX8_readSymbols_59 : decode cX8_readSymbols 59 = .ok (.aload_n 0, 1) := by decide +kernel
theorem dX8_readSymbols_60 : decode cX8_readSymbols 60 = .ok (.invokevirtual 159, 3) := by decide +kernel
theorem dX8_readSymbols_63 : decode cX8_readSymbols 63 = .ok (.ireturn, 1) := by decide +kernel
theorem dX8_readSymbols_64 : decode cX8_readSymbols 64 = .ok (.aload_n 0, 1) := by decide +kernel
theorem dX8_readSymbols_65 : decode cX8_readSymbols 65 = .ok (.getfield 37, 3) := by decide +kernel
theorem dX8_readSymbols_68 : decode cX8_readSymbols 68 = .ok (.iload 5, 2) := by decide +kernel
theorem dX8_readSymbols_70 : decode cX8_readSymbols 70 = .ok (.iconst 1, 1) := by decide +kernel
theorem dX8_readSymbols_71 : decode cX8_readSymbols 71 = .ok (.iastore, 1) := by decide +kernel
theorem dX8_readSymbols_72 : decode cX8_readSymbols 72 = .ok (.aload_n 1, 1) := by decide +kernel
theorem dX8_readSymbols_73 : decode cX8_readSymbols 73 = .ok (.getfield 179, 3) := by decide +kernel
theorem dX8_readSymbols_76 : decode cX8_readSymbols 76 = .ok (.iload 4, 2) := by decide +kernel
theorem dX8_readSymbols_78 : decode cX8_readSymbols 78 = .ok (.iload 5, 2) := by decide +kernel
theorem dX8_readSymbols_80 : decode cX8_readSymbols 80 = .ok (.iastore, 1) := by decide +kernel
theorem dX8_readSymbols_81 : decode cX8_readSymbols 81 = .ok (.iinc 4 1, 3) := by decide +kernel
theorem dX8_readSymbols_84 : decode cX8_readSymbols 84 = .ok (.goto (-57), 3) := by decide +kernel
theorem dX8_readSymbols_87 : decode cX8_readSymbols 87 = .ok (.iconst 1, 1) := by decide +kernel
theorem dX8_readSymbols_88 : decode cX8_readSymbols 88 = .ok (.ireturn, 1) := by decide +kernel
theorem flRX8_37 : px_f RX8 37 8 19 := ⟨_, rfl, by decide, Or.inl (tb2 (List.mem_of_getElem? (i := 83) rfl))⟩
theorem flRX8_176 : px_f RX8 176 10 2 := ⟨_, rfl, by decide, Or.inl (tb2 (List.mem_of_getElem? (i := 39) rfl))⟩
theorem flRX8_179 : px_f RX8 179 10 3 := ⟨_, rfl, by decide, Or.inl (tb2 (List.mem_of_getElem? (i := 41) rfl))⟩
theorem kcX8_readSymbols_83 : px_cS mX8_readSymbols 83 mJ7_fill_53178 2 := ⟨⟨mbJ7_fill_53178, by decide, by decide⟩, Or.inl (tb3 (List.mem_of_getElem? (i := 140) rfl)), tb3 (List.mem_of_getElem? (i := 141) rfl)⟩
theorem kcX8_readSymbols_156 : px_cV mX8_readSymbols 156 mX8_byteIn 2 := ⟨⟨mbX8_byteIn, by decide, by decide⟩, Or.inl (tb3 (List.mem_of_getElem? (i := 176) rfl)), vbX8_byteIn⟩
theorem kcX8_readSymbols_159 : px_cV mX8_readSymbols 159 mX8_refuse 0 := ⟨⟨mbX8_refuse, by decide, by decide⟩, Or.inl (tb3 (List.mem_of_getElem? (i := 188) rfl)), vbX8_refuse⟩
set_option maxRecDepth 100000 in
set_option maxHeartbeats 4000000 in
theorem eX8_readSymbols_59 {X : px_X}  : ∀ (a0 : Nat) (w : px_W) (q : Int32 × px_W), fX8_readSymbols_59 X  a0 w = some q → EV X mX8_readSymbols 59 [(0, .ref a0)] [] w (some (.int q.1)) q.2 := by
  intro a0 w q h
  unfold fX8_readSymbols_59 at h
  refine EV.aload_n 0 dX8_readSymbols_59 rfl rfl ?_
  obtain ⟨o17, go17, h⟩ := px_bs h
  obtain ⟨q18, gq18, h⟩ := px_bs h
  refine EV.callV (As := []) (rest := []) dX8_readSymbols_60 kcX8_readSymbols_159 (gO_ok go17) rfl rfl rfl (Nat.le_of_ble_eq_true rfl) (Nat.le_of_ble_eq_true rfl) (eX8_refuse gq18) ?_
  exact ev_retZ dX8_readSymbols_63 rfl h
set_option maxRecDepth 100000 in
set_option maxHeartbeats 4000000 in
theorem eX8_readSymbols_27 {X : px_X}  : ∀ (m : Nat) (a0 : Nat) (a1 : Nat) (a2 : Int32) (a3 : Int32) (a4 : Int32) (w : px_W) (q : Int32 × px_W), fX8_readSymbols_27 X  m a0 a1 a2 a3 a4 w = some q → EV X mX8_readSymbols 27 [(0, .ref a0), (1, .ref a1), (2, .int a2), (3, .int a3), (4, .int a4)] [] w (some (.int q.1)) q.2 := by
  intro m
  induction m with
  | zero => intro a0 a1 a2 a3 a4 w q h; cases h
  | succ m ih =>
    intro a0 a1 a2 a3 a4 w q h
    rw [fX8_readSymbols_27.eq_2] at h
    refine EV.iload 4 dX8_readSymbols_27 rfl ?_
    refine EV.iload_n 3 dX8_readSymbols_29 rfl rfl ?_
    refine EV.icmp_ge 87 dX8_readSymbols_30 (by decide) (fun c19 => ?_) (fun c19 => ?_)
    · rw [if_pos c19] at h
      refine EV.iconst (1) dX8_readSymbols_87 (by decide) ?_
      cases h
      exact EV.reti dX8_readSymbols_88 rfl
    · rw [if_neg c19] at h
      refine EV.aload_n 0 dX8_readSymbols_33 rfl rfl ?_
      refine EV.iconst (0) dX8_readSymbols_34 (by decide) ?_
      refine EV.iload_n 2 dX8_readSymbols_35 rfl rfl ?_
      obtain ⟨o20, go20, h⟩ := px_bs h
      obtain ⟨q21, gq21, h⟩ := px_bs h
      refine EV.callV (As := [.int 0, .int a2]) (rest := []) dX8_readSymbols_36 kcX8_readSymbols_156 (gO_ok go20) rfl rfl rfl (Nat.le_of_ble_eq_true rfl) (Nat.le_of_ble_eq_true rfl) (eX8_byteIn gq21) ?_
      refine EV.istore [(5, .int q21.1), (0, .ref a0), (1, .ref a1), (2, .int a2), (3, .int a3), (4, .int a4)] dX8_readSymbols_39 (by decide) rfl ?_
      refine EV.iload 0 dX8_readSymbols_41 rfl ?_
      refine EV.iconst ((-1)) dX8_readSymbols_43 (by decide) ?_
      refine EV.icmp_ne 49 dX8_readSymbols_44 (by decide) (fun c22 => ?_) (fun c22 => ?_)
      · rw [if_neg c22] at h
        refine EV.aload_n 1 dX8_readSymbols_49 rfl rfl ?_
        obtain ⟨v23, gv23, h⟩ := px_bs h
        refine ev_gR dX8_readSymbols_50 flRX8_37 gv23 ?_
        refine EV.iload 0 dX8_readSymbols_53 rfl ?_
        obtain ⟨v24, gv24, h⟩ := px_bs h
        refine ev_aI dX8_readSymbols_55 gv24 ?_
        refine EV.if_eq 64 dX8_readSymbols_56 (by decide) (fun c25 => ?_) (fun c25 => ?_)
        · rw [if_pos c25] at h
          refine EV.aload_n 1 dX8_readSymbols_64 rfl rfl ?_
          obtain ⟨v26, gv26, h⟩ := px_bs h
          refine ev_gR dX8_readSymbols_65 flRX8_37 gv26 ?_
          refine EV.iload 0 dX8_readSymbols_68 rfl ?_
          refine EV.iconst (1) dX8_readSymbols_70 (by decide) ?_
          obtain ⟨w27, gw27, h⟩ := px_bs h
          refine ev_sI dX8_readSymbols_71 gw27 ?_
          refine EV.aload_n 2 dX8_readSymbols_72 rfl rfl ?_
          obtain ⟨v28, gv28, h⟩ := px_bs h
          refine ev_gR dX8_readSymbols_73 flRX8_179 gv28 ?_
          refine EV.iload 5 dX8_readSymbols_76 rfl ?_
          refine EV.iload 0 dX8_readSymbols_78 rfl ?_
          obtain ⟨w29, gw29, h⟩ := px_bs h
          refine ev_sI dX8_readSymbols_80 gw29 ?_
          refine EV.iinc 5 (a4 + 1) [(4, .int (a4 + 1)), (5, .int q21.1), (0, .ref a0), (1, .ref a1), (2, .int a2), (3, .int a3)] dX8_readSymbols_81 rfl rfl (by decide) rfl ?_
          refine EV.goto 27 dX8_readSymbols_84 (by decide) ?_
          refine EV.sub [2, 3, 4, 5, 0] rfl ?_
          exact ih _ _ _ _ _ _ _ h
        · rw [if_neg c25] at h
          refine EV.sub [1] rfl ?_
          exact eX8_readSymbols_59  _ _ _ h
      · rw [if_pos c22] at h
        refine EV.iconst (0) dX8_readSymbols_47 (by decide) ?_
        cases h
        exact EV.reti dX8_readSymbols_48 rfl
set_option maxRecDepth 100000 in
set_option maxHeartbeats 4000000 in
theorem eX8_readSymbols {X : px_X} {w : px_W} {a0 : Nat} {a1 : Nat} {a2 : Int32} {q : Int32 × px_W} (h : fX8_readSymbols X w a0 a1 a2 = some q) : EV X mX8_readSymbols 0 (lv_args 0 [.ref a0, .ref a1, .int a2]) [] w (some (.int q.1)) q.2 := by
  unfold fX8_readSymbols at h
  show EV X mX8_readSymbols 0 [(0, .ref a0), (1, .ref a1), (2, .int a2)] [] w (some (.int q.1)) q.2
  refine EV.aload_n 1 dX8_readSymbols_0 rfl rfl ?_
  obtain ⟨v30, gv30, h⟩ := px_bs h
  refine ev_gR dX8_readSymbols_1 flRX8_176 gv30 ?_
  refine EV.bipush (16) dX8_readSymbols_4 (by decide) ?_
  obtain ⟨v31, gv31, h⟩ := px_bs h
  refine ev_aI dX8_readSymbols_6 gv31 ?_
  refine EV.aload_n 1 dX8_readSymbols_7 rfl rfl ?_
  obtain ⟨v32, gv32, h⟩ := px_bs h
  refine ev_gR dX8_readSymbols_8 flRX8_170 gv32 ?_
  refine EV.bipush (16) dX8_readSymbols_11 (by decide) ?_
  obtain ⟨v33, gv33, h⟩ := px_bs h
  refine ev_aI dX8_readSymbols_13 gv33 ?_
  refine EV.iadd dX8_readSymbols_14 ?_
  refine EV.istore_n [(3, .int (v31 + v33)), (0, .ref a0), (1, .ref a1), (2, .int a2)] dX8_readSymbols_15 rfl (by decide) rfl ?_
  refine EV.aload_n 1 dX8_readSymbols_16 rfl rfl ?_
  obtain ⟨v34, gv34, h⟩ := px_bs h
  refine ev_gR dX8_readSymbols_17 flRX8_37 gv34 ?_
  refine EV.iconst (0) dX8_readSymbols_20 (by decide) ?_
  obtain ⟨q35, gq35, h⟩ := px_bs h
  refine EV.callS (As := [.ref v34, .int 0]) (rest := []) dX8_readSymbols_21 kcX8_readSymbols_83 rfl (Nat.le_of_ble_eq_true rfl) (Nat.le_of_ble_eq_true rfl) (eJ7_fill_53178 gq35) ?_
  refine EV.iconst (0) dX8_readSymbols_24 (by decide) ?_
  refine EV.istore [(4, .int 0), (3, .int (v31 + v33)), (0, .ref a0), (1, .ref a1), (2, .int a2)] dX8_readSymbols_25 (by decide) rfl ?_
  refine EV.sub [2, 3, 4, 1, 0] rfl ?_
  exact eX8_readSymbols_27  FU _ _ _ _ _ _ _ h
/-! WavePictures$SegmentReader.readWordTables()Z -/
theorem dX8_readWordTables_0 : decode cX8_readWordTables 0 = .ok (.iconst 1, 1) := by decide +kernel
theorem dX8_readWordTables_1 : decode cX8_readWordTables 1 = .ok (.istore_n 1, 1) := by decide +kernel
theorem dX8_readWordTables_2 : decode cX8_readWordTables 2 = .ok (.iconst 0, 1) := by decide +kernel
theorem dX8_readWordTables_3 : decode cX8_readWordTables 3 = .ok (.istore_n 2, 1) := by decide +kernel
theorem dX8_readWordTables_4 : decode cX8_readWordTables 4 = .ok (.iload_n 1, 1) := by decide +kernel
theorem dX8_readWordTables_5 : decode cX8_readWordTables 5 = .ok (.ifCond .eq 119, 3) := by decide +kernel
theorem dX8_readWordTables_8 : decode cX8_readWordTables 8 = .ok (.iload_n 2, 1) := by decide +kernel
theorem dX8_readWordTables_9 : decode cX8_readWordTables 9 = .ok (.sipush 16384, 3) := by decide +kernel
theorem dX8_readWordTables_12 : decode cX8_readWordTables 12 = .ok (.if_icmp .ge 112, 3) := by decide +kernel
theorem dX8_readWordTables_15 : decode cX8_readWordTables 15 = .ok (.iload_n 2, 1) := by decide +kernel
theorem dX8_readWordTables_16 : decode cX8_readWordTables 16 = .ok (.ifCond .eq 14, 3) := by decide +kernel
theorem dX8_readWordTables_19 : decode cX8_readWordTables 19 = .ok (.aload_n 0, 1) := by decide +kernel
theorem dX8_readWordTables_20 : decode cX8_readWordTables 20 = .ok (.getfield 92, 3) := by decide +kernel
theorem dX8_readWordTables_23 : decode cX8_readWordTables 23 = .ok (.aload_n 0, 1) := by decide +kernel
theorem dX8_readWordTables_24 : decode cX8_readWordTables 24 = .ok (.getfield 126, 3) := by decide +kernel
theorem dX8_readWordTables_27 : decode cX8_readWordTables 27 = .ok (.if_icmp .ge 97, 3) := by decide +kernel
theorem dX8_readWordTables_30 : decode cX8_readWordTables 30 = .ok (.aload_n 0, 1) := by decide +kernel
theorem dX8_readWordTables_31 : decode cX8_readWordTables 31 = .ok (.iconst 0, 1) := by decide +kernel
theorem dX8_readWordTables_32 : decode cX8_readWordTables 32 = .ok (.bipush 19, 2) := by decide +kernel
theorem dX8_readWordTables_34 : decode cX8_readWordTables 34 = .ok (.invokevirtual 156, 3) := by decide +kernel
theorem dX8_readWordTables_37 : decode cX8_readWordTables 37 = .ok (.istore_n 3, 1) := by decide +kernel
theorem dX8_readWordTables_38 : decode cX8_readWordTables 38 = .ok (.iload_n 3, 1) := by decide +kernel
theorem dX8_readWordTables_39 : decode cX8_readWordTables 39 = .ok (.iconst (-1), 1) := by decide +kernel
theorem dX8_readWordTables_40 : decode cX8_readWordTables 40 = .ok (.if_icmp .ne 5, 3) := by decide +kernel
theorem dX8_readWordTables_43 : decode cX8_readWordTables 43 = .ok (.iconst 0, 1) := by decide +kernel
theorem dX8_readWordTables_44 : decode cX8_readWordTables 44 = .ok (.ireturn, 1) := by decide +kernel
theorem dX8_readWordTables_45 : decode cX8_readWordTables 45 = .ok (.iload_n 3, 1) := by decide +kernel
theorem dX8_readWordTables_46 : decode cX8_readWordTables 46 = .ok (.iconst 3, 1) := by decide +kernel
theorem dX8_readWordTables_47 : decode cX8_readWordTables 47 = .ok (.if_icmp .le 14, 3) := by decide +kernel
theorem dX8_readWordTables_50 : decode cX8_readWordTables 50 = .ok (.iload_n 3, 1) := by decide +kernel
theorem dX8_readWordTables_51 : decode cX8_readWordTables 51 = .ok (.bipush 16, 2) := by decide +kernel
theorem dX8_readWordTables_53 : decode cX8_readWordTables 53 = .ok (.if_icmp .ge 8, 3) := by decide +kernel
theorem dX8_readWordTables_56 : decode cX8_readWordTables 56 = .ok (.aload_n 0, 1) := by decide +kernel
theorem dX8_readWordTables_57 : decode cX8_readWordTables 57 = .ok (.invokevirtual 159, 3) := by decide +kernel
theorem dX8_readWordTables_60 : decode cX8_readWordTables 60 = .ok (.ireturn, 1) := by decide +kernel
theorem dX8_readWordTables_61 : decode cX8_readWordTables 61 = .ok (.aload_n 0, 1) := by decide +kernel
theorem dX8_readWordTables_62 : decode cX8_readWordTables 62 = .ok (.getfield 20, 3) := by decide +kernel
theorem dX8_readWordTables_65 : decode cX8_readWordTables 65 = .ok (.iload_n 3, 1) := by decide +kernel
theorem dX8_readWordTables_66 : decode cX8_readWordTables 66 = .ok (.iconst 4, 1) := by decide +kernel
theorem dX8_readWordTables_67 : decode cX8_readWordTables 67 = .ok (.if_icmp .ge 7, 3) := by decide +kernel
theorem dX8_readWordTables_70 : decode cX8_readWordTables 70 = .ok (.iload_n 3, 1) := by decide +kernel
theorem dX8_readWordTables_71 : decode cX8_readWordTables 71 = .ok (.goto 7, 3) := by decide +kernel
theorem dX8_readWordTables_74 : decode cX8_readWordTables 74 = .ok (.iload_n 3, 1) := by decide +kernel
theorem dX8_readWordTables_75 : decode cX8_readWordTables 75 = .ok (.bipush 12, 2) := by decide +kernel
theorem dX8_readWordTables_77 : decode cX8_readWordTables 77 = .ok (.isub, 1) := by decide +kernel
theorem dX8_readWordTables_78 : decode cX8_readWordTables 78 = .ok (.aaload, 1) := by decide +kernel
theorem dX8_readWordTables_79 : decode cX8_readWordTables 79 = .ok (.astore 4, 2) := by decide +kernel
theorem dX8_readWordTables_81 : decode cX8_readWordTables 81 = .ok (.aload_n 0, 1) := by decide +kernel
theorem dX8_readWordTables_82 : decode cX8_readWordTables 82 = .ok (.aload 4, 2) := by decide +kernel
theorem dX8_readWordTables_84 : decode cX8_readWordTables 84 = .ok (.invokevirtual 162, 3) := by decide +kernel
theorem dX8_readWordTables_87 : decode cX8_readWordTables 87 = .ok (.ifCond .eq 29, 3) := by decide +kernel
theorem dX8_readWordTables_90 : decode cX8_readWordTables 90 = .ok (.aload_n 0, 1) := by decide +kernel
theorem dX8_readWordTables_91 : decode cX8_readWordTables 91 = .ok (.aload 4, 2) := by decide +kernel
theorem dX8_readWordTables_93 : decode cX8_readWordTables 93 = .ok (.iload_n 3, 1) := by decide +kernel
theorem dX8_readWordTables_94 : decode cX8_readWordTables 94 = .ok (.iconst 4, 1) := by decide +kernel
theorem dX8_readWordTables_95 : decode cX8_readWordTables 95 = .ok (.if_icmp .ge 8, 3) := by decide +kernel
theorem dX8_readWordTables_98 : decode cX8_readWordTables 98 = .ok (.bipush 11, 2) := by decide +kernel
theorem dX8_readWordTables_100 : decode cX8_readWordTables 100 = .ok (.goto 6, 3) := by decide +kernel
theorem dX8_readWordTables_103 : decode cX8_readWordTables 103 = .ok (.sipush 255, 3) := by decide +kernel
theorem dX8_readWordTables_106 : decode cX8_readWordTables 106 = .ok (.invokevirtual 166, 3) := by decide +kernel
theorem dX8_readWordTables_109 : decode cX8_readWordTables 109 = .ok (.ifCond .eq 7, 3) := by decide +kernel
theorem dX8_readWordTables_112 : decode cX8_readWordTables 112 = .ok (.iconst 1, 1) := by decide +kernel
theorem dX8_readWordTables_113 : decode cX8_readWordTables 113 = .ok (.goto 4, 3) := by decide +kernel
theorem dX8_readWordTables_116 : decode cX8_readWordTables 116 = .ok (.iconst 0, 1) := by decide +kernel
theorem dX8_readWordTables_117 : decode cX8_readWordTables 117 = .ok (.istore_n 1, 1) := by decide +kernel
theorem dX8_readWordTables_118 : decode cX8_readWordTables 118 = .ok (.iinc 2 1, 3) := by decide +kernel
theorem dX8_readWordTables_121 : decode cX8_readWordTables 121 = .ok (.goto (-117), 3) := by decide +kernel
theorem dX8_readWordTables_124 : decode cX8_readWordTables 124 = .ok (.iload_n 1, 1) := by decide +kernel
theorem dX8_readWordTables_125 : decode cX8_readWordTables 125 = .ok (.ireturn, 1) := by decide +kernel
theorem kcX8_readWordTables_156 : px_cV mX8_readWordTables 156 mX8_byteIn 2 := ⟨⟨mbX8_byteIn, by decide, by decide⟩, Or.inl (tb3 (List.mem_of_getElem? (i := 176) rfl)), vbX8_byteIn⟩
theorem kcX8_readWordTables_159 : px_cV mX8_readWordTables 159 mX8_refuse 0 := ⟨⟨mbX8_refuse, by decide, by decide⟩, Or.inl (tb3 (List.mem_of_getElem? (i := 188) rfl)), vbX8_refuse⟩
theorem mbX8_readCounts : px_mB mX8_readCounts 1 := ⟨tb3 (List.mem_of_getElem? (i := 195) rfl), by decide +kernel, tb1 (List.mem_of_getElem? (i := 6) rfl), by decide +kernel, by decide +kernel⟩
theorem vbX8_readCounts : px_vB mX8_readCounts := ⟨tb3 (List.mem_of_getElem? (i := 194) rfl), List.mem_append_left _ (List.mem_of_getElem? (i := 11) (by decide +kernel))⟩
theorem kcX8_readWordTables_162 : px_cV mX8_readWordTables 162 mX8_readCounts 1 := ⟨⟨mbX8_readCounts, by decide, by decide⟩, Or.inl (tb3 (List.mem_of_getElem? (i := 192) rfl)), vbX8_readCounts⟩
theorem mbX8_readSymbols : px_mB mX8_readSymbols 2 := ⟨tb3 (List.mem_of_getElem? (i := 203) rfl), by decide +kernel, tb1 (List.mem_of_getElem? (i := 6) rfl), by decide +kernel, by decide +kernel⟩
theorem vbX8_readSymbols : px_vB mX8_readSymbols := ⟨tb3 (List.mem_of_getElem? (i := 202) rfl), List.mem_append_left _ (List.mem_of_getElem? (i := 12) (by decide +kernel))⟩
theorem kcX8_readWordTables_166 : px_cV mX8_readWordTables 166 mX8_readSymbols 2 := ⟨⟨mbX8_readSymbols, by decide, by decide⟩, Or.inl (tb3 (List.mem_of_getElem? (i := 200) rfl)), vbX8_readSymbols⟩
set_option maxRecDepth 100000 in
set_option maxHeartbeats 4000000 in
theorem eX8_readWordTables_56 {X : px_X}  : ∀ (a0 : Nat) (w : px_W) (q : Int32 × px_W), fX8_readWordTables_56 X  a0 w = some q → EV X mX8_readWordTables 56 [(0, .ref a0)] [] w (some (.int q.1)) q.2 := by
  intro a0 w q h
  unfold fX8_readWordTables_56 at h
  refine EV.aload_n 0 dX8_readWordTables_56 rfl rfl ?_
  obtain ⟨o13, go13, h⟩ := px_bs h
  obtain ⟨q14, gq14, h⟩ := px_bs h
  refine EV.callV (As := []) (rest := []) dX8_readWordTables_57 kcX8_readWordTables_159 (gO_ok go13) rfl rfl rfl (Nat.le_of_ble_eq_true rfl) (Nat.le_of_ble_eq_true rfl) (eX8_refuse gq14) ?_
  exact ev_retZ dX8_readWordTables_60 rfl h
set_option maxRecDepth 100000 in
set_option maxHeartbeats 4000000 in
theorem eX8_readWordTables_117 {X : px_X} {k4 : Nat → Int32 → Int32 → px_W → Option (Int32 × px_W)} (hk4 : ∀ (a0 : Nat) (a1 : Int32) (a2 : Int32) (w : px_W) (q : Int32 × px_W), k4 a0 a1 a2 w = some q → EV X mX8_readWordTables 4 [(0, .ref a0), (1, .int a1), (2, .int a2)] [] w (some (.int q.1)) q.2) : ∀ (a0 : Nat) (a2 : Int32) (s0 : Int32) (w : px_W) (q : Int32 × px_W), fX8_readWordTables_117 X k4 a0 a2 s0 w = some q → EV X mX8_readWordTables 117 [(0, .ref a0), (2, .int a2)] [.int s0] w (some (.int q.1)) q.2 := by
  intro a0 a2 s0 w q h
  unfold fX8_readWordTables_117 at h
  refine EV.istore_n [(1, .int s0), (0, .ref a0), (2, .int a2)] dX8_readWordTables_117 rfl (by decide) rfl ?_
  refine EV.iinc 2 (a2 + 1) [(2, .int (a2 + 1)), (1, .int s0), (0, .ref a0)] dX8_readWordTables_118 rfl rfl (by decide) rfl ?_
  refine EV.goto 4 dX8_readWordTables_121 (by decide) ?_
  refine EV.sub [2, 1, 0] rfl ?_
  exact hk4 _ _ _ _ _ h
set_option maxRecDepth 100000 in
set_option maxHeartbeats 4000000 in
theorem eX8_readWordTables_116 {X : px_X} {k4 : Nat → Int32 → Int32 → px_W → Option (Int32 × px_W)} (hk4 : ∀ (a0 : Nat) (a1 : Int32) (a2 : Int32) (w : px_W) (q : Int32 × px_W), k4 a0 a1 a2 w = some q → EV X mX8_readWordTables 4 [(0, .ref a0), (1, .int a1), (2, .int a2)] [] w (some (.int q.1)) q.2) : ∀ (a0 : Nat) (a2 : Int32) (w : px_W) (q : Int32 × px_W), fX8_readWordTables_116 X k4 a0 a2 w = some q → EV X mX8_readWordTables 116 [(0, .ref a0), (2, .int a2)] [] w (some (.int q.1)) q.2 := by
  intro a0 a2 w q h
  unfold fX8_readWordTables_116 at h
  refine EV.iconst (0) dX8_readWordTables_116 (by decide) ?_
  refine EV.sub [0, 1] rfl ?_
  exact eX8_readWordTables_117 hk4 _ _ _ _ _ h
set_option maxRecDepth 100000 in
set_option maxHeartbeats 4000000 in
theorem eX8_readWordTables_106 {X : px_X} {k4 : Nat → Int32 → Int32 → px_W → Option (Int32 × px_W)} (hk4 : ∀ (a0 : Nat) (a1 : Int32) (a2 : Int32) (w : px_W) (q : Int32 × px_W), k4 a0 a1 a2 w = some q → EV X mX8_readWordTables 4 [(0, .ref a0), (1, .int a1), (2, .int a2)] [] w (some (.int q.1)) q.2) : ∀ (a0 : Nat) (a2 : Int32) (s0 : Int32) (s1 : Nat) (s2 : Nat) (w : px_W) (q : Int32 × px_W), fX8_readWordTables_106 X k4 a0 a2 s0 s1 s2 w = some q → EV X mX8_readWordTables 106 [(0, .ref a0), (2, .int a2)] [.int s0, .ref s1, .ref s2] w (some (.int q.1)) q.2 := by
  intro a0 a2 s0 s1 s2 w q h
  unfold fX8_readWordTables_106 at h
  obtain ⟨o15, go15, h⟩ := px_bs h
  obtain ⟨q16, gq16, h⟩ := px_bs h
  refine EV.callV (As := [.ref s1, .int s0]) (rest := []) dX8_readWordTables_106 kcX8_readWordTables_166 (gO_ok go15) rfl rfl rfl (Nat.le_of_ble_eq_true rfl) (Nat.le_of_ble_eq_true rfl) (eX8_readSymbols gq16) ?_
  refine EV.if_eq 116 dX8_readWordTables_109 (by decide) (fun c17 => ?_) (fun c17 => ?_)
  · rw [if_pos c17] at h
    refine EV.sub [0, 1] rfl ?_
    exact eX8_readWordTables_116 hk4 _ _ _ _ h
  · rw [if_neg c17] at h
    refine EV.iconst (1) dX8_readWordTables_112 (by decide) ?_
    refine EV.goto 117 dX8_readWordTables_113 (by decide) ?_
    refine EV.sub [0, 1] rfl ?_
    exact eX8_readWordTables_117 hk4 _ _ _ _ _ h
set_option maxRecDepth 100000 in
set_option maxHeartbeats 4000000 in
theorem eX8_readWordTables_78 {X : px_X} {k4 : Nat → Int32 → Int32 → px_W → Option (Int32 × px_W)} (hk4 : ∀ (a0 : Nat) (a1 : Int32) (a2 : Int32) (w : px_W) (q : Int32 × px_W), k4 a0 a1 a2 w = some q → EV X mX8_readWordTables 4 [(0, .ref a0), (1, .int a1), (2, .int a2)] [] w (some (.int q.1)) q.2) : ∀ (a0 : Nat) (a2 : Int32) (a3 : Int32) (s0 : Int32) (s1 : Nat) (w : px_W) (q : Int32 × px_W), fX8_readWordTables_78 X k4 a0 a2 a3 s0 s1 w = some q → EV X mX8_readWordTables 78 [(0, .ref a0), (2, .int a2), (3, .int a3)] [.int s0, .ref s1] w (some (.int q.1)) q.2 := by
  intro a0 a2 a3 s0 s1 w q h
  unfold fX8_readWordTables_78 at h
  obtain ⟨v18, gv18, h⟩ := px_bs h
  refine ev_aQ dX8_readWordTables_78 (t := 7) rfl gv18 ?_
  refine EV.astore [(4, .ref v18), (0, .ref a0), (2, .int a2), (3, .int a3)] dX8_readWordTables_79 (by decide) rfl ?_
  refine EV.aload_n 1 dX8_readWordTables_81 rfl rfl ?_
  refine EV.aload 0 dX8_readWordTables_82 rfl ?_
  obtain ⟨o19, go19, h⟩ := px_bs h
  obtain ⟨q20, gq20, h⟩ := px_bs h
  refine EV.callV (As := [.ref v18]) (rest := []) dX8_readWordTables_84 kcX8_readWordTables_162 (gO_ok go19) rfl rfl rfl (Nat.le_of_ble_eq_true rfl) (Nat.le_of_ble_eq_true rfl) (eX8_readCounts gq20) ?_
  refine EV.if_eq 116 dX8_readWordTables_87 (by decide) (fun c21 => ?_) (fun c21 => ?_)
  · rw [if_pos c21] at h
    refine EV.sub [1, 2] rfl ?_
    exact eX8_readWordTables_116 hk4 _ _ _ _ h
  · rw [if_neg c21] at h
    refine EV.aload_n 1 dX8_readWordTables_90 rfl rfl ?_
    refine EV.aload 0 dX8_readWordTables_91 rfl ?_
    refine EV.iload_n 3 dX8_readWordTables_93 rfl rfl ?_
    refine EV.iconst (4) dX8_readWordTables_94 (by decide) ?_
    refine EV.icmp_ge 103 dX8_readWordTables_95 (by decide) (fun c22 => ?_) (fun c22 => ?_)
    · rw [if_pos c22] at h
      refine EV.sipush (255) dX8_readWordTables_103 (by decide) ?_
      refine EV.sub [1, 2] rfl ?_
      exact eX8_readWordTables_106 hk4 _ _ _ _ _ _ _ h
    · rw [if_neg c22] at h
      refine EV.bipush (11) dX8_readWordTables_98 (by decide) ?_
      refine EV.goto 106 dX8_readWordTables_100 (by decide) ?_
      refine EV.sub [1, 2] rfl ?_
      exact eX8_readWordTables_106 hk4 _ _ _ _ _ _ _ h
set_option maxRecDepth 100000 in
set_option maxHeartbeats 4000000 in
theorem eX8_readWordTables_61 {X : px_X} {k4 : Nat → Int32 → Int32 → px_W → Option (Int32 × px_W)} (hk4 : ∀ (a0 : Nat) (a1 : Int32) (a2 : Int32) (w : px_W) (q : Int32 × px_W), k4 a0 a1 a2 w = some q → EV X mX8_readWordTables 4 [(0, .ref a0), (1, .int a1), (2, .int a2)] [] w (some (.int q.1)) q.2) : ∀ (a0 : Nat) (a2 : Int32) (a3 : Int32) (w : px_W) (q : Int32 × px_W), fX8_readWordTables_61 X k4 a0 a2 a3 w = some q → EV X mX8_readWordTables 61 [(0, .ref a0), (2, .int a2), (3, .int a3)] [] w (some (.int q.1)) q.2 := by
  intro a0 a2 a3 w q h
  unfold fX8_readWordTables_61 at h
  refine EV.aload_n 0 dX8_readWordTables_61 rfl rfl ?_
  obtain ⟨v23, gv23, h⟩ := px_bs h
  refine ev_gR dX8_readWordTables_62 flRX8_20 gv23 ?_
  refine EV.iload_n 2 dX8_readWordTables_65 rfl rfl ?_
  refine EV.iconst (4) dX8_readWordTables_66 (by decide) ?_
  refine EV.icmp_ge 74 dX8_readWordTables_67 (by decide) (fun c24 => ?_) (fun c24 => ?_)
  · rw [if_pos c24] at h
    refine EV.iload_n 2 dX8_readWordTables_74 rfl rfl ?_
    refine EV.bipush (12) dX8_readWordTables_75 (by decide) ?_
    refine EV.isub dX8_readWordTables_77 ?_
    refine EV.sub [0, 1, 2] rfl ?_
    exact eX8_readWordTables_78 hk4 _ _ _ _ _ _ _ h
  · rw [if_neg c24] at h
    refine EV.iload_n 2 dX8_readWordTables_70 rfl rfl ?_
    refine EV.goto 78 dX8_readWordTables_71 (by decide) ?_
    refine EV.sub [0, 1, 2] rfl ?_
    exact eX8_readWordTables_78 hk4 _ _ _ _ _ _ _ h
set_option maxRecDepth 100000 in
set_option maxHeartbeats 4000000 in
theorem eX8_readWordTables_30 {X : px_X} {k4 : Nat → Int32 → Int32 → px_W → Option (Int32 × px_W)} (hk4 : ∀ (a0 : Nat) (a1 : Int32) (a2 : Int32) (w : px_W) (q : Int32 × px_W), k4 a0 a1 a2 w = some q → EV X mX8_readWordTables 4 [(0, .ref a0), (1, .int a1), (2, .int a2)] [] w (some (.int q.1)) q.2) : ∀ (a0 : Nat) (a2 : Int32) (w : px_W) (q : Int32 × px_W), fX8_readWordTables_30 X k4 a0 a2 w = some q → EV X mX8_readWordTables 30 [(0, .ref a0), (2, .int a2)] [] w (some (.int q.1)) q.2 := by
  intro a0 a2 w q h
  unfold fX8_readWordTables_30 at h
  refine EV.aload_n 0 dX8_readWordTables_30 rfl rfl ?_
  refine EV.iconst (0) dX8_readWordTables_31 (by decide) ?_
  refine EV.bipush (19) dX8_readWordTables_32 (by decide) ?_
  obtain ⟨o25, go25, h⟩ := px_bs h
  obtain ⟨q26, gq26, h⟩ := px_bs h
  refine EV.callV (As := [.int 0, .int 19]) (rest := []) dX8_readWordTables_34 kcX8_readWordTables_156 (gO_ok go25) rfl rfl rfl (Nat.le_of_ble_eq_true rfl) (Nat.le_of_ble_eq_true rfl) (eX8_byteIn gq26) ?_
  refine EV.istore_n [(3, .int q26.1), (0, .ref a0), (2, .int a2)] dX8_readWordTables_37 rfl (by decide) rfl ?_
  refine EV.iload_n 0 dX8_readWordTables_38 rfl rfl ?_
  refine EV.iconst ((-1)) dX8_readWordTables_39 (by decide) ?_
  refine EV.icmp_ne 45 dX8_readWordTables_40 (by decide) (fun c27 => ?_) (fun c27 => ?_)
  · rw [if_neg c27] at h
    refine EV.iload_n 0 dX8_readWordTables_45 rfl rfl ?_
    refine EV.iconst (3) dX8_readWordTables_46 (by decide) ?_
    refine EV.icmp_le 61 dX8_readWordTables_47 (by decide) (fun c28 => ?_) (fun c28 => ?_)
    · rw [if_pos c28] at h
      refine EV.sub [1, 2, 0] rfl ?_
      exact eX8_readWordTables_61 hk4 _ _ _ _ _ h
    · rw [if_neg c28] at h
      refine EV.iload_n 0 dX8_readWordTables_50 rfl rfl ?_
      refine EV.bipush (16) dX8_readWordTables_51 (by decide) ?_
      refine EV.icmp_ge 61 dX8_readWordTables_53 (by decide) (fun c29 => ?_) (fun c29 => ?_)
      · rw [if_pos c29] at h
        refine EV.sub [1, 2, 0] rfl ?_
        exact eX8_readWordTables_61 hk4 _ _ _ _ _ h
      · rw [if_neg c29] at h
        refine EV.sub [1] rfl ?_
        exact eX8_readWordTables_56  _ _ _ h
  · rw [if_pos c27] at h
    refine EV.iconst (0) dX8_readWordTables_43 (by decide) ?_
    cases h
    exact EV.reti dX8_readWordTables_44 rfl
set_option maxRecDepth 100000 in
set_option maxHeartbeats 4000000 in
theorem eX8_readWordTables_4 {X : px_X}  : ∀ (m : Nat) (a0 : Nat) (a1 : Int32) (a2 : Int32) (w : px_W) (q : Int32 × px_W), fX8_readWordTables_4 X  m a0 a1 a2 w = some q → EV X mX8_readWordTables 4 [(0, .ref a0), (1, .int a1), (2, .int a2)] [] w (some (.int q.1)) q.2 := by
  intro m
  induction m with
  | zero => intro a0 a1 a2 w q h; cases h
  | succ m ih =>
    intro a0 a1 a2 w q h
    rw [fX8_readWordTables_4.eq_2] at h
    refine EV.iload_n 1 dX8_readWordTables_4 rfl rfl ?_
    refine EV.if_eq 124 dX8_readWordTables_5 (by decide) (fun c30 => ?_) (fun c30 => ?_)
    · rw [if_pos c30] at h
      refine EV.iload_n 1 dX8_readWordTables_124 rfl rfl ?_
      exact ev_retZ dX8_readWordTables_125 rfl h
    · rw [if_neg c30] at h
      refine EV.iload_n 2 dX8_readWordTables_8 rfl rfl ?_
      refine EV.sipush (16384) dX8_readWordTables_9 (by decide) ?_
      refine EV.icmp_ge 124 dX8_readWordTables_12 (by decide) (fun c31 => ?_) (fun c31 => ?_)
      · rw [if_pos c31] at h
        refine EV.iload_n 1 dX8_readWordTables_124 rfl rfl ?_
        exact ev_retZ dX8_readWordTables_125 rfl h
      · rw [if_neg c31] at h
        refine EV.iload_n 2 dX8_readWordTables_15 rfl rfl ?_
        refine EV.if_eq 30 dX8_readWordTables_16 (by decide) (fun c32 => ?_) (fun c32 => ?_)
        · rw [if_pos c32] at h
          refine EV.sub [0, 2] rfl ?_
          exact eX8_readWordTables_30 ih _ _ _ _ h
        · rw [if_neg c32] at h
          refine EV.aload_n 0 dX8_readWordTables_19 rfl rfl ?_
          obtain ⟨v33, gv33, h⟩ := px_bs h
          refine ev_gI dX8_readWordTables_20 flRX8_92 gv33 ?_
          refine EV.aload_n 0 dX8_readWordTables_23 rfl rfl ?_
          obtain ⟨v34, gv34, h⟩ := px_bs h
          refine ev_gI dX8_readWordTables_24 flRX8_126 gv34 ?_
          refine EV.icmp_ge 124 dX8_readWordTables_27 (by decide) (fun c35 => ?_) (fun c35 => ?_)
          · rw [if_pos c35] at h
            refine EV.iload_n 1 dX8_readWordTables_124 rfl rfl ?_
            exact ev_retZ dX8_readWordTables_125 rfl h
          · rw [if_neg c35] at h
            refine EV.sub [0, 2] rfl ?_
            exact eX8_readWordTables_30 ih _ _ _ _ h
set_option maxRecDepth 100000 in
set_option maxHeartbeats 4000000 in
theorem eX8_readWordTables {X : px_X} {w : px_W} {a0 : Nat} {q : Int32 × px_W} (h : fX8_readWordTables X w a0 = some q) : EV X mX8_readWordTables 0 (lv_args 0 [.ref a0]) [] w (some (.int q.1)) q.2 := by
  unfold fX8_readWordTables at h
  show EV X mX8_readWordTables 0 [(0, .ref a0)] [] w (some (.int q.1)) q.2
  refine EV.iconst (1) dX8_readWordTables_0 (by decide) ?_
  refine EV.istore_n [(1, .int 1), (0, .ref a0)] dX8_readWordTables_1 rfl (by decide) rfl ?_
  refine EV.iconst (0) dX8_readWordTables_2 (by decide) ?_
  refine EV.istore_n [(2, .int 0), (1, .int 1), (0, .ref a0)] dX8_readWordTables_3 rfl (by decide) rfl ?_
  refine EV.sub [2, 1, 0] rfl ?_
  exact eX8_readWordTables_4  FU _ _ _ _ _ h
