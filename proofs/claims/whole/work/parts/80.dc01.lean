/-! WavePictures$BestTable.<init>()V -/
theorem dX0_init_0 : decode cX0_init 0 = .ok (.aload_n 0, 1) := by decide +kernel
theorem dX0_init_1 : decode cX0_init 1 = .ok (.invokespecial 3, 3) := by decide +kernel
theorem dX0_init_4 : decode cX0_init 4 = .ok (.aload_n 0, 1) := by decide +kernel
theorem dX0_init_5 : decode cX0_init 5 = .ok (.sipush 256, 3) := by decide +kernel
theorem dX0_init_8 : decode cX0_init 8 = .ok (.newarray .int, 2) := by decide +kernel
theorem dX0_init_10 : decode cX0_init 10 = .ok (.putfield 9, 3) := by decide +kernel
theorem dX0_init_13 : decode cX0_init 13 = .ok (.aload_n 0, 1) := by decide +kernel
theorem dX0_init_14 : decode cX0_init 14 = .ok (.sipush 256, 3) := by decide +kernel
theorem dX0_init_17 : decode cX0_init 17 = .ok (.newarray .int, 2) := by decide +kernel
theorem dX0_init_19 : decode cX0_init 19 = .ok (.putfield 15, 3) := by decide +kernel
theorem dX0_init_22 : decode cX0_init 22 = .ok (.aload_n 0, 1) := by decide +kernel
theorem dX0_init_23 : decode cX0_init 23 = .ok (.sipush 256, 3) := by decide +kernel
theorem dX0_init_26 : decode cX0_init 26 = .ok (.newarray .int, 2) := by decide +kernel
theorem dX0_init_28 : decode cX0_init 28 = .ok (.putfield 18, 3) := by decide +kernel
theorem dX0_init_31 : decode cX0_init 31 = .ok (.aload_n 0, 1) := by decide +kernel
theorem dX0_init_32 : decode cX0_init 32 = .ok (.sipush 258, 3) := by decide +kernel
theorem dX0_init_35 : decode cX0_init 35 = .ok (.newarray .int, 2) := by decide +kernel
theorem dX0_init_37 : decode cX0_init 37 = .ok (.putfield 21, 3) := by decide +kernel
theorem dX0_init_40 : decode cX0_init 40 = .ok (.aload_n 0, 1) := by decide +kernel
theorem dX0_init_41 : decode cX0_init 41 = .ok (.sipush 256, 3) := by decide +kernel
theorem dX0_init_44 : decode cX0_init 44 = .ok (.newarray .int, 2) := by decide +kernel
theorem dX0_init_46 : decode cX0_init 46 = .ok (.putfield 24, 3) := by decide +kernel
theorem dX0_init_49 : decode cX0_init 49 = .ok (.aload_n 0, 1) := by decide +kernel
theorem dX0_init_50 : decode cX0_init 50 = .ok (.sipush 257, 3) := by decide +kernel
theorem dX0_init_53 : decode cX0_init 53 = .ok (.newarray .int, 2) := by decide +kernel
theorem dX0_init_55 : decode cX0_init 55 = .ok (.putfield 27, 3) := by decide +kernel
theorem dX0_init_58 : decode cX0_init 58 = .ok (.aload_n 0, 1) := by decide +kernel
theorem dX0_init_59 : decode cX0_init 59 = .ok (.sipush 257, 3) := by decide +kernel
theorem dX0_init_62 : decode cX0_init 62 = .ok (.newarray .int, 2) := by decide +kernel
theorem dX0_init_64 : decode cX0_init 64 = .ok (.putfield 30, 3) := by decide +kernel
theorem dX0_init_67 : decode cX0_init 67 = .ok (.aload_n 0, 1) := by decide +kernel
theorem dX0_init_68 : decode cX0_init 68 = .ok (.sipush 257, 3) := by decide +kernel
theorem dX0_init_71 : decode cX0_init 71 = .ok (.newarray .int, 2) := by decide +kernel
theorem dX0_init_73 : decode cX0_init 73 = .ok (.putfield 33, 3) := by decide +kernel
theorem dX0_init_76 : decode cX0_init 76 = .ok (.aload_n 0, 1) := by decide +kernel
theorem dX0_init_77 : decode cX0_init 77 = .ok (.sipush 257, 3) := by decide +kernel
theorem dX0_init_80 : decode cX0_init 80 = .ok (.newarray .int, 2) := by decide +kernel
theorem dX0_init_82 : decode cX0_init 82 = .ok (.putfield 36, 3) := by decide +kernel
theorem dX0_init_85 : decode cX0_init 85 = .ok (.return_, 1) := by decide +kernel
set_option maxRecDepth 100000 in
set_option maxHeartbeats 4000000 in
theorem eX0_init {X : px_X} {w : px_W} {a0 : Nat} {q : px_W} (h : fX0_init X w a0 = some q) : EV X mX0_init 0 (lv_args 0 [.ref a0]) [] w none q := by
  unfold fX0_init at h
  show EV X mX0_init 0 [(0, .ref a0)] [] w none q
  refine EV.aload_n 0 dX0_init_0 rfl rfl ?_
  refine EV.objI dX0_init_1 (tb2 (List.mem_of_getElem? (i := 175) rfl)) (by decide) (by decide) (Nat.le_of_ble_eq_true rfl) ?_
  refine EV.aload_n 0 dX0_init_4 rfl rfl ?_
  refine EV.sipush (256) dX0_init_5 (by decide) ?_
  obtain ⟨q19, gq19, h⟩ := px_bs h
  refine ev_nI dX0_init_8 gq19 ?_
  obtain ⟨w20, gw20, h⟩ := px_bs h
  refine ev_pF dX0_init_10 (ci := 0) (k := 0) rfl (by decide) (tb2 (List.mem_of_getElem? (i := 176) rfl)) rfl rfl rfl rfl rfl gw20 ?_
  refine EV.aload_n 0 dX0_init_13 rfl rfl ?_
  refine EV.sipush (256) dX0_init_14 (by decide) ?_
  obtain ⟨q21, gq21, h⟩ := px_bs h
  refine ev_nI dX0_init_17 gq21 ?_
  obtain ⟨w22, gw22, h⟩ := px_bs h
  refine ev_pF dX0_init_19 (ci := 0) (k := 1) rfl (by decide) (tb2 (List.mem_of_getElem? (i := 178) rfl)) rfl rfl rfl rfl rfl gw22 ?_
  refine EV.aload_n 0 dX0_init_22 rfl rfl ?_
  refine EV.sipush (256) dX0_init_23 (by decide) ?_
  obtain ⟨q23, gq23, h⟩ := px_bs h
  refine ev_nI dX0_init_26 gq23 ?_
  obtain ⟨w24, gw24, h⟩ := px_bs h
  refine ev_pF dX0_init_28 (ci := 0) (k := 2) rfl (by decide) (tb2 (List.mem_of_getElem? (i := 180) rfl)) rfl rfl rfl rfl rfl gw24 ?_
  refine EV.aload_n 0 dX0_init_31 rfl rfl ?_
  refine EV.sipush (258) dX0_init_32 (by decide) ?_
  obtain ⟨q25, gq25, h⟩ := px_bs h
  refine ev_nI dX0_init_35 gq25 ?_
  obtain ⟨w26, gw26, h⟩ := px_bs h
  refine ev_pF dX0_init_37 (ci := 0) (k := 3) rfl (by decide) (tb2 (List.mem_of_getElem? (i := 182) rfl)) rfl rfl rfl rfl rfl gw26 ?_
  refine EV.aload_n 0 dX0_init_40 rfl rfl ?_
  refine EV.sipush (256) dX0_init_41 (by decide) ?_
  obtain ⟨q27, gq27, h⟩ := px_bs h
  refine ev_nI dX0_init_44 gq27 ?_
  obtain ⟨w28, gw28, h⟩ := px_bs h
  refine ev_pF dX0_init_46 (ci := 0) (k := 4) rfl (by decide) (tb2 (List.mem_of_getElem? (i := 184) rfl)) rfl rfl rfl rfl rfl gw28 ?_
  refine EV.aload_n 0 dX0_init_49 rfl rfl ?_
  refine EV.sipush (257) dX0_init_50 (by decide) ?_
  obtain ⟨q29, gq29, h⟩ := px_bs h
  refine ev_nI dX0_init_53 gq29 ?_
  obtain ⟨w30, gw30, h⟩ := px_bs h
  refine ev_pF dX0_init_55 (ci := 0) (k := 6) rfl (by decide) (tb2 (List.mem_of_getElem? (i := 188) rfl)) rfl rfl rfl rfl rfl gw30 ?_
  refine EV.aload_n 0 dX0_init_58 rfl rfl ?_
  refine EV.sipush (257) dX0_init_59 (by decide) ?_
  obtain ⟨q31, gq31, h⟩ := px_bs h
  refine ev_nI dX0_init_62 gq31 ?_
  obtain ⟨w32, gw32, h⟩ := px_bs h
  refine ev_pF dX0_init_64 (ci := 0) (k := 7) rfl (by decide) (tb2 (List.mem_of_getElem? (i := 189) rfl)) rfl rfl rfl rfl rfl gw32 ?_
  refine EV.aload_n 0 dX0_init_67 rfl rfl ?_
  refine EV.sipush (257) dX0_init_68 (by decide) ?_
  obtain ⟨q33, gq33, h⟩ := px_bs h
  refine ev_nI dX0_init_71 gq33 ?_
  obtain ⟨w34, gw34, h⟩ := px_bs h
  refine ev_pF dX0_init_73 (ci := 0) (k := 8) rfl (by decide) (tb2 (List.mem_of_getElem? (i := 190) rfl)) rfl rfl rfl rfl rfl gw34 ?_
  refine EV.aload_n 0 dX0_init_76 rfl rfl ?_
  refine EV.sipush (257) dX0_init_77 (by decide) ?_
  obtain ⟨q35, gq35, h⟩ := px_bs h
  refine ev_nI dX0_init_80 gq35 ?_
  obtain ⟨w36, gw36, h⟩ := px_bs h
  refine ev_pF dX0_init_82 (ci := 0) (k := 9) rfl (by decide) (tb2 (List.mem_of_getElem? (i := 191) rfl)) rfl rfl rfl rfl rfl gw36 ?_
  cases h
  exact EV.ret0 dX0_init_85 trivial
/-! java/util/Arrays.fill([II)V -/
theorem dJ7_fill_53178_0 : decode cJ7_fill_53178 0 = .ok (.iconst 0, 1) := by decide +kernel
theorem dJ7_fill_53178_1 : decode cJ7_fill_53178 1 = .ok (.istore_n 2, 1) := by decide +kernel
theorem dJ7_fill_53178_2 : decode cJ7_fill_53178 2 = .ok (.aload_n 0, 1) := by decide +kernel
theorem dJ7_fill_53178_3 : decode cJ7_fill_53178 3 = .ok (.arraylength, 1) := by decide +kernel
theorem dJ7_fill_53178_4 : decode cJ7_fill_53178 4 = .ok (.istore_n 3, 1) := by decide +kernel
theorem dJ7_fill_53178_5 : decode cJ7_fill_53178 5 = .ok (.iload_n 2, 1) := by decide +kernel
theorem dJ7_fill_53178_6 : decode cJ7_fill_53178 6 = .ok (.iload_n 3, 1) := by decide +kernel
theorem dJ7_fill_53178_7 : decode cJ7_fill_53178 7 = .ok (.if_icmp .ge 13, 3) := by decide +kernel
theorem dJ7_fill_53178_10 : decode cJ7_fill_53178 10 = .ok (.aload_n 0, 1) := by decide +kernel
theorem dJ7_fill_53178_11 : decode cJ7_fill_53178 11 = .ok (.iload_n 2, 1) := by decide +kernel
theorem dJ7_fill_53178_12 : decode cJ7_fill_53178 12 = .ok (.iload_n 1, 1) := by decide +kernel
theorem dJ7_fill_53178_13 : decode cJ7_fill_53178 13 = .ok (.iastore, 1) := by decide +kernel
theorem dJ7_fill_53178_14 : decode cJ7_fill_53178 14 = .ok (.iinc 2 1, 3) := by decide +kernel
theorem dJ7_fill_53178_17 : decode cJ7_fill_53178 17 = .ok (.goto (-12), 3) := by decide +kernel
theorem dJ7_fill_53178_20 : decode cJ7_fill_53178 20 = .ok (.return_, 1) := by decide +kernel
set_option maxRecDepth 100000 in
set_option maxHeartbeats 4000000 in
theorem eJ7_fill_53178_5 {X : px_X}  : ∀ (m : Nat) (a0 : Nat) (a1 : Int32) (a2 : Int32) (a3 : Int32) (w : px_W) (q : px_W), fJ7_fill_53178_5 X  m a0 a1 a2 a3 w = some q → EV X mJ7_fill_53178 5 [(0, .ref a0), (1, .int a1), (2, .int a2), (3, .int a3)] [] w none q := by
  intro m
  induction m with
  | zero => intro a0 a1 a2 a3 w q h; cases h
  | succ m ih =>
    intro a0 a1 a2 a3 w q h
    rw [fJ7_fill_53178_5.eq_2] at h
    refine EV.iload_n 2 dJ7_fill_53178_5 rfl rfl ?_
    refine EV.iload_n 3 dJ7_fill_53178_6 rfl rfl ?_
    refine EV.icmp_ge 20 dJ7_fill_53178_7 (by decide) (fun c3 => ?_) (fun c3 => ?_)
    · rw [if_pos c3] at h
      cases h
      exact EV.ret0 dJ7_fill_53178_20 trivial
    · rw [if_neg c3] at h
      refine EV.aload_n 0 dJ7_fill_53178_10 rfl rfl ?_
      refine EV.iload_n 2 dJ7_fill_53178_11 rfl rfl ?_
      refine EV.iload_n 1 dJ7_fill_53178_12 rfl rfl ?_
      obtain ⟨w4, gw4, h⟩ := px_bs h
      refine ev_sI dJ7_fill_53178_13 gw4 ?_
      refine EV.iinc 2 (a2 + 1) [(2, .int (a2 + 1)), (0, .ref a0), (1, .int a1), (3, .int a3)] dJ7_fill_53178_14 rfl rfl (by decide) rfl ?_
      refine EV.goto 5 dJ7_fill_53178_17 (by decide) ?_
      refine EV.sub [1, 2, 0, 3] rfl ?_
      exact ih _ _ _ _ _ _ h
set_option maxRecDepth 100000 in
set_option maxHeartbeats 4000000 in
theorem eJ7_fill_53178 {X : px_X} {w : px_W} {a0 : Nat} {a1 : Int32} {q : px_W} (h : fJ7_fill_53178 X w a0 a1 = some q) : EV X mJ7_fill_53178 0 (lv_args 0 [.ref a0, .int a1]) [] w none q := by
  unfold fJ7_fill_53178 at h
  show EV X mJ7_fill_53178 0 [(0, .ref a0), (1, .int a1)] [] w none q
  refine EV.iconst (0) dJ7_fill_53178_0 (by decide) ?_
  refine EV.istore_n [(2, .int 0), (0, .ref a0), (1, .int a1)] dJ7_fill_53178_1 rfl (by decide) rfl ?_
  refine EV.aload_n 1 dJ7_fill_53178_2 rfl rfl ?_
  obtain ⟨v5, gv5, h⟩ := px_bs h
  refine ev_aL dJ7_fill_53178_3 rfl gv5 ?_
  refine EV.istore_n [(3, .int v5), (2, .int 0), (0, .ref a0), (1, .int a1)] dJ7_fill_53178_4 rfl (by decide) rfl ?_
  refine EV.sub [2, 3, 1, 0] rfl ?_
  exact eJ7_fill_53178_5  FU _ _ _ _ _ _ h
/-! WavePictures$BestTable.forget()V -/
theorem dX0_forget_0 : decode cX0_forget 0 = .ok (.aload_n 0, 1) := by decide +kernel
theorem dX0_forget_1 : decode cX0_forget 1 = .ok (.getfield 9, 3) := by decide +kernel
theorem dX0_forget_4 : decode cX0_forget 4 = .ok (.iconst 0, 1) := by decide +kernel
theorem dX0_forget_5 : decode cX0_forget 5 = .ok (.invokestatic 39, 3) := by decide +kernel
theorem dX0_forget_8 : decode cX0_forget 8 = .ok (.return_, 1) := by decide +kernel
theorem flRX0_9 : px_f RX0 9 0 0 := ⟨_, rfl, by decide, Or.inl (tb2 (List.mem_of_getElem? (i := 176) rfl))⟩
theorem mbJ7_fill_53178 : px_mB mJ7_fill_53178 2 := ⟨tb3 (List.mem_of_getElem? (i := 142) rfl), by decide +kernel, tb1 (List.mem_of_getElem? (i := 18) rfl), by decide +kernel, by decide +kernel⟩
theorem kcX0_forget_39 : px_cS mX0_forget 39 mJ7_fill_53178 2 := ⟨⟨mbJ7_fill_53178, by decide, by decide⟩, Or.inl (tb4 (List.mem_of_getElem? (i := 225) rfl)), tb3 (List.mem_of_getElem? (i := 141) rfl)⟩
set_option maxRecDepth 100000 in
set_option maxHeartbeats 4000000 in
theorem eX0_forget {X : px_X} {w : px_W} {a0 : Nat} {q : px_W} (h : fX0_forget X w a0 = some q) : EV X mX0_forget 0 (lv_args 0 [.ref a0]) [] w none q := by
  unfold fX0_forget at h
  show EV X mX0_forget 0 [(0, .ref a0)] [] w none q
  refine EV.aload_n 0 dX0_forget_0 rfl rfl ?_
  obtain ⟨v3, gv3, h⟩ := px_bs h
  refine ev_gR dX0_forget_1 flRX0_9 gv3 ?_
  refine EV.iconst (0) dX0_forget_4 (by decide) ?_
  obtain ⟨q4, gq4, h⟩ := px_bs h
  refine EV.callS (As := [.ref v3, .int 0]) (rest := []) dX0_forget_5 kcX0_forget_39 rfl (Nat.le_of_ble_eq_true rfl) (Nat.le_of_ble_eq_true rfl) (eJ7_fill_53178 gq4) ?_
  cases h
  exact EV.ret0 dX0_forget_8 trivial
/-! WavePictures$BestTable.addPlace(II)V -/
theorem dX0_addPlace_0 : decode cX0_addPlace 0 = .ok (.aload_n 0, 1) := by decide +kernel
theorem dX0_addPlace_1 : decode cX0_addPlace 1 = .ok (.getfield 27, 3) := by decide +kernel
theorem dX0_addPlace_4 : decode cX0_addPlace 4 = .ok (.aload_n 0, 1) := by decide +kernel
theorem dX0_addPlace_5 : decode cX0_addPlace 5 = .ok (.getfield 48, 3) := by decide +kernel
theorem dX0_addPlace_8 : decode cX0_addPlace 8 = .ok (.iload_n 1, 1) := by decide +kernel
theorem dX0_addPlace_9 : decode cX0_addPlace 9 = .ok (.iastore, 1) := by decide +kernel
theorem dX0_addPlace_10 : decode cX0_addPlace 10 = .ok (.aload_n 0, 1) := by decide +kernel
theorem dX0_addPlace_11 : decode cX0_addPlace 11 = .ok (.getfield 30, 3) := by decide +kernel
theorem dX0_addPlace_14 : decode cX0_addPlace 14 = .ok (.aload_n 0, 1) := by decide +kernel
theorem dX0_addPlace_15 : decode cX0_addPlace 15 = .ok (.getfield 48, 3) := by decide +kernel
theorem dX0_addPlace_18 : decode cX0_addPlace 18 = .ok (.iload_n 2, 1) := by decide +kernel
theorem dX0_addPlace_19 : decode cX0_addPlace 19 = .ok (.iastore, 1) := by decide +kernel
theorem dX0_addPlace_20 : decode cX0_addPlace 20 = .ok (.aload_n 0, 1) := by decide +kernel
theorem dX0_addPlace_21 : decode cX0_addPlace 21 = .ok (.getfield 33, 3) := by decide +kernel
theorem dX0_addPlace_24 : decode cX0_addPlace 24 = .ok (.aload_n 0, 1) := by decide +kernel
theorem dX0_addPlace_25 : decode cX0_addPlace 25 = .ok (.getfield 48, 3) := by decide +kernel
theorem dX0_addPlace_28 : decode cX0_addPlace 28 = .ok (.aload_n 0, 1) := by decide +kernel
theorem dX0_addPlace_29 : decode cX0_addPlace 29 = .ok (.getfield 48, 3) := by decide +kernel
theorem dX0_addPlace_32 : decode cX0_addPlace 32 = .ok (.iastore, 1) := by decide +kernel
theorem dX0_addPlace_33 : decode cX0_addPlace 33 = .ok (.aload_n 0, 1) := by decide +kernel
theorem dX0_addPlace_34 : decode cX0_addPlace 34 = .ok (.getfield 36, 3) := by decide +kernel
theorem dX0_addPlace_37 : decode cX0_addPlace 37 = .ok (.aload_n 0, 1) := by decide +kernel
theorem dX0_addPlace_38 : decode cX0_addPlace 38 = .ok (.getfield 48, 3) := by decide +kernel
theorem dX0_addPlace_41 : decode cX0_addPlace 41 = .ok (.iconst 0, 1) := by decide +kernel
theorem dX0_addPlace_42 : decode cX0_addPlace 42 = .ok (.iastore, 1) := by decide +kernel
theorem dX0_addPlace_43 : decode cX0_addPlace 43 = .ok (.aload_n 0, 1) := by decide +kernel
theorem dX0_addPlace_44 : decode cX0_addPlace 44 = .ok (.dup, 1) := by decide +kernel
theorem dX0_addPlace_45 : decode cX0_addPlace 45 = .ok (.getfield 48, 3) := by decide +kernel
theorem dX0_addPlace_48 : decode cX0_addPlace 48 = .ok (.iconst 1, 1) := by decide +kernel
theorem dX0_addPlace_49 : decode cX0_addPlace 49 = .ok (.iadd, 1) := by decide +kernel
theorem dX0_addPlace_50 : decode cX0_addPlace 50 = .ok (.putfield 48, 3) := by decide +kernel
theorem dX0_addPlace_53 : decode cX0_addPlace 53 = .ok (.return_, 1) := by decide +kernel
theorem flRX0_27 : px_f RX0 27 0 6 := ⟨_, rfl, by decide, Or.inl (tb2 (List.mem_of_getElem? (i := 188) rfl))⟩
theorem flRX0_30 : px_f RX0 30 0 7 := ⟨_, rfl, by decide, Or.inl (tb2 (List.mem_of_getElem? (i := 189) rfl))⟩
theorem flRX0_33 : px_f RX0 33 0 8 := ⟨_, rfl, by decide, Or.inl (tb2 (List.mem_of_getElem? (i := 190) rfl))⟩
theorem flRX0_36 : px_f RX0 36 0 9 := ⟨_, rfl, by decide, Or.inl (tb2 (List.mem_of_getElem? (i := 191) rfl))⟩
theorem flRX0_48 : px_f RX0 48 0 5 := ⟨_, rfl, by decide, Or.inl (tb2 (List.mem_of_getElem? (i := 186) rfl))⟩
set_option maxRecDepth 100000 in
set_option maxHeartbeats 4000000 in
theorem eX0_addPlace {X : px_X} {w : px_W} {a0 : Nat} {a1 : Int32} {a2 : Int32} {q : px_W} (h : fX0_addPlace X w a0 a1 a2 = some q) : EV X mX0_addPlace 0 (lv_args 0 [.ref a0, .int a1, .int a2]) [] w none q := by
  unfold fX0_addPlace at h
  show EV X mX0_addPlace 0 [(0, .ref a0), (1, .int a1), (2, .int a2)] [] w none q
  refine EV.aload_n 0 dX0_addPlace_0 rfl rfl ?_
  obtain ⟨v16, gv16, h⟩ := px_bs h
  refine ev_gR dX0_addPlace_1 flRX0_27 gv16 ?_
  refine EV.aload_n 0 dX0_addPlace_4 rfl rfl ?_
  obtain ⟨v17, gv17, h⟩ := px_bs h
  refine ev_gI dX0_addPlace_5 flRX0_48 gv17 ?_
  refine EV.iload_n 1 dX0_addPlace_8 rfl rfl ?_
  obtain ⟨w18, gw18, h⟩ := px_bs h
  refine ev_sI dX0_addPlace_9 gw18 ?_
  refine EV.aload_n 0 dX0_addPlace_10 rfl rfl ?_
  obtain ⟨v19, gv19, h⟩ := px_bs h
  refine ev_gR dX0_addPlace_11 flRX0_30 gv19 ?_
  refine EV.aload_n 0 dX0_addPlace_14 rfl rfl ?_
  obtain ⟨v20, gv20, h⟩ := px_bs h
  refine ev_gI dX0_addPlace_15 flRX0_48 gv20 ?_
  refine EV.iload_n 2 dX0_addPlace_18 rfl rfl ?_
  obtain ⟨w21, gw21, h⟩ := px_bs h
  refine ev_sI dX0_addPlace_19 gw21 ?_
  refine EV.aload_n 0 dX0_addPlace_20 rfl rfl ?_
  obtain ⟨v22, gv22, h⟩ := px_bs h
  refine ev_gR dX0_addPlace_21 flRX0_33 gv22 ?_
  refine EV.aload_n 0 dX0_addPlace_24 rfl rfl ?_
  obtain ⟨v23, gv23, h⟩ := px_bs h
  refine ev_gI dX0_addPlace_25 flRX0_48 gv23 ?_
  refine EV.aload_n 0 dX0_addPlace_28 rfl rfl ?_
  obtain ⟨v24, gv24, h⟩ := px_bs h
  refine ev_gI dX0_addPlace_29 flRX0_48 gv24 ?_
  obtain ⟨w25, gw25, h⟩ := px_bs h
  refine ev_sI dX0_addPlace_32 gw25 ?_
  refine EV.aload_n 0 dX0_addPlace_33 rfl rfl ?_
  obtain ⟨v26, gv26, h⟩ := px_bs h
  refine ev_gR dX0_addPlace_34 flRX0_36 gv26 ?_
  refine EV.aload_n 0 dX0_addPlace_37 rfl rfl ?_
  obtain ⟨v27, gv27, h⟩ := px_bs h
  refine ev_gI dX0_addPlace_38 flRX0_48 gv27 ?_
  refine EV.iconst (0) dX0_addPlace_41 (by decide) ?_
  obtain ⟨w28, gw28, h⟩ := px_bs h
  refine ev_sI dX0_addPlace_42 gw28 ?_
  refine EV.aload_n 0 dX0_addPlace_43 rfl rfl ?_
  refine EV.dup dX0_addPlace_44 rfl ?_
  obtain ⟨v29, gv29, h⟩ := px_bs h
  refine ev_gI dX0_addPlace_45 flRX0_48 gv29 ?_
  refine EV.iconst (1) dX0_addPlace_48 (by decide) ?_
  refine EV.iadd dX0_addPlace_49 ?_
  obtain ⟨w30, gw30, h⟩ := px_bs h
  refine ev_pV dX0_addPlace_50 flRX0_48 rfl rfl rfl rfl gw30 ?_
  cases h
  exact EV.ret0 dX0_addPlace_53 trivial
/-! WavePictures$BestTable.gatherPlaces()V -/
theorem dX0_gatherPlaces_0 : decode cX0_gatherPlaces 0 = .ok (.aload_n 0, 1) := by decide +kernel
theorem dX0_gatherPlaces_1 : decode cX0_gatherPlaces 1 = .ok (.iconst 0, 1) := by decide +kernel
theorem dX0_gatherPlaces_2 : decode cX0_gatherPlaces 2 = .ok (.putfield 48, 3) := by decide +kernel
theorem dX0_gatherPlaces_5 : decode cX0_gatherPlaces 5 = .ok (.iconst 0, 1) := by decide +kernel
theorem dX0_gatherPlaces_6 : decode cX0_gatherPlaces 6 = .ok (.istore_n 1, 1) := by decide +kernel
theorem dX0_gatherPlaces_7 : decode cX0_gatherPlaces 7 = .ok (.iload_n 1, 1) := by decide +kernel
theorem dX0_gatherPlaces_8 : decode cX0_gatherPlaces 8 = .ok (.sipush 256, 3) := by decide +kernel
theorem dX0_gatherPlaces_11 : decode cX0_gatherPlaces 11 = .ok (.if_icmp .ge 29, 3) := by decide +kernel
theorem dX0_gatherPlaces_14 : decode cX0_gatherPlaces 14 = .ok (.aload_n 0, 1) := by decide +kernel
theorem dX0_gatherPlaces_15 : decode cX0_gatherPlaces 15 = .ok (.getfield 9, 3) := by decide +kernel
theorem dX0_gatherPlaces_18 : decode cX0_gatherPlaces 18 = .ok (.iload_n 1, 1) := by decide +kernel
theorem dX0_gatherPlaces_19 : decode cX0_gatherPlaces 19 = .ok (.iaload, 1) := by decide +kernel
theorem dX0_gatherPlaces_20 : decode cX0_gatherPlaces 20 = .ok (.ifCond .le 14, 3) := by decide +kernel
theorem dX0_gatherPlaces_23 : decode cX0_gatherPlaces 23 = .ok (.aload_n 0, 1) := by decide +kernel
theorem dX0_gatherPlaces_24 : decode cX0_gatherPlaces 24 = .ok (.iload_n 1, 1) := by decide +kernel
theorem dX0_gatherPlaces_25 : decode cX0_gatherPlaces 25 = .ok (.aload_n 0, 1) := by decide +kernel
theorem dX0_gatherPlaces_26 : decode cX0_gatherPlaces 26 = .ok (.getfield 9, 3) := by decide +kernel
theorem dX0_gatherPlaces_29 : decode cX0_gatherPlaces 29 = .ok (.iload_n 1, 1) := by decide +kernel
theorem dX0_gatherPlaces_30 : decode cX0_gatherPlaces 30 = .ok (.iaload, 1) := by decide +kernel
theorem dX0_gatherPlaces_31 : decode cX0_gatherPlaces 31 = .ok (.invokevirtual 67, 3) := by decide +kernel
theorem dX0_gatherPlaces_34 : decode cX0_gatherPlaces 34 = .ok (.iinc 1 1, 3) := by decide +kernel
theorem dX0_gatherPlaces_37 : decode cX0_gatherPlaces 37 = .ok (.goto (-30), 3) := by decide +kernel
theorem dX0_gatherPlaces_40 : decode cX0_gatherPlaces 40 = .ok (.aload_n 0, 1) := by decide +kernel
theorem dX0_gatherPlaces_41 : decode cX0_gatherPlaces 41 = .ok (.sipush 256, 3) := by decide +kernel
theorem dX0_gatherPlaces_44 : decode cX0_gatherPlaces 44 = .ok (.iconst 1, 1) := by decide +kernel
theorem dX0_gatherPlaces_45 : decode cX0_gatherPlaces 45 = .ok (.invokevirtual 67, 3) := by decide +kernel
theorem dX0_gatherPlaces_48 : decode cX0_gatherPlaces 48 = .ok (.aload_n 0, 1) := by decide +kernel
theorem dX0_gatherPlaces_49 : decode cX0_gatherPlaces 49 = .ok (.dup, 1) := by decide +kernel
theorem dX0_gatherPlaces_50 : decode cX0_gatherPlaces 50 = .ok (.getfield 48, 3) := by decide +kernel
theorem dX0_gatherPlaces_53 : decode cX0_gatherPlaces 53 = .ok (.iconst 1, 1) := by decide +kernel
theorem dX0_gatherPlaces_54 : decode cX0_gatherPlaces 54 = .ok (.isub, 1) := by decide +kernel
theorem dX0_gatherPlaces_55 : decode cX0_gatherPlaces 55 = .ok (.putfield 48, 3) := by decide +kernel
theorem dX0_gatherPlaces_58 : decode cX0_gatherPlaces 58 = .ok (.return_, 1) := by decide +kernel
theorem mbX0_addPlace : px_mB mX0_addPlace 2 := ⟨tb5 (List.mem_of_getElem? (i := 77) rfl), by decide +kernel, tb1 (List.mem_of_getElem? (i := 11) rfl), by decide +kernel, by decide +kernel⟩
theorem vbX0_addPlace : px_vB mX0_addPlace := ⟨tb5 (List.mem_of_getElem? (i := 76) rfl), List.mem_append_left _ (List.mem_of_getElem? (i := 65) (by decide +kernel))⟩
theorem kcX0_gatherPlaces_67 : px_cV mX0_gatherPlaces 67 mX0_addPlace 2 := ⟨⟨mbX0_addPlace, by decide, by decide⟩, Or.inl (tb5 (List.mem_of_getElem? (i := 74) rfl)), vbX0_addPlace⟩
set_option maxRecDepth 100000 in
set_option maxHeartbeats 4000000 in
theorem eX0_gatherPlaces_40 {X : px_X}  : ∀ (a0 : Nat) (w : px_W) (q : px_W), fX0_gatherPlaces_40 X  a0 w = some q → EV X mX0_gatherPlaces 40 [(0, .ref a0)] [] w none q := by
  intro a0 w q h
  unfold fX0_gatherPlaces_40 at h
  refine EV.aload_n 0 dX0_gatherPlaces_40 rfl rfl ?_
  refine EV.sipush (256) dX0_gatherPlaces_41 (by decide) ?_
  refine EV.iconst (1) dX0_gatherPlaces_44 (by decide) ?_
  obtain ⟨o12, go12, h⟩ := px_bs h
  obtain ⟨q13, gq13, h⟩ := px_bs h
  refine EV.callV (As := [.int 256, .int 1]) (rest := []) dX0_gatherPlaces_45 kcX0_gatherPlaces_67 (gO_ok go12) rfl rfl rfl (Nat.le_of_ble_eq_true rfl) (Nat.le_of_ble_eq_true rfl) (eX0_addPlace gq13) ?_
  refine EV.aload_n 0 dX0_gatherPlaces_48 rfl rfl ?_
  refine EV.dup dX0_gatherPlaces_49 rfl ?_
  obtain ⟨v14, gv14, h⟩ := px_bs h
  refine ev_gI dX0_gatherPlaces_50 flRX0_48 gv14 ?_
  refine EV.iconst (1) dX0_gatherPlaces_53 (by decide) ?_
  refine EV.isub dX0_gatherPlaces_54 ?_
  obtain ⟨w15, gw15, h⟩ := px_bs h
  refine ev_pV dX0_gatherPlaces_55 flRX0_48 rfl rfl rfl rfl gw15 ?_
  cases h
  exact EV.ret0 dX0_gatherPlaces_58 trivial
set_option maxRecDepth 100000 in
set_option maxHeartbeats 4000000 in
theorem eX0_gatherPlaces_34 {X : px_X} {k7 : Nat → Int32 → px_W → Option (px_W)} (hk7 : ∀ (a0 : Nat) (a1 : Int32) (w : px_W) (q : px_W), k7 a0 a1 w = some q → EV X mX0_gatherPlaces 7 [(0, .ref a0), (1, .int a1)] [] w none q) : ∀ (a0 : Nat) (a1 : Int32) (w : px_W) (q : px_W), fX0_gatherPlaces_34 X k7 a0 a1 w = some q → EV X mX0_gatherPlaces 34 [(0, .ref a0), (1, .int a1)] [] w none q := by
  intro a0 a1 w q h
  unfold fX0_gatherPlaces_34 at h
  refine EV.iinc 1 (a1 + 1) [(1, .int (a1 + 1)), (0, .ref a0)] dX0_gatherPlaces_34 rfl rfl (by decide) rfl ?_
  refine EV.goto 7 dX0_gatherPlaces_37 (by decide) ?_
  refine EV.sub [1, 0] rfl ?_
  exact hk7 _ _ _ _ h
set_option maxRecDepth 100000 in
set_option maxHeartbeats 4000000 in
theorem eX0_gatherPlaces_7 {X : px_X}  : ∀ (m : Nat) (a0 : Nat) (a1 : Int32) (w : px_W) (q : px_W), fX0_gatherPlaces_7 X  m a0 a1 w = some q → EV X mX0_gatherPlaces 7 [(0, .ref a0), (1, .int a1)] [] w none q := by
  intro m
  induction m with
  | zero => intro a0 a1 w q h; cases h
  | succ m ih =>
    intro a0 a1 w q h
    rw [fX0_gatherPlaces_7.eq_2] at h
    refine EV.iload_n 1 dX0_gatherPlaces_7 rfl rfl ?_
    refine EV.sipush (256) dX0_gatherPlaces_8 (by decide) ?_
    refine EV.icmp_ge 40 dX0_gatherPlaces_11 (by decide) (fun c16 => ?_) (fun c16 => ?_)
    · rw [if_pos c16] at h
      refine EV.sub [0] rfl ?_
      exact eX0_gatherPlaces_40  _ _ _ h
    · rw [if_neg c16] at h
      refine EV.aload_n 0 dX0_gatherPlaces_14 rfl rfl ?_
      obtain ⟨v17, gv17, h⟩ := px_bs h
      refine ev_gR dX0_gatherPlaces_15 flRX0_9 gv17 ?_
      refine EV.iload_n 1 dX0_gatherPlaces_18 rfl rfl ?_
      obtain ⟨v18, gv18, h⟩ := px_bs h
      refine ev_aI dX0_gatherPlaces_19 gv18 ?_
      refine EV.if_le 34 dX0_gatherPlaces_20 (by decide) (fun c19 => ?_) (fun c19 => ?_)
      · rw [if_pos c19] at h
        refine EV.sub [0, 1] rfl ?_
        exact eX0_gatherPlaces_34 ih _ _ _ _ h
      · rw [if_neg c19] at h
        refine EV.aload_n 0 dX0_gatherPlaces_23 rfl rfl ?_
        refine EV.iload_n 1 dX0_gatherPlaces_24 rfl rfl ?_
        refine EV.aload_n 0 dX0_gatherPlaces_25 rfl rfl ?_
        obtain ⟨v20, gv20, h⟩ := px_bs h
        refine ev_gR dX0_gatherPlaces_26 flRX0_9 gv20 ?_
        refine EV.iload_n 1 dX0_gatherPlaces_29 rfl rfl ?_
        obtain ⟨v21, gv21, h⟩ := px_bs h
        refine ev_aI dX0_gatherPlaces_30 gv21 ?_
        obtain ⟨o22, go22, h⟩ := px_bs h
        obtain ⟨q23, gq23, h⟩ := px_bs h
        refine EV.callV (As := [.int a1, .int v21]) (rest := []) dX0_gatherPlaces_31 kcX0_gatherPlaces_67 (gO_ok go22) rfl rfl rfl (Nat.le_of_ble_eq_true rfl) (Nat.le_of_ble_eq_true rfl) (eX0_addPlace gq23) ?_
        refine EV.sub [0, 1] rfl ?_
        exact eX0_gatherPlaces_34 ih _ _ _ _ h
set_option maxRecDepth 100000 in
set_option maxHeartbeats 4000000 in
theorem eX0_gatherPlaces {X : px_X} {w : px_W} {a0 : Nat} {q : px_W} (h : fX0_gatherPlaces X w a0 = some q) : EV X mX0_gatherPlaces 0 (lv_args 0 [.ref a0]) [] w none q := by
  unfold fX0_gatherPlaces at h
  show EV X mX0_gatherPlaces 0 [(0, .ref a0)] [] w none q
  refine EV.aload_n 0 dX0_gatherPlaces_0 rfl rfl ?_
  refine EV.iconst (0) dX0_gatherPlaces_1 (by decide) ?_
  obtain ⟨w24, gw24, h⟩ := px_bs h
  refine ev_pV dX0_gatherPlaces_2 flRX0_48 rfl rfl rfl rfl gw24 ?_
  refine EV.iconst (0) dX0_gatherPlaces_5 (by decide) ?_
  refine EV.istore_n [(1, .int 0), (0, .ref a0)] dX0_gatherPlaces_6 rfl (by decide) rfl ?_
  refine EV.sub [1, 0] rfl ?_
  exact eX0_gatherPlaces_7  FU _ _ _ _ h
/-! WavePictures$BestTable.joinTwoGroups()V -/
theorem dX0_joinTwoGroups_0 : decode cX0_joinTwoGroups 0 = .ok (.iconst (-1), 1) := by decide +kernel
theorem dX0_joinTwoGroups_1 : decode cX0_joinTwoGroups 1 = .ok (.istore_n 1, 1) := by decide +kernel
theorem dX0_joinTwoGroups_2 : decode cX0_joinTwoGroups 2 = .ok (.iconst (-1), 1) := by decide +kernel
theorem dX0_joinTwoGroups_3 : decode cX0_joinTwoGroups 3 = .ok (.istore_n 2, 1) := by decide +kernel
theorem dX0_joinTwoGroups_4 : decode cX0_joinTwoGroups 4 = .ok (.iconst 0, 1) := by decide +kernel
theorem dX0_joinTwoGroups_5 : decode cX0_joinTwoGroups 5 = .ok (.istore_n 3, 1) := by decide +kernel
theorem dX0_joinTwoGroups_6 : decode cX0_joinTwoGroups 6 = .ok (.iload_n 3, 1) := by decide +kernel
theorem dX0_joinTwoGroups_7 : decode cX0_joinTwoGroups 7 = .ok (.aload_n 0, 1) := by decide +kernel
theorem dX0_joinTwoGroups_8 : decode cX0_joinTwoGroups 8 = .ok (.getfield 48, 3) := by decide +kernel
theorem dX0_joinTwoGroups_11 : decode cX0_joinTwoGroups 11 = .ok (.if_icmp .gt 76, 3) := by decide +kernel
theorem dX0_joinTwoGroups_14 : decode cX0_joinTwoGroups 14 = .ok (.aload_n 0, 1) := by decide +kernel
theorem dX0_joinTwoGroups_15 : decode cX0_joinTwoGroups 15 = .ok (.getfield 30, 3) := by decide +kernel
theorem dX0_joinTwoGroups_18 : decode cX0_joinTwoGroups 18 = .ok (.iload_n 3, 1) := by decide +kernel
theorem dX0_joinTwoGroups_19 : decode cX0_joinTwoGroups 19 = .ok (.iaload, 1) := by decide +kernel
theorem dX0_joinTwoGroups_20 : decode cX0_joinTwoGroups 20 = .ok (.ifCond .le 30, 3) := by decide +kernel
theorem dX0_joinTwoGroups_23 : decode cX0_joinTwoGroups 23 = .ok (.iload_n 1, 1) := by decide +kernel
theorem dX0_joinTwoGroups_24 : decode cX0_joinTwoGroups 24 = .ok (.iconst (-1), 1) := by decide +kernel
theorem dX0_joinTwoGroups_25 : decode cX0_joinTwoGroups 25 = .ok (.if_icmp .eq 18, 3) := by decide +kernel
theorem dX0_joinTwoGroups_28 : decode cX0_joinTwoGroups 28 = .ok (.aload_n 0, 1) := by decide +kernel
theorem dX0_joinTwoGroups_29 : decode cX0_joinTwoGroups 29 = .ok (.getfield 30, 3) := by decide +kernel
theorem dX0_joinTwoGroups_32 : decode cX0_joinTwoGroups 32 = .ok (.iload_n 3, 1) := by decide +kernel
theorem dX0_joinTwoGroups_33 : decode cX0_joinTwoGroups 33 = .ok (.iaload, 1) := by decide +kernel
theorem dX0_joinTwoGroups_34 : decode cX0_joinTwoGroups 34 = .ok (.aload_n 0, 1) := by decide +kernel
theorem dX0_joinTwoGroups_35 : decode cX0_joinTwoGroups 35 = .ok (.getfield 30, 3) := by decide +kernel
theorem dX0_joinTwoGroups_38 : decode cX0_joinTwoGroups 38 = .ok (.iload_n 1, 1) := by decide +kernel
theorem dX0_joinTwoGroups_39 : decode cX0_joinTwoGroups 39 = .ok (.iaload, 1) := by decide +kernel
theorem dX0_joinTwoGroups_40 : decode cX0_joinTwoGroups 40 = .ok (.if_icmp .gt 10, 3) := by decide +kernel
theorem dX0_joinTwoGroups_43 : decode cX0_joinTwoGroups 43 = .ok (.iload_n 1, 1) := by decide +kernel
theorem dX0_joinTwoGroups_44 : decode cX0_joinTwoGroups 44 = .ok (.istore_n 2, 1) := by decide +kernel
theorem dX0_joinTwoGroups_45 : decode cX0_joinTwoGroups 45 = .ok (.iload_n 3, 1) := by decide +kernel
theorem dX0_joinTwoGroups_46 : decode cX0_joinTwoGroups 46 = .ok (.istore_n 1, 1) := by decide +kernel
theorem dX0_joinTwoGroups_47 : decode cX0_joinTwoGroups 47 = .ok (.goto 34, 3) := by decide +kernel
theorem dX0_joinTwoGroups_50 : decode cX0_joinTwoGroups 50 = .ok (.aload_n 0, 1) := by decide +kernel
theorem dX0_joinTwoGroups_51 : decode cX0_joinTwoGroups 51 = .ok (.getfield 30, 3) := by decide +kernel
theorem dX0_joinTwoGroups_54 : decode cX0_joinTwoGroups 54 = .ok (.iload_n 3, 1) := by decide +kernel
theorem dX0_joinTwoGroups_55 : decode cX0_joinTwoGroups 55 = .ok (.iaload, 1) := by decide +kernel
theorem dX0_joinTwoGroups_56 : decode cX0_joinTwoGroups 56 = .ok (.ifCond .le 25, 3) := by decide +kernel
theorem dX0_joinTwoGroups_59 : decode cX0_joinTwoGroups 59 = .ok (.iload_n 2, 1) := by decide +kernel
theorem dX0_joinTwoGroups_60 : decode cX0_joinTwoGroups 60 = .ok (.iconst (-1), 1) := by decide +kernel
theorem dX0_joinTwoGroups_61 : decode cX0_joinTwoGroups 61 = .ok (.if_icmp .eq 18, 3) := by decide +kernel
theorem dX0_joinTwoGroups_64 : decode cX0_joinTwoGroups 64 = .ok (.aload_n 0, 1) := by decide +kernel
theorem dX0_joinTwoGroups_65 : decode cX0_joinTwoGroups 65 = .ok (.getfield 30, 3) := by decide +kernel
theorem dX0_joinTwoGroups_68 : decode cX0_joinTwoGroups 68 = .ok (.iload_n 3, 1) := by decide +kernel
theorem dX0_joinTwoGroups_69 : decode cX0_joinTwoGroups 69 = .ok (.iaload, 1) := by decide +kernel
theorem dX0_joinTwoGroups_70 : decode cX0_joinTwoGroups 70 = .ok (.aload_n 0, 1) := by decide +kernel
theorem dX0_joinTwoGroups_71 : decode cX0_joinTwoGroups 71 = .ok (.getfield 30, 3) := by decide +kernel
theorem dX0_joinTwoGroups_74 : decode cX0_joinTwoGroups 74 = .ok (.iload_n 2, 1) := by decide +kernel
theorem dX0_joinTwoGroups_75 : decode cX0_joinTwoGroups 75 = .ok (.iaload, 1) := by decide +kernel
theorem dX0_joinTwoGroups_76 : decode cX0_joinTwoGroups 76 = .ok (.if_icmp .gt 5, 3) := by decide +kernel
theorem dX0_joinTwoGroups_79 : decode cX0_joinTwoGroups 79 = .ok (.iload_n 3, 1) := by decide +kernel
theorem dX0_joinTwoGroups_80 : decode cX0_joinTwoGroups 80 = .ok (.istore_n 2, 1) := by decide +kernel
theorem dX0_joinTwoGroups_81 : decode cX0_joinTwoGroups 81 = .ok (.iinc 3 1, 3) := by decide +kernel
theorem dX0_joinTwoGroups_84 : decode cX0_joinTwoGroups 84 = .ok (.goto (-78), 3) := by decide +kernel
theorem dX0_joinTwoGroups_87 : decode cX0_joinTwoGroups 87 = .ok (.iload_n 2, 1) := by decide +kernel
theorem dX0_joinTwoGroups_88 : decode cX0_joinTwoGroups 88 = .ok (.iconst (-1), 1) := by decide +kernel
theorem dX0_joinTwoGroups_89 : decode cX0_joinTwoGroups 89 = .ok (.if_icmp .ne 4, 3) := by decide +kernel
theorem dX0_joinTwoGroups_92 : decode cX0_joinTwoGroups 92 = .ok (.return_, 1) := by decide +kernel
theorem dX0_joinTwoGroups_93 : decode cX0_joinTwoGroups 93 = .ok (.aload_n 0, 1) := by decide +kernel
theorem dX0_joinTwoGroups_94 : decode cX0_joinTwoGroups 94 = .ok (.getfield 30, 3) := by decide +kernel
theorem dX0_joinTwoGroups_97 : decode cX0_joinTwoGroups 97 = .ok (.iload_n 1, 1) := by decide +kernel
theorem dX0_joinTwoGroups_98 : decode cX0_joinTwoGroups 98 = .ok (.dup2, 1) := by decide +kernel
theorem dX0_joinTwoGroups_99 : decode cX0_joinTwoGroups 99 = .ok (.iaload, 1) := by decide +kernel
theorem dX0_joinTwoGroups_100 : decode cX0_joinTwoGroups 100 = .ok (.aload_n 0, 1) := by decide +kernel
theorem dX0_joinTwoGroups_101 : decode cX0_joinTwoGroups 101 = .ok (.getfield 30, 3) := by decide +kernel
theorem dX0_joinTwoGroups_104 : decode cX0_joinTwoGroups 104 = .ok (.iload_n 2, 1) := by decide +kernel
theorem dX0_joinTwoGroups_105 : decode cX0_joinTwoGroups 105 = .ok (.iaload, 1) := by decide +kernel
theorem dX0_joinTwoGroups_106 : decode cX0_joinTwoGroups 106 = .ok (.iadd, 1) := by decide +kernel
theorem dX0_joinTwoGroups_107 : decode cX0_joinTwoGroups 107 = .ok (.iastore, 1) := by decide +kernel
theorem dX0_joinTwoGroups_108 : decode cX0_joinTwoGroups 108 = .ok (.aload_n 0, 1) := by decide +kernel
theorem dX0_joinTwoGroups_109 : decode cX0_joinTwoGroups 109 = .ok (.getfield 30, 3) := by decide +kernel
theorem dX0_joinTwoGroups_112 : decode cX0_joinTwoGroups 112 = .ok (.iload_n 2, 1) := by decide +kernel
theorem dX0_joinTwoGroups_113 : decode cX0_joinTwoGroups 113 = .ok (.iconst 0, 1) := by decide +kernel
theorem dX0_joinTwoGroups_114 : decode cX0_joinTwoGroups 114 = .ok (.iastore, 1) := by decide +kernel
theorem dX0_joinTwoGroups_115 : decode cX0_joinTwoGroups 115 = .ok (.iconst 0, 1) := by decide +kernel
theorem dX0_joinTwoGroups_116 : decode cX0_joinTwoGroups 116 = .ok (.istore_n 3, 1) := by decide +kernel
theorem dX0_joinTwoGroups_117 : decode cX0_joinTwoGroups 117 = .ok (.iload_n 3, 1) := by decide +kernel
theorem dX0_joinTwoGroups_118 : decode cX0_joinTwoGroups 118 = .ok (.aload_n 0, 1) := by decide +kernel
theorem dX0_joinTwoGroups_119 : decode cX0_joinTwoGroups 119 = .ok (.getfield 48, 3) := by decide +kernel
theorem dX0_joinTwoGroups_122 : decode cX0_joinTwoGroups 122 = .ok (.if_icmp .gt 46, 3) := by decide +kernel
theorem dX0_joinTwoGroups_125 : decode cX0_joinTwoGroups 125 = .ok (.aload_n 0, 1) := by decide +kernel
theorem dX0_joinTwoGroups_126 : decode cX0_joinTwoGroups 126 = .ok (.getfield 33, 3) := by decide +kernel
theorem dX0_joinTwoGroups_129 : decode cX0_joinTwoGroups 129 = .ok (.iload_n 3, 1) := by decide +kernel
theorem dX0_joinTwoGroups_130 : decode cX0_joinTwoGroups 130 = .ok (.iaload, 1) := by decide +kernel
theorem dX0_joinTwoGroups_131 : decode cX0_joinTwoGroups 131 = .ok (.iload_n 1, 1) := by decide +kernel
theorem dX0_joinTwoGroups_132 : decode cX0_joinTwoGroups 132 = .ok (.if_icmp .eq 13, 3) := by decide +kernel
theorem dX0_joinTwoGroups_135 : decode cX0_joinTwoGroups 135 = .ok (.aload_n 0, 1) := by decide +kernel
theorem dX0_joinTwoGroups_136 : decode cX0_joinTwoGroups 136 = .ok (.getfield 33, 3) := by decide +kernel
theorem dX0_joinTwoGroups_139 : decode cX0_joinTwoGroups 139 = .ok (.iload_n 3, 1) := by decide +kernel
theorem dX0_joinTwoGroups_140 : decode cX0_joinTwoGroups 140 = .ok (.iaload, 1) := by decide +kernel
theorem dX0_joinTwoGroups_141 : decode cX0_joinTwoGroups 141 = .ok (.iload_n 2, 1) := by decide +kernel
theorem dX0_joinTwoGroups_142 : decode cX0_joinTwoGroups 142 = .ok (.if_icmp .ne 20, 3) := by decide +kernel
theorem dX0_joinTwoGroups_145 : decode cX0_joinTwoGroups 145 = .ok (.aload_n 0, 1) := by decide +kernel
theorem dX0_joinTwoGroups_146 : decode cX0_joinTwoGroups 146 = .ok (.getfield 33, 3) := by decide +kernel
theorem dX0_joinTwoGroups_149 : decode cX0_joinTwoGroups 149 = .ok (.iload_n 3, 1) := by decide +kernel
theorem dX0_joinTwoGroups_150 : decode cX0_joinTwoGroups 150 = .ok (.iload_n 1, 1) := by decide +kernel
theorem dX0_joinTwoGroups_151 : decode cX0_joinTwoGroups 151 = .ok (.iastore, 1) := by decide +kernel
theorem dX0_joinTwoGroups_152 : decode cX0_joinTwoGroups 152 = .ok (.aload_n 0, 1) := by decide +kernel
theorem dX0_joinTwoGroups_153 : decode cX0_joinTwoGroups 153 = .ok (.getfield 36, 3) := by decide +kernel
theorem dX0_joinTwoGroups_156 : decode cX0_joinTwoGroups 156 = .ok (.iload_n 3, 1) := by decide +kernel
theorem dX0_joinTwoGroups_157 : decode cX0_joinTwoGroups 157 = .ok (.dup2, 1) := by decide +kernel
theorem dX0_joinTwoGroups_158 : decode cX0_joinTwoGroups 158 = .ok (.iaload, 1) := by decide +kernel
theorem dX0_joinTwoGroups_159 : decode cX0_joinTwoGroups 159 = .ok (.iconst 1, 1) := by decide +kernel
theorem dX0_joinTwoGroups_160 : decode cX0_joinTwoGroups 160 = .ok (.iadd, 1) := by decide +kernel
theorem dX0_joinTwoGroups_161 : decode cX0_joinTwoGroups 161 = .ok (.iastore, 1) := by decide +kernel
theorem dX0_joinTwoGroups_162 : decode cX0_joinTwoGroups 162 = .ok (.iinc 3 1, 3) := by decide +kernel
theorem dX0_joinTwoGroups_165 : decode cX0_joinTwoGroups 165 = .ok (.goto (-48), 3) := by decide +kernel
theorem dX0_joinTwoGroups_168 : decode cX0_joinTwoGroups 168 = .ok (.return_, 1) := by decide +kernel
set_option maxRecDepth 100000 in
set_option maxHeartbeats 4000000 in
theorem eX0_joinTwoGroups_81 {X : px_X} {k6 : Nat → Int32 → Int32 → Int32 → px_W → Option (px_W)} (hk6 : ∀ (a0 : Nat) (a1 : Int32) (a2 : Int32) (a3 : Int32) (w : px_W) (q : px_W), k6 a0 a1 a2 a3 w = some q → EV X mX0_joinTwoGroups 6 [(0, .ref a0), (1, .int a1), (2, .int a2), (3, .int a3)] [] w none q) : ∀ (a0 : Nat) (a1 : Int32) (a2 : Int32) (a3 : Int32) (w : px_W) (q : px_W), fX0_joinTwoGroups_81 X k6 a0 a1 a2 a3 w = some q → EV X mX0_joinTwoGroups 81 [(0, .ref a0), (1, .int a1), (2, .int a2), (3, .int a3)] [] w none q := by
  intro a0 a1 a2 a3 w q h
  unfold fX0_joinTwoGroups_81 at h
  refine EV.iinc 3 (a3 + 1) [(3, .int (a3 + 1)), (0, .ref a0), (1, .int a1), (2, .int a2)] dX0_joinTwoGroups_81 rfl rfl (by decide) rfl ?_
  refine EV.goto 6 dX0_joinTwoGroups_84 (by decide) ?_
  refine EV.sub [1, 2, 3, 0] rfl ?_
  exact hk6 _ _ _ _ _ _ h
set_option maxRecDepth 100000 in
set_option maxHeartbeats 4000000 in
theorem eX0_joinTwoGroups_79 {X : px_X} {k6 : Nat → Int32 → Int32 → Int32 → px_W → Option (px_W)} (hk6 : ∀ (a0 : Nat) (a1 : Int32) (a2 : Int32) (a3 : Int32) (w : px_W) (q : px_W), k6 a0 a1 a2 a3 w = some q → EV X mX0_joinTwoGroups 6 [(0, .ref a0), (1, .int a1), (2, .int a2), (3, .int a3)] [] w none q) : ∀ (a0 : Nat) (a1 : Int32) (a3 : Int32) (w : px_W) (q : px_W), fX0_joinTwoGroups_79 X k6 a0 a1 a3 w = some q → EV X mX0_joinTwoGroups 79 [(0, .ref a0), (1, .int a1), (3, .int a3)] [] w none q := by
  intro a0 a1 a3 w q h
  unfold fX0_joinTwoGroups_79 at h
  refine EV.iload_n 2 dX0_joinTwoGroups_79 rfl rfl ?_
  refine EV.istore_n [(2, .int a3), (0, .ref a0), (1, .int a1), (3, .int a3)] dX0_joinTwoGroups_80 rfl (by decide) rfl ?_
  refine EV.sub [1, 2, 0, 3] rfl ?_
  exact eX0_joinTwoGroups_81 hk6 _ _ _ _ _ _ h
set_option maxRecDepth 100000 in
set_option maxHeartbeats 4000000 in
theorem eX0_joinTwoGroups_50 {X : px_X} {k6 : Nat → Int32 → Int32 → Int32 → px_W → Option (px_W)} (hk6 : ∀ (a0 : Nat) (a1 : Int32) (a2 : Int32) (a3 : Int32) (w : px_W) (q : px_W), k6 a0 a1 a2 a3 w = some q → EV X mX0_joinTwoGroups 6 [(0, .ref a0), (1, .int a1), (2, .int a2), (3, .int a3)] [] w none q) : ∀ (a0 : Nat) (a1 : Int32) (a2 : Int32) (a3 : Int32) (w : px_W) (q : px_W), fX0_joinTwoGroups_50 X k6 a0 a1 a2 a3 w = some q → EV X mX0_joinTwoGroups 50 [(0, .ref a0), (1, .int a1), (2, .int a2), (3, .int a3)] [] w none q := by
  intro a0 a1 a2 a3 w q h
  unfold fX0_joinTwoGroups_50 at h
  refine EV.aload_n 0 dX0_joinTwoGroups_50 rfl rfl ?_
  obtain ⟨v31, gv31, h⟩ := px_bs h
  refine ev_gR dX0_joinTwoGroups_51 flRX0_30 gv31 ?_
  refine EV.iload_n 3 dX0_joinTwoGroups_54 rfl rfl ?_
  obtain ⟨v32, gv32, h⟩ := px_bs h
  refine ev_aI dX0_joinTwoGroups_55 gv32 ?_
  refine EV.if_le 81 dX0_joinTwoGroups_56 (by decide) (fun c33 => ?_) (fun c33 => ?_)
  · rw [if_pos c33] at h
    refine EV.sub [0, 1, 2, 3] rfl ?_
    exact eX0_joinTwoGroups_81 hk6 _ _ _ _ _ _ h
  · rw [if_neg c33] at h
    refine EV.iload_n 2 dX0_joinTwoGroups_59 rfl rfl ?_
    refine EV.iconst ((-1)) dX0_joinTwoGroups_60 (by decide) ?_
    refine EV.icmp_eq 79 dX0_joinTwoGroups_61 (by decide) (fun c34 => ?_) (fun c34 => ?_)
    · rw [if_pos c34] at h
      refine EV.sub [0, 1, 3] rfl ?_
      exact eX0_joinTwoGroups_79 hk6 _ _ _ _ _ h
    · rw [if_neg c34] at h
      refine EV.aload_n 0 dX0_joinTwoGroups_64 rfl rfl ?_
      obtain ⟨v35, gv35, h⟩ := px_bs h
      refine ev_gR dX0_joinTwoGroups_65 flRX0_30 gv35 ?_
      refine EV.iload_n 3 dX0_joinTwoGroups_68 rfl rfl ?_
      obtain ⟨v36, gv36, h⟩ := px_bs h
      refine ev_aI dX0_joinTwoGroups_69 gv36 ?_
      refine EV.aload_n 0 dX0_joinTwoGroups_70 rfl rfl ?_
      obtain ⟨v37, gv37, h⟩ := px_bs h
      refine ev_gR dX0_joinTwoGroups_71 flRX0_30 gv37 ?_
      refine EV.iload_n 2 dX0_joinTwoGroups_74 rfl rfl ?_
      obtain ⟨v38, gv38, h⟩ := px_bs h
      refine ev_aI dX0_joinTwoGroups_75 gv38 ?_
      refine EV.icmp_gt 81 dX0_joinTwoGroups_76 (by decide) (fun c39 => ?_) (fun c39 => ?_)
      · rw [if_pos c39] at h
        refine EV.sub [0, 1, 2, 3] rfl ?_
        exact eX0_joinTwoGroups_81 hk6 _ _ _ _ _ _ h
      · rw [if_neg c39] at h
        refine EV.sub [0, 1, 3] rfl ?_
        exact eX0_joinTwoGroups_79 hk6 _ _ _ _ _ h
set_option maxRecDepth 100000 in
set_option maxHeartbeats 4000000 in
theorem eX0_joinTwoGroups_43 {X : px_X} {k6 : Nat → Int32 → Int32 → Int32 → px_W → Option (px_W)} (hk6 : ∀ (a0 : Nat) (a1 : Int32) (a2 : Int32) (a3 : Int32) (w : px_W) (q : px_W), k6 a0 a1 a2 a3 w = some q → EV X mX0_joinTwoGroups 6 [(0, .ref a0), (1, .int a1), (2, .int a2), (3, .int a3)] [] w none q) : ∀ (a0 : Nat) (a1 : Int32) (a3 : Int32) (w : px_W) (q : px_W), fX0_joinTwoGroups_43 X k6 a0 a1 a3 w = some q → EV X mX0_joinTwoGroups 43 [(0, .ref a0), (1, .int a1), (3, .int a3)] [] w none q := by
  intro a0 a1 a3 w q h
  unfold fX0_joinTwoGroups_43 at h
  refine EV.iload_n 1 dX0_joinTwoGroups_43 rfl rfl ?_
  refine EV.istore_n [(2, .int a1), (0, .ref a0), (1, .int a1), (3, .int a3)] dX0_joinTwoGroups_44 rfl (by decide) rfl ?_
  refine EV.iload_n 3 dX0_joinTwoGroups_45 rfl rfl ?_
  refine EV.istore_n [(1, .int a3), (2, .int a1), (0, .ref a0), (3, .int a3)] dX0_joinTwoGroups_46 rfl (by decide) rfl ?_
  refine EV.goto 81 dX0_joinTwoGroups_47 (by decide) ?_
  refine EV.sub [2, 0, 1, 3] rfl ?_
  exact eX0_joinTwoGroups_81 hk6 _ _ _ _ _ _ h
set_option maxRecDepth 100000 in
set_option maxHeartbeats 4000000 in
theorem eX0_joinTwoGroups_162 {X : px_X} {k117 : Nat → Int32 → Int32 → Int32 → px_W → Option (px_W)} (hk117 : ∀ (a0 : Nat) (a1 : Int32) (a2 : Int32) (a3 : Int32) (w : px_W) (q : px_W), k117 a0 a1 a2 a3 w = some q → EV X mX0_joinTwoGroups 117 [(0, .ref a0), (1, .int a1), (2, .int a2), (3, .int a3)] [] w none q) : ∀ (a0 : Nat) (a1 : Int32) (a2 : Int32) (a3 : Int32) (w : px_W) (q : px_W), fX0_joinTwoGroups_162 X k117 a0 a1 a2 a3 w = some q → EV X mX0_joinTwoGroups 162 [(0, .ref a0), (1, .int a1), (2, .int a2), (3, .int a3)] [] w none q := by
  intro a0 a1 a2 a3 w q h
  unfold fX0_joinTwoGroups_162 at h
  refine EV.iinc 3 (a3 + 1) [(3, .int (a3 + 1)), (0, .ref a0), (1, .int a1), (2, .int a2)] dX0_joinTwoGroups_162 rfl rfl (by decide) rfl ?_
  refine EV.goto 117 dX0_joinTwoGroups_165 (by decide) ?_
  refine EV.sub [1, 2, 3, 0] rfl ?_
  exact hk117 _ _ _ _ _ _ h
set_option maxRecDepth 100000 in
set_option maxHeartbeats 4000000 in
theorem eX0_joinTwoGroups_145 {X : px_X} {k117 : Nat → Int32 → Int32 → Int32 → px_W → Option (px_W)} (hk117 : ∀ (a0 : Nat) (a1 : Int32) (a2 : Int32) (a3 : Int32) (w : px_W) (q : px_W), k117 a0 a1 a2 a3 w = some q → EV X mX0_joinTwoGroups 117 [(0, .ref a0), (1, .int a1), (2, .int a2), (3, .int a3)] [] w none q) : ∀ (a0 : Nat) (a1 : Int32) (a2 : Int32) (a3 : Int32) (w : px_W) (q : px_W), fX0_joinTwoGroups_145 X k117 a0 a1 a2 a3 w = some q → EV X mX0_joinTwoGroups 145 [(0, .ref a0), (1, .int a1), (2, .int a2), (3, .int a3)] [] w none q := by
  intro a0 a1 a2 a3 w q h
  unfold fX0_joinTwoGroups_145 at h
  refine EV.aload_n 0 dX0_joinTwoGroups_145 rfl rfl ?_
  obtain ⟨v40, gv40, h⟩ := px_bs h
  refine ev_gR dX0_joinTwoGroups_146 flRX0_33 gv40 ?_
  refine EV.iload_n 3 dX0_joinTwoGroups_149 rfl rfl ?_
  refine EV.iload_n 1 dX0_joinTwoGroups_150 rfl rfl ?_
  obtain ⟨w41, gw41, h⟩ := px_bs h
  refine ev_sI dX0_joinTwoGroups_151 gw41 ?_
  refine EV.aload_n 0 dX0_joinTwoGroups_152 rfl rfl ?_
  obtain ⟨v42, gv42, h⟩ := px_bs h
  refine ev_gR dX0_joinTwoGroups_153 flRX0_36 gv42 ?_
  refine EV.iload_n 3 dX0_joinTwoGroups_156 rfl rfl ?_
  refine EV.dup2 dX0_joinTwoGroups_157 rfl rfl ?_
  obtain ⟨v43, gv43, h⟩ := px_bs h
  refine ev_aI dX0_joinTwoGroups_158 gv43 ?_
  refine EV.iconst (1) dX0_joinTwoGroups_159 (by decide) ?_
  refine EV.iadd dX0_joinTwoGroups_160 ?_
  obtain ⟨w44, gw44, h⟩ := px_bs h
  refine ev_sI dX0_joinTwoGroups_161 gw44 ?_
  refine EV.sub [0, 1, 2, 3] rfl ?_
  exact eX0_joinTwoGroups_162 hk117 _ _ _ _ _ _ h
set_option maxRecDepth 100000 in
set_option maxHeartbeats 4000000 in
theorem eX0_joinTwoGroups_117 {X : px_X}  : ∀ (m : Nat) (a0 : Nat) (a1 : Int32) (a2 : Int32) (a3 : Int32) (w : px_W) (q : px_W), fX0_joinTwoGroups_117 X  m a0 a1 a2 a3 w = some q → EV X mX0_joinTwoGroups 117 [(0, .ref a0), (1, .int a1), (2, .int a2), (3, .int a3)] [] w none q := by
  intro m
  induction m with
  | zero => intro a0 a1 a2 a3 w q h; cases h
  | succ m ih =>
    intro a0 a1 a2 a3 w q h
    rw [fX0_joinTwoGroups_117.eq_2] at h
    refine EV.iload_n 3 dX0_joinTwoGroups_117 rfl rfl ?_
    refine EV.aload_n 0 dX0_joinTwoGroups_118 rfl rfl ?_
    obtain ⟨v45, gv45, h⟩ := px_bs h
    refine ev_gI dX0_joinTwoGroups_119 flRX0_48 gv45 ?_
    refine EV.icmp_gt 168 dX0_joinTwoGroups_122 (by decide) (fun c46 => ?_) (fun c46 => ?_)
    · rw [if_pos c46] at h
      cases h
      exact EV.ret0 dX0_joinTwoGroups_168 trivial
    · rw [if_neg c46] at h
      refine EV.aload_n 0 dX0_joinTwoGroups_125 rfl rfl ?_
      obtain ⟨v47, gv47, h⟩ := px_bs h
      refine ev_gR dX0_joinTwoGroups_126 flRX0_33 gv47 ?_
      refine EV.iload_n 3 dX0_joinTwoGroups_129 rfl rfl ?_
      obtain ⟨v48, gv48, h⟩ := px_bs h
      refine ev_aI dX0_joinTwoGroups_130 gv48 ?_
      refine EV.iload_n 1 dX0_joinTwoGroups_131 rfl rfl ?_
      refine EV.icmp_eq 145 dX0_joinTwoGroups_132 (by decide) (fun c49 => ?_) (fun c49 => ?_)
      · rw [if_pos c49] at h
        refine EV.sub [0, 1, 2, 3] rfl ?_
        exact eX0_joinTwoGroups_145 ih _ _ _ _ _ _ h
      · rw [if_neg c49] at h
        refine EV.aload_n 0 dX0_joinTwoGroups_135 rfl rfl ?_
        obtain ⟨v50, gv50, h⟩ := px_bs h
        refine ev_gR dX0_joinTwoGroups_136 flRX0_33 gv50 ?_
        refine EV.iload_n 3 dX0_joinTwoGroups_139 rfl rfl ?_
        obtain ⟨v51, gv51, h⟩ := px_bs h
        refine ev_aI dX0_joinTwoGroups_140 gv51 ?_
        refine EV.iload_n 2 dX0_joinTwoGroups_141 rfl rfl ?_
        refine EV.icmp_ne 162 dX0_joinTwoGroups_142 (by decide) (fun c52 => ?_) (fun c52 => ?_)
        · rw [if_neg c52] at h
          refine EV.sub [0, 1, 2, 3] rfl ?_
          exact eX0_joinTwoGroups_162 ih _ _ _ _ _ _ h
        · rw [if_pos c52] at h
          refine EV.sub [0, 1, 2, 3] rfl ?_
          exact eX0_joinTwoGroups_145 ih _ _ _ _ _ _ h
set_option maxRecDepth 100000 in
set_option maxHeartbeats 4000000 in
theorem eX0_joinTwoGroups_87 {X : px_X}  : ∀ (a0 : Nat) (a1 : Int32) (a2 : Int32) (w : px_W) (q : px_W), fX0_joinTwoGroups_87 X  a0 a1 a2 w = some q → EV X mX0_joinTwoGroups 87 [(0, .ref a0), (1, .int a1), (2, .int a2)] [] w none q := by
  intro a0 a1 a2 w q h
  unfold fX0_joinTwoGroups_87 at h
  refine EV.iload_n 2 dX0_joinTwoGroups_87 rfl rfl ?_
  refine EV.iconst ((-1)) dX0_joinTwoGroups_88 (by decide) ?_
  refine EV.icmp_ne 93 dX0_joinTwoGroups_89 (by decide) (fun c53 => ?_) (fun c53 => ?_)
  · rw [if_neg c53] at h
    refine EV.aload_n 0 dX0_joinTwoGroups_93 rfl rfl ?_
    obtain ⟨v54, gv54, h⟩ := px_bs h
    refine ev_gR dX0_joinTwoGroups_94 flRX0_30 gv54 ?_
    refine EV.iload_n 1 dX0_joinTwoGroups_97 rfl rfl ?_
    refine EV.dup2 dX0_joinTwoGroups_98 rfl rfl ?_
    obtain ⟨v55, gv55, h⟩ := px_bs h
    refine ev_aI dX0_joinTwoGroups_99 gv55 ?_
    refine EV.aload_n 0 dX0_joinTwoGroups_100 rfl rfl ?_
    obtain ⟨v56, gv56, h⟩ := px_bs h
    refine ev_gR dX0_joinTwoGroups_101 flRX0_30 gv56 ?_
    refine EV.iload_n 2 dX0_joinTwoGroups_104 rfl rfl ?_
    obtain ⟨v57, gv57, h⟩ := px_bs h
    refine ev_aI dX0_joinTwoGroups_105 gv57 ?_
    refine EV.iadd dX0_joinTwoGroups_106 ?_
    obtain ⟨w58, gw58, h⟩ := px_bs h
    refine ev_sI dX0_joinTwoGroups_107 gw58 ?_
    refine EV.aload_n 0 dX0_joinTwoGroups_108 rfl rfl ?_
    obtain ⟨v59, gv59, h⟩ := px_bs h
    refine ev_gR dX0_joinTwoGroups_109 flRX0_30 gv59 ?_
    refine EV.iload_n 2 dX0_joinTwoGroups_112 rfl rfl ?_
    refine EV.iconst (0) dX0_joinTwoGroups_113 (by decide) ?_
    obtain ⟨w60, gw60, h⟩ := px_bs h
    refine ev_sI dX0_joinTwoGroups_114 gw60 ?_
    refine EV.iconst (0) dX0_joinTwoGroups_115 (by decide) ?_
    refine EV.istore_n [(3, .int 0), (0, .ref a0), (1, .int a1), (2, .int a2)] dX0_joinTwoGroups_116 rfl (by decide) rfl ?_
    refine EV.sub [1, 2, 3, 0] rfl ?_
    exact eX0_joinTwoGroups_117  FU _ _ _ _ _ _ h
  · rw [if_pos c53] at h
    cases h
    exact EV.ret0 dX0_joinTwoGroups_92 trivial
set_option maxRecDepth 100000 in
set_option maxHeartbeats 4000000 in
theorem eX0_joinTwoGroups_6 {X : px_X}  : ∀ (m : Nat) (a0 : Nat) (a1 : Int32) (a2 : Int32) (a3 : Int32) (w : px_W) (q : px_W), fX0_joinTwoGroups_6 X  m a0 a1 a2 a3 w = some q → EV X mX0_joinTwoGroups 6 [(0, .ref a0), (1, .int a1), (2, .int a2), (3, .int a3)] [] w none q := by
  intro m
  induction m with
  | zero => intro a0 a1 a2 a3 w q h; cases h
  | succ m ih =>
    intro a0 a1 a2 a3 w q h
    rw [fX0_joinTwoGroups_6.eq_2] at h
    refine EV.iload_n 3 dX0_joinTwoGroups_6 rfl rfl ?_
    refine EV.aload_n 0 dX0_joinTwoGroups_7 rfl rfl ?_
    obtain ⟨v61, gv61, h⟩ := px_bs h
    refine ev_gI dX0_joinTwoGroups_8 flRX0_48 gv61 ?_
    refine EV.icmp_gt 87 dX0_joinTwoGroups_11 (by decide) (fun c62 => ?_) (fun c62 => ?_)
    · rw [if_pos c62] at h
      refine EV.sub [0, 1, 2] rfl ?_
      exact eX0_joinTwoGroups_87  _ _ _ _ _ h
    · rw [if_neg c62] at h
      refine EV.aload_n 0 dX0_joinTwoGroups_14 rfl rfl ?_
      obtain ⟨v63, gv63, h⟩ := px_bs h
      refine ev_gR dX0_joinTwoGroups_15 flRX0_30 gv63 ?_
      refine EV.iload_n 3 dX0_joinTwoGroups_18 rfl rfl ?_
      obtain ⟨v64, gv64, h⟩ := px_bs h
      refine ev_aI dX0_joinTwoGroups_19 gv64 ?_
      refine EV.if_le 50 dX0_joinTwoGroups_20 (by decide) (fun c65 => ?_) (fun c65 => ?_)
      · rw [if_pos c65] at h
        refine EV.sub [0, 1, 2, 3] rfl ?_
        exact eX0_joinTwoGroups_50 ih _ _ _ _ _ _ h
      · rw [if_neg c65] at h
        refine EV.iload_n 1 dX0_joinTwoGroups_23 rfl rfl ?_
        refine EV.iconst ((-1)) dX0_joinTwoGroups_24 (by decide) ?_
        refine EV.icmp_eq 43 dX0_joinTwoGroups_25 (by decide) (fun c66 => ?_) (fun c66 => ?_)
        · rw [if_pos c66] at h
          refine EV.sub [0, 1, 3] rfl ?_
          exact eX0_joinTwoGroups_43 ih _ _ _ _ _ h
        · rw [if_neg c66] at h
          refine EV.aload_n 0 dX0_joinTwoGroups_28 rfl rfl ?_
          obtain ⟨v67, gv67, h⟩ := px_bs h
          refine ev_gR dX0_joinTwoGroups_29 flRX0_30 gv67 ?_
          refine EV.iload_n 3 dX0_joinTwoGroups_32 rfl rfl ?_
          obtain ⟨v68, gv68, h⟩ := px_bs h
          refine ev_aI dX0_joinTwoGroups_33 gv68 ?_
          refine EV.aload_n 0 dX0_joinTwoGroups_34 rfl rfl ?_
          obtain ⟨v69, gv69, h⟩ := px_bs h
          refine ev_gR dX0_joinTwoGroups_35 flRX0_30 gv69 ?_
          refine EV.iload_n 1 dX0_joinTwoGroups_38 rfl rfl ?_
          obtain ⟨v70, gv70, h⟩ := px_bs h
          refine ev_aI dX0_joinTwoGroups_39 gv70 ?_
          refine EV.icmp_gt 50 dX0_joinTwoGroups_40 (by decide) (fun c71 => ?_) (fun c71 => ?_)
          · rw [if_pos c71] at h
            refine EV.sub [0, 1, 2, 3] rfl ?_
            exact eX0_joinTwoGroups_50 ih _ _ _ _ _ _ h
          · rw [if_neg c71] at h
            refine EV.sub [0, 1, 3] rfl ?_
            exact eX0_joinTwoGroups_43 ih _ _ _ _ _ h
set_option maxRecDepth 100000 in
set_option maxHeartbeats 4000000 in
theorem eX0_joinTwoGroups {X : px_X} {w : px_W} {a0 : Nat} {q : px_W} (h : fX0_joinTwoGroups X w a0 = some q) : EV X mX0_joinTwoGroups 0 (lv_args 0 [.ref a0]) [] w none q := by
  unfold fX0_joinTwoGroups at h
  show EV X mX0_joinTwoGroups 0 [(0, .ref a0)] [] w none q
  refine EV.iconst ((-1)) dX0_joinTwoGroups_0 (by decide) ?_
  refine EV.istore_n [(1, .int ((-1))), (0, .ref a0)] dX0_joinTwoGroups_1 rfl (by decide) rfl ?_
  refine EV.iconst ((-1)) dX0_joinTwoGroups_2 (by decide) ?_
  refine EV.istore_n [(2, .int ((-1))), (1, .int ((-1))), (0, .ref a0)] dX0_joinTwoGroups_3 rfl (by decide) rfl ?_
  refine EV.iconst (0) dX0_joinTwoGroups_4 (by decide) ?_
  refine EV.istore_n [(3, .int 0), (2, .int ((-1))), (1, .int ((-1))), (0, .ref a0)] dX0_joinTwoGroups_5 rfl (by decide) rfl ?_
  refine EV.sub [3, 2, 1, 0] rfl ?_
  exact eX0_joinTwoGroups_6  FU _ _ _ _ _ _ h
/-! WavePictures$BestTable.countLengths()V -/
theorem dX0_countLengths_0 : decode cX0_countLengths 0 = .ok (.aload_n 0, 1) := by decide +kernel
theorem dX0_countLengths_1 : decode cX0_countLengths 1 = .ok (.getfield 21, 3) := by decide +kernel
theorem dX0_countLengths_4 : decode cX0_countLengths 4 = .ok (.iconst 0, 1) := by decide +kernel
theorem dX0_countLengths_5 : decode cX0_countLengths 5 = .ok (.invokestatic 39, 3) := by decide +kernel
theorem dX0_countLengths_8 : decode cX0_countLengths 8 = .ok (.iconst 0, 1) := by decide +kernel
theorem dX0_countLengths_9 : decode cX0_countLengths 9 = .ok (.istore_n 1, 1) := by decide +kernel
theorem dX0_countLengths_10 : decode cX0_countLengths 10 = .ok (.iload_n 1, 1) := by decide +kernel
theorem dX0_countLengths_11 : decode cX0_countLengths 11 = .ok (.aload_n 0, 1) := by decide +kernel
theorem dX0_countLengths_12 : decode cX0_countLengths 12 = .ok (.getfield 48, 3) := by decide +kernel
theorem dX0_countLengths_15 : decode cX0_countLengths 15 = .ok (.if_icmp .gt 24, 3) := by decide +kernel
theorem dX0_countLengths_18 : decode cX0_countLengths 18 = .ok (.aload_n 0, 1) := by decide +kernel
theorem dX0_countLengths_19 : decode cX0_countLengths 19 = .ok (.getfield 21, 3) := by decide +kernel
theorem dX0_countLengths_22 : decode cX0_countLengths 22 = .ok (.aload_n 0, 1) := by decide +kernel
theorem dX0_countLengths_23 : decode cX0_countLengths 23 = .ok (.getfield 36, 3) := by decide +kernel
theorem dX0_countLengths_26 : decode cX0_countLengths 26 = .ok (.iload_n 1, 1) := by decide +kernel
theorem dX0_countLengths_27 : decode cX0_countLengths 27 = .ok (.iaload, 1) := by decide +kernel
theorem dX0_countLengths_28 : decode cX0_countLengths 28 = .ok (.dup2, 1) := by decide +kernel
theorem dX0_countLengths_29 : decode cX0_countLengths 29 = .ok (.iaload, 1) := by decide +kernel
theorem dX0_countLengths_30 : decode cX0_countLengths 30 = .ok (.iconst 1, 1) := by decide +kernel
theorem dX0_countLengths_31 : decode cX0_countLengths 31 = .ok (.iadd, 1) := by decide +kernel
theorem dX0_countLengths_32 : decode cX0_countLengths 32 = .ok (.iastore, 1) := by decide +kernel
theorem dX0_countLengths_33 : decode cX0_countLengths 33 = .ok (.iinc 1 1, 3) := by decide +kernel
theorem dX0_countLengths_36 : decode cX0_countLengths 36 = .ok (.goto (-26), 3) := by decide +kernel
theorem dX0_countLengths_39 : decode cX0_countLengths 39 = .ok (.return_, 1) := by decide +kernel
theorem flRX0_21 : px_f RX0 21 0 3 := ⟨_, rfl, by decide, Or.inl (tb2 (List.mem_of_getElem? (i := 182) rfl))⟩
theorem kcX0_countLengths_39 : px_cS mX0_countLengths 39 mJ7_fill_53178 2 := ⟨⟨mbJ7_fill_53178, by decide, by decide⟩, Or.inl (tb4 (List.mem_of_getElem? (i := 225) rfl)), tb3 (List.mem_of_getElem? (i := 141) rfl)⟩
set_option maxRecDepth 100000 in
set_option maxHeartbeats 4000000 in
theorem eX0_countLengths_10 {X : px_X}  : ∀ (m : Nat) (a0 : Nat) (a1 : Int32) (w : px_W) (q : px_W), fX0_countLengths_10 X  m a0 a1 w = some q → EV X mX0_countLengths 10 [(0, .ref a0), (1, .int a1)] [] w none q := by
  intro m
  induction m with
  | zero => intro a0 a1 w q h; cases h
  | succ m ih =>
    intro a0 a1 w q h
    rw [fX0_countLengths_10.eq_2] at h
    refine EV.iload_n 1 dX0_countLengths_10 rfl rfl ?_
    refine EV.aload_n 0 dX0_countLengths_11 rfl rfl ?_
    obtain ⟨v9, gv9, h⟩ := px_bs h
    refine ev_gI dX0_countLengths_12 flRX0_48 gv9 ?_
    refine EV.icmp_gt 39 dX0_countLengths_15 (by decide) (fun c10 => ?_) (fun c10 => ?_)
    · rw [if_pos c10] at h
      cases h
      exact EV.ret0 dX0_countLengths_39 trivial
    · rw [if_neg c10] at h
      refine EV.aload_n 0 dX0_countLengths_18 rfl rfl ?_
      obtain ⟨v11, gv11, h⟩ := px_bs h
      refine ev_gR dX0_countLengths_19 flRX0_21 gv11 ?_
      refine EV.aload_n 0 dX0_countLengths_22 rfl rfl ?_
      obtain ⟨v12, gv12, h⟩ := px_bs h
      refine ev_gR dX0_countLengths_23 flRX0_36 gv12 ?_
      refine EV.iload_n 1 dX0_countLengths_26 rfl rfl ?_
      obtain ⟨v13, gv13, h⟩ := px_bs h
      refine ev_aI dX0_countLengths_27 gv13 ?_
      refine EV.dup2 dX0_countLengths_28 rfl rfl ?_
      obtain ⟨v14, gv14, h⟩ := px_bs h
      refine ev_aI dX0_countLengths_29 gv14 ?_
      refine EV.iconst (1) dX0_countLengths_30 (by decide) ?_
      refine EV.iadd dX0_countLengths_31 ?_
      obtain ⟨w15, gw15, h⟩ := px_bs h
      refine ev_sI dX0_countLengths_32 gw15 ?_
      refine EV.iinc 1 (a1 + 1) [(1, .int (a1 + 1)), (0, .ref a0)] dX0_countLengths_33 rfl rfl (by decide) rfl ?_
      refine EV.goto 10 dX0_countLengths_36 (by decide) ?_
      refine EV.sub [1, 0] rfl ?_
      exact ih _ _ _ _ h
set_option maxRecDepth 100000 in
set_option maxHeartbeats 4000000 in
theorem eX0_countLengths {X : px_X} {w : px_W} {a0 : Nat} {q : px_W} (h : fX0_countLengths X w a0 = some q) : EV X mX0_countLengths 0 (lv_args 0 [.ref a0]) [] w none q := by
  unfold fX0_countLengths at h
  show EV X mX0_countLengths 0 [(0, .ref a0)] [] w none q
  refine EV.aload_n 0 dX0_countLengths_0 rfl rfl ?_
  obtain ⟨v16, gv16, h⟩ := px_bs h
  refine ev_gR dX0_countLengths_1 flRX0_21 gv16 ?_
  refine EV.iconst (0) dX0_countLengths_4 (by decide) ?_
  obtain ⟨q17, gq17, h⟩ := px_bs h
  refine EV.callS (As := [.ref v16, .int 0]) (rest := []) dX0_countLengths_5 kcX0_countLengths_39 rfl (Nat.le_of_ble_eq_true rfl) (Nat.le_of_ble_eq_true rfl) (eJ7_fill_53178 gq17) ?_
  refine EV.iconst (0) dX0_countLengths_8 (by decide) ?_
  refine EV.istore_n [(1, .int 0), (0, .ref a0)] dX0_countLengths_9 rfl (by decide) rfl ?_
  refine EV.sub [1, 0] rfl ?_
  exact eX0_countLengths_10  FU _ _ _ _ h
/-! WavePictures$BestTable.shortenLengths()V -/
theorem dX0_shortenLengths_0 : decode cX0_shortenLengths 0 = .ok (.sipush 256, 3) := by decide +kernel
theorem dX0_shortenLengths_3 : decode cX0_shortenLengths 3 = .ok (.istore_n 1, 1) := by decide +kernel
theorem dX0_shortenLengths_4 : decode cX0_shortenLengths 4 = .ok (.iload_n 1, 1) := by decide +kernel
theorem dX0_shortenLengths_5 : decode cX0_shortenLengths 5 = .ok (.bipush 16, 2) := by decide +kernel
theorem dX0_shortenLengths_7 : decode cX0_shortenLengths 7 = .ok (.if_icmp .le 90, 3) := by decide +kernel
theorem dX0_shortenLengths_10 : decode cX0_shortenLengths 10 = .ok (.aload_n 0, 1) := by decide +kernel
theorem dX0_shortenLengths_11 : decode cX0_shortenLengths 11 = .ok (.getfield 21, 3) := by decide +kernel
theorem dX0_shortenLengths_14 : decode cX0_shortenLengths 14 = .ok (.iload_n 1, 1) := by decide +kernel
theorem dX0_shortenLengths_15 : decode cX0_shortenLengths 15 = .ok (.iaload, 1) := by decide +kernel
theorem dX0_shortenLengths_16 : decode cX0_shortenLengths 16 = .ok (.iconst 1, 1) := by decide +kernel
theorem dX0_shortenLengths_17 : decode cX0_shortenLengths 17 = .ok (.if_icmp .le 74, 3) := by decide +kernel
theorem dX0_shortenLengths_20 : decode cX0_shortenLengths 20 = .ok (.iload_n 1, 1) := by decide +kernel
theorem dX0_shortenLengths_21 : decode cX0_shortenLengths 21 = .ok (.iconst 2, 1) := by decide +kernel
theorem dX0_shortenLengths_22 : decode cX0_shortenLengths 22 = .ok (.isub, 1) := by decide +kernel
theorem dX0_shortenLengths_23 : decode cX0_shortenLengths 23 = .ok (.istore_n 2, 1) := by decide +kernel
theorem dX0_shortenLengths_24 : decode cX0_shortenLengths 24 = .ok (.iload_n 2, 1) := by decide +kernel
theorem dX0_shortenLengths_25 : decode cX0_shortenLengths 25 = .ok (.iconst 1, 1) := by decide +kernel
theorem dX0_shortenLengths_26 : decode cX0_shortenLengths 26 = .ok (.if_icmp .le 18, 3) := by decide +kernel
theorem dX0_shortenLengths_29 : decode cX0_shortenLengths 29 = .ok (.aload_n 0, 1) := by decide +kernel
theorem dX0_shortenLengths_30 : decode cX0_shortenLengths 30 = .ok (.getfield 21, 3) := by decide +kernel
theorem dX0_shortenLengths_33 : decode cX0_shortenLengths 33 = .ok (.iload_n 2, 1) := by decide +kernel
theorem dX0_shortenLengths_34 : decode cX0_shortenLengths 34 = .ok (.iaload, 1) := by decide +kernel
theorem dX0_shortenLengths_35 : decode cX0_shortenLengths 35 = .ok (.ifCond .ne 9, 3) := by decide +kernel
theorem dX0_shortenLengths_38 : decode cX0_shortenLengths 38 = .ok (.iinc 2 (-1), 3) := by decide +kernel
theorem dX0_shortenLengths_41 : decode cX0_shortenLengths 41 = .ok (.goto (-17), 3) := by decide +kernel
theorem dX0_shortenLengths_44 : decode cX0_shortenLengths 44 = .ok (.aload_n 0, 1) := by decide +kernel
theorem dX0_shortenLengths_45 : decode cX0_shortenLengths 45 = .ok (.getfield 21, 3) := by decide +kernel
theorem dX0_shortenLengths_48 : decode cX0_shortenLengths 48 = .ok (.iload_n 1, 1) := by decide +kernel
theorem dX0_shortenLengths_49 : decode cX0_shortenLengths 49 = .ok (.dup2, 1) := by decide +kernel
theorem dX0_shortenLengths_50 : decode cX0_shortenLengths 50 = .ok (.iaload, 1) := by decide +kernel
theorem dX0_shortenLengths_51 : decode cX0_shortenLengths 51 = .ok (.iconst 2, 1) := by decide +kernel
theorem dX0_shortenLengths_52 : decode cX0_shortenLengths 52 = .ok (.isub, 1) := by decide +kernel
theorem dX0_shortenLengths_53 : decode cX0_shortenLengths 53 = .ok (.iastore, 1) := by decide +kernel
theorem dX0_shortenLengths_54 : decode cX0_shortenLengths 54 = .ok (.aload_n 0, 1) := by decide +kernel
theorem dX0_shortenLengths_55 : decode cX0_shortenLengths 55 = .ok (.getfield 21, 3) := by decide +kernel
theorem dX0_shortenLengths_58 : decode cX0_shortenLengths 58 = .ok (.iload_n 1, 1) := by decide +kernel
theorem dX0_shortenLengths_59 : decode cX0_shortenLengths 59 = .ok (.iconst 1, 1) := by decide +kernel
theorem dX0_shortenLengths_60 : decode cX0_shortenLengths 60 = .ok (.isub, 1) := by decide +kernel
theorem dX0_shortenLengths_61 : decode cX0_shortenLengths 61 = .ok (.dup2, 1) := by decide +kernel
theorem dX0_shortenLengths_62 : decode cX0_shortenLengths 62 = .ok (.iaload, 1) := by decide +kernel
theorem dX0_shortenLengths_63 : decode cX0_shortenLengths 63 = .ok (.iconst 1, 1) := by decide +kernel
theorem dX0_shortenLengths_64 : decode cX0_shortenLengths 64 = .ok (.iadd, 1) := by decide +kernel
theorem dX0_shortenLengths_65 : decode cX0_shortenLengths 65 = .ok (.iastore, 1) := by decide +kernel
theorem dX0_shortenLengths_66 : decode cX0_shortenLengths 66 = .ok (.aload_n 0, 1) := by decide +kernel
theorem dX0_shortenLengths_67 : decode cX0_shortenLengths 67 = .ok (.getfield 21, 3) := by decide +kernel
theorem dX0_shortenLengths_70 : decode cX0_shortenLengths 70 = .ok (.iload_n 2, 1) := by decide +kernel
theorem dX0_shortenLengths_71 : decode cX0_shortenLengths 71 = .ok (.iconst 1, 1) := by decide +kernel
theorem dX0_shortenLengths_72 : decode cX0_shortenLengths 72 = .ok (.iadd, 1) := by decide +kernel
theorem dX0_shortenLengths_73 : decode cX0_shortenLengths 73 = .ok (.dup2, 1) := by decide +kernel
theorem dX0_shortenLengths_74 : decode cX0_shortenLengths 74 = .ok (.iaload, 1) := by decide +kernel
theorem dX0_shortenLengths_75 : decode cX0_shortenLengths 75 = .ok (.iconst 2, 1) := by decide +kernel
theorem dX0_shortenLengths_76 : decode cX0_shortenLengths 76 = .ok (.iadd, 1) := by decide +kernel
theorem dX0_shortenLengths_77 : decode cX0_shortenLengths 77 = .ok (.iastore, 1) := by decide +kernel
theorem dX0_shortenLengths_78 : decode cX0_shortenLengths 78 = .ok (.aload_n 0, 1) := by decide +kernel
theorem dX0_shortenLengths_79 : decode cX0_shortenLengths 79 = .ok (.getfield 21, 3) := by decide +kernel
theorem dX0_shortenLengths_82 : decode cX0_shortenLengths 82 = .ok (.iload_n 2, 1) := by decide +kernel
theorem dX0_shortenLengths_83 : decode cX0_shortenLengths 83 = .ok (.dup2, 1) := by decide +kernel
theorem dX0_shortenLengths_84 : decode cX0_shortenLengths 84 = .ok (.iaload, 1) := by decide +kernel
theorem dX0_shortenLengths_85 : decode cX0_shortenLengths 85 = .ok (.iconst 1, 1) := by decide +kernel
theorem dX0_shortenLengths_86 : decode cX0_shortenLengths 86 = .ok (.isub, 1) := by decide +kernel
theorem dX0_shortenLengths_87 : decode cX0_shortenLengths 87 = .ok (.iastore, 1) := by decide +kernel
theorem dX0_shortenLengths_88 : decode cX0_shortenLengths 88 = .ok (.goto (-78), 3) := by decide +kernel
theorem dX0_shortenLengths_91 : decode cX0_shortenLengths 91 = .ok (.iinc 1 (-1), 3) := by decide +kernel
theorem dX0_shortenLengths_94 : decode cX0_shortenLengths 94 = .ok (.goto (-90), 3) := by decide +kernel
theorem dX0_shortenLengths_97 : decode cX0_shortenLengths 97 = .ok (.bipush 16, 2) := by decide +kernel
theorem dX0_shortenLengths_99 : decode cX0_shortenLengths 99 = .ok (.istore_n 1, 1) := by decide +kernel
theorem dX0_shortenLengths_100 : decode cX0_shortenLengths 100 = .ok (.iload_n 1, 1) := by decide +kernel
theorem dX0_shortenLengths_101 : decode cX0_shortenLengths 101 = .ok (.ifCond .le 18, 3) := by decide +kernel
theorem dX0_shortenLengths_104 : decode cX0_shortenLengths 104 = .ok (.aload_n 0, 1) := by decide +kernel
theorem dX0_shortenLengths_105 : decode cX0_shortenLengths 105 = .ok (.getfield 21, 3) := by decide +kernel
theorem dX0_shortenLengths_108 : decode cX0_shortenLengths 108 = .ok (.iload_n 1, 1) := by decide +kernel
theorem dX0_shortenLengths_109 : decode cX0_shortenLengths 109 = .ok (.iaload, 1) := by decide +kernel
theorem dX0_shortenLengths_110 : decode cX0_shortenLengths 110 = .ok (.ifCond .ne 9, 3) := by decide +kernel
theorem dX0_shortenLengths_113 : decode cX0_shortenLengths 113 = .ok (.iinc 1 (-1), 3) := by decide +kernel
theorem dX0_shortenLengths_116 : decode cX0_shortenLengths 116 = .ok (.goto (-16), 3) := by decide +kernel
theorem dX0_shortenLengths_119 : decode cX0_shortenLengths 119 = .ok (.aload_n 0, 1) := by decide +kernel
theorem dX0_shortenLengths_120 : decode cX0_shortenLengths 120 = .ok (.getfield 21, 3) := by decide +kernel
theorem dX0_shortenLengths_123 : decode cX0_shortenLengths 123 = .ok (.iload_n 1, 1) := by decide +kernel
theorem dX0_shortenLengths_124 : decode cX0_shortenLengths 124 = .ok (.dup2, 1) := by decide +kernel
theorem dX0_shortenLengths_125 : decode cX0_shortenLengths 125 = .ok (.iaload, 1) := by decide +kernel
theorem dX0_shortenLengths_126 : decode cX0_shortenLengths 126 = .ok (.iconst 1, 1) := by decide +kernel
theorem dX0_shortenLengths_127 : decode cX0_shortenLengths 127 = .ok (.isub, 1) := by decide +kernel
theorem dX0_shortenLengths_128 : decode cX0_shortenLengths 128 = .ok (.iastore, 1) := by decide +kernel
theorem dX0_shortenLengths_129 : decode cX0_shortenLengths 129 = .ok (.return_, 1) := by decide +kernel
set_option maxRecDepth 100000 in
set_option maxHeartbeats 4000000 in
theorem eX0_shortenLengths_119 {X : px_X}  : ∀ (a0 : Nat) (a1 : Int32) (w : px_W) (q : px_W), fX0_shortenLengths_119 X  a0 a1 w = some q → EV X mX0_shortenLengths 119 [(0, .ref a0), (1, .int a1)] [] w none q := by
  intro a0 a1 w q h
  unfold fX0_shortenLengths_119 at h
  refine EV.aload_n 0 dX0_shortenLengths_119 rfl rfl ?_
  obtain ⟨v22, gv22, h⟩ := px_bs h
  refine ev_gR dX0_shortenLengths_120 flRX0_21 gv22 ?_
  refine EV.iload_n 1 dX0_shortenLengths_123 rfl rfl ?_
  refine EV.dup2 dX0_shortenLengths_124 rfl rfl ?_
  obtain ⟨v23, gv23, h⟩ := px_bs h
  refine ev_aI dX0_shortenLengths_125 gv23 ?_
  refine EV.iconst (1) dX0_shortenLengths_126 (by decide) ?_
  refine EV.isub dX0_shortenLengths_127 ?_
  obtain ⟨w24, gw24, h⟩ := px_bs h
  refine ev_sI dX0_shortenLengths_128 gw24 ?_
  cases h
  exact EV.ret0 dX0_shortenLengths_129 trivial
set_option maxRecDepth 100000 in
set_option maxHeartbeats 4000000 in
theorem eX0_shortenLengths_100 {X : px_X}  : ∀ (m : Nat) (a0 : Nat) (a1 : Int32) (w : px_W) (q : px_W), fX0_shortenLengths_100 X  m a0 a1 w = some q → EV X mX0_shortenLengths 100 [(0, .ref a0), (1, .int a1)] [] w none q := by
  intro m
  induction m with
  | zero => intro a0 a1 w q h; cases h
  | succ m ih =>
    intro a0 a1 w q h
    rw [fX0_shortenLengths_100.eq_2] at h
    refine EV.iload_n 1 dX0_shortenLengths_100 rfl rfl ?_
    refine EV.if_le 119 dX0_shortenLengths_101 (by decide) (fun c25 => ?_) (fun c25 => ?_)
    · rw [if_pos c25] at h
      refine EV.sub [0, 1] rfl ?_
      exact eX0_shortenLengths_119  _ _ _ _ h
    · rw [if_neg c25] at h
      refine EV.aload_n 0 dX0_shortenLengths_104 rfl rfl ?_
      obtain ⟨v26, gv26, h⟩ := px_bs h
      refine ev_gR dX0_shortenLengths_105 flRX0_21 gv26 ?_
      refine EV.iload_n 1 dX0_shortenLengths_108 rfl rfl ?_
      obtain ⟨v27, gv27, h⟩ := px_bs h
      refine ev_aI dX0_shortenLengths_109 gv27 ?_
      refine EV.if_ne 119 dX0_shortenLengths_110 (by decide) (fun c28 => ?_) (fun c28 => ?_)
      · rw [if_neg c28] at h
        refine EV.sub [0, 1] rfl ?_
        exact eX0_shortenLengths_119  _ _ _ _ h
      · rw [if_pos c28] at h
        refine EV.iinc 1 (a1 + (-1)) [(1, .int (a1 + (-1))), (0, .ref a0)] dX0_shortenLengths_113 rfl rfl (by decide) rfl ?_
        refine EV.goto 100 dX0_shortenLengths_116 (by decide) ?_
        refine EV.sub [1, 0] rfl ?_
        exact ih _ _ _ _ h
set_option maxRecDepth 100000 in
set_option maxHeartbeats 4000000 in
theorem eX0_shortenLengths_97 {X : px_X}  : ∀ (a0 : Nat) (w : px_W) (q : px_W), fX0_shortenLengths_97 X  a0 w = some q → EV X mX0_shortenLengths 97 [(0, .ref a0)] [] w none q := by
  intro a0 w q h
  unfold fX0_shortenLengths_97 at h
  refine EV.bipush (16) dX0_shortenLengths_97 (by decide) ?_
  refine EV.istore_n [(1, .int 16), (0, .ref a0)] dX0_shortenLengths_99 rfl (by decide) rfl ?_
  refine EV.sub [1, 0] rfl ?_
  exact eX0_shortenLengths_100  FU _ _ _ _ h
set_option maxRecDepth 100000 in
set_option maxHeartbeats 4000000 in
theorem eX0_shortenLengths_44 {X : px_X} {k4 : Nat → Int32 → px_W → Option (px_W)} (hk4 : ∀ (a0 : Nat) (a1 : Int32) (w : px_W) (q : px_W), k4 a0 a1 w = some q → EV X mX0_shortenLengths 4 [(0, .ref a0), (1, .int a1)] [] w none q) {k10 : Nat → Int32 → px_W → Option (px_W)} (hk10 : ∀ (a0 : Nat) (a1 : Int32) (w : px_W) (q : px_W), k10 a0 a1 w = some q → EV X mX0_shortenLengths 10 [(0, .ref a0), (1, .int a1)] [] w none q) : ∀ (a0 : Nat) (a1 : Int32) (a2 : Int32) (w : px_W) (q : px_W), fX0_shortenLengths_44 X k4 k10 a0 a1 a2 w = some q → EV X mX0_shortenLengths 44 [(0, .ref a0), (1, .int a1), (2, .int a2)] [] w none q := by
  intro a0 a1 a2 w q h
  unfold fX0_shortenLengths_44 at h
  refine EV.aload_n 0 dX0_shortenLengths_44 rfl rfl ?_
  obtain ⟨v29, gv29, h⟩ := px_bs h
  refine ev_gR dX0_shortenLengths_45 flRX0_21 gv29 ?_
  refine EV.iload_n 1 dX0_shortenLengths_48 rfl rfl ?_
  refine EV.dup2 dX0_shortenLengths_49 rfl rfl ?_
  obtain ⟨v30, gv30, h⟩ := px_bs h
  refine ev_aI dX0_shortenLengths_50 gv30 ?_
  refine EV.iconst (2) dX0_shortenLengths_51 (by decide) ?_
  refine EV.isub dX0_shortenLengths_52 ?_
  obtain ⟨w31, gw31, h⟩ := px_bs h
  refine ev_sI dX0_shortenLengths_53 gw31 ?_
  refine EV.aload_n 0 dX0_shortenLengths_54 rfl rfl ?_
  obtain ⟨v32, gv32, h⟩ := px_bs h
  refine ev_gR dX0_shortenLengths_55 flRX0_21 gv32 ?_
  refine EV.iload_n 1 dX0_shortenLengths_58 rfl rfl ?_
  refine EV.iconst (1) dX0_shortenLengths_59 (by decide) ?_
  refine EV.isub dX0_shortenLengths_60 ?_
  refine EV.dup2 dX0_shortenLengths_61 rfl rfl ?_
  obtain ⟨v33, gv33, h⟩ := px_bs h
  refine ev_aI dX0_shortenLengths_62 gv33 ?_
  refine EV.iconst (1) dX0_shortenLengths_63 (by decide) ?_
  refine EV.iadd dX0_shortenLengths_64 ?_
  obtain ⟨w34, gw34, h⟩ := px_bs h
  refine ev_sI dX0_shortenLengths_65 gw34 ?_
  refine EV.aload_n 0 dX0_shortenLengths_66 rfl rfl ?_
  obtain ⟨v35, gv35, h⟩ := px_bs h
  refine ev_gR dX0_shortenLengths_67 flRX0_21 gv35 ?_
  refine EV.iload_n 2 dX0_shortenLengths_70 rfl rfl ?_
  refine EV.iconst (1) dX0_shortenLengths_71 (by decide) ?_
  refine EV.iadd dX0_shortenLengths_72 ?_
  refine EV.dup2 dX0_shortenLengths_73 rfl rfl ?_
  obtain ⟨v36, gv36, h⟩ := px_bs h
  refine ev_aI dX0_shortenLengths_74 gv36 ?_
  refine EV.iconst (2) dX0_shortenLengths_75 (by decide) ?_
  refine EV.iadd dX0_shortenLengths_76 ?_
  obtain ⟨w37, gw37, h⟩ := px_bs h
  refine ev_sI dX0_shortenLengths_77 gw37 ?_
  refine EV.aload_n 0 dX0_shortenLengths_78 rfl rfl ?_
  obtain ⟨v38, gv38, h⟩ := px_bs h
  refine ev_gR dX0_shortenLengths_79 flRX0_21 gv38 ?_
  refine EV.iload_n 2 dX0_shortenLengths_82 rfl rfl ?_
  refine EV.dup2 dX0_shortenLengths_83 rfl rfl ?_
  obtain ⟨v39, gv39, h⟩ := px_bs h
  refine ev_aI dX0_shortenLengths_84 gv39 ?_
  refine EV.iconst (1) dX0_shortenLengths_85 (by decide) ?_
  refine EV.isub dX0_shortenLengths_86 ?_
  obtain ⟨w40, gw40, h⟩ := px_bs h
  refine ev_sI dX0_shortenLengths_87 gw40 ?_
  refine EV.goto 10 dX0_shortenLengths_88 (by decide) ?_
  refine EV.sub [0, 1] rfl ?_
  exact hk10 _ _ _ _ h
set_option maxRecDepth 100000 in
set_option maxHeartbeats 4000000 in
theorem eX0_shortenLengths_24 {X : px_X} {k4 : Nat → Int32 → px_W → Option (px_W)} (hk4 : ∀ (a0 : Nat) (a1 : Int32) (w : px_W) (q : px_W), k4 a0 a1 w = some q → EV X mX0_shortenLengths 4 [(0, .ref a0), (1, .int a1)] [] w none q) {k10 : Nat → Int32 → px_W → Option (px_W)} (hk10 : ∀ (a0 : Nat) (a1 : Int32) (w : px_W) (q : px_W), k10 a0 a1 w = some q → EV X mX0_shortenLengths 10 [(0, .ref a0), (1, .int a1)] [] w none q) : ∀ (m : Nat) (a0 : Nat) (a1 : Int32) (a2 : Int32) (w : px_W) (q : px_W), fX0_shortenLengths_24 X k4 k10 m a0 a1 a2 w = some q → EV X mX0_shortenLengths 24 [(0, .ref a0), (1, .int a1), (2, .int a2)] [] w none q := by
  intro m
  induction m with
  | zero => intro a0 a1 a2 w q h; cases h
  | succ m ih =>
    intro a0 a1 a2 w q h
    rw [fX0_shortenLengths_24.eq_2] at h
    refine EV.iload_n 2 dX0_shortenLengths_24 rfl rfl ?_
    refine EV.iconst (1) dX0_shortenLengths_25 (by decide) ?_
    refine EV.icmp_le 44 dX0_shortenLengths_26 (by decide) (fun c41 => ?_) (fun c41 => ?_)
    · rw [if_pos c41] at h
      refine EV.sub [0, 1, 2] rfl ?_
      exact eX0_shortenLengths_44 hk4 hk10 _ _ _ _ _ h
    · rw [if_neg c41] at h
      refine EV.aload_n 0 dX0_shortenLengths_29 rfl rfl ?_
      obtain ⟨v42, gv42, h⟩ := px_bs h
      refine ev_gR dX0_shortenLengths_30 flRX0_21 gv42 ?_
      refine EV.iload_n 2 dX0_shortenLengths_33 rfl rfl ?_
      obtain ⟨v43, gv43, h⟩ := px_bs h
      refine ev_aI dX0_shortenLengths_34 gv43 ?_
      refine EV.if_ne 44 dX0_shortenLengths_35 (by decide) (fun c44 => ?_) (fun c44 => ?_)
      · rw [if_neg c44] at h
        refine EV.sub [0, 1, 2] rfl ?_
        exact eX0_shortenLengths_44 hk4 hk10 _ _ _ _ _ h
      · rw [if_pos c44] at h
        refine EV.iinc 2 (a2 + (-1)) [(2, .int (a2 + (-1))), (0, .ref a0), (1, .int a1)] dX0_shortenLengths_38 rfl rfl (by decide) rfl ?_
        refine EV.goto 24 dX0_shortenLengths_41 (by decide) ?_
        refine EV.sub [1, 2, 0] rfl ?_
        exact ih _ _ _ _ _ h
set_option maxRecDepth 100000 in
set_option maxHeartbeats 4000000 in
theorem eX0_shortenLengths_91 {X : px_X} {k4 : Nat → Int32 → px_W → Option (px_W)} (hk4 : ∀ (a0 : Nat) (a1 : Int32) (w : px_W) (q : px_W), k4 a0 a1 w = some q → EV X mX0_shortenLengths 4 [(0, .ref a0), (1, .int a1)] [] w none q) : ∀ (a0 : Nat) (a1 : Int32) (w : px_W) (q : px_W), fX0_shortenLengths_91 X k4 a0 a1 w = some q → EV X mX0_shortenLengths 91 [(0, .ref a0), (1, .int a1)] [] w none q := by
  intro a0 a1 w q h
  unfold fX0_shortenLengths_91 at h
  refine EV.iinc 1 (a1 + (-1)) [(1, .int (a1 + (-1))), (0, .ref a0)] dX0_shortenLengths_91 rfl rfl (by decide) rfl ?_
  refine EV.goto 4 dX0_shortenLengths_94 (by decide) ?_
  refine EV.sub [1, 0] rfl ?_
  exact hk4 _ _ _ _ h
set_option maxRecDepth 100000 in
set_option maxHeartbeats 4000000 in
theorem eX0_shortenLengths_10 {X : px_X} {k4 : Nat → Int32 → px_W → Option (px_W)} (hk4 : ∀ (a0 : Nat) (a1 : Int32) (w : px_W) (q : px_W), k4 a0 a1 w = some q → EV X mX0_shortenLengths 4 [(0, .ref a0), (1, .int a1)] [] w none q) : ∀ (m : Nat) (a0 : Nat) (a1 : Int32) (w : px_W) (q : px_W), fX0_shortenLengths_10 X k4 m a0 a1 w = some q → EV X mX0_shortenLengths 10 [(0, .ref a0), (1, .int a1)] [] w none q := by
  intro m
  induction m with
  | zero => intro a0 a1 w q h; cases h
  | succ m ih =>
    intro a0 a1 w q h
    rw [fX0_shortenLengths_10.eq_2] at h
    refine EV.aload_n 0 dX0_shortenLengths_10 rfl rfl ?_
    obtain ⟨v45, gv45, h⟩ := px_bs h
    refine ev_gR dX0_shortenLengths_11 flRX0_21 gv45 ?_
    refine EV.iload_n 1 dX0_shortenLengths_14 rfl rfl ?_
    obtain ⟨v46, gv46, h⟩ := px_bs h
    refine ev_aI dX0_shortenLengths_15 gv46 ?_
    refine EV.iconst (1) dX0_shortenLengths_16 (by decide) ?_
    refine EV.icmp_le 91 dX0_shortenLengths_17 (by decide) (fun c47 => ?_) (fun c47 => ?_)
    · rw [if_pos c47] at h
      refine EV.sub [0, 1] rfl ?_
      exact eX0_shortenLengths_91 hk4 _ _ _ _ h
    · rw [if_neg c47] at h
      refine EV.iload_n 1 dX0_shortenLengths_20 rfl rfl ?_
      refine EV.iconst (2) dX0_shortenLengths_21 (by decide) ?_
      refine EV.isub dX0_shortenLengths_22 ?_
      refine EV.istore_n [(2, .int (a1 - 2)), (0, .ref a0), (1, .int a1)] dX0_shortenLengths_23 rfl (by decide) rfl ?_
      refine EV.sub [1, 2, 0] rfl ?_
      exact eX0_shortenLengths_24 hk4 ih FU _ _ _ _ _ h
set_option maxRecDepth 100000 in
set_option maxHeartbeats 4000000 in
theorem eX0_shortenLengths_4 {X : px_X}  : ∀ (m : Nat) (a0 : Nat) (a1 : Int32) (w : px_W) (q : px_W), fX0_shortenLengths_4 X  m a0 a1 w = some q → EV X mX0_shortenLengths 4 [(0, .ref a0), (1, .int a1)] [] w none q := by
  intro m
  induction m with
  | zero => intro a0 a1 w q h; cases h
  | succ m ih =>
    intro a0 a1 w q h
    rw [fX0_shortenLengths_4.eq_2] at h
    refine EV.iload_n 1 dX0_shortenLengths_4 rfl rfl ?_
    refine EV.bipush (16) dX0_shortenLengths_5 (by decide) ?_
    refine EV.icmp_le 97 dX0_shortenLengths_7 (by decide) (fun c48 => ?_) (fun c48 => ?_)
    · rw [if_pos c48] at h
      refine EV.sub [0] rfl ?_
      exact eX0_shortenLengths_97  _ _ _ h
    · rw [if_neg c48] at h
      refine EV.sub [0, 1] rfl ?_
      exact eX0_shortenLengths_10 ih FU _ _ _ _ h
set_option maxRecDepth 100000 in
set_option maxHeartbeats 4000000 in
theorem eX0_shortenLengths {X : px_X} {w : px_W} {a0 : Nat} {q : px_W} (h : fX0_shortenLengths X w a0 = some q) : EV X mX0_shortenLengths 0 (lv_args 0 [.ref a0]) [] w none q := by
  unfold fX0_shortenLengths at h
  show EV X mX0_shortenLengths 0 [(0, .ref a0)] [] w none q
  refine EV.sipush (256) dX0_shortenLengths_0 (by decide) ?_
  refine EV.istore_n [(1, .int 256), (0, .ref a0)] dX0_shortenLengths_3 rfl (by decide) rfl ?_
  refine EV.sub [1, 0] rfl ?_
  exact eX0_shortenLengths_4  FU _ _ _ _ h
/-! WavePictures$BestTable.putSymbolsInOrder()V -/
theorem dX0_putSymbolsInOrder_0 : decode cX0_putSymbolsInOrder 0 = .ok (.iconst 0, 1) := by decide +kernel
theorem dX0_putSymbolsInOrder_1 : decode cX0_putSymbolsInOrder 1 = .ok (.istore_n 1, 1) := by decide +kernel
theorem dX0_putSymbolsInOrder_2 : decode cX0_putSymbolsInOrder 2 = .ok (.iconst 1, 1) := by decide +kernel
theorem dX0_putSymbolsInOrder_3 : decode cX0_putSymbolsInOrder 3 = .ok (.istore_n 2, 1) := by decide +kernel
theorem dX0_putSymbolsInOrder_4 : decode cX0_putSymbolsInOrder 4 = .ok (.iload_n 2, 1) := by decide +kernel
theorem dX0_putSymbolsInOrder_5 : decode cX0_putSymbolsInOrder 5 = .ok (.sipush 256, 3) := by decide +kernel
theorem dX0_putSymbolsInOrder_8 : decode cX0_putSymbolsInOrder 8 = .ok (.if_icmp .gt 58, 3) := by decide +kernel
theorem dX0_putSymbolsInOrder_11 : decode cX0_putSymbolsInOrder 11 = .ok (.iload_n 1, 1) := by decide +kernel
theorem dX0_putSymbolsInOrder_12 : decode cX0_putSymbolsInOrder 12 = .ok (.aload_n 0, 1) := by decide +kernel
theorem dX0_putSymbolsInOrder_13 : decode cX0_putSymbolsInOrder 13 = .ok (.getfield 48, 3) := by decide +kernel
theorem dX0_putSymbolsInOrder_16 : decode cX0_putSymbolsInOrder 16 = .ok (.if_icmp .ge 50, 3) := by decide +kernel
theorem dX0_putSymbolsInOrder_19 : decode cX0_putSymbolsInOrder 19 = .ok (.iconst 0, 1) := by decide +kernel
theorem dX0_putSymbolsInOrder_20 : decode cX0_putSymbolsInOrder 20 = .ok (.istore_n 3, 1) := by decide +kernel
theorem dX0_putSymbolsInOrder_21 : decode cX0_putSymbolsInOrder 21 = .ok (.iload_n 3, 1) := by decide +kernel
theorem dX0_putSymbolsInOrder_22 : decode cX0_putSymbolsInOrder 22 = .ok (.aload_n 0, 1) := by decide +kernel
theorem dX0_putSymbolsInOrder_23 : decode cX0_putSymbolsInOrder 23 = .ok (.getfield 48, 3) := by decide +kernel
theorem dX0_putSymbolsInOrder_26 : decode cX0_putSymbolsInOrder 26 = .ok (.if_icmp .ge 34, 3) := by decide +kernel
theorem dX0_putSymbolsInOrder_29 : decode cX0_putSymbolsInOrder 29 = .ok (.aload_n 0, 1) := by decide +kernel
theorem dX0_putSymbolsInOrder_30 : decode cX0_putSymbolsInOrder 30 = .ok (.getfield 36, 3) := by decide +kernel
theorem dX0_putSymbolsInOrder_33 : decode cX0_putSymbolsInOrder 33 = .ok (.iload_n 3, 1) := by decide +kernel
theorem dX0_putSymbolsInOrder_34 : decode cX0_putSymbolsInOrder 34 = .ok (.iaload, 1) := by decide +kernel
theorem dX0_putSymbolsInOrder_35 : decode cX0_putSymbolsInOrder 35 = .ok (.iload_n 2, 1) := by decide +kernel
theorem dX0_putSymbolsInOrder_36 : decode cX0_putSymbolsInOrder 36 = .ok (.if_icmp .ne 18, 3) := by decide +kernel
theorem dX0_putSymbolsInOrder_39 : decode cX0_putSymbolsInOrder 39 = .ok (.aload_n 0, 1) := by decide +kernel
theorem dX0_putSymbolsInOrder_40 : decode cX0_putSymbolsInOrder 40 = .ok (.getfield 24, 3) := by decide +kernel
theorem dX0_putSymbolsInOrder_43 : decode cX0_putSymbolsInOrder 43 = .ok (.iload_n 1, 1) := by decide +kernel
theorem dX0_putSymbolsInOrder_44 : decode cX0_putSymbolsInOrder 44 = .ok (.aload_n 0, 1) := by decide +kernel
theorem dX0_putSymbolsInOrder_45 : decode cX0_putSymbolsInOrder 45 = .ok (.getfield 27, 3) := by decide +kernel
theorem dX0_putSymbolsInOrder_48 : decode cX0_putSymbolsInOrder 48 = .ok (.iload_n 3, 1) := by decide +kernel
theorem dX0_putSymbolsInOrder_49 : decode cX0_putSymbolsInOrder 49 = .ok (.iaload, 1) := by decide +kernel
theorem dX0_putSymbolsInOrder_50 : decode cX0_putSymbolsInOrder 50 = .ok (.iastore, 1) := by decide +kernel
theorem dX0_putSymbolsInOrder_51 : decode cX0_putSymbolsInOrder 51 = .ok (.iinc 1 1, 3) := by decide +kernel
theorem dX0_putSymbolsInOrder_54 : decode cX0_putSymbolsInOrder 54 = .ok (.iinc 3 1, 3) := by decide +kernel
theorem dX0_putSymbolsInOrder_57 : decode cX0_putSymbolsInOrder 57 = .ok (.goto (-36), 3) := by decide +kernel
theorem dX0_putSymbolsInOrder_60 : decode cX0_putSymbolsInOrder 60 = .ok (.iinc 2 1, 3) := by decide +kernel
theorem dX0_putSymbolsInOrder_63 : decode cX0_putSymbolsInOrder 63 = .ok (.goto (-59), 3) := by decide +kernel
theorem dX0_putSymbolsInOrder_66 : decode cX0_putSymbolsInOrder 66 = .ok (.return_, 1) := by decide +kernel
theorem flRX0_24 : px_f RX0 24 0 4 := ⟨_, rfl, by decide, Or.inl (tb2 (List.mem_of_getElem? (i := 184) rfl))⟩
set_option maxRecDepth 100000 in
set_option maxHeartbeats 4000000 in
theorem eX0_putSymbolsInOrder_60 {X : px_X} {k4 : Nat → Int32 → Int32 → px_W → Option (px_W)} (hk4 : ∀ (a0 : Nat) (a1 : Int32) (a2 : Int32) (w : px_W) (q : px_W), k4 a0 a1 a2 w = some q → EV X mX0_putSymbolsInOrder 4 [(0, .ref a0), (1, .int a1), (2, .int a2)] [] w none q) : ∀ (a0 : Nat) (a1 : Int32) (a2 : Int32) (w : px_W) (q : px_W), fX0_putSymbolsInOrder_60 X k4 a0 a1 a2 w = some q → EV X mX0_putSymbolsInOrder 60 [(0, .ref a0), (1, .int a1), (2, .int a2)] [] w none q := by
  intro a0 a1 a2 w q h
  unfold fX0_putSymbolsInOrder_60 at h
  refine EV.iinc 2 (a2 + 1) [(2, .int (a2 + 1)), (0, .ref a0), (1, .int a1)] dX0_putSymbolsInOrder_60 rfl rfl (by decide) rfl ?_
  refine EV.goto 4 dX0_putSymbolsInOrder_63 (by decide) ?_
  refine EV.sub [1, 2, 0] rfl ?_
  exact hk4 _ _ _ _ _ h
set_option maxRecDepth 100000 in
set_option maxHeartbeats 4000000 in
theorem eX0_putSymbolsInOrder_54 {X : px_X} {k4 : Nat → Int32 → Int32 → px_W → Option (px_W)} (hk4 : ∀ (a0 : Nat) (a1 : Int32) (a2 : Int32) (w : px_W) (q : px_W), k4 a0 a1 a2 w = some q → EV X mX0_putSymbolsInOrder 4 [(0, .ref a0), (1, .int a1), (2, .int a2)] [] w none q) {k21 : Nat → Int32 → Int32 → Int32 → px_W → Option (px_W)} (hk21 : ∀ (a0 : Nat) (a1 : Int32) (a2 : Int32) (a3 : Int32) (w : px_W) (q : px_W), k21 a0 a1 a2 a3 w = some q → EV X mX0_putSymbolsInOrder 21 [(0, .ref a0), (1, .int a1), (2, .int a2), (3, .int a3)] [] w none q) : ∀ (a0 : Nat) (a1 : Int32) (a2 : Int32) (a3 : Int32) (w : px_W) (q : px_W), fX0_putSymbolsInOrder_54 X k4 k21 a0 a1 a2 a3 w = some q → EV X mX0_putSymbolsInOrder 54 [(0, .ref a0), (1, .int a1), (2, .int a2), (3, .int a3)] [] w none q := by
  intro a0 a1 a2 a3 w q h
  unfold fX0_putSymbolsInOrder_54 at h
  refine EV.iinc 3 (a3 + 1) [(3, .int (a3 + 1)), (0, .ref a0), (1, .int a1), (2, .int a2)] dX0_putSymbolsInOrder_54 rfl rfl (by decide) rfl ?_
  refine EV.goto 21 dX0_putSymbolsInOrder_57 (by decide) ?_
  refine EV.sub [1, 2, 3, 0] rfl ?_
  exact hk21 _ _ _ _ _ _ h
set_option maxRecDepth 100000 in
set_option maxHeartbeats 4000000 in
theorem eX0_putSymbolsInOrder_21 {X : px_X} {k4 : Nat → Int32 → Int32 → px_W → Option (px_W)} (hk4 : ∀ (a0 : Nat) (a1 : Int32) (a2 : Int32) (w : px_W) (q : px_W), k4 a0 a1 a2 w = some q → EV X mX0_putSymbolsInOrder 4 [(0, .ref a0), (1, .int a1), (2, .int a2)] [] w none q) : ∀ (m : Nat) (a0 : Nat) (a1 : Int32) (a2 : Int32) (a3 : Int32) (w : px_W) (q : px_W), fX0_putSymbolsInOrder_21 X k4 m a0 a1 a2 a3 w = some q → EV X mX0_putSymbolsInOrder 21 [(0, .ref a0), (1, .int a1), (2, .int a2), (3, .int a3)] [] w none q := by
  intro m
  induction m with
  | zero => intro a0 a1 a2 a3 w q h; cases h
  | succ m ih =>
    intro a0 a1 a2 a3 w q h
    rw [fX0_putSymbolsInOrder_21.eq_2] at h
    refine EV.iload_n 3 dX0_putSymbolsInOrder_21 rfl rfl ?_
    refine EV.aload_n 0 dX0_putSymbolsInOrder_22 rfl rfl ?_
    obtain ⟨v9, gv9, h⟩ := px_bs h
    refine ev_gI dX0_putSymbolsInOrder_23 flRX0_48 gv9 ?_
    refine EV.icmp_ge 60 dX0_putSymbolsInOrder_26 (by decide) (fun c10 => ?_) (fun c10 => ?_)
    · rw [if_pos c10] at h
      refine EV.sub [0, 1, 2] rfl ?_
      exact eX0_putSymbolsInOrder_60 hk4 _ _ _ _ _ h
    · rw [if_neg c10] at h
      refine EV.aload_n 0 dX0_putSymbolsInOrder_29 rfl rfl ?_
      obtain ⟨v11, gv11, h⟩ := px_bs h
      refine ev_gR dX0_putSymbolsInOrder_30 flRX0_36 gv11 ?_
      refine EV.iload_n 3 dX0_putSymbolsInOrder_33 rfl rfl ?_
      obtain ⟨v12, gv12, h⟩ := px_bs h
      refine ev_aI dX0_putSymbolsInOrder_34 gv12 ?_
      refine EV.iload_n 2 dX0_putSymbolsInOrder_35 rfl rfl ?_
      refine EV.icmp_ne 54 dX0_putSymbolsInOrder_36 (by decide) (fun c13 => ?_) (fun c13 => ?_)
      · rw [if_neg c13] at h
        refine EV.sub [0, 1, 2, 3] rfl ?_
        exact eX0_putSymbolsInOrder_54 hk4 ih _ _ _ _ _ _ h
      · rw [if_pos c13] at h
        refine EV.aload_n 0 dX0_putSymbolsInOrder_39 rfl rfl ?_
        obtain ⟨v14, gv14, h⟩ := px_bs h
        refine ev_gR dX0_putSymbolsInOrder_40 flRX0_24 gv14 ?_
        refine EV.iload_n 1 dX0_putSymbolsInOrder_43 rfl rfl ?_
        refine EV.aload_n 0 dX0_putSymbolsInOrder_44 rfl rfl ?_
        obtain ⟨v15, gv15, h⟩ := px_bs h
        refine ev_gR dX0_putSymbolsInOrder_45 flRX0_27 gv15 ?_
        refine EV.iload_n 3 dX0_putSymbolsInOrder_48 rfl rfl ?_
        obtain ⟨v16, gv16, h⟩ := px_bs h
        refine ev_aI dX0_putSymbolsInOrder_49 gv16 ?_
        obtain ⟨w17, gw17, h⟩ := px_bs h
        refine ev_sI dX0_putSymbolsInOrder_50 gw17 ?_
        refine EV.iinc 1 (a1 + 1) [(1, .int (a1 + 1)), (0, .ref a0), (2, .int a2), (3, .int a3)] dX0_putSymbolsInOrder_51 rfl rfl (by decide) rfl ?_
        refine EV.sub [1, 0, 2, 3] rfl ?_
        exact eX0_putSymbolsInOrder_54 hk4 ih _ _ _ _ _ _ h
set_option maxRecDepth 100000 in
set_option maxHeartbeats 4000000 in
theorem eX0_putSymbolsInOrder_4 {X : px_X}  : ∀ (m : Nat) (a0 : Nat) (a1 : Int32) (a2 : Int32) (w : px_W) (q : px_W), fX0_putSymbolsInOrder_4 X  m a0 a1 a2 w = some q → EV X mX0_putSymbolsInOrder 4 [(0, .ref a0), (1, .int a1), (2, .int a2)] [] w none q := by
  intro m
  induction m with
  | zero => intro a0 a1 a2 w q h; cases h
  | succ m ih =>
    intro a0 a1 a2 w q h
    rw [fX0_putSymbolsInOrder_4.eq_2] at h
    refine EV.iload_n 2 dX0_putSymbolsInOrder_4 rfl rfl ?_
    refine EV.sipush (256) dX0_putSymbolsInOrder_5 (by decide) ?_
    refine EV.icmp_gt 66 dX0_putSymbolsInOrder_8 (by decide) (fun c18 => ?_) (fun c18 => ?_)
    · rw [if_pos c18] at h
      cases h
      exact EV.ret0 dX0_putSymbolsInOrder_66 trivial
    · rw [if_neg c18] at h
      refine EV.iload_n 1 dX0_putSymbolsInOrder_11 rfl rfl ?_
      refine EV.aload_n 0 dX0_putSymbolsInOrder_12 rfl rfl ?_
      obtain ⟨v19, gv19, h⟩ := px_bs h
      refine ev_gI dX0_putSymbolsInOrder_13 flRX0_48 gv19 ?_
      refine EV.icmp_ge 66 dX0_putSymbolsInOrder_16 (by decide) (fun c20 => ?_) (fun c20 => ?_)
      · rw [if_pos c20] at h
        cases h
        exact EV.ret0 dX0_putSymbolsInOrder_66 trivial
      · rw [if_neg c20] at h
        refine EV.iconst (0) dX0_putSymbolsInOrder_19 (by decide) ?_
        refine EV.istore_n [(3, .int 0), (0, .ref a0), (1, .int a1), (2, .int a2)] dX0_putSymbolsInOrder_20 rfl (by decide) rfl ?_
        refine EV.sub [1, 2, 3, 0] rfl ?_
        exact eX0_putSymbolsInOrder_21 ih FU _ _ _ _ _ _ h
set_option maxRecDepth 100000 in
set_option maxHeartbeats 4000000 in
theorem eX0_putSymbolsInOrder {X : px_X} {w : px_W} {a0 : Nat} {q : px_W} (h : fX0_putSymbolsInOrder X w a0 = some q) : EV X mX0_putSymbolsInOrder 0 (lv_args 0 [.ref a0]) [] w none q := by
  unfold fX0_putSymbolsInOrder at h
  show EV X mX0_putSymbolsInOrder 0 [(0, .ref a0)] [] w none q
  refine EV.iconst (0) dX0_putSymbolsInOrder_0 (by decide) ?_
  refine EV.istore_n [(1, .int 0), (0, .ref a0)] dX0_putSymbolsInOrder_1 rfl (by decide) rfl ?_
  refine EV.iconst (1) dX0_putSymbolsInOrder_2 (by decide) ?_
  refine EV.istore_n [(2, .int 1), (1, .int 0), (0, .ref a0)] dX0_putSymbolsInOrder_3 rfl (by decide) rfl ?_
  refine EV.sub [2, 1, 0] rfl ?_
  exact eX0_putSymbolsInOrder_4  FU _ _ _ _ _ h
/-! WavePictures$BestTable.giveWords()V -/
theorem dX0_giveWords_0 : decode cX0_giveWords 0 = .ok (.iconst 0, 1) := by decide +kernel
theorem dX0_giveWords_1 : decode cX0_giveWords 1 = .ok (.istore_n 1, 1) := by decide +kernel
theorem dX0_giveWords_2 : decode cX0_giveWords 2 = .ok (.iconst 0, 1) := by decide +kernel
theorem dX0_giveWords_3 : decode cX0_giveWords 3 = .ok (.istore_n 2, 1) := by decide +kernel
theorem dX0_giveWords_4 : decode cX0_giveWords 4 = .ok (.iconst 1, 1) := by decide +kernel
theorem dX0_giveWords_5 : decode cX0_giveWords 5 = .ok (.istore_n 3, 1) := by decide +kernel
theorem dX0_giveWords_6 : decode cX0_giveWords 6 = .ok (.iload_n 3, 1) := by decide +kernel
theorem dX0_giveWords_7 : decode cX0_giveWords 7 = .ok (.bipush 16, 2) := by decide +kernel
theorem dX0_giveWords_9 : decode cX0_giveWords 9 = .ok (.if_icmp .gt 71, 3) := by decide +kernel
theorem dX0_giveWords_12 : decode cX0_giveWords 12 = .ok (.iload_n 1, 1) := by decide +kernel
theorem dX0_giveWords_13 : decode cX0_giveWords 13 = .ok (.iconst 2, 1) := by decide +kernel
theorem dX0_giveWords_14 : decode cX0_giveWords 14 = .ok (.imul, 1) := by decide +kernel
theorem dX0_giveWords_15 : decode cX0_giveWords 15 = .ok (.istore_n 1, 1) := by decide +kernel
theorem dX0_giveWords_16 : decode cX0_giveWords 16 = .ok (.iconst 0, 1) := by decide +kernel
theorem dX0_giveWords_17 : decode cX0_giveWords 17 = .ok (.istore 4, 2) := by decide +kernel
theorem dX0_giveWords_19 : decode cX0_giveWords 19 = .ok (.iload 4, 2) := by decide +kernel
theorem dX0_giveWords_21 : decode cX0_giveWords 21 = .ok (.aload_n 0, 1) := by decide +kernel
theorem dX0_giveWords_22 : decode cX0_giveWords 22 = .ok (.getfield 21, 3) := by decide +kernel
theorem dX0_giveWords_25 : decode cX0_giveWords 25 = .ok (.iload_n 3, 1) := by decide +kernel
theorem dX0_giveWords_26 : decode cX0_giveWords 26 = .ok (.iaload, 1) := by decide +kernel
theorem dX0_giveWords_27 : decode cX0_giveWords 27 = .ok (.if_icmp .ge 47, 3) := by decide +kernel
theorem dX0_giveWords_30 : decode cX0_giveWords 30 = .ok (.iload_n 2, 1) := by decide +kernel
theorem dX0_giveWords_31 : decode cX0_giveWords 31 = .ok (.aload_n 0, 1) := by decide +kernel
theorem dX0_giveWords_32 : decode cX0_giveWords 32 = .ok (.getfield 48, 3) := by decide +kernel
theorem dX0_giveWords_35 : decode cX0_giveWords 35 = .ok (.if_icmp .ge 39, 3) := by decide +kernel
theorem dX0_giveWords_38 : decode cX0_giveWords 38 = .ok (.aload_n 0, 1) := by decide +kernel
theorem dX0_giveWords_39 : decode cX0_giveWords 39 = .ok (.getfield 15, 3) := by decide +kernel
theorem dX0_giveWords_42 : decode cX0_giveWords 42 = .ok (.aload_n 0, 1) := by decide +kernel
theorem dX0_giveWords_43 : decode cX0_giveWords 43 = .ok (.getfield 24, 3) := by decide +kernel
theorem dX0_giveWords_46 : decode cX0_giveWords 46 = .ok (.iload_n 2, 1) := by decide +kernel
theorem dX0_giveWords_47 : decode cX0_giveWords 47 = .ok (.iaload, 1) := by decide +kernel
theorem dX0_giveWords_48 : decode cX0_giveWords 48 = .ok (.iload_n 1, 1) := by decide +kernel
theorem dX0_giveWords_49 : decode cX0_giveWords 49 = .ok (.iastore, 1) := by decide +kernel
theorem dX0_giveWords_50 : decode cX0_giveWords 50 = .ok (.aload_n 0, 1) := by decide +kernel
theorem dX0_giveWords_51 : decode cX0_giveWords 51 = .ok (.getfield 18, 3) := by decide +kernel
theorem dX0_giveWords_54 : decode cX0_giveWords 54 = .ok (.aload_n 0, 1) := by decide +kernel
theorem dX0_giveWords_55 : decode cX0_giveWords 55 = .ok (.getfield 24, 3) := by decide +kernel
theorem dX0_giveWords_58 : decode cX0_giveWords 58 = .ok (.iload_n 2, 1) := by decide +kernel
theorem dX0_giveWords_59 : decode cX0_giveWords 59 = .ok (.iaload, 1) := by decide +kernel
theorem dX0_giveWords_60 : decode cX0_giveWords 60 = .ok (.iload_n 3, 1) := by decide +kernel
theorem dX0_giveWords_61 : decode cX0_giveWords 61 = .ok (.iastore, 1) := by decide +kernel
theorem dX0_giveWords_62 : decode cX0_giveWords 62 = .ok (.iinc 1 1, 3) := by decide +kernel
theorem dX0_giveWords_65 : decode cX0_giveWords 65 = .ok (.iinc 2 1, 3) := by decide +kernel
theorem dX0_giveWords_68 : decode cX0_giveWords 68 = .ok (.iinc 4 1, 3) := by decide +kernel
theorem dX0_giveWords_71 : decode cX0_giveWords 71 = .ok (.goto (-52), 3) := by decide +kernel
theorem dX0_giveWords_74 : decode cX0_giveWords 74 = .ok (.iinc 3 1, 3) := by decide +kernel
theorem dX0_giveWords_77 : decode cX0_giveWords 77 = .ok (.goto (-71), 3) := by decide +kernel
theorem dX0_giveWords_80 : decode cX0_giveWords 80 = .ok (.return_, 1) := by decide +kernel
theorem flRX0_15 : px_f RX0 15 0 1 := ⟨_, rfl, by decide, Or.inl (tb2 (List.mem_of_getElem? (i := 178) rfl))⟩
theorem flRX0_18 : px_f RX0 18 0 2 := ⟨_, rfl, by decide, Or.inl (tb2 (List.mem_of_getElem? (i := 180) rfl))⟩
set_option maxRecDepth 100000 in
set_option maxHeartbeats 4000000 in
theorem eX0_giveWords_74 {X : px_X} {k6 : Nat → Int32 → Int32 → Int32 → px_W → Option (px_W)} (hk6 : ∀ (a0 : Nat) (a1 : Int32) (a2 : Int32) (a3 : Int32) (w : px_W) (q : px_W), k6 a0 a1 a2 a3 w = some q → EV X mX0_giveWords 6 [(0, .ref a0), (1, .int a1), (2, .int a2), (3, .int a3)] [] w none q) : ∀ (a0 : Nat) (a1 : Int32) (a2 : Int32) (a3 : Int32) (w : px_W) (q : px_W), fX0_giveWords_74 X k6 a0 a1 a2 a3 w = some q → EV X mX0_giveWords 74 [(0, .ref a0), (1, .int a1), (2, .int a2), (3, .int a3)] [] w none q := by
  intro a0 a1 a2 a3 w q h
  unfold fX0_giveWords_74 at h
  refine EV.iinc 3 (a3 + 1) [(3, .int (a3 + 1)), (0, .ref a0), (1, .int a1), (2, .int a2)] dX0_giveWords_74 rfl rfl (by decide) rfl ?_
  refine EV.goto 6 dX0_giveWords_77 (by decide) ?_
  refine EV.sub [1, 2, 3, 0] rfl ?_
  exact hk6 _ _ _ _ _ _ h
set_option maxRecDepth 100000 in
set_option maxHeartbeats 4000000 in
theorem eX0_giveWords_19 {X : px_X} {k6 : Nat → Int32 → Int32 → Int32 → px_W → Option (px_W)} (hk6 : ∀ (a0 : Nat) (a1 : Int32) (a2 : Int32) (a3 : Int32) (w : px_W) (q : px_W), k6 a0 a1 a2 a3 w = some q → EV X mX0_giveWords 6 [(0, .ref a0), (1, .int a1), (2, .int a2), (3, .int a3)] [] w none q) : ∀ (m : Nat) (a0 : Nat) (a1 : Int32) (a2 : Int32) (a3 : Int32) (a4 : Int32) (w : px_W) (q : px_W), fX0_giveWords_19 X k6 m a0 a1 a2 a3 a4 w = some q → EV X mX0_giveWords 19 [(0, .ref a0), (1, .int a1), (2, .int a2), (3, .int a3), (4, .int a4)] [] w none q := by
  intro m
  induction m with
  | zero => intro a0 a1 a2 a3 a4 w q h; cases h
  | succ m ih =>
    intro a0 a1 a2 a3 a4 w q h
    rw [fX0_giveWords_19.eq_2] at h
    refine EV.iload 4 dX0_giveWords_19 rfl ?_
    refine EV.aload_n 0 dX0_giveWords_21 rfl rfl ?_
    obtain ⟨v12, gv12, h⟩ := px_bs h
    refine ev_gR dX0_giveWords_22 flRX0_21 gv12 ?_
    refine EV.iload_n 3 dX0_giveWords_25 rfl rfl ?_
    obtain ⟨v13, gv13, h⟩ := px_bs h
    refine ev_aI dX0_giveWords_26 gv13 ?_
    refine EV.icmp_ge 74 dX0_giveWords_27 (by decide) (fun c14 => ?_) (fun c14 => ?_)
    · rw [if_pos c14] at h
      refine EV.sub [0, 1, 2, 3] rfl ?_
      exact eX0_giveWords_74 hk6 _ _ _ _ _ _ h
    · rw [if_neg c14] at h
      refine EV.iload_n 2 dX0_giveWords_30 rfl rfl ?_
      refine EV.aload_n 0 dX0_giveWords_31 rfl rfl ?_
      obtain ⟨v15, gv15, h⟩ := px_bs h
      refine ev_gI dX0_giveWords_32 flRX0_48 gv15 ?_
      refine EV.icmp_ge 74 dX0_giveWords_35 (by decide) (fun c16 => ?_) (fun c16 => ?_)
      · rw [if_pos c16] at h
        refine EV.sub [0, 1, 2, 3] rfl ?_
        exact eX0_giveWords_74 hk6 _ _ _ _ _ _ h
      · rw [if_neg c16] at h
        refine EV.aload_n 0 dX0_giveWords_38 rfl rfl ?_
        obtain ⟨v17, gv17, h⟩ := px_bs h
        refine ev_gR dX0_giveWords_39 flRX0_15 gv17 ?_
        refine EV.aload_n 0 dX0_giveWords_42 rfl rfl ?_
        obtain ⟨v18, gv18, h⟩ := px_bs h
        refine ev_gR dX0_giveWords_43 flRX0_24 gv18 ?_
        refine EV.iload_n 2 dX0_giveWords_46 rfl rfl ?_
        obtain ⟨v19, gv19, h⟩ := px_bs h
        refine ev_aI dX0_giveWords_47 gv19 ?_
        refine EV.iload_n 1 dX0_giveWords_48 rfl rfl ?_
        obtain ⟨w20, gw20, h⟩ := px_bs h
        refine ev_sI dX0_giveWords_49 gw20 ?_
        refine EV.aload_n 0 dX0_giveWords_50 rfl rfl ?_
        obtain ⟨v21, gv21, h⟩ := px_bs h
        refine ev_gR dX0_giveWords_51 flRX0_18 gv21 ?_
        refine EV.aload_n 0 dX0_giveWords_54 rfl rfl ?_
        obtain ⟨v22, gv22, h⟩ := px_bs h
        refine ev_gR dX0_giveWords_55 flRX0_24 gv22 ?_
        refine EV.iload_n 2 dX0_giveWords_58 rfl rfl ?_
        obtain ⟨v23, gv23, h⟩ := px_bs h
        refine ev_aI dX0_giveWords_59 gv23 ?_
        refine EV.iload_n 3 dX0_giveWords_60 rfl rfl ?_
        obtain ⟨w24, gw24, h⟩ := px_bs h
        refine ev_sI dX0_giveWords_61 gw24 ?_
        refine EV.iinc 1 (a1 + 1) [(1, .int (a1 + 1)), (0, .ref a0), (2, .int a2), (3, .int a3), (4, .int a4)] dX0_giveWords_62 rfl rfl (by decide) rfl ?_
        refine EV.iinc 2 (a2 + 1) [(2, .int (a2 + 1)), (1, .int (a1 + 1)), (0, .ref a0), (3, .int a3), (4, .int a4)] dX0_giveWords_65 rfl rfl (by decide) rfl ?_
        refine EV.iinc 4 (a4 + 1) [(4, .int (a4 + 1)), (2, .int (a2 + 1)), (1, .int (a1 + 1)), (0, .ref a0), (3, .int a3)] dX0_giveWords_68 rfl rfl (by decide) rfl ?_
        refine EV.goto 19 dX0_giveWords_71 (by decide) ?_
        refine EV.sub [3, 2, 1, 4, 0] rfl ?_
        exact ih _ _ _ _ _ _ _ h
set_option maxRecDepth 100000 in
set_option maxHeartbeats 4000000 in
theorem eX0_giveWords_6 {X : px_X}  : ∀ (m : Nat) (a0 : Nat) (a1 : Int32) (a2 : Int32) (a3 : Int32) (w : px_W) (q : px_W), fX0_giveWords_6 X  m a0 a1 a2 a3 w = some q → EV X mX0_giveWords 6 [(0, .ref a0), (1, .int a1), (2, .int a2), (3, .int a3)] [] w none q := by
  intro m
  induction m with
  | zero => intro a0 a1 a2 a3 w q h; cases h
  | succ m ih =>
    intro a0 a1 a2 a3 w q h
    rw [fX0_giveWords_6.eq_2] at h
    refine EV.iload_n 3 dX0_giveWords_6 rfl rfl ?_
    refine EV.bipush (16) dX0_giveWords_7 (by decide) ?_
    refine EV.icmp_gt 80 dX0_giveWords_9 (by decide) (fun c25 => ?_) (fun c25 => ?_)
    · rw [if_pos c25] at h
      cases h
      exact EV.ret0 dX0_giveWords_80 trivial
    · rw [if_neg c25] at h
      refine EV.iload_n 1 dX0_giveWords_12 rfl rfl ?_
      refine EV.iconst (2) dX0_giveWords_13 (by decide) ?_
      refine EV.imul dX0_giveWords_14 ?_
      refine EV.istore_n [(1, .int (a1 * 2)), (0, .ref a0), (2, .int a2), (3, .int a3)] dX0_giveWords_15 rfl (by decide) rfl ?_
      refine EV.iconst (0) dX0_giveWords_16 (by decide) ?_
      refine EV.istore [(4, .int 0), (1, .int (a1 * 2)), (0, .ref a0), (2, .int a2), (3, .int a3)] dX0_giveWords_17 (by decide) rfl ?_
      refine EV.sub [2, 1, 3, 4, 0] rfl ?_
      exact eX0_giveWords_19 ih FU _ _ _ _ _ _ _ h
set_option maxRecDepth 100000 in
set_option maxHeartbeats 4000000 in
theorem eX0_giveWords {X : px_X} {w : px_W} {a0 : Nat} {q : px_W} (h : fX0_giveWords X w a0 = some q) : EV X mX0_giveWords 0 (lv_args 0 [.ref a0]) [] w none q := by
  unfold fX0_giveWords at h
  show EV X mX0_giveWords 0 [(0, .ref a0)] [] w none q
  refine EV.iconst (0) dX0_giveWords_0 (by decide) ?_
  refine EV.istore_n [(1, .int 0), (0, .ref a0)] dX0_giveWords_1 rfl (by decide) rfl ?_
  refine EV.iconst (0) dX0_giveWords_2 (by decide) ?_
  refine EV.istore_n [(2, .int 0), (1, .int 0), (0, .ref a0)] dX0_giveWords_3 rfl (by decide) rfl ?_
  refine EV.iconst (1) dX0_giveWords_4 (by decide) ?_
  refine EV.istore_n [(3, .int 1), (2, .int 0), (1, .int 0), (0, .ref a0)] dX0_giveWords_5 rfl (by decide) rfl ?_
  refine EV.sub [3, 2, 1, 0] rfl ?_
  exact eX0_giveWords_6  FU _ _ _ _ _ _ h
/-! WavePictures$BestTable.settle()V -/
theorem dX0_settle_0 : decode cX0_settle 0 = .ok (.aload_n 0, 1) := by decide +kernel
theorem dX0_settle_1 : decode cX0_settle 1 = .ok (.invokevirtual 45, 3) := by decide +kernel
theorem dX0_settle_4 : decode cX0_settle 4 = .ok (.iconst 0, 1) := by decide +kernel
theorem dX0_settle_5 : decode cX0_settle 5 = .ok (.istore_n 1, 1) := by decide +kernel
theorem dX0_settle_6 : decode cX0_settle 6 = .ok (.iload_n 1, 1) := by decide +kernel
theorem dX0_settle_7 : decode cX0_settle 7 = .ok (.aload_n 0, 1) := by decide +kernel
theorem dX0_settle_8 : decode cX0_settle 8 = .ok (.getfield 48, 3) := by decide +kernel
theorem dX0_settle_11 : decode cX0_settle 11 = .ok (.if_icmp .ge 13, 3) := by decide +kernel
theorem dX0_settle_14 : decode cX0_settle 14 = .ok (.aload_n 0, 1) := by decide +kernel
theorem dX0_settle_15 : decode cX0_settle 15 = .ok (.invokevirtual 52, 3) := by decide +kernel
theorem dX0_settle_18 : decode cX0_settle 18 = .ok (.iinc 1 1, 3) := by decide +kernel
theorem dX0_settle_21 : decode cX0_settle 21 = .ok (.goto (-15), 3) := by decide +kernel
theorem dX0_settle_24 : decode cX0_settle 24 = .ok (.aload_n 0, 1) := by decide +kernel
theorem dX0_settle_25 : decode cX0_settle 25 = .ok (.invokevirtual 55, 3) := by decide +kernel
theorem dX0_settle_28 : decode cX0_settle 28 = .ok (.aload_n 0, 1) := by decide +kernel
theorem dX0_settle_29 : decode cX0_settle 29 = .ok (.invokevirtual 58, 3) := by decide +kernel
theorem dX0_settle_32 : decode cX0_settle 32 = .ok (.aload_n 0, 1) := by decide +kernel
theorem dX0_settle_33 : decode cX0_settle 33 = .ok (.invokevirtual 61, 3) := by decide +kernel
theorem dX0_settle_36 : decode cX0_settle 36 = .ok (.aload_n 0, 1) := by decide +kernel
theorem dX0_settle_37 : decode cX0_settle 37 = .ok (.invokevirtual 64, 3) := by decide +kernel
theorem dX0_settle_40 : decode cX0_settle 40 = .ok (.return_, 1) := by decide +kernel
theorem mbX0_gatherPlaces : px_mB mX0_gatherPlaces 0 := ⟨tb5 (List.mem_of_getElem? (i := 73) rfl), by decide +kernel, tb1 (List.mem_of_getElem? (i := 11) rfl), by decide +kernel, by decide +kernel⟩
theorem vbX0_gatherPlaces : px_vB mX0_gatherPlaces := ⟨tb5 (List.mem_of_getElem? (i := 72) rfl), List.mem_append_left _ (List.mem_of_getElem? (i := 64) (by decide +kernel))⟩
theorem kcX0_settle_45 : px_cV mX0_settle 45 mX0_gatherPlaces 0 := ⟨⟨mbX0_gatherPlaces, by decide, by decide⟩, Or.inl (tb5 (List.mem_of_getElem? (i := 70) rfl)), vbX0_gatherPlaces⟩
theorem mbX0_joinTwoGroups : px_mB mX0_joinTwoGroups 0 := ⟨tb5 (List.mem_of_getElem? (i := 81) rfl), by decide +kernel, tb1 (List.mem_of_getElem? (i := 11) rfl), by decide +kernel, by decide +kernel⟩
theorem vbX0_joinTwoGroups : px_vB mX0_joinTwoGroups := ⟨tb5 (List.mem_of_getElem? (i := 80) rfl), List.mem_append_left _ (List.mem_of_getElem? (i := 66) (by decide +kernel))⟩
theorem kcX0_settle_52 : px_cV mX0_settle 52 mX0_joinTwoGroups 0 := ⟨⟨mbX0_joinTwoGroups, by decide, by decide⟩, Or.inl (tb5 (List.mem_of_getElem? (i := 78) rfl)), vbX0_joinTwoGroups⟩
theorem mbX0_countLengths : px_mB mX0_countLengths 0 := ⟨tb5 (List.mem_of_getElem? (i := 85) rfl), by decide +kernel, tb1 (List.mem_of_getElem? (i := 11) rfl), by decide +kernel, by decide +kernel⟩
theorem vbX0_countLengths : px_vB mX0_countLengths := ⟨tb5 (List.mem_of_getElem? (i := 84) rfl), List.mem_append_left _ (List.mem_of_getElem? (i := 67) (by decide +kernel))⟩
theorem kcX0_settle_55 : px_cV mX0_settle 55 mX0_countLengths 0 := ⟨⟨mbX0_countLengths, by decide, by decide⟩, Or.inl (tb5 (List.mem_of_getElem? (i := 82) rfl)), vbX0_countLengths⟩
theorem mbX0_shortenLengths : px_mB mX0_shortenLengths 0 := ⟨tb5 (List.mem_of_getElem? (i := 89) rfl), by decide +kernel, tb1 (List.mem_of_getElem? (i := 11) rfl), by decide +kernel, by decide +kernel⟩
theorem vbX0_shortenLengths : px_vB mX0_shortenLengths := ⟨tb5 (List.mem_of_getElem? (i := 88) rfl), List.mem_append_left _ (List.mem_of_getElem? (i := 68) (by decide +kernel))⟩
theorem kcX0_settle_58 : px_cV mX0_settle 58 mX0_shortenLengths 0 := ⟨⟨mbX0_shortenLengths, by decide, by decide⟩, Or.inl (tb5 (List.mem_of_getElem? (i := 86) rfl)), vbX0_shortenLengths⟩
theorem mbX0_putSymbolsInOrder : px_mB mX0_putSymbolsInOrder 0 := ⟨tb5 (List.mem_of_getElem? (i := 93) rfl), by decide +kernel, tb1 (List.mem_of_getElem? (i := 11) rfl), by decide +kernel, by decide +kernel⟩
theorem vbX0_putSymbolsInOrder : px_vB mX0_putSymbolsInOrder := ⟨tb5 (List.mem_of_getElem? (i := 92) rfl), List.mem_append_left _ (List.mem_of_getElem? (i := 69) (by decide +kernel))⟩
theorem kcX0_settle_61 : px_cV mX0_settle 61 mX0_putSymbolsInOrder 0 := ⟨⟨mbX0_putSymbolsInOrder, by decide, by decide⟩, Or.inl (tb5 (List.mem_of_getElem? (i := 90) rfl)), vbX0_putSymbolsInOrder⟩
theorem mbX0_giveWords : px_mB mX0_giveWords 0 := ⟨tb5 (List.mem_of_getElem? (i := 97) rfl), by decide +kernel, tb1 (List.mem_of_getElem? (i := 11) rfl), by decide +kernel, by decide +kernel⟩
theorem vbX0_giveWords : px_vB mX0_giveWords := ⟨tb5 (List.mem_of_getElem? (i := 96) rfl), List.mem_append_left _ (List.mem_of_getElem? (i := 70) (by decide +kernel))⟩
theorem kcX0_settle_64 : px_cV mX0_settle 64 mX0_giveWords 0 := ⟨⟨mbX0_giveWords, by decide, by decide⟩, Or.inl (tb5 (List.mem_of_getElem? (i := 94) rfl)), vbX0_giveWords⟩
set_option maxRecDepth 100000 in
set_option maxHeartbeats 4000000 in
theorem eX0_settle_24 {X : px_X}  : ∀ (a0 : Nat) (w : px_W) (q : px_W), fX0_settle_24 X  a0 w = some q → EV X mX0_settle 24 [(0, .ref a0)] [] w none q := by
  intro a0 w q h
  unfold fX0_settle_24 at h
  refine EV.aload_n 0 dX0_settle_24 rfl rfl ?_
  obtain ⟨o14, go14, h⟩ := px_bs h
  obtain ⟨q15, gq15, h⟩ := px_bs h
  refine EV.callV (As := []) (rest := []) dX0_settle_25 kcX0_settle_55 (gO_ok go14) rfl rfl rfl (Nat.le_of_ble_eq_true rfl) (Nat.le_of_ble_eq_true rfl) (eX0_countLengths gq15) ?_
  refine EV.aload_n 0 dX0_settle_28 rfl rfl ?_
  obtain ⟨o16, go16, h⟩ := px_bs h
  obtain ⟨q17, gq17, h⟩ := px_bs h
  refine EV.callV (As := []) (rest := []) dX0_settle_29 kcX0_settle_58 (gO_ok go16) rfl rfl rfl (Nat.le_of_ble_eq_true rfl) (Nat.le_of_ble_eq_true rfl) (eX0_shortenLengths gq17) ?_
  refine EV.aload_n 0 dX0_settle_32 rfl rfl ?_
  obtain ⟨o18, go18, h⟩ := px_bs h
  obtain ⟨q19, gq19, h⟩ := px_bs h
  refine EV.callV (As := []) (rest := []) dX0_settle_33 kcX0_settle_61 (gO_ok go18) rfl rfl rfl (Nat.le_of_ble_eq_true rfl) (Nat.le_of_ble_eq_true rfl) (eX0_putSymbolsInOrder gq19) ?_
  refine EV.aload_n 0 dX0_settle_36 rfl rfl ?_
  obtain ⟨o20, go20, h⟩ := px_bs h
  obtain ⟨q21, gq21, h⟩ := px_bs h
  refine EV.callV (As := []) (rest := []) dX0_settle_37 kcX0_settle_64 (gO_ok go20) rfl rfl rfl (Nat.le_of_ble_eq_true rfl) (Nat.le_of_ble_eq_true rfl) (eX0_giveWords gq21) ?_
  cases h
  exact EV.ret0 dX0_settle_40 trivial
set_option maxRecDepth 100000 in
set_option maxHeartbeats 4000000 in
theorem eX0_settle_6 {X : px_X}  : ∀ (m : Nat) (a0 : Nat) (a1 : Int32) (w : px_W) (q : px_W), fX0_settle_6 X  m a0 a1 w = some q → EV X mX0_settle 6 [(0, .ref a0), (1, .int a1)] [] w none q := by
  intro m
  induction m with
  | zero => intro a0 a1 w q h; cases h
  | succ m ih =>
    intro a0 a1 w q h
    rw [fX0_settle_6.eq_2] at h
    refine EV.iload_n 1 dX0_settle_6 rfl rfl ?_
    refine EV.aload_n 0 dX0_settle_7 rfl rfl ?_
    obtain ⟨v22, gv22, h⟩ := px_bs h
    refine ev_gI dX0_settle_8 flRX0_48 gv22 ?_
    refine EV.icmp_ge 24 dX0_settle_11 (by decide) (fun c23 => ?_) (fun c23 => ?_)
    · rw [if_pos c23] at h
      refine EV.sub [0] rfl ?_
      exact eX0_settle_24  _ _ _ h
    · rw [if_neg c23] at h
      refine EV.aload_n 0 dX0_settle_14 rfl rfl ?_
      obtain ⟨o24, go24, h⟩ := px_bs h
      obtain ⟨q25, gq25, h⟩ := px_bs h
      refine EV.callV (As := []) (rest := []) dX0_settle_15 kcX0_settle_52 (gO_ok go24) rfl rfl rfl (Nat.le_of_ble_eq_true rfl) (Nat.le_of_ble_eq_true rfl) (eX0_joinTwoGroups gq25) ?_
      refine EV.iinc 1 (a1 + 1) [(1, .int (a1 + 1)), (0, .ref a0)] dX0_settle_18 rfl rfl (by decide) rfl ?_
      refine EV.goto 6 dX0_settle_21 (by decide) ?_
      refine EV.sub [1, 0] rfl ?_
      exact ih _ _ _ _ h
set_option maxRecDepth 100000 in
set_option maxHeartbeats 4000000 in
theorem eX0_settle {X : px_X} {w : px_W} {a0 : Nat} {q : px_W} (h : fX0_settle X w a0 = some q) : EV X mX0_settle 0 (lv_args 0 [.ref a0]) [] w none q := by
  unfold fX0_settle at h
  show EV X mX0_settle 0 [(0, .ref a0)] [] w none q
  refine EV.aload_n 0 dX0_settle_0 rfl rfl ?_
  obtain ⟨o26, go26, h⟩ := px_bs h
  obtain ⟨q27, gq27, h⟩ := px_bs h
  refine EV.callV (As := []) (rest := []) dX0_settle_1 kcX0_settle_45 (gO_ok go26) rfl rfl rfl (Nat.le_of_ble_eq_true rfl) (Nat.le_of_ble_eq_true rfl) (eX0_gatherPlaces gq27) ?_
  refine EV.iconst (0) dX0_settle_4 (by decide) ?_
  refine EV.istore_n [(1, .int 0), (0, .ref a0)] dX0_settle_5 rfl (by decide) rfl ?_
  refine EV.sub [1, 0] rfl ?_
  exact eX0_settle_6  FU _ _ _ _ h
/-! WavePictures$Bytes.<init>()V -/
theorem dX1_init_0 : decode cX1_init 0 = .ok (.aload_n 0, 1) := by decide +kernel
theorem dX1_init_1 : decode cX1_init 1 = .ok (.invokespecial 3, 3) := by decide +kernel
theorem dX1_init_4 : decode cX1_init 4 = .ok (.aload_n 0, 1) := by decide +kernel
theorem dX1_init_5 : decode cX1_init 5 = .ok (.sipush 16384, 3) := by decide +kernel
theorem dX1_init_8 : decode cX1_init 8 = .ok (.newarray .byte, 2) := by decide +kernel
theorem dX1_init_10 : decode cX1_init 10 = .ok (.putfield 9, 3) := by decide +kernel
theorem dX1_init_13 : decode cX1_init 13 = .ok (.return_, 1) := by decide +kernel
set_option maxRecDepth 100000 in
set_option maxHeartbeats 4000000 in
theorem eX1_init {X : px_X} {w : px_W} {a0 : Nat} {q : px_W} (h : fX1_init X w a0 = some q) : EV X mX1_init 0 (lv_args 0 [.ref a0]) [] w none q := by
  unfold fX1_init at h
  show EV X mX1_init 0 [(0, .ref a0)] [] w none q
  refine EV.aload_n 0 dX1_init_0 rfl rfl ?_
  refine EV.objI dX1_init_1 (tb1 (List.mem_of_getElem? (i := 34) rfl)) (by decide) (by decide) (Nat.le_of_ble_eq_true rfl) ?_
  refine EV.aload_n 0 dX1_init_4 rfl rfl ?_
  refine EV.sipush (16384) dX1_init_5 (by decide) ?_
  obtain ⟨q3, gq3, h⟩ := px_bs h
  refine ev_nB dX1_init_8 gq3 ?_
  obtain ⟨w4, gw4, h⟩ := px_bs h
  refine ev_pF dX1_init_10 (ci := 1) (k := 0) rfl (by decide) (tb1 (List.mem_of_getElem? (i := 35) rfl)) rfl rfl rfl rfl rfl gw4 ?_
  cases h
  exact EV.ret0 dX1_init_13 trivial
/-! WavePictures$Bytes.clear()V -/
theorem dX1_clear_0 : decode cX1_clear 0 = .ok (.aload_n 0, 1) := by decide +kernel
theorem dX1_clear_1 : decode cX1_clear 1 = .ok (.iconst 0, 1) := by decide +kernel
theorem dX1_clear_2 : decode cX1_clear 2 = .ok (.putfield 15, 3) := by decide +kernel
theorem dX1_clear_5 : decode cX1_clear 5 = .ok (.aload_n 0, 1) := by decide +kernel
theorem dX1_clear_6 : decode cX1_clear 6 = .ok (.iconst 0, 1) := by decide +kernel
theorem dX1_clear_7 : decode cX1_clear 7 = .ok (.putfield 19, 3) := by decide +kernel
theorem dX1_clear_10 : decode cX1_clear 10 = .ok (.return_, 1) := by decide +kernel
theorem flRX1_15 : px_f RX1 15 1 1 := ⟨_, rfl, by decide, Or.inl (tb1 (List.mem_of_getElem? (i := 37) rfl))⟩
theorem flRX1_19 : px_f RX1 19 1 2 := ⟨_, rfl, by decide, Or.inl (tb1 (List.mem_of_getElem? (i := 40) rfl))⟩
set_option maxRecDepth 100000 in
set_option maxHeartbeats 4000000 in
theorem eX1_clear {X : px_X} {w : px_W} {a0 : Nat} {q : px_W} (h : fX1_clear X w a0 = some q) : EV X mX1_clear 0 (lv_args 0 [.ref a0]) [] w none q := by
  unfold fX1_clear at h
  show EV X mX1_clear 0 [(0, .ref a0)] [] w none q
  refine EV.aload_n 0 dX1_clear_0 rfl rfl ?_
  refine EV.iconst (0) dX1_clear_1 (by decide) ?_
  obtain ⟨w3, gw3, h⟩ := px_bs h
  refine ev_pV dX1_clear_2 flRX1_15 rfl rfl rfl rfl gw3 ?_
  refine EV.aload_n 0 dX1_clear_5 rfl rfl ?_
  refine EV.iconst (0) dX1_clear_6 (by decide) ?_
  obtain ⟨w4, gw4, h⟩ := px_bs h
  refine ev_pZ dX1_clear_7 flRX1_19 rfl rfl (by decide +kernel) gw4 ?_
  cases h
  exact EV.ret0 dX1_clear_10 trivial
/-! WavePictures$Bytes.add(I)V -/
theorem dX1_add_0 : decode cX1_add 0 = .ok (.aload_n 0, 1) := by decide +kernel
theorem dX1_add_1 : decode cX1_add 1 = .ok (.getfield 15, 3) := by decide +kernel
theorem dX1_add_4 : decode cX1_add 4 = .ok (.sipush 16384, 3) := by decide +kernel
theorem dX1_add_7 : decode cX1_add 7 = .ok (.if_icmp .lt 9, 3) := by decide +kernel
theorem dX1_add_10 : decode cX1_add 10 = .ok (.aload_n 0, 1) := by decide +kernel
theorem dX1_add_11 : decode cX1_add 11 = .ok (.iconst 1, 1) := by decide +kernel
theorem dX1_add_12 : decode cX1_add 12 = .ok (.putfield 19, 3) := by decide +kernel
theorem dX1_add_15 : decode cX1_add 15 = .ok (.return_, 1) := by decide +kernel
theorem dX1_add_16 : decode cX1_add 16 = .ok (.aload_n 0, 1) := by decide +kernel
theorem dX1_add_17 : decode cX1_add 17 = .ok (.getfield 9, 3) := by decide +kernel
theorem dX1_add_20 : decode cX1_add 20 = .ok (.aload_n 0, 1) := by decide +kernel
theorem dX1_add_21 : decode cX1_add 21 = .ok (.getfield 15, 3) := by decide +kernel
theorem dX1_add_24 : decode cX1_add 24 = .ok (.iload_n 1, 1) := by decide +kernel
theorem dX1_add_25 : decode cX1_add 25 = .ok (.i2b, 1) := by decide +kernel
theorem dX1_add_26 : decode cX1_add 26 = .ok (.bastore, 1) := by decide +kernel
theorem dX1_add_27 : decode cX1_add 27 = .ok (.aload_n 0, 1) := by decide +kernel
theorem dX1_add_28 : decode cX1_add 28 = .ok (.dup, 1) := by decide +kernel
theorem dX1_add_29 : decode cX1_add 29 = .ok (.getfield 15, 3) := by decide +kernel
theorem dX1_add_32 : decode cX1_add 32 = .ok (.iconst 1, 1) := by decide +kernel
theorem dX1_add_33 : decode cX1_add 33 = .ok (.iadd, 1) := by decide +kernel
theorem dX1_add_34 : decode cX1_add 34 = .ok (.putfield 15, 3) := by decide +kernel
theorem dX1_add_37 : decode cX1_add 37 = .ok (.return_, 1) := by decide +kernel
theorem flRX1_9 : px_f RX1 9 1 0 := ⟨_, rfl, by decide, Or.inl (tb1 (List.mem_of_getElem? (i := 35) rfl))⟩
set_option maxRecDepth 100000 in
set_option maxHeartbeats 4000000 in
theorem eX1_add {X : px_X} {w : px_W} {a0 : Nat} {a1 : Int32} {q : px_W} (h : fX1_add X w a0 a1 = some q) : EV X mX1_add 0 (lv_args 0 [.ref a0, .int a1]) [] w none q := by
  unfold fX1_add at h
  show EV X mX1_add 0 [(0, .ref a0), (1, .int a1)] [] w none q
  refine EV.aload_n 0 dX1_add_0 rfl rfl ?_
  obtain ⟨v8, gv8, h⟩ := px_bs h
  refine ev_gI dX1_add_1 flRX1_15 gv8 ?_
  refine EV.sipush (16384) dX1_add_4 (by decide) ?_
  refine EV.icmp_lt 16 dX1_add_7 (by decide) (fun c9 => ?_) (fun c9 => ?_)
  · rw [if_pos c9] at h
    refine EV.aload_n 0 dX1_add_16 rfl rfl ?_
    obtain ⟨v10, gv10, h⟩ := px_bs h
    refine ev_gR dX1_add_17 flRX1_9 gv10 ?_
    refine EV.aload_n 0 dX1_add_20 rfl rfl ?_
    obtain ⟨v11, gv11, h⟩ := px_bs h
    refine ev_gI dX1_add_21 flRX1_15 gv11 ?_
    refine EV.iload_n 1 dX1_add_24 rfl rfl ?_
    refine EV.i2b dX1_add_25 ?_
    obtain ⟨w12, gw12, h⟩ := px_bs h
    refine ev_sB dX1_add_26 gw12 ?_
    refine EV.aload_n 0 dX1_add_27 rfl rfl ?_
    refine EV.dup dX1_add_28 rfl ?_
    obtain ⟨v13, gv13, h⟩ := px_bs h
    refine ev_gI dX1_add_29 flRX1_15 gv13 ?_
    refine EV.iconst (1) dX1_add_32 (by decide) ?_
    refine EV.iadd dX1_add_33 ?_
    obtain ⟨w14, gw14, h⟩ := px_bs h
    refine ev_pV dX1_add_34 flRX1_15 rfl rfl rfl rfl gw14 ?_
    cases h
    exact EV.ret0 dX1_add_37 trivial
  · rw [if_neg c9] at h
    refine EV.aload_n 0 dX1_add_10 rfl rfl ?_
    refine EV.iconst (1) dX1_add_11 (by decide) ?_
    obtain ⟨w15, gw15, h⟩ := px_bs h
    refine ev_pZ dX1_add_12 flRX1_19 rfl rfl (by decide +kernel) gw15 ?_
    cases h
    exact EV.ret0 dX1_add_15 trivial
/-! WavePictures$Bytes.addTwo(I)V -/
theorem dX1_addTwo_0 : decode cX1_addTwo 0 = .ok (.aload_n 0, 1) := by decide +kernel
theorem dX1_addTwo_1 : decode cX1_addTwo 1 = .ok (.iload_n 1, 1) := by decide +kernel
theorem dX1_addTwo_2 : decode cX1_addTwo 2 = .ok (.bipush 8, 2) := by decide +kernel
theorem dX1_addTwo_4 : decode cX1_addTwo 4 = .ok (.ishr, 1) := by decide +kernel
theorem dX1_addTwo_5 : decode cX1_addTwo 5 = .ok (.invokevirtual 23, 3) := by decide +kernel
theorem dX1_addTwo_8 : decode cX1_addTwo 8 = .ok (.aload_n 0, 1) := by decide +kernel
theorem dX1_addTwo_9 : decode cX1_addTwo 9 = .ok (.iload_n 1, 1) := by decide +kernel
theorem dX1_addTwo_10 : decode cX1_addTwo 10 = .ok (.sipush 255, 3) := by decide +kernel
theorem dX1_addTwo_13 : decode cX1_addTwo 13 = .ok (.iand, 1) := by decide +kernel
theorem dX1_addTwo_14 : decode cX1_addTwo 14 = .ok (.invokevirtual 23, 3) := by decide +kernel
theorem dX1_addTwo_17 : decode cX1_addTwo 17 = .ok (.return_, 1) := by decide +kernel
theorem mbX1_add : px_mB mX1_add 1 := ⟨tb3 (List.mem_of_getElem? (i := 100) rfl), by decide +kernel, tb1 (List.mem_of_getElem? (i := 2) rfl), by decide +kernel, by decide +kernel⟩
theorem vbX1_add : px_vB mX1_add := ⟨tb3 (List.mem_of_getElem? (i := 98) rfl), tb3 (List.mem_of_getElem? (i := 99) rfl)⟩
theorem kcX1_addTwo_23 : px_cV mX1_addTwo 23 mX1_add 1 := ⟨⟨mbX1_add, by decide, by decide⟩, Or.inl (tb4 (List.mem_of_getElem? (i := 208) rfl)), vbX1_add⟩
set_option maxRecDepth 100000 in
set_option maxHeartbeats 4000000 in
theorem eX1_addTwo {X : px_X} {w : px_W} {a0 : Nat} {a1 : Int32} {q : px_W} (h : fX1_addTwo X w a0 a1 = some q) : EV X mX1_addTwo 0 (lv_args 0 [.ref a0, .int a1]) [] w none q := by
  unfold fX1_addTwo at h
  show EV X mX1_addTwo 0 [(0, .ref a0), (1, .int a1)] [] w none q
  refine EV.aload_n 0 dX1_addTwo_0 rfl rfl ?_
  refine EV.iload_n 1 dX1_addTwo_1 rfl rfl ?_
  refine EV.bipush (8) dX1_addTwo_2 (by decide) ?_
  refine EV.ishr dX1_addTwo_4 ?_
  obtain ⟨o5, go5, h⟩ := px_bs h
  obtain ⟨q6, gq6, h⟩ := px_bs h
  refine EV.callV (As := [.int (a1 >>> (8 &&& 31))]) (rest := []) dX1_addTwo_5 kcX1_addTwo_23 (gO_ok go5) rfl rfl rfl (Nat.le_of_ble_eq_true rfl) (Nat.le_of_ble_eq_true rfl) (eX1_add gq6) ?_
  refine EV.aload_n 0 dX1_addTwo_8 rfl rfl ?_
  refine EV.iload_n 1 dX1_addTwo_9 rfl rfl ?_
  refine EV.sipush (255) dX1_addTwo_10 (by decide) ?_
  refine EV.iand dX1_addTwo_13 ?_
  obtain ⟨o7, go7, h⟩ := px_bs h
  obtain ⟨q8, gq8, h⟩ := px_bs h
  refine EV.callV (As := [.int (a1 &&& 255)]) (rest := []) dX1_addTwo_14 kcX1_addTwo_23 (gO_ok go7) rfl rfl rfl (Nat.le_of_ble_eq_true rfl) (Nat.le_of_ble_eq_true rfl) (eX1_add gq8) ?_
  cases h
  exact EV.ret0 dX1_addTwo_17 trivial
/-! WavePictures$Bytes.at(I)I -/
theorem dX1_at_0 : decode cX1_at 0 = .ok (.iload_n 1, 1) := by decide +kernel
theorem dX1_at_1 : decode cX1_at 1 = .ok (.ifCond .lt 11, 3) := by decide +kernel
theorem dX1_at_4 : decode cX1_at 4 = .ok (.iload_n 1, 1) := by decide +kernel
theorem dX1_at_5 : decode cX1_at 5 = .ok (.aload_n 0, 1) := by decide +kernel
theorem dX1_at_6 : decode cX1_at 6 = .ok (.getfield 15, 3) := by decide +kernel
theorem dX1_at_9 : decode cX1_at 9 = .ok (.if_icmp .lt 7, 3) := by decide +kernel
theorem dX1_at_12 : decode cX1_at 12 = .ok (.iconst (-1), 1) := by decide +kernel
theorem dX1_at_13 : decode cX1_at 13 = .ok (.goto 13, 3) := by decide +kernel
theorem dX1_at_16 : decode cX1_at 16 = .ok (.aload_n 0, 1) := by decide +kernel
theorem dX1_at_17 : decode cX1_at 17 = .ok (.getfield 9, 3) := by decide +kernel
theorem dX1_at_20 : decode cX1_at 20 = .ok (.iload_n 1, 1) := by decide +kernel
theorem dX1_at_21 : decode cX1_at 21 = .ok (.baload, 1) := by decide +kernel
theorem dX1_at_22 : decode cX1_at 22 = .ok (.sipush 255, 3) := by decide +kernel
theorem dX1_at_25 : decode cX1_at 25 = .ok (.iand, 1) := by decide +kernel
theorem dX1_at_26 : decode cX1_at 26 = .ok (.ireturn, 1) := by decide +kernel
set_option maxRecDepth 100000 in
set_option maxHeartbeats 4000000 in
theorem eX1_at {X : px_X} {w : px_W} {a0 : Nat} {a1 : Int32} {q : Int32 × px_W} (h : fX1_at X w a0 a1 = some q) : EV X mX1_at 0 (lv_args 0 [.ref a0, .int a1]) [] w (some (.int q.1)) q.2 := by
  unfold fX1_at at h
  show EV X mX1_at 0 [(0, .ref a0), (1, .int a1)] [] w (some (.int q.1)) q.2
  refine EV.iload_n 1 dX1_at_0 rfl rfl ?_
  refine EV.if_lt 12 dX1_at_1 (by decide) (fun c4 => ?_) (fun c4 => ?_)
  · rw [if_pos c4] at h
    refine EV.iconst ((-1)) dX1_at_12 (by decide) ?_
    refine EV.goto 26 dX1_at_13 (by decide) ?_
    cases h
    exact EV.reti dX1_at_26 rfl
  · rw [if_neg c4] at h
    refine EV.iload_n 1 dX1_at_4 rfl rfl ?_
    refine EV.aload_n 0 dX1_at_5 rfl rfl ?_
    obtain ⟨v5, gv5, h⟩ := px_bs h
    refine ev_gI dX1_at_6 flRX1_15 gv5 ?_
    refine EV.icmp_lt 16 dX1_at_9 (by decide) (fun c6 => ?_) (fun c6 => ?_)
    · rw [if_pos c6] at h
      refine EV.aload_n 0 dX1_at_16 rfl rfl ?_
      obtain ⟨v7, gv7, h⟩ := px_bs h
      refine ev_gR dX1_at_17 flRX1_9 gv7 ?_
      refine EV.iload_n 1 dX1_at_20 rfl rfl ?_
      obtain ⟨v8, gv8, h⟩ := px_bs h
      refine ev_aB dX1_at_21 gv8 ?_
      refine EV.sipush (255) dX1_at_22 (by decide) ?_
      refine EV.iand dX1_at_25 ?_
      cases h
      exact EV.reti dX1_at_26 rfl
    · rw [if_neg c6] at h
      refine EV.iconst ((-1)) dX1_at_12 (by decide) ?_
      refine EV.goto 26 dX1_at_13 (by decide) ?_
      cases h
      exact EV.reti dX1_at_26 rfl
/-! WavePictures$Bytes.takeAll(LWavePictures$Bytes;)V -/
theorem dX1_takeAll_0 : decode cX1_takeAll 0 = .ok (.aload_n 1, 1) := by decide +kernel
theorem dX1_takeAll_1 : decode cX1_takeAll 1 = .ok (.getfield 9, 3) := by decide +kernel
theorem dX1_takeAll_4 : decode cX1_takeAll 4 = .ok (.iconst 0, 1) := by decide +kernel
theorem dX1_takeAll_5 : decode cX1_takeAll 5 = .ok (.aload_n 0, 1) := by decide +kernel
theorem dX1_takeAll_6 : decode cX1_takeAll 6 = .ok (.getfield 9, 3) := by decide +kernel
theorem dX1_takeAll_9 : decode cX1_takeAll 9 = .ok (.iconst 0, 1) := by decide +kernel
theorem dX1_takeAll_10 : decode cX1_takeAll 10 = .ok (.aload_n 1, 1) := by decide +kernel
theorem dX1_takeAll_11 : decode cX1_takeAll 11 = .ok (.getfield 15, 3) := by decide +kernel
theorem dX1_takeAll_14 : decode cX1_takeAll 14 = .ok (.invokestatic 27, 3) := by decide +kernel
theorem dX1_takeAll_17 : decode cX1_takeAll 17 = .ok (.aload_n 0, 1) := by decide +kernel
theorem dX1_takeAll_18 : decode cX1_takeAll 18 = .ok (.aload_n 1, 1) := by decide +kernel
theorem dX1_takeAll_19 : decode cX1_takeAll 19 = .ok (.getfield 15, 3) := by decide +kernel
theorem dX1_takeAll_22 : decode cX1_takeAll 22 = .ok (.putfield 15, 3) := by decide +kernel
theorem dX1_takeAll_25 : decode cX1_takeAll 25 = .ok (.return_, 1) := by decide +kernel
set_option maxRecDepth 100000 in
set_option maxHeartbeats 4000000 in
theorem eX1_takeAll {X : px_X} {w : px_W} {a0 : Nat} {a1 : Nat} {q : px_W} (h : fX1_takeAll X w a0 a1 = some q) : EV X mX1_takeAll 0 (lv_args 0 [.ref a0, .ref a1]) [] w none q := by
  unfold fX1_takeAll at h
  show EV X mX1_takeAll 0 [(0, .ref a0), (1, .ref a1)] [] w none q
  refine EV.aload_n 1 dX1_takeAll_0 rfl rfl ?_
  obtain ⟨v7, gv7, h⟩ := px_bs h
  refine ev_gR dX1_takeAll_1 flRX1_9 gv7 ?_
  refine EV.iconst (0) dX1_takeAll_4 (by decide) ?_
  refine EV.aload_n 0 dX1_takeAll_5 rfl rfl ?_
  obtain ⟨v8, gv8, h⟩ := px_bs h
  refine ev_gR dX1_takeAll_6 flRX1_9 gv8 ?_
  refine EV.iconst (0) dX1_takeAll_9 (by decide) ?_
  refine EV.aload_n 1 dX1_takeAll_10 rfl rfl ?_
  obtain ⟨v9, gv9, h⟩ := px_bs h
  refine ev_gI dX1_takeAll_11 flRX1_15 gv9 ?_
  obtain ⟨w10, gw10, h⟩ := px_bs h
  refine ev_cpB dX1_takeAll_14 (tb3 (List.mem_of_getElem? (i := 117) rfl)) (by decide) (by decide) (Nat.le_of_ble_eq_true rfl) gw10 ?_
  refine EV.aload_n 0 dX1_takeAll_17 rfl rfl ?_
  refine EV.aload_n 1 dX1_takeAll_18 rfl rfl ?_
  obtain ⟨v11, gv11, h⟩ := px_bs h
  refine ev_gI dX1_takeAll_19 flRX1_15 gv11 ?_
  obtain ⟨w12, gw12, h⟩ := px_bs h
  refine ev_pV dX1_takeAll_22 flRX1_15 rfl rfl rfl rfl gw12 ?_
  cases h
  exact EV.ret0 dX1_takeAll_25 trivial
/-! WavePictures$Picture.<init>()V -/
theorem dX2_init_0 : decode cX2_init 0 = .ok (.aload_n 0, 1) := by decide +kernel
theorem dX2_init_1 : decode cX2_init 1 = .ok (.invokespecial 3, 3) := by decide +kernel
theorem dX2_init_4 : decode cX2_init 4 = .ok (.aload_n 0, 1) := by decide +kernel
theorem dX2_init_5 : decode cX2_init 5 = .ok (.iconst 1, 1) := by decide +kernel
theorem dX2_init_6 : decode cX2_init 6 = .ok (.putfield 9, 3) := by decide +kernel
theorem dX2_init_9 : decode cX2_init 9 = .ok (.aload_n 0, 1) := by decide +kernel
theorem dX2_init_10 : decode cX2_init 10 = .ok (.iconst 1, 1) := by decide +kernel
theorem dX2_init_11 : decode cX2_init 11 = .ok (.putfield 15, 3) := by decide +kernel
theorem dX2_init_14 : decode cX2_init 14 = .ok (.aload_n 0, 1) := by decide +kernel
theorem dX2_init_15 : decode cX2_init 15 = .ok (.iconst 1, 1) := by decide +kernel
theorem dX2_init_16 : decode cX2_init 16 = .ok (.putfield 18, 3) := by decide +kernel
theorem dX2_init_19 : decode cX2_init 19 = .ok (.aload_n 0, 1) := by decide +kernel
theorem dX2_init_20 : decode cX2_init 20 = .ok (.iconst 1, 1) := by decide +kernel
theorem dX2_init_21 : decode cX2_init 21 = .ok (.putfield 21, 3) := by decide +kernel
theorem dX2_init_24 : decode cX2_init 24 = .ok (.aload_n 0, 1) := by decide +kernel
theorem dX2_init_25 : decode cX2_init 25 = .ok (.iconst 4, 1) := by decide +kernel
theorem dX2_init_26 : decode cX2_init 26 = .ok (.newarray .int, 2) := by decide +kernel
theorem dX2_init_28 : decode cX2_init 28 = .ok (.putfield 24, 3) := by decide +kernel
theorem dX2_init_31 : decode cX2_init 31 = .ok (.aload_n 0, 1) := by decide +kernel
theorem dX2_init_32 : decode cX2_init 32 = .ok (.iconst 4, 1) := by decide +kernel
theorem dX2_init_33 : decode cX2_init 33 = .ok (.newarray .int, 2) := by decide +kernel
theorem dX2_init_35 : decode cX2_init 35 = .ok (.putfield 28, 3) := by decide +kernel
theorem dX2_init_38 : decode cX2_init 38 = .ok (.aload_n 0, 1) := by decide +kernel
theorem dX2_init_39 : decode cX2_init 39 = .ok (.iconst 4, 1) := by decide +kernel
theorem dX2_init_40 : decode cX2_init 40 = .ok (.newarray .int, 2) := by decide +kernel
theorem dX2_init_42 : decode cX2_init 42 = .ok (.putfield 31, 3) := by decide +kernel
theorem dX2_init_45 : decode cX2_init 45 = .ok (.aload_n 0, 1) := by decide +kernel
theorem dX2_init_46 : decode cX2_init 46 = .ok (.iconst 4, 1) := by decide +kernel
theorem dX2_init_47 : decode cX2_init 47 = .ok (.newarray .int, 2) := by decide +kernel
theorem dX2_init_49 : decode cX2_init 49 = .ok (.putfield 34, 3) := by decide +kernel
theorem dX2_init_52 : decode cX2_init 52 = .ok (.aload_n 0, 1) := by decide +kernel
theorem dX2_init_53 : decode cX2_init 53 = .ok (.iconst 4, 1) := by decide +kernel
theorem dX2_init_54 : decode cX2_init 54 = .ok (.newarray .int, 2) := by decide +kernel
theorem dX2_init_56 : decode cX2_init 56 = .ok (.putfield 37, 3) := by decide +kernel
theorem dX2_init_59 : decode cX2_init 59 = .ok (.aload_n 0, 1) := by decide +kernel
theorem dX2_init_60 : decode cX2_init 60 = .ok (.sipush 12288, 3) := by decide +kernel
theorem dX2_init_63 : decode cX2_init 63 = .ok (.newarray .int, 2) := by decide +kernel
theorem dX2_init_65 : decode cX2_init 65 = .ok (.putfield 40, 3) := by decide +kernel
theorem dX2_init_68 : decode cX2_init 68 = .ok (.aload_n 0, 1) := by decide +kernel
theorem dX2_init_69 : decode cX2_init 69 = .ok (.sipush 256, 3) := by decide +kernel
theorem dX2_init_72 : decode cX2_init 72 = .ok (.newarray .int, 2) := by decide +kernel
theorem dX2_init_74 : decode cX2_init 74 = .ok (.putfield 43, 3) := by decide +kernel
theorem dX2_init_77 : decode cX2_init 77 = .ok (.return_, 1) := by decide +kernel
theorem flRX2_9 : px_f RX2 9 2 0 := ⟨_, rfl, by decide, Or.inl (tb1 (List.mem_of_getElem? (i := 56) rfl))⟩
theorem flRX2_15 : px_f RX2 15 2 1 := ⟨_, rfl, by decide, Or.inl (tb1 (List.mem_of_getElem? (i := 60) rfl))⟩
theorem flRX2_18 : px_f RX2 18 2 3 := ⟨_, rfl, by decide, Or.inl (tb1 (List.mem_of_getElem? (i := 68) rfl))⟩
theorem flRX2_21 : px_f RX2 21 2 4 := ⟨_, rfl, by decide, Or.inl (tb1 (List.mem_of_getElem? (i := 70) rfl))⟩
set_option maxRecDepth 100000 in
set_option maxHeartbeats 4000000 in
theorem eX2_init {X : px_X} {w : px_W} {a0 : Nat} {q : px_W} (h : fX2_init X w a0 = some q) : EV X mX2_init 0 (lv_args 0 [.ref a0]) [] w none q := by
  unfold fX2_init at h
  show EV X mX2_init 0 [(0, .ref a0)] [] w none q
  refine EV.aload_n 0 dX2_init_0 rfl rfl ?_
  refine EV.objI dX2_init_1 (tb1 (List.mem_of_getElem? (i := 55) rfl)) (by decide) (by decide) (Nat.le_of_ble_eq_true rfl) ?_
  refine EV.aload_n 0 dX2_init_4 rfl rfl ?_
  refine EV.iconst (1) dX2_init_5 (by decide) ?_
  obtain ⟨w19, gw19, h⟩ := px_bs h
  refine ev_pV dX2_init_6 flRX2_9 rfl rfl rfl rfl gw19 ?_
  refine EV.aload_n 0 dX2_init_9 rfl rfl ?_
  refine EV.iconst (1) dX2_init_10 (by decide) ?_
  obtain ⟨w20, gw20, h⟩ := px_bs h
  refine ev_pV dX2_init_11 flRX2_15 rfl rfl rfl rfl gw20 ?_
  refine EV.aload_n 0 dX2_init_14 rfl rfl ?_
  refine EV.iconst (1) dX2_init_15 (by decide) ?_
  obtain ⟨w21, gw21, h⟩ := px_bs h
  refine ev_pV dX2_init_16 flRX2_18 rfl rfl rfl rfl gw21 ?_
  refine EV.aload_n 0 dX2_init_19 rfl rfl ?_
  refine EV.iconst (1) dX2_init_20 (by decide) ?_
  obtain ⟨w22, gw22, h⟩ := px_bs h
  refine ev_pV dX2_init_21 flRX2_21 rfl rfl rfl rfl gw22 ?_
  refine EV.aload_n 0 dX2_init_24 rfl rfl ?_
  refine EV.iconst (4) dX2_init_25 (by decide) ?_
  obtain ⟨q23, gq23, h⟩ := px_bs h
  refine ev_nI dX2_init_26 gq23 ?_
  obtain ⟨w24, gw24, h⟩ := px_bs h
  refine ev_pF dX2_init_28 (ci := 2) (k := 6) rfl (by decide) (tb1 (List.mem_of_getElem? (i := 74) rfl)) rfl rfl rfl rfl rfl gw24 ?_
  refine EV.aload_n 0 dX2_init_31 rfl rfl ?_
  refine EV.iconst (4) dX2_init_32 (by decide) ?_
  obtain ⟨q25, gq25, h⟩ := px_bs h
  refine ev_nI dX2_init_33 gq25 ?_
  obtain ⟨w26, gw26, h⟩ := px_bs h
  refine ev_pF dX2_init_35 (ci := 2) (k := 7) rfl (by decide) (tb1 (List.mem_of_getElem? (i := 79) rfl)) rfl rfl rfl rfl rfl gw26 ?_
  refine EV.aload_n 0 dX2_init_38 rfl rfl ?_
  refine EV.iconst (4) dX2_init_39 (by decide) ?_
  obtain ⟨q27, gq27, h⟩ := px_bs h
  refine ev_nI dX2_init_40 gq27 ?_
  obtain ⟨w28, gw28, h⟩ := px_bs h
  refine ev_pF dX2_init_42 (ci := 2) (k := 8) rfl (by decide) (tb1 (List.mem_of_getElem? (i := 84) rfl)) rfl rfl rfl rfl rfl gw28 ?_
  refine EV.aload_n 0 dX2_init_45 rfl rfl ?_
  refine EV.iconst (4) dX2_init_46 (by decide) ?_
  obtain ⟨q29, gq29, h⟩ := px_bs h
  refine ev_nI dX2_init_47 gq29 ?_
  obtain ⟨w30, gw30, h⟩ := px_bs h
  refine ev_pF dX2_init_49 (ci := 2) (k := 9) rfl (by decide) (tb1 (List.mem_of_getElem? (i := 87) rfl)) rfl rfl rfl rfl rfl gw30 ?_
  refine EV.aload_n 0 dX2_init_52 rfl rfl ?_
  refine EV.iconst (4) dX2_init_53 (by decide) ?_
  obtain ⟨q31, gq31, h⟩ := px_bs h
  refine ev_nI dX2_init_54 gq31 ?_
  obtain ⟨w32, gw32, h⟩ := px_bs h
  refine ev_pF dX2_init_56 (ci := 2) (k := 10) rfl (by decide) (tb1 (List.mem_of_getElem? (i := 89) rfl)) rfl rfl rfl rfl rfl gw32 ?_
  refine EV.aload_n 0 dX2_init_59 rfl rfl ?_
  refine EV.sipush (12288) dX2_init_60 (by decide) ?_
  obtain ⟨q33, gq33, h⟩ := px_bs h
  refine ev_nI dX2_init_63 gq33 ?_
  obtain ⟨w34, gw34, h⟩ := px_bs h
  refine ev_pF dX2_init_65 (ci := 2) (k := 11) rfl (by decide) (tb1 (List.mem_of_getElem? (i := 91) rfl)) rfl rfl rfl rfl rfl gw34 ?_
  refine EV.aload_n 0 dX2_init_68 rfl rfl ?_
  refine EV.sipush (256) dX2_init_69 (by decide) ?_
  obtain ⟨q35, gq35, h⟩ := px_bs h
  refine ev_nI dX2_init_72 gq35 ?_
  obtain ⟨w36, gw36, h⟩ := px_bs h
  refine ev_pF dX2_init_74 (ci := 2) (k := 12) rfl (by decide) (tb1 (List.mem_of_getElem? (i := 96) rfl)) rfl rfl rfl rfl rfl gw36 ?_
  cases h
  exact EV.ret0 dX2_init_77 trivial
/-! WavePictures.up(II)I -/
theorem dX11_up_0 : decode cX11_up 0 = .ok (.iload_n 1, 1) := by decide +kernel
theorem dX11_up_1 : decode cX11_up 1 = .ok (.iconst 1, 1) := by decide +kernel
theorem dX11_up_2 : decode cX11_up 2 = .ok (.if_icmp .ge 7, 3) := by decide +kernel
theorem dX11_up_5 : decode cX11_up 5 = .ok (.iconst 0, 1) := by decide +kernel
theorem dX11_up_6 : decode cX11_up 6 = .ok (.goto 10, 3) := by decide +kernel
theorem dX11_up_9 : decode cX11_up 9 = .ok (.iload_n 0, 1) := by decide +kernel
theorem dX11_up_10 : decode cX11_up 10 = .ok (.iload_n 1, 1) := by decide +kernel
theorem dX11_up_11 : decode cX11_up 11 = .ok (.iadd, 1) := by decide +kernel
theorem dX11_up_12 : decode cX11_up 12 = .ok (.iconst 1, 1) := by decide +kernel
theorem dX11_up_13 : decode cX11_up 13 = .ok (.isub, 1) := by decide +kernel
theorem dX11_up_14 : decode cX11_up 14 = .ok (.iload_n 1, 1) := by decide +kernel
theorem dX11_up_15 : decode cX11_up 15 = .ok (.idiv, 1) := by decide +kernel
theorem dX11_up_16 : decode cX11_up 16 = .ok (.ireturn, 1) := by decide +kernel
set_option maxRecDepth 100000 in
set_option maxHeartbeats 4000000 in
theorem eX11_up {X : px_X} {w : px_W} {a0 : Int32} {a1 : Int32} {q : Int32 × px_W} (h : fX11_up X w a0 a1 = some q) : EV X mX11_up 0 (lv_args 0 [.int a0, .int a1]) [] w (some (.int q.1)) q.2 := by
  unfold fX11_up at h
  show EV X mX11_up 0 [(0, .int a0), (1, .int a1)] [] w (some (.int q.1)) q.2
  refine EV.iload_n 1 dX11_up_0 rfl rfl ?_
  refine EV.iconst (1) dX11_up_1 (by decide) ?_
  refine EV.icmp_ge 9 dX11_up_2 (by decide) (fun c2 => ?_) (fun c2 => ?_)
  · rw [if_pos c2] at h
    refine EV.iload_n 0 dX11_up_9 rfl rfl ?_
    refine EV.iload_n 1 dX11_up_10 rfl rfl ?_
    refine EV.iadd dX11_up_11 ?_
    refine EV.iconst (1) dX11_up_12 (by decide) ?_
    refine EV.isub dX11_up_13 ?_
    refine EV.iload_n 1 dX11_up_14 rfl rfl ?_
    obtain ⟨v3, gv3, h⟩ := px_bs h
    refine ev_dI dX11_up_15 gv3 ?_
    cases h
    exact EV.reti dX11_up_16 rfl
  · rw [if_neg c2] at h
    refine EV.iconst (0) dX11_up_5 (by decide) ?_
    refine EV.goto 16 dX11_up_6 (by decide) ?_
    cases h
    exact EV.reti dX11_up_16 rfl
/-! WavePictures$Picture.unitsAcross()I -/
theorem dX2_unitsAcross_0 : decode cX2_unitsAcross 0 = .ok (.aload_n 0, 1) := by decide +kernel
theorem dX2_unitsAcross_1 : decode cX2_unitsAcross 1 = .ok (.getfield 9, 3) := by decide +kernel
theorem dX2_unitsAcross_4 : decode cX2_unitsAcross 4 = .ok (.bipush 8, 2) := by decide +kernel
theorem dX2_unitsAcross_6 : decode cX2_unitsAcross 6 = .ok (.aload_n 0, 1) := by decide +kernel
theorem dX2_unitsAcross_7 : decode cX2_unitsAcross 7 = .ok (.getfield 18, 3) := by decide +kernel
theorem dX2_unitsAcross_10 : decode cX2_unitsAcross 10 = .ok (.imul, 1) := by decide +kernel
theorem dX2_unitsAcross_11 : decode cX2_unitsAcross 11 = .ok (.invokestatic 65, 3) := by decide +kernel
theorem dX2_unitsAcross_14 : decode cX2_unitsAcross 14 = .ok (.ireturn, 1) := by decide +kernel
theorem mbX11_up : px_mB mX11_up 2 := ⟨tb4 (List.mem_of_getElem? (i := 47) rfl), by decide +kernel, tb1 (List.mem_of_getElem? (i := 1) rfl), by decide +kernel, by decide +kernel⟩
theorem kcX2_unitsAcross_65 : px_cS mX2_unitsAcross 65 mX11_up 2 := ⟨⟨mbX11_up, by decide, by decide⟩, Or.inr ⟨"WavePictures", tT4 (List.mem_of_getElem? (i := 45) rfl)⟩, tb4 (List.mem_of_getElem? (i := 46) rfl)⟩
set_option maxRecDepth 100000 in
set_option maxHeartbeats 4000000 in
theorem eX2_unitsAcross {X : px_X} {w : px_W} {a0 : Nat} {q : Int32 × px_W} (h : fX2_unitsAcross X w a0 = some q) : EV X mX2_unitsAcross 0 (lv_args 0 [.ref a0]) [] w (some (.int q.1)) q.2 := by
  unfold fX2_unitsAcross at h
  show EV X mX2_unitsAcross 0 [(0, .ref a0)] [] w (some (.int q.1)) q.2
  refine EV.aload_n 0 dX2_unitsAcross_0 rfl rfl ?_
  obtain ⟨v4, gv4, h⟩ := px_bs h
  refine ev_gI dX2_unitsAcross_1 flRX2_9 gv4 ?_
  refine EV.bipush (8) dX2_unitsAcross_4 (by decide) ?_
  refine EV.aload_n 0 dX2_unitsAcross_6 rfl rfl ?_
  obtain ⟨v5, gv5, h⟩ := px_bs h
  refine ev_gI dX2_unitsAcross_7 flRX2_18 gv5 ?_
  refine EV.imul dX2_unitsAcross_10 ?_
  obtain ⟨q6, gq6, h⟩ := px_bs h
  refine EV.callS (As := [.int v4, .int (8 * v5)]) (rest := []) dX2_unitsAcross_11 kcX2_unitsAcross_65 rfl (Nat.le_of_ble_eq_true rfl) (Nat.le_of_ble_eq_true rfl) (eX11_up gq6) ?_
  cases h
  exact EV.reti dX2_unitsAcross_14 rfl
/-! WavePictures$Picture.unitsDown()I -/
theorem dX2_unitsDown_0 : decode cX2_unitsDown 0 = .ok (.aload_n 0, 1) := by decide +kernel
theorem dX2_unitsDown_1 : decode cX2_unitsDown 1 = .ok (.getfield 15, 3) := by decide +kernel
theorem dX2_unitsDown_4 : decode cX2_unitsDown 4 = .ok (.bipush 8, 2) := by decide +kernel
theorem dX2_unitsDown_6 : decode cX2_unitsDown 6 = .ok (.aload_n 0, 1) := by decide +kernel
theorem dX2_unitsDown_7 : decode cX2_unitsDown 7 = .ok (.getfield 21, 3) := by decide +kernel
theorem dX2_unitsDown_10 : decode cX2_unitsDown 10 = .ok (.imul, 1) := by decide +kernel
theorem dX2_unitsDown_11 : decode cX2_unitsDown 11 = .ok (.invokestatic 65, 3) := by decide +kernel
theorem dX2_unitsDown_14 : decode cX2_unitsDown 14 = .ok (.ireturn, 1) := by decide +kernel
theorem kcX2_unitsDown_65 : px_cS mX2_unitsDown 65 mX11_up 2 := ⟨⟨mbX11_up, by decide, by decide⟩, Or.inr ⟨"WavePictures", tT4 (List.mem_of_getElem? (i := 45) rfl)⟩, tb4 (List.mem_of_getElem? (i := 46) rfl)⟩
set_option maxRecDepth 100000 in
set_option maxHeartbeats 4000000 in
theorem eX2_unitsDown {X : px_X} {w : px_W} {a0 : Nat} {q : Int32 × px_W} (h : fX2_unitsDown X w a0 = some q) : EV X mX2_unitsDown 0 (lv_args 0 [.ref a0]) [] w (some (.int q.1)) q.2 := by
  unfold fX2_unitsDown at h
  show EV X mX2_unitsDown 0 [(0, .ref a0)] [] w (some (.int q.1)) q.2
  refine EV.aload_n 0 dX2_unitsDown_0 rfl rfl ?_
  obtain ⟨v4, gv4, h⟩ := px_bs h
  refine ev_gI dX2_unitsDown_1 flRX2_15 gv4 ?_
  refine EV.bipush (8) dX2_unitsDown_4 (by decide) ?_
  refine EV.aload_n 0 dX2_unitsDown_6 rfl rfl ?_
  obtain ⟨v5, gv5, h⟩ := px_bs h
  refine ev_gI dX2_unitsDown_7 flRX2_21 gv5 ?_
  refine EV.imul dX2_unitsDown_10 ?_
  obtain ⟨q6, gq6, h⟩ := px_bs h
  refine EV.callS (As := [.int v4, .int (8 * v5)]) (rest := []) dX2_unitsDown_11 kcX2_unitsDown_65 rfl (Nat.le_of_ble_eq_true rfl) (Nat.le_of_ble_eq_true rfl) (eX11_up gq6) ?_
  cases h
  exact EV.reti dX2_unitsDown_14 rfl
/-! WavePictures$Picture.settle()V -/
theorem dX2_settle_0 : decode cX2_settle 0 = .ok (.aload_n 0, 1) := by decide +kernel
theorem dX2_settle_1 : decode cX2_settle 1 = .ok (.iconst 1, 1) := by decide +kernel
theorem dX2_settle_2 : decode cX2_settle 2 = .ok (.putfield 18, 3) := by decide +kernel
theorem dX2_settle_5 : decode cX2_settle 5 = .ok (.aload_n 0, 1) := by decide +kernel
theorem dX2_settle_6 : decode cX2_settle 6 = .ok (.iconst 1, 1) := by decide +kernel
theorem dX2_settle_7 : decode cX2_settle 7 = .ok (.putfield 21, 3) := by decide +kernel
theorem dX2_settle_10 : decode cX2_settle 10 = .ok (.iconst 0, 1) := by decide +kernel
theorem dX2_settle_11 : decode cX2_settle 11 = .ok (.istore_n 1, 1) := by decide +kernel
theorem dX2_settle_12 : decode cX2_settle 12 = .ok (.iload_n 1, 1) := by decide +kernel
theorem dX2_settle_13 : decode cX2_settle 13 = .ok (.aload_n 0, 1) := by decide +kernel
theorem dX2_settle_14 : decode cX2_settle 14 = .ok (.getfield 46, 3) := by decide +kernel
theorem dX2_settle_17 : decode cX2_settle 17 = .ok (.if_icmp .ge 43, 3) := by decide +kernel
theorem dX2_settle_20 : decode cX2_settle 20 = .ok (.aload_n 0, 1) := by decide +kernel
theorem dX2_settle_21 : decode cX2_settle 21 = .ok (.aload_n 0, 1) := by decide +kernel
theorem dX2_settle_22 : decode cX2_settle 22 = .ok (.getfield 18, 3) := by decide +kernel
theorem dX2_settle_25 : decode cX2_settle 25 = .ok (.aload_n 0, 1) := by decide +kernel
theorem dX2_settle_26 : decode cX2_settle 26 = .ok (.getfield 24, 3) := by decide +kernel
theorem dX2_settle_29 : decode cX2_settle 29 = .ok (.iload_n 1, 1) := by decide +kernel
theorem dX2_settle_30 : decode cX2_settle 30 = .ok (.iaload, 1) := by decide +kernel
theorem dX2_settle_31 : decode cX2_settle 31 = .ok (.invokestatic 49, 3) := by decide +kernel
theorem dX2_settle_34 : decode cX2_settle 34 = .ok (.putfield 18, 3) := by decide +kernel
theorem dX2_settle_37 : decode cX2_settle 37 = .ok (.aload_n 0, 1) := by decide +kernel
theorem dX2_settle_38 : decode cX2_settle 38 = .ok (.aload_n 0, 1) := by decide +kernel
theorem dX2_settle_39 : decode cX2_settle 39 = .ok (.getfield 21, 3) := by decide +kernel
theorem dX2_settle_42 : decode cX2_settle 42 = .ok (.aload_n 0, 1) := by decide +kernel
theorem dX2_settle_43 : decode cX2_settle 43 = .ok (.getfield 28, 3) := by decide +kernel
theorem dX2_settle_46 : decode cX2_settle 46 = .ok (.iload_n 1, 1) := by decide +kernel
theorem dX2_settle_47 : decode cX2_settle 47 = .ok (.iaload, 1) := by decide +kernel
theorem dX2_settle_48 : decode cX2_settle 48 = .ok (.invokestatic 49, 3) := by decide +kernel
theorem dX2_settle_51 : decode cX2_settle 51 = .ok (.putfield 21, 3) := by decide +kernel
theorem dX2_settle_54 : decode cX2_settle 54 = .ok (.iinc 1 1, 3) := by decide +kernel
theorem dX2_settle_57 : decode cX2_settle 57 = .ok (.goto (-45), 3) := by decide +kernel
theorem dX2_settle_60 : decode cX2_settle 60 = .ok (.aload_n 0, 1) := by decide +kernel
theorem dX2_settle_61 : decode cX2_settle 61 = .ok (.iconst 0, 1) := by decide +kernel
theorem dX2_settle_62 : decode cX2_settle 62 = .ok (.putfield 55, 3) := by decide +kernel
theorem dX2_settle_65 : decode cX2_settle 65 = .ok (.iconst 0, 1) := by decide +kernel
theorem dX2_settle_66 : decode cX2_settle 66 = .ok (.istore_n 1, 1) := by decide +kernel
theorem dX2_settle_67 : decode cX2_settle 67 = .ok (.iload_n 1, 1) := by decide +kernel
theorem dX2_settle_68 : decode cX2_settle 68 = .ok (.aload_n 0, 1) := by decide +kernel
theorem dX2_settle_69 : decode cX2_settle 69 = .ok (.getfield 46, 3) := by decide +kernel
theorem dX2_settle_72 : decode cX2_settle 72 = .ok (.if_icmp .ge 75, 3) := by decide +kernel
theorem dX2_settle_75 : decode cX2_settle 75 = .ok (.aload_n 0, 1) := by decide +kernel
theorem dX2_settle_76 : decode cX2_settle 76 = .ok (.getfield 31, 3) := by decide +kernel
theorem dX2_settle_79 : decode cX2_settle 79 = .ok (.iload_n 1, 1) := by decide +kernel
theorem dX2_settle_80 : decode cX2_settle 80 = .ok (.aload_n 0, 1) := by decide +kernel
theorem dX2_settle_81 : decode cX2_settle 81 = .ok (.getfield 24, 3) := by decide +kernel
theorem dX2_settle_84 : decode cX2_settle 84 = .ok (.iload_n 1, 1) := by decide +kernel
theorem dX2_settle_85 : decode cX2_settle 85 = .ok (.iaload, 1) := by decide +kernel
theorem dX2_settle_86 : decode cX2_settle 86 = .ok (.aload_n 0, 1) := by decide +kernel
theorem dX2_settle_87 : decode cX2_settle 87 = .ok (.invokevirtual 58, 3) := by decide +kernel
theorem dX2_settle_90 : decode cX2_settle 90 = .ok (.imul, 1) := by decide +kernel
theorem dX2_settle_91 : decode cX2_settle 91 = .ok (.iastore, 1) := by decide +kernel
theorem dX2_settle_92 : decode cX2_settle 92 = .ok (.aload_n 0, 1) := by decide +kernel
theorem dX2_settle_93 : decode cX2_settle 93 = .ok (.getfield 34, 3) := by decide +kernel
theorem dX2_settle_96 : decode cX2_settle 96 = .ok (.iload_n 1, 1) := by decide +kernel
theorem dX2_settle_97 : decode cX2_settle 97 = .ok (.aload_n 0, 1) := by decide +kernel
theorem dX2_settle_98 : decode cX2_settle 98 = .ok (.getfield 28, 3) := by decide +kernel
theorem dX2_settle_101 : decode cX2_settle 101 = .ok (.iload_n 1, 1) := by decide +kernel
theorem dX2_settle_102 : decode cX2_settle 102 = .ok (.iaload, 1) := by decide +kernel
theorem dX2_settle_103 : decode cX2_settle 103 = .ok (.aload_n 0, 1) := by decide +kernel
theorem dX2_settle_104 : decode cX2_settle 104 = .ok (.invokevirtual 62, 3) := by decide +kernel
theorem dX2_settle_107 : decode cX2_settle 107 = .ok (.imul, 1) := by decide +kernel
theorem dX2_settle_108 : decode cX2_settle 108 = .ok (.iastore, 1) := by decide +kernel
theorem dX2_settle_109 : decode cX2_settle 109 = .ok (.aload_n 0, 1) := by decide +kernel
theorem dX2_settle_110 : decode cX2_settle 110 = .ok (.getfield 37, 3) := by decide +kernel
theorem dX2_settle_113 : decode cX2_settle 113 = .ok (.iload_n 1, 1) := by decide +kernel
theorem dX2_settle_114 : decode cX2_settle 114 = .ok (.aload_n 0, 1) := by decide +kernel
theorem dX2_settle_115 : decode cX2_settle 115 = .ok (.getfield 55, 3) := by decide +kernel
theorem dX2_settle_118 : decode cX2_settle 118 = .ok (.iastore, 1) := by decide +kernel
theorem dX2_settle_119 : decode cX2_settle 119 = .ok (.aload_n 0, 1) := by decide +kernel
theorem dX2_settle_120 : decode cX2_settle 120 = .ok (.dup, 1) := by decide +kernel
theorem dX2_settle_121 : decode cX2_settle 121 = .ok (.getfield 55, 3) := by decide +kernel
theorem dX2_settle_124 : decode cX2_settle 124 = .ok (.aload_n 0, 1) := by decide +kernel
theorem dX2_settle_125 : decode cX2_settle 125 = .ok (.getfield 31, 3) := by decide +kernel
theorem dX2_settle_128 : decode cX2_settle 128 = .ok (.iload_n 1, 1) := by decide +kernel
theorem dX2_settle_129 : decode cX2_settle 129 = .ok (.iaload, 1) := by decide +kernel
theorem dX2_settle_130 : decode cX2_settle 130 = .ok (.aload_n 0, 1) := by decide +kernel
theorem dX2_settle_131 : decode cX2_settle 131 = .ok (.getfield 34, 3) := by decide +kernel
theorem dX2_settle_134 : decode cX2_settle 134 = .ok (.iload_n 1, 1) := by decide +kernel
theorem dX2_settle_135 : decode cX2_settle 135 = .ok (.iaload, 1) := by decide +kernel
theorem dX2_settle_136 : decode cX2_settle 136 = .ok (.imul, 1) := by decide +kernel
theorem dX2_settle_137 : decode cX2_settle 137 = .ok (.iadd, 1) := by decide +kernel
theorem dX2_settle_138 : decode cX2_settle 138 = .ok (.putfield 55, 3) := by decide +kernel
theorem dX2_settle_141 : decode cX2_settle 141 = .ok (.iinc 1 1, 3) := by decide +kernel
theorem dX2_settle_144 : decode cX2_settle 144 = .ok (.goto (-77), 3) := by decide +kernel
theorem dX2_settle_147 : decode cX2_settle 147 = .ok (.return_, 1) := by decide +kernel
theorem flRX2_24 : px_f RX2 24 2 6 := ⟨_, rfl, by decide, Or.inl (tb1 (List.mem_of_getElem? (i := 74) rfl))⟩
theorem flRX2_28 : px_f RX2 28 2 7 := ⟨_, rfl, by decide, Or.inl (tb1 (List.mem_of_getElem? (i := 79) rfl))⟩
theorem flRX2_31 : px_f RX2 31 2 8 := ⟨_, rfl, by decide, Or.inl (tb1 (List.mem_of_getElem? (i := 84) rfl))⟩
theorem flRX2_34 : px_f RX2 34 2 9 := ⟨_, rfl, by decide, Or.inl (tb1 (List.mem_of_getElem? (i := 87) rfl))⟩
theorem flRX2_37 : px_f RX2 37 2 10 := ⟨_, rfl, by decide, Or.inl (tb1 (List.mem_of_getElem? (i := 89) rfl))⟩
theorem flRX2_46 : px_f RX2 46 2 2 := ⟨_, rfl, by decide, Or.inl (tb1 (List.mem_of_getElem? (i := 64) rfl))⟩
theorem flRX2_55 : px_f RX2 55 2 5 := ⟨_, rfl, by decide, Or.inl (tb1 (List.mem_of_getElem? (i := 72) rfl))⟩
theorem mbX2_unitsAcross : px_mB mX2_unitsAcross 0 := ⟨tb4 (List.mem_of_getElem? (i := 44) rfl), by decide +kernel, tb1 (List.mem_of_getElem? (i := 3) rfl), by decide +kernel, by decide +kernel⟩
theorem vbX2_unitsAcross : px_vB mX2_unitsAcross := ⟨tb4 (List.mem_of_getElem? (i := 42) rfl), tb4 (List.mem_of_getElem? (i := 43) rfl)⟩
theorem kcX2_settle_58 : px_cV mX2_settle 58 mX2_unitsAcross 0 := ⟨⟨mbX2_unitsAcross, by decide, by decide⟩, Or.inl (tb4 (List.mem_of_getElem? (i := 41) rfl)), vbX2_unitsAcross⟩
theorem mbX2_unitsDown : px_mB mX2_unitsDown 0 := ⟨tb4 (List.mem_of_getElem? (i := 51) rfl), by decide +kernel, tb1 (List.mem_of_getElem? (i := 3) rfl), by decide +kernel, by decide +kernel⟩
theorem vbX2_unitsDown : px_vB mX2_unitsDown := ⟨tb4 (List.mem_of_getElem? (i := 49) rfl), tb4 (List.mem_of_getElem? (i := 50) rfl)⟩
theorem kcX2_settle_62 : px_cV mX2_settle 62 mX2_unitsDown 0 := ⟨⟨mbX2_unitsDown, by decide, by decide⟩, Or.inl (tb4 (List.mem_of_getElem? (i := 48) rfl)), vbX2_unitsDown⟩
set_option maxRecDepth 100000 in
set_option maxHeartbeats 4000000 in
theorem eX2_settle_67 {X : px_X}  : ∀ (m : Nat) (a0 : Nat) (a1 : Int32) (w : px_W) (q : px_W), fX2_settle_67 X  m a0 a1 w = some q → EV X mX2_settle 67 [(0, .ref a0), (1, .int a1)] [] w none q := by
  intro m
  induction m with
  | zero => intro a0 a1 w q h; cases h
  | succ m ih =>
    intro a0 a1 w q h
    rw [fX2_settle_67.eq_2] at h
    refine EV.iload_n 1 dX2_settle_67 rfl rfl ?_
    refine EV.aload_n 0 dX2_settle_68 rfl rfl ?_
    obtain ⟨v35, gv35, h⟩ := px_bs h
    refine ev_gI dX2_settle_69 flRX2_46 gv35 ?_
    refine EV.icmp_ge 147 dX2_settle_72 (by decide) (fun c36 => ?_) (fun c36 => ?_)
    · rw [if_pos c36] at h
      cases h
      exact EV.ret0 dX2_settle_147 trivial
    · rw [if_neg c36] at h
      refine EV.aload_n 0 dX2_settle_75 rfl rfl ?_
      obtain ⟨v37, gv37, h⟩ := px_bs h
      refine ev_gR dX2_settle_76 flRX2_31 gv37 ?_
      refine EV.iload_n 1 dX2_settle_79 rfl rfl ?_
      refine EV.aload_n 0 dX2_settle_80 rfl rfl ?_
      obtain ⟨v38, gv38, h⟩ := px_bs h
      refine ev_gR dX2_settle_81 flRX2_24 gv38 ?_
      refine EV.iload_n 1 dX2_settle_84 rfl rfl ?_
      obtain ⟨v39, gv39, h⟩ := px_bs h
      refine ev_aI dX2_settle_85 gv39 ?_
      refine EV.aload_n 0 dX2_settle_86 rfl rfl ?_
      obtain ⟨o40, go40, h⟩ := px_bs h
      obtain ⟨q41, gq41, h⟩ := px_bs h
      refine EV.callV (As := []) (rest := [.int v39, .int a1, .ref v37]) dX2_settle_87 kcX2_settle_58 (gO_ok go40) rfl rfl rfl (Nat.le_of_ble_eq_true rfl) (Nat.le_of_ble_eq_true rfl) (eX2_unitsAcross gq41) ?_
      refine EV.imul dX2_settle_90 ?_
      obtain ⟨w42, gw42, h⟩ := px_bs h
      refine ev_sI dX2_settle_91 gw42 ?_
      refine EV.aload_n 0 dX2_settle_92 rfl rfl ?_
      obtain ⟨v43, gv43, h⟩ := px_bs h
      refine ev_gR dX2_settle_93 flRX2_34 gv43 ?_
      refine EV.iload_n 1 dX2_settle_96 rfl rfl ?_
      refine EV.aload_n 0 dX2_settle_97 rfl rfl ?_
      obtain ⟨v44, gv44, h⟩ := px_bs h
      refine ev_gR dX2_settle_98 flRX2_28 gv44 ?_
      refine EV.iload_n 1 dX2_settle_101 rfl rfl ?_
      obtain ⟨v45, gv45, h⟩ := px_bs h
      refine ev_aI dX2_settle_102 gv45 ?_
      refine EV.aload_n 0 dX2_settle_103 rfl rfl ?_
      obtain ⟨o46, go46, h⟩ := px_bs h
      obtain ⟨q47, gq47, h⟩ := px_bs h
      refine EV.callV (As := []) (rest := [.int v45, .int a1, .ref v43]) dX2_settle_104 kcX2_settle_62 (gO_ok go46) rfl rfl rfl (Nat.le_of_ble_eq_true rfl) (Nat.le_of_ble_eq_true rfl) (eX2_unitsDown gq47) ?_
      refine EV.imul dX2_settle_107 ?_
      obtain ⟨w48, gw48, h⟩ := px_bs h
      refine ev_sI dX2_settle_108 gw48 ?_
      refine EV.aload_n 0 dX2_settle_109 rfl rfl ?_
      obtain ⟨v49, gv49, h⟩ := px_bs h
      refine ev_gR dX2_settle_110 flRX2_37 gv49 ?_
      refine EV.iload_n 1 dX2_settle_113 rfl rfl ?_
      refine EV.aload_n 0 dX2_settle_114 rfl rfl ?_
      obtain ⟨v50, gv50, h⟩ := px_bs h
      refine ev_gI dX2_settle_115 flRX2_55 gv50 ?_
      obtain ⟨w51, gw51, h⟩ := px_bs h
      refine ev_sI dX2_settle_118 gw51 ?_
      refine EV.aload_n 0 dX2_settle_119 rfl rfl ?_
      refine EV.dup dX2_settle_120 rfl ?_
      obtain ⟨v52, gv52, h⟩ := px_bs h
      refine ev_gI dX2_settle_121 flRX2_55 gv52 ?_
      refine EV.aload_n 0 dX2_settle_124 rfl rfl ?_
      obtain ⟨v53, gv53, h⟩ := px_bs h
      refine ev_gR dX2_settle_125 flRX2_31 gv53 ?_
      refine EV.iload_n 1 dX2_settle_128 rfl rfl ?_
      obtain ⟨v54, gv54, h⟩ := px_bs h
      refine ev_aI dX2_settle_129 gv54 ?_
      refine EV.aload_n 0 dX2_settle_130 rfl rfl ?_
      obtain ⟨v55, gv55, h⟩ := px_bs h
      refine ev_gR dX2_settle_131 flRX2_34 gv55 ?_
      refine EV.iload_n 1 dX2_settle_134 rfl rfl ?_
      obtain ⟨v56, gv56, h⟩ := px_bs h
      refine ev_aI dX2_settle_135 gv56 ?_
      refine EV.imul dX2_settle_136 ?_
      refine EV.iadd dX2_settle_137 ?_
      obtain ⟨w57, gw57, h⟩ := px_bs h
      refine ev_pV dX2_settle_138 flRX2_55 rfl rfl rfl rfl gw57 ?_
      refine EV.iinc 1 (a1 + 1) [(1, .int (a1 + 1)), (0, .ref a0)] dX2_settle_141 rfl rfl (by decide) rfl ?_
      refine EV.goto 67 dX2_settle_144 (by decide) ?_
      refine EV.sub [1, 0] rfl ?_
      exact ih _ _ _ _ h
set_option maxRecDepth 100000 in
set_option maxHeartbeats 4000000 in
theorem eX2_settle_60 {X : px_X}  : ∀ (a0 : Nat) (w : px_W) (q : px_W), fX2_settle_60 X  a0 w = some q → EV X mX2_settle 60 [(0, .ref a0)] [] w none q := by
  intro a0 w q h
  unfold fX2_settle_60 at h
  refine EV.aload_n 0 dX2_settle_60 rfl rfl ?_
  refine EV.iconst (0) dX2_settle_61 (by decide) ?_
  obtain ⟨w58, gw58, h⟩ := px_bs h
  refine ev_pV dX2_settle_62 flRX2_55 rfl rfl rfl rfl gw58 ?_
  refine EV.iconst (0) dX2_settle_65 (by decide) ?_
  refine EV.istore_n [(1, .int 0), (0, .ref a0)] dX2_settle_66 rfl (by decide) rfl ?_
  refine EV.sub [1, 0] rfl ?_
  exact eX2_settle_67  FU _ _ _ _ h
set_option maxRecDepth 100000 in
set_option maxHeartbeats 4000000 in
theorem eX2_settle_12 {X : px_X}  : ∀ (m : Nat) (a0 : Nat) (a1 : Int32) (w : px_W) (q : px_W), fX2_settle_12 X  m a0 a1 w = some q → EV X mX2_settle 12 [(0, .ref a0), (1, .int a1)] [] w none q := by
  intro m
  induction m with
  | zero => intro a0 a1 w q h; cases h
  | succ m ih =>
    intro a0 a1 w q h
    rw [fX2_settle_12.eq_2] at h
    refine EV.iload_n 1 dX2_settle_12 rfl rfl ?_
    refine EV.aload_n 0 dX2_settle_13 rfl rfl ?_
    obtain ⟨v59, gv59, h⟩ := px_bs h
    refine ev_gI dX2_settle_14 flRX2_46 gv59 ?_
    refine EV.icmp_ge 60 dX2_settle_17 (by decide) (fun c60 => ?_) (fun c60 => ?_)
    · rw [if_pos c60] at h
      refine EV.sub [0] rfl ?_
      exact eX2_settle_60  _ _ _ h
    · rw [if_neg c60] at h
      refine EV.aload_n 0 dX2_settle_20 rfl rfl ?_
      refine EV.aload_n 0 dX2_settle_21 rfl rfl ?_
      obtain ⟨v61, gv61, h⟩ := px_bs h
      refine ev_gI dX2_settle_22 flRX2_18 gv61 ?_
      refine EV.aload_n 0 dX2_settle_25 rfl rfl ?_
      obtain ⟨v62, gv62, h⟩ := px_bs h
      refine ev_gR dX2_settle_26 flRX2_24 gv62 ?_
      refine EV.iload_n 1 dX2_settle_29 rfl rfl ?_
      obtain ⟨v63, gv63, h⟩ := px_bs h
      refine ev_aI dX2_settle_30 gv63 ?_
      refine EV.mmax dX2_settle_31 (tb4 (List.mem_of_getElem? (i := 38) rfl)) (by decide) (by decide) (Nat.le_of_ble_eq_true rfl) ?_
      obtain ⟨w64, gw64, h⟩ := px_bs h
      refine ev_pV dX2_settle_34 flRX2_18 rfl rfl rfl rfl gw64 ?_
      refine EV.aload_n 0 dX2_settle_37 rfl rfl ?_
      refine EV.aload_n 0 dX2_settle_38 rfl rfl ?_
      obtain ⟨v65, gv65, h⟩ := px_bs h
      refine ev_gI dX2_settle_39 flRX2_21 gv65 ?_
      refine EV.aload_n 0 dX2_settle_42 rfl rfl ?_
      obtain ⟨v66, gv66, h⟩ := px_bs h
      refine ev_gR dX2_settle_43 flRX2_28 gv66 ?_
      refine EV.iload_n 1 dX2_settle_46 rfl rfl ?_
      obtain ⟨v67, gv67, h⟩ := px_bs h
      refine ev_aI dX2_settle_47 gv67 ?_
      refine EV.mmax dX2_settle_48 (tb4 (List.mem_of_getElem? (i := 38) rfl)) (by decide) (by decide) (Nat.le_of_ble_eq_true rfl) ?_
      obtain ⟨w68, gw68, h⟩ := px_bs h
      refine ev_pV dX2_settle_51 flRX2_21 rfl rfl rfl rfl gw68 ?_
      refine EV.iinc 1 (a1 + 1) [(1, .int (a1 + 1)), (0, .ref a0)] dX2_settle_54 rfl rfl (by decide) rfl ?_
      refine EV.goto 12 dX2_settle_57 (by decide) ?_
      refine EV.sub [1, 0] rfl ?_
      exact ih _ _ _ _ h
set_option maxRecDepth 100000 in
set_option maxHeartbeats 4000000 in
theorem eX2_settle {X : px_X} {w : px_W} {a0 : Nat} {q : px_W} (h : fX2_settle X w a0 = some q) : EV X mX2_settle 0 (lv_args 0 [.ref a0]) [] w none q := by
  unfold fX2_settle at h
  show EV X mX2_settle 0 [(0, .ref a0)] [] w none q
  refine EV.aload_n 0 dX2_settle_0 rfl rfl ?_
  refine EV.iconst (1) dX2_settle_1 (by decide) ?_
  obtain ⟨w69, gw69, h⟩ := px_bs h
  refine ev_pV dX2_settle_2 flRX2_18 rfl rfl rfl rfl gw69 ?_
  refine EV.aload_n 0 dX2_settle_5 rfl rfl ?_
  refine EV.iconst (1) dX2_settle_6 (by decide) ?_
  obtain ⟨w70, gw70, h⟩ := px_bs h
  refine ev_pV dX2_settle_7 flRX2_21 rfl rfl rfl rfl gw70 ?_
  refine EV.iconst (0) dX2_settle_10 (by decide) ?_
  refine EV.istore_n [(1, .int 0), (0, .ref a0)] dX2_settle_11 rfl (by decide) rfl ?_
  refine EV.sub [1, 0] rfl ?_
  exact eX2_settle_12  FU _ _ _ _ h
/-! WavePictures$Picture.samplesAcross(I)I -/
theorem dX2_samplesAcross_0 : decode cX2_samplesAcross 0 = .ok (.aload_n 0, 1) := by decide +kernel
theorem dX2_samplesAcross_1 : decode cX2_samplesAcross 1 = .ok (.getfield 9, 3) := by decide +kernel
theorem dX2_samplesAcross_4 : decode cX2_samplesAcross 4 = .ok (.aload_n 0, 1) := by decide +kernel
theorem dX2_samplesAcross_5 : decode cX2_samplesAcross 5 = .ok (.getfield 24, 3) := by decide +kernel
theorem dX2_samplesAcross_8 : decode cX2_samplesAcross 8 = .ok (.iload_n 1, 1) := by decide +kernel
theorem dX2_samplesAcross_9 : decode cX2_samplesAcross 9 = .ok (.iaload, 1) := by decide +kernel
theorem dX2_samplesAcross_10 : decode cX2_samplesAcross 10 = .ok (.imul, 1) := by decide +kernel
theorem dX2_samplesAcross_11 : decode cX2_samplesAcross 11 = .ok (.aload_n 0, 1) := by decide +kernel
theorem dX2_samplesAcross_12 : decode cX2_samplesAcross 12 = .ok (.getfield 18, 3) := by decide +kernel
theorem dX2_samplesAcross_15 : decode cX2_samplesAcross 15 = .ok (.invokestatic 65, 3) := by decide +kernel
theorem dX2_samplesAcross_18 : decode cX2_samplesAcross 18 = .ok (.ireturn, 1) := by decide +kernel
theorem kcX2_samplesAcross_65 : px_cS mX2_samplesAcross 65 mX11_up 2 := ⟨⟨mbX11_up, by decide, by decide⟩, Or.inr ⟨"WavePictures", tT4 (List.mem_of_getElem? (i := 45) rfl)⟩, tb4 (List.mem_of_getElem? (i := 46) rfl)⟩
set_option maxRecDepth 100000 in
set_option maxHeartbeats 4000000 in
theorem eX2_samplesAcross {X : px_X} {w : px_W} {a0 : Nat} {a1 : Int32} {q : Int32 × px_W} (h : fX2_samplesAcross X w a0 a1 = some q) : EV X mX2_samplesAcross 0 (lv_args 0 [.ref a0, .int a1]) [] w (some (.int q.1)) q.2 := by
  unfold fX2_samplesAcross at h
  show EV X mX2_samplesAcross 0 [(0, .ref a0), (1, .int a1)] [] w (some (.int q.1)) q.2
  refine EV.aload_n 0 dX2_samplesAcross_0 rfl rfl ?_
  obtain ⟨v6, gv6, h⟩ := px_bs h
  refine ev_gI dX2_samplesAcross_1 flRX2_9 gv6 ?_
  refine EV.aload_n 0 dX2_samplesAcross_4 rfl rfl ?_
  obtain ⟨v7, gv7, h⟩ := px_bs h
  refine ev_gR dX2_samplesAcross_5 flRX2_24 gv7 ?_
  refine EV.iload_n 1 dX2_samplesAcross_8 rfl rfl ?_
  obtain ⟨v8, gv8, h⟩ := px_bs h
  refine ev_aI dX2_samplesAcross_9 gv8 ?_
  refine EV.imul dX2_samplesAcross_10 ?_
  refine EV.aload_n 0 dX2_samplesAcross_11 rfl rfl ?_
  obtain ⟨v9, gv9, h⟩ := px_bs h
  refine ev_gI dX2_samplesAcross_12 flRX2_18 gv9 ?_
  obtain ⟨q10, gq10, h⟩ := px_bs h
  refine EV.callS (As := [.int (v6 * v8), .int v9]) (rest := []) dX2_samplesAcross_15 kcX2_samplesAcross_65 rfl (Nat.le_of_ble_eq_true rfl) (Nat.le_of_ble_eq_true rfl) (eX11_up gq10) ?_
  cases h
  exact EV.reti dX2_samplesAcross_18 rfl
