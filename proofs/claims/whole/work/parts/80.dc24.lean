/-! WavePicturesModel.sample(II)I -/
theorem dX15_sample_0 : decode cX15_sample 0 = .ok (.iload_n 1, 1) := by decide +kernel
theorem dX15_sample_1 : decode cX15_sample 1 = .ok (.ifCond .ge 7, 3) := by decide +kernel
theorem dX15_sample_4 : decode cX15_sample 4 = .ok (.iconst 0, 1) := by decide +kernel
theorem dX15_sample_5 : decode cX15_sample 5 = .ok (.goto 21, 3) := by decide +kernel
theorem dX15_sample_8 : decode cX15_sample 8 = .ok (.iload_n 1, 1) := by decide +kernel
theorem dX15_sample_9 : decode cX15_sample 9 = .ok (.aload_n 0, 1) := by decide +kernel
theorem dX15_sample_10 : decode cX15_sample 10 = .ok (.getfield 333, 3) := by decide +kernel
theorem dX15_sample_13 : decode cX15_sample 13 = .ok (.if_icmp .ge 7, 3) := by decide +kernel
theorem dX15_sample_16 : decode cX15_sample 16 = .ok (.iload_n 1, 1) := by decide +kernel
theorem dX15_sample_17 : decode cX15_sample 17 = .ok (.goto 9, 3) := by decide +kernel
theorem dX15_sample_20 : decode cX15_sample 20 = .ok (.aload_n 0, 1) := by decide +kernel
theorem dX15_sample_21 : decode cX15_sample 21 = .ok (.getfield 333, 3) := by decide +kernel
theorem dX15_sample_24 : decode cX15_sample 24 = .ok (.iconst 1, 1) := by decide +kernel
theorem dX15_sample_25 : decode cX15_sample 25 = .ok (.isub, 1) := by decide +kernel
theorem dX15_sample_26 : decode cX15_sample 26 = .ok (.istore_n 3, 1) := by decide +kernel
theorem dX15_sample_27 : decode cX15_sample 27 = .ok (.iload_n 2, 1) := by decide +kernel
theorem dX15_sample_28 : decode cX15_sample 28 = .ok (.ifCond .ge 7, 3) := by decide +kernel
theorem dX15_sample_31 : decode cX15_sample 31 = .ok (.iconst 0, 1) := by decide +kernel
theorem dX15_sample_32 : decode cX15_sample 32 = .ok (.goto 21, 3) := by decide +kernel
theorem dX15_sample_35 : decode cX15_sample 35 = .ok (.iload_n 2, 1) := by decide +kernel
theorem dX15_sample_36 : decode cX15_sample 36 = .ok (.aload_n 0, 1) := by decide +kernel
theorem dX15_sample_37 : decode cX15_sample 37 = .ok (.getfield 350, 3) := by decide +kernel
theorem dX15_sample_40 : decode cX15_sample 40 = .ok (.if_icmp .ge 7, 3) := by decide +kernel
theorem dX15_sample_43 : decode cX15_sample 43 = .ok (.iload_n 2, 1) := by decide +kernel
theorem dX15_sample_44 : decode cX15_sample 44 = .ok (.goto 9, 3) := by decide +kernel
theorem dX15_sample_47 : decode cX15_sample 47 = .ok (.aload_n 0, 1) := by decide +kernel
theorem dX15_sample_48 : decode cX15_sample 48 = .ok (.getfield 350, 3) := by decide +kernel
theorem dX15_sample_51 : decode cX15_sample 51 = .ok (.iconst 1, 1) := by decide +kernel
theorem dX15_sample_52 : decode cX15_sample 52 = .ok (.isub, 1) := by decide +kernel
theorem dX15_sample_53 : decode cX15_sample 53 = .ok (.istore 4, 2) := by decide +kernel
theorem dX15_sample_55 : decode cX15_sample 55 = .ok (.aload_n 0, 1) := by decide +kernel
theorem dX15_sample_56 : decode cX15_sample 56 = .ok (.getfield 104, 3) := by decide +kernel
theorem dX15_sample_59 : decode cX15_sample 59 = .ok (.aload_n 0, 1) := by decide +kernel
theorem dX15_sample_60 : decode cX15_sample 60 = .ok (.getfield 333, 3) := by decide +kernel
theorem dX15_sample_63 : decode cX15_sample 63 = .ok (.iload 4, 2) := by decide +kernel
theorem dX15_sample_65 : decode cX15_sample 65 = .ok (.imul, 1) := by decide +kernel
theorem dX15_sample_66 : decode cX15_sample 66 = .ok (.iload_n 3, 1) := by decide +kernel
theorem dX15_sample_67 : decode cX15_sample 67 = .ok (.iadd, 1) := by decide +kernel
theorem dX15_sample_68 : decode cX15_sample 68 = .ok (.iaload, 1) := by decide +kernel
theorem dX15_sample_69 : decode cX15_sample 69 = .ok (.ireturn, 1) := by decide +kernel
theorem flRX15_350 : px_f RX15 350 15 45 := ⟨_, rfl, by decide, Or.inl (tb8 (List.mem_of_getElem? (i := 6) rfl))⟩
set_option maxRecDepth 100000 in
set_option maxHeartbeats 4000000 in
theorem eX15_sample_53 {X : px_X}  : ∀ (a0 : Nat) (a3 : Int32) (s0 : Int32) (w : px_W) (q : Int32 × px_W), fX15_sample_53 X  a0 a3 s0 w = some q → EV X mX15_sample 53 [(0, .ref a0), (3, .int a3)] [.int s0] w (some (.int q.1)) q.2 := by
  intro a0 a3 s0 w q h
  unfold fX15_sample_53 at h
  refine EV.istore [(4, .int s0), (0, .ref a0), (3, .int a3)] dX15_sample_53 (by decide) rfl ?_
  refine EV.aload_n 1 dX15_sample_55 rfl rfl ?_
  obtain ⟨v8, gv8, h⟩ := px_bs h
  refine ev_gR dX15_sample_56 flRX15_104 gv8 ?_
  refine EV.aload_n 1 dX15_sample_59 rfl rfl ?_
  obtain ⟨v9, gv9, h⟩ := px_bs h
  refine ev_gI dX15_sample_60 flRX15_333 gv9 ?_
  refine EV.iload 0 dX15_sample_63 rfl ?_
  refine EV.imul dX15_sample_65 ?_
  refine EV.iload_n 2 dX15_sample_66 rfl rfl ?_
  refine EV.iadd dX15_sample_67 ?_
  obtain ⟨v10, gv10, h⟩ := px_bs h
  refine ev_aI dX15_sample_68 gv10 ?_
  cases h
  exact EV.reti dX15_sample_69 rfl
set_option maxRecDepth 100000 in
set_option maxHeartbeats 4000000 in
theorem eX15_sample_26 {X : px_X}  : ∀ (a0 : Nat) (a2 : Int32) (s0 : Int32) (w : px_W) (q : Int32 × px_W), fX15_sample_26 X  a0 a2 s0 w = some q → EV X mX15_sample 26 [(0, .ref a0), (2, .int a2)] [.int s0] w (some (.int q.1)) q.2 := by
  intro a0 a2 s0 w q h
  unfold fX15_sample_26 at h
  refine EV.istore_n [(3, .int s0), (0, .ref a0), (2, .int a2)] dX15_sample_26 rfl (by decide) rfl ?_
  refine EV.iload_n 2 dX15_sample_27 rfl rfl ?_
  refine EV.if_ge 35 dX15_sample_28 (by decide) (fun c11 => ?_) (fun c11 => ?_)
  · rw [if_pos c11] at h
    refine EV.iload_n 2 dX15_sample_35 rfl rfl ?_
    refine EV.aload_n 1 dX15_sample_36 rfl rfl ?_
    obtain ⟨v12, gv12, h⟩ := px_bs h
    refine ev_gI dX15_sample_37 flRX15_350 gv12 ?_
    refine EV.icmp_ge 47 dX15_sample_40 (by decide) (fun c13 => ?_) (fun c13 => ?_)
    · rw [if_pos c13] at h
      refine EV.aload_n 1 dX15_sample_47 rfl rfl ?_
      obtain ⟨v14, gv14, h⟩ := px_bs h
      refine ev_gI dX15_sample_48 flRX15_350 gv14 ?_
      refine EV.iconst (1) dX15_sample_51 (by decide) ?_
      refine EV.isub dX15_sample_52 ?_
      refine EV.sub [1, 0] rfl ?_
      exact eX15_sample_53  _ _ _ _ _ h
    · rw [if_neg c13] at h
      refine EV.iload_n 2 dX15_sample_43 rfl rfl ?_
      refine EV.goto 53 dX15_sample_44 (by decide) ?_
      refine EV.sub [1, 0] rfl ?_
      exact eX15_sample_53  _ _ _ _ _ h
  · rw [if_neg c11] at h
    refine EV.iconst (0) dX15_sample_31 (by decide) ?_
    refine EV.goto 53 dX15_sample_32 (by decide) ?_
    refine EV.sub [1, 0] rfl ?_
    exact eX15_sample_53  _ _ _ _ _ h
set_option maxRecDepth 100000 in
set_option maxHeartbeats 4000000 in
theorem eX15_sample {X : px_X} {w : px_W} {a0 : Nat} {a1 : Int32} {a2 : Int32} {q : Int32 × px_W} (h : fX15_sample X w a0 a1 a2 = some q) : EV X mX15_sample 0 (lv_args 0 [.ref a0, .int a1, .int a2]) [] w (some (.int q.1)) q.2 := by
  unfold fX15_sample at h
  show EV X mX15_sample 0 [(0, .ref a0), (1, .int a1), (2, .int a2)] [] w (some (.int q.1)) q.2
  refine EV.iload_n 1 dX15_sample_0 rfl rfl ?_
  refine EV.if_ge 8 dX15_sample_1 (by decide) (fun c15 => ?_) (fun c15 => ?_)
  · rw [if_pos c15] at h
    refine EV.iload_n 1 dX15_sample_8 rfl rfl ?_
    refine EV.aload_n 0 dX15_sample_9 rfl rfl ?_
    obtain ⟨v16, gv16, h⟩ := px_bs h
    refine ev_gI dX15_sample_10 flRX15_333 gv16 ?_
    refine EV.icmp_ge 20 dX15_sample_13 (by decide) (fun c17 => ?_) (fun c17 => ?_)
    · rw [if_pos c17] at h
      refine EV.aload_n 0 dX15_sample_20 rfl rfl ?_
      obtain ⟨v18, gv18, h⟩ := px_bs h
      refine ev_gI dX15_sample_21 flRX15_333 gv18 ?_
      refine EV.iconst (1) dX15_sample_24 (by decide) ?_
      refine EV.isub dX15_sample_25 ?_
      refine EV.sub [0, 2] rfl ?_
      exact eX15_sample_26  _ _ _ _ _ h
    · rw [if_neg c17] at h
      refine EV.iload_n 1 dX15_sample_16 rfl rfl ?_
      refine EV.goto 26 dX15_sample_17 (by decide) ?_
      refine EV.sub [0, 2] rfl ?_
      exact eX15_sample_26  _ _ _ _ _ h
  · rw [if_neg c15] at h
    refine EV.iconst (0) dX15_sample_4 (by decide) ?_
    refine EV.goto 26 dX15_sample_5 (by decide) ?_
    refine EV.sub [0, 2] rfl ?_
    exact eX15_sample_26  _ _ _ _ _ h
/-! WavePicturesModel.become(II)V -/
theorem dX15_become_0 : decode cX15_become 0 = .ok (.aload_n 0, 1) := by decide +kernel
theorem dX15_become_1 : decode cX15_become 1 = .ok (.iload_n 1, 1) := by decide +kernel
theorem dX15_become_2 : decode cX15_become 2 = .ok (.putfield 333, 3) := by decide +kernel
theorem dX15_become_5 : decode cX15_become 5 = .ok (.aload_n 0, 1) := by decide +kernel
theorem dX15_become_6 : decode cX15_become 6 = .ok (.iload_n 2, 1) := by decide +kernel
theorem dX15_become_7 : decode cX15_become 7 = .ok (.putfield 350, 3) := by decide +kernel
theorem dX15_become_10 : decode cX15_become 10 = .ok (.iconst 0, 1) := by decide +kernel
theorem dX15_become_11 : decode cX15_become 11 = .ok (.istore_n 3, 1) := by decide +kernel
theorem dX15_become_12 : decode cX15_become 12 = .ok (.iload_n 3, 1) := by decide +kernel
theorem dX15_become_13 : decode cX15_become 13 = .ok (.iload_n 1, 1) := by decide +kernel
theorem dX15_become_14 : decode cX15_become 14 = .ok (.iload_n 2, 1) := by decide +kernel
theorem dX15_become_15 : decode cX15_become 15 = .ok (.imul, 1) := by decide +kernel
theorem dX15_become_16 : decode cX15_become 16 = .ok (.if_icmp .ge 21, 3) := by decide +kernel
theorem dX15_become_19 : decode cX15_become 19 = .ok (.aload_n 0, 1) := by decide +kernel
theorem dX15_become_20 : decode cX15_become 20 = .ok (.getfield 104, 3) := by decide +kernel
theorem dX15_become_23 : decode cX15_become 23 = .ok (.iload_n 3, 1) := by decide +kernel
theorem dX15_become_24 : decode cX15_become 24 = .ok (.aload_n 0, 1) := by decide +kernel
theorem dX15_become_25 : decode cX15_become 25 = .ok (.getfield 107, 3) := by decide +kernel
theorem dX15_become_28 : decode cX15_become 28 = .ok (.iload_n 3, 1) := by decide +kernel
theorem dX15_become_29 : decode cX15_become 29 = .ok (.iaload, 1) := by decide +kernel
theorem dX15_become_30 : decode cX15_become 30 = .ok (.iastore, 1) := by decide +kernel
theorem dX15_become_31 : decode cX15_become 31 = .ok (.iinc 3 1, 3) := by decide +kernel
theorem dX15_become_34 : decode cX15_become 34 = .ok (.goto (-22), 3) := by decide +kernel
theorem dX15_become_37 : decode cX15_become 37 = .ok (.return_, 1) := by decide +kernel
theorem flRX15_107 : px_f RX15 107 15 43 := ⟨_, rfl, by decide, Or.inl (tb8 (List.mem_of_getElem? (i := 4) rfl))⟩
set_option maxRecDepth 100000 in
set_option maxHeartbeats 4000000 in
theorem eX15_become_12 {X : px_X}  : ∀ (m : Nat) (a0 : Nat) (a1 : Int32) (a2 : Int32) (a3 : Int32) (w : px_W) (q : px_W), fX15_become_12 X  m a0 a1 a2 a3 w = some q → EV X mX15_become 12 [(0, .ref a0), (1, .int a1), (2, .int a2), (3, .int a3)] [] w none q := by
  intro m
  induction m with
  | zero => intro a0 a1 a2 a3 w q h; cases h
  | succ m ih =>
    intro a0 a1 a2 a3 w q h
    rw [fX15_become_12.eq_2] at h
    refine EV.iload_n 3 dX15_become_12 rfl rfl ?_
    refine EV.iload_n 1 dX15_become_13 rfl rfl ?_
    refine EV.iload_n 2 dX15_become_14 rfl rfl ?_
    refine EV.imul dX15_become_15 ?_
    refine EV.icmp_ge 37 dX15_become_16 (by decide) (fun c7 => ?_) (fun c7 => ?_)
    · rw [if_pos c7] at h
      cases h
      exact EV.ret0 dX15_become_37 trivial
    · rw [if_neg c7] at h
      refine EV.aload_n 0 dX15_become_19 rfl rfl ?_
      obtain ⟨v8, gv8, h⟩ := px_bs h
      refine ev_gR dX15_become_20 flRX15_104 gv8 ?_
      refine EV.iload_n 3 dX15_become_23 rfl rfl ?_
      refine EV.aload_n 0 dX15_become_24 rfl rfl ?_
      obtain ⟨v9, gv9, h⟩ := px_bs h
      refine ev_gR dX15_become_25 flRX15_107 gv9 ?_
      refine EV.iload_n 3 dX15_become_28 rfl rfl ?_
      obtain ⟨v10, gv10, h⟩ := px_bs h
      refine ev_aI dX15_become_29 gv10 ?_
      obtain ⟨w11, gw11, h⟩ := px_bs h
      refine ev_sI dX15_become_30 gw11 ?_
      refine EV.iinc 3 (a3 + 1) [(3, .int (a3 + 1)), (0, .ref a0), (1, .int a1), (2, .int a2)] dX15_become_31 rfl rfl (by decide) rfl ?_
      refine EV.goto 12 dX15_become_34 (by decide) ?_
      refine EV.sub [1, 2, 3, 0] rfl ?_
      exact ih _ _ _ _ _ _ h
set_option maxRecDepth 100000 in
set_option maxHeartbeats 4000000 in
theorem eX15_become {X : px_X} {w : px_W} {a0 : Nat} {a1 : Int32} {a2 : Int32} {q : px_W} (h : fX15_become X w a0 a1 a2 = some q) : EV X mX15_become 0 (lv_args 0 [.ref a0, .int a1, .int a2]) [] w none q := by
  unfold fX15_become at h
  show EV X mX15_become 0 [(0, .ref a0), (1, .int a1), (2, .int a2)] [] w none q
  refine EV.aload_n 0 dX15_become_0 rfl rfl ?_
  refine EV.iload_n 1 dX15_become_1 rfl rfl ?_
  obtain ⟨w12, gw12, h⟩ := px_bs h
  refine ev_pV dX15_become_2 flRX15_333 rfl rfl rfl rfl gw12 ?_
  refine EV.aload_n 0 dX15_become_5 rfl rfl ?_
  refine EV.iload_n 2 dX15_become_6 rfl rfl ?_
  obtain ⟨w13, gw13, h⟩ := px_bs h
  refine ev_pV dX15_become_7 flRX15_350 rfl rfl rfl rfl gw13 ?_
  refine EV.iconst (0) dX15_become_10 (by decide) ?_
  refine EV.istore_n [(3, .int 0), (0, .ref a0), (1, .int a1), (2, .int a2)] dX15_become_11 rfl (by decide) rfl ?_
  refine EV.sub [1, 2, 3, 0] rfl ?_
  exact eX15_become_12  FU _ _ _ _ _ _ h
/-! WavePicturesModel.grow(ZZ)V -/
theorem dX15_grow_0 : decode cX15_grow 0 = .ok (.iload_n 1, 1) := by decide +kernel
theorem dX15_grow_1 : decode cX15_grow 1 = .ok (.ifCond .eq 12, 3) := by decide +kernel
theorem dX15_grow_4 : decode cX15_grow 4 = .ok (.iconst 2, 1) := by decide +kernel
theorem dX15_grow_5 : decode cX15_grow 5 = .ok (.aload_n 0, 1) := by decide +kernel
theorem dX15_grow_6 : decode cX15_grow 6 = .ok (.getfield 333, 3) := by decide +kernel
theorem dX15_grow_9 : decode cX15_grow 9 = .ok (.imul, 1) := by decide +kernel
theorem dX15_grow_10 : decode cX15_grow 10 = .ok (.goto 7, 3) := by decide +kernel
theorem dX15_grow_13 : decode cX15_grow 13 = .ok (.aload_n 0, 1) := by decide +kernel
theorem dX15_grow_14 : decode cX15_grow 14 = .ok (.getfield 333, 3) := by decide +kernel
theorem dX15_grow_17 : decode cX15_grow 17 = .ok (.istore_n 3, 1) := by decide +kernel
theorem dX15_grow_18 : decode cX15_grow 18 = .ok (.iload_n 1, 1) := by decide +kernel
theorem dX15_grow_19 : decode cX15_grow 19 = .ok (.ifCond .eq 10, 3) := by decide +kernel
theorem dX15_grow_22 : decode cX15_grow 22 = .ok (.aload_n 0, 1) := by decide +kernel
theorem dX15_grow_23 : decode cX15_grow 23 = .ok (.getfield 350, 3) := by decide +kernel
theorem dX15_grow_26 : decode cX15_grow 26 = .ok (.goto 9, 3) := by decide +kernel
theorem dX15_grow_29 : decode cX15_grow 29 = .ok (.iconst 2, 1) := by decide +kernel
theorem dX15_grow_30 : decode cX15_grow 30 = .ok (.aload_n 0, 1) := by decide +kernel
theorem dX15_grow_31 : decode cX15_grow 31 = .ok (.getfield 350, 3) := by decide +kernel
theorem dX15_grow_34 : decode cX15_grow 34 = .ok (.imul, 1) := by decide +kernel
theorem dX15_grow_35 : decode cX15_grow 35 = .ok (.istore 4, 2) := by decide +kernel
theorem dX15_grow_37 : decode cX15_grow 37 = .ok (.iconst 0, 1) := by decide +kernel
theorem dX15_grow_38 : decode cX15_grow 38 = .ok (.istore 5, 2) := by decide +kernel
theorem dX15_grow_40 : decode cX15_grow 40 = .ok (.iload 5, 2) := by decide +kernel
theorem dX15_grow_42 : decode cX15_grow 42 = .ok (.iload 4, 2) := by decide +kernel
theorem dX15_grow_44 : decode cX15_grow 44 = .ok (.if_icmp .ge 157, 3) := by decide +kernel
theorem dX15_grow_47 : decode cX15_grow 47 = .ok (.iconst 0, 1) := by decide +kernel
theorem dX15_grow_48 : decode cX15_grow 48 = .ok (.istore 6, 2) := by decide +kernel
theorem dX15_grow_50 : decode cX15_grow 50 = .ok (.iload 6, 2) := by decide +kernel
theorem dX15_grow_52 : decode cX15_grow 52 = .ok (.iload_n 3, 1) := by decide +kernel
theorem dX15_grow_53 : decode cX15_grow 53 = .ok (.if_icmp .ge 142, 3) := by decide +kernel
theorem dX15_grow_56 : decode cX15_grow 56 = .ok (.iload_n 1, 1) := by decide +kernel
theorem dX15_grow_57 : decode cX15_grow 57 = .ok (.ifCond .eq 10, 3) := by decide +kernel
theorem dX15_grow_60 : decode cX15_grow 60 = .ok (.iload 6, 2) := by decide +kernel
theorem dX15_grow_62 : decode cX15_grow 62 = .ok (.iconst 2, 1) := by decide +kernel
theorem dX15_grow_63 : decode cX15_grow 63 = .ok (.idiv, 1) := by decide +kernel
theorem dX15_grow_64 : decode cX15_grow 64 = .ok (.goto 5, 3) := by decide +kernel
theorem dX15_grow_67 : decode cX15_grow 67 = .ok (.iload 6, 2) := by decide +kernel
theorem dX15_grow_69 : decode cX15_grow 69 = .ok (.istore 7, 2) := by decide +kernel
theorem dX15_grow_71 : decode cX15_grow 71 = .ok (.iload_n 1, 1) := by decide +kernel
theorem dX15_grow_72 : decode cX15_grow 72 = .ok (.ifCond .eq 8, 3) := by decide +kernel
theorem dX15_grow_75 : decode cX15_grow 75 = .ok (.iload 5, 2) := by decide +kernel
theorem dX15_grow_77 : decode cX15_grow 77 = .ok (.goto 7, 3) := by decide +kernel
theorem dX15_grow_80 : decode cX15_grow 80 = .ok (.iload 5, 2) := by decide +kernel
theorem dX15_grow_82 : decode cX15_grow 82 = .ok (.iconst 2, 1) := by decide +kernel
theorem dX15_grow_83 : decode cX15_grow 83 = .ok (.idiv, 1) := by decide +kernel
theorem dX15_grow_84 : decode cX15_grow 84 = .ok (.istore 8, 2) := by decide +kernel
theorem dX15_grow_86 : decode cX15_grow 86 = .ok (.iload_n 1, 1) := by decide +kernel
theorem dX15_grow_87 : decode cX15_grow 87 = .ok (.ifCond .eq 10, 3) := by decide +kernel
theorem dX15_grow_90 : decode cX15_grow 90 = .ok (.iload 6, 2) := by decide +kernel
theorem dX15_grow_92 : decode cX15_grow 92 = .ok (.iconst 2, 1) := by decide +kernel
theorem dX15_grow_93 : decode cX15_grow 93 = .ok (.irem, 1) := by decide +kernel
theorem dX15_grow_94 : decode cX15_grow 94 = .ok (.goto 7, 3) := by decide +kernel
theorem dX15_grow_97 : decode cX15_grow 97 = .ok (.iload 5, 2) := by decide +kernel
theorem dX15_grow_99 : decode cX15_grow 99 = .ok (.iconst 2, 1) := by decide +kernel
theorem dX15_grow_100 : decode cX15_grow 100 = .ok (.irem, 1) := by decide +kernel
theorem dX15_grow_101 : decode cX15_grow 101 = .ok (.istore 9, 2) := by decide +kernel
theorem dX15_grow_103 : decode cX15_grow 103 = .ok (.iload_n 1, 1) := by decide +kernel
theorem dX15_grow_104 : decode cX15_grow 104 = .ok (.ifCond .eq 21, 3) := by decide +kernel
theorem dX15_grow_107 : decode cX15_grow 107 = .ok (.aload_n 0, 1) := by decide +kernel
theorem dX15_grow_108 : decode cX15_grow 108 = .ok (.iload 7, 2) := by decide +kernel
theorem dX15_grow_110 : decode cX15_grow 110 = .ok (.iconst 2, 1) := by decide +kernel
theorem dX15_grow_111 : decode cX15_grow 111 = .ok (.iload 9, 2) := by decide +kernel
theorem dX15_grow_113 : decode cX15_grow 113 = .ok (.imul, 1) := by decide +kernel
theorem dX15_grow_114 : decode cX15_grow 114 = .ok (.iadd, 1) := by decide +kernel
theorem dX15_grow_115 : decode cX15_grow 115 = .ok (.iconst 1, 1) := by decide +kernel
theorem dX15_grow_116 : decode cX15_grow 116 = .ok (.isub, 1) := by decide +kernel
theorem dX15_grow_117 : decode cX15_grow 117 = .ok (.iload 8, 2) := by decide +kernel
theorem dX15_grow_119 : decode cX15_grow 119 = .ok (.invokevirtual 353, 3) := by decide +kernel
theorem dX15_grow_122 : decode cX15_grow 122 = .ok (.goto 18, 3) := by decide +kernel
theorem dX15_grow_125 : decode cX15_grow 125 = .ok (.aload_n 0, 1) := by decide +kernel
theorem dX15_grow_126 : decode cX15_grow 126 = .ok (.iload 7, 2) := by decide +kernel
theorem dX15_grow_128 : decode cX15_grow 128 = .ok (.iload 8, 2) := by decide +kernel
theorem dX15_grow_130 : decode cX15_grow 130 = .ok (.iconst 2, 1) := by decide +kernel
theorem dX15_grow_131 : decode cX15_grow 131 = .ok (.iload 9, 2) := by decide +kernel
theorem dX15_grow_133 : decode cX15_grow 133 = .ok (.imul, 1) := by decide +kernel
theorem dX15_grow_134 : decode cX15_grow 134 = .ok (.iadd, 1) := by decide +kernel
theorem dX15_grow_135 : decode cX15_grow 135 = .ok (.iconst 1, 1) := by decide +kernel
theorem dX15_grow_136 : decode cX15_grow 136 = .ok (.isub, 1) := by decide +kernel
theorem dX15_grow_137 : decode cX15_grow 137 = .ok (.invokevirtual 353, 3) := by decide +kernel
theorem dX15_grow_140 : decode cX15_grow 140 = .ok (.istore 10, 2) := by decide +kernel
theorem dX15_grow_142 : decode cX15_grow 142 = .ok (.aload_n 0, 1) := by decide +kernel
theorem dX15_grow_143 : decode cX15_grow 143 = .ok (.getfield 107, 3) := by decide +kernel
theorem dX15_grow_146 : decode cX15_grow 146 = .ok (.iload_n 3, 1) := by decide +kernel
theorem dX15_grow_147 : decode cX15_grow 147 = .ok (.iload 5, 2) := by decide +kernel
theorem dX15_grow_149 : decode cX15_grow 149 = .ok (.imul, 1) := by decide +kernel
theorem dX15_grow_150 : decode cX15_grow 150 = .ok (.iload 6, 2) := by decide +kernel
theorem dX15_grow_152 : decode cX15_grow 152 = .ok (.iadd, 1) := by decide +kernel
theorem dX15_grow_153 : decode cX15_grow 153 = .ok (.iload_n 2, 1) := by decide +kernel
theorem dX15_grow_154 : decode cX15_grow 154 = .ok (.ifCond .eq 26, 3) := by decide +kernel
theorem dX15_grow_157 : decode cX15_grow 157 = .ok (.iconst 3, 1) := by decide +kernel
theorem dX15_grow_158 : decode cX15_grow 158 = .ok (.aload_n 0, 1) := by decide +kernel
theorem dX15_grow_159 : decode cX15_grow 159 = .ok (.iload 7, 2) := by decide +kernel
theorem dX15_grow_161 : decode cX15_grow 161 = .ok (.iload 8, 2) := by decide +kernel
theorem dX15_grow_163 : decode cX15_grow 163 = .ok (.invokevirtual 353, 3) := by decide +kernel
theorem dX15_grow_166 : decode cX15_grow 166 = .ok (.imul, 1) := by decide +kernel
theorem dX15_grow_167 : decode cX15_grow 167 = .ok (.iload 10, 2) := by decide +kernel
theorem dX15_grow_169 : decode cX15_grow 169 = .ok (.iadd, 1) := by decide +kernel
theorem dX15_grow_170 : decode cX15_grow 170 = .ok (.iconst 1, 1) := by decide +kernel
theorem dX15_grow_171 : decode cX15_grow 171 = .ok (.iadd, 1) := by decide +kernel
theorem dX15_grow_172 : decode cX15_grow 172 = .ok (.iload 9, 2) := by decide +kernel
theorem dX15_grow_174 : decode cX15_grow 174 = .ok (.iadd, 1) := by decide +kernel
theorem dX15_grow_175 : decode cX15_grow 175 = .ok (.iconst 2, 1) := by decide +kernel
theorem dX15_grow_176 : decode cX15_grow 176 = .ok (.ishr, 1) := by decide +kernel
theorem dX15_grow_177 : decode cX15_grow 177 = .ok (.goto 11, 3) := by decide +kernel
theorem dX15_grow_180 : decode cX15_grow 180 = .ok (.aload_n 0, 1) := by decide +kernel
theorem dX15_grow_181 : decode cX15_grow 181 = .ok (.iload 7, 2) := by decide +kernel
theorem dX15_grow_183 : decode cX15_grow 183 = .ok (.iload 8, 2) := by decide +kernel
theorem dX15_grow_185 : decode cX15_grow 185 = .ok (.invokevirtual 353, 3) := by decide +kernel
theorem dX15_grow_188 : decode cX15_grow 188 = .ok (.iastore, 1) := by decide +kernel
theorem dX15_grow_189 : decode cX15_grow 189 = .ok (.iinc 6 1, 3) := by decide +kernel
theorem dX15_grow_192 : decode cX15_grow 192 = .ok (.goto (-142), 3) := by decide +kernel
theorem dX15_grow_195 : decode cX15_grow 195 = .ok (.iinc 5 1, 3) := by decide +kernel
theorem dX15_grow_198 : decode cX15_grow 198 = .ok (.goto (-158), 3) := by decide +kernel
theorem dX15_grow_201 : decode cX15_grow 201 = .ok (.aload_n 0, 1) := by decide +kernel
theorem dX15_grow_202 : decode cX15_grow 202 = .ok (.iload_n 3, 1) := by decide +kernel
theorem dX15_grow_203 : decode cX15_grow 203 = .ok (.iload 4, 2) := by decide +kernel
theorem dX15_grow_205 : decode cX15_grow 205 = .ok (.invokevirtual 356, 3) := by decide +kernel
theorem dX15_grow_208 : decode cX15_grow 208 = .ok (.return_, 1) := by decide +kernel
theorem mbX15_sample : px_mB mX15_sample 2 := ⟨tb10 (List.mem_of_getElem? (i := 28) rfl), by decide +kernel, tb1 (List.mem_of_getElem? (i := 13) rfl), by decide +kernel, by decide +kernel⟩
theorem vbX15_sample : px_vB mX15_sample := ⟨tb10 (List.mem_of_getElem? (i := 27) rfl), List.mem_append_left _ (List.mem_of_getElem? (i := 164) (by decide +kernel))⟩
theorem kcX15_grow_353 : px_cV mX15_grow 353 mX15_sample 2 := ⟨⟨mbX15_sample, by decide, by decide⟩, Or.inl (tb10 (List.mem_of_getElem? (i := 25) rfl)), vbX15_sample⟩
theorem mbX15_become : px_mB mX15_become 2 := ⟨tb10 (List.mem_of_getElem? (i := 32) rfl), by decide +kernel, tb1 (List.mem_of_getElem? (i := 13) rfl), by decide +kernel, by decide +kernel⟩
theorem vbX15_become : px_vB mX15_become := ⟨tb10 (List.mem_of_getElem? (i := 31) rfl), List.mem_append_left _ (List.mem_of_getElem? (i := 165) (by decide +kernel))⟩
theorem kcX15_grow_356 : px_cV mX15_grow 356 mX15_become 2 := ⟨⟨mbX15_become, by decide, by decide⟩, Or.inl (tb10 (List.mem_of_getElem? (i := 29) rfl)), vbX15_become⟩
set_option maxRecDepth 100000 in
set_option maxHeartbeats 4000000 in
theorem eX15_grow_201 {X : px_X}  : ∀ (a0 : Nat) (a3 : Int32) (a4 : Int32) (w : px_W) (q : px_W), fX15_grow_201 X  a0 a3 a4 w = some q → EV X mX15_grow 201 [(0, .ref a0), (3, .int a3), (4, .int a4)] [] w none q := by
  intro a0 a3 a4 w q h
  unfold fX15_grow_201 at h
  refine EV.aload_n 0 dX15_grow_201 rfl rfl ?_
  refine EV.iload_n 1 dX15_grow_202 rfl rfl ?_
  refine EV.iload 2 dX15_grow_203 rfl ?_
  obtain ⟨o21, go21, h⟩ := px_bs h
  obtain ⟨q22, gq22, h⟩ := px_bs h
  refine EV.callV (As := [.int a3, .int a4]) (rest := []) dX15_grow_205 kcX15_grow_356 (gO_ok go21) rfl rfl rfl (Nat.le_of_ble_eq_true rfl) (Nat.le_of_ble_eq_true rfl) (eX15_become gq22) ?_
  cases h
  exact EV.ret0 dX15_grow_208 trivial
set_option maxRecDepth 100000 in
set_option maxHeartbeats 4000000 in
theorem eX15_grow_195 {X : px_X} {k40 : Nat → Int32 → Int32 → Int32 → Int32 → Int32 → px_W → Option (px_W)} (hk40 : ∀ (a0 : Nat) (a1 : Int32) (a2 : Int32) (a3 : Int32) (a4 : Int32) (a5 : Int32) (w : px_W) (q : px_W), k40 a0 a1 a2 a3 a4 a5 w = some q → EV X mX15_grow 40 [(0, .ref a0), (1, .int a1), (2, .int a2), (3, .int a3), (4, .int a4), (5, .int a5)] [] w none q) : ∀ (a0 : Nat) (a1 : Int32) (a2 : Int32) (a3 : Int32) (a4 : Int32) (a5 : Int32) (w : px_W) (q : px_W), fX15_grow_195 X k40 a0 a1 a2 a3 a4 a5 w = some q → EV X mX15_grow 195 [(0, .ref a0), (1, .int a1), (2, .int a2), (3, .int a3), (4, .int a4), (5, .int a5)] [] w none q := by
  intro a0 a1 a2 a3 a4 a5 w q h
  unfold fX15_grow_195 at h
  refine EV.iinc 5 (a5 + 1) [(5, .int (a5 + 1)), (0, .ref a0), (1, .int a1), (2, .int a2), (3, .int a3), (4, .int a4)] dX15_grow_195 rfl rfl (by decide) rfl ?_
  refine EV.goto 40 dX15_grow_198 (by decide) ?_
  refine EV.sub [1, 2, 3, 4, 5, 0] rfl ?_
  exact hk40 _ _ _ _ _ _ _ _ h
set_option maxRecDepth 100000 in
set_option maxHeartbeats 4000000 in
theorem eX15_grow_188 {X : px_X} {k40 : Nat → Int32 → Int32 → Int32 → Int32 → Int32 → px_W → Option (px_W)} (hk40 : ∀ (a0 : Nat) (a1 : Int32) (a2 : Int32) (a3 : Int32) (a4 : Int32) (a5 : Int32) (w : px_W) (q : px_W), k40 a0 a1 a2 a3 a4 a5 w = some q → EV X mX15_grow 40 [(0, .ref a0), (1, .int a1), (2, .int a2), (3, .int a3), (4, .int a4), (5, .int a5)] [] w none q) {k50 : Nat → Int32 → Int32 → Int32 → Int32 → Int32 → Int32 → px_W → Option (px_W)} (hk50 : ∀ (a0 : Nat) (a1 : Int32) (a2 : Int32) (a3 : Int32) (a4 : Int32) (a5 : Int32) (a6 : Int32) (w : px_W) (q : px_W), k50 a0 a1 a2 a3 a4 a5 a6 w = some q → EV X mX15_grow 50 [(0, .ref a0), (1, .int a1), (2, .int a2), (3, .int a3), (4, .int a4), (5, .int a5), (6, .int a6)] [] w none q) : ∀ (a0 : Nat) (a1 : Int32) (a2 : Int32) (a3 : Int32) (a4 : Int32) (a5 : Int32) (a6 : Int32) (s0 : Int32) (s1 : Int32) (s2 : Nat) (w : px_W) (q : px_W), fX15_grow_188 X k40 k50 a0 a1 a2 a3 a4 a5 a6 s0 s1 s2 w = some q → EV X mX15_grow 188 [(0, .ref a0), (1, .int a1), (2, .int a2), (3, .int a3), (4, .int a4), (5, .int a5), (6, .int a6)] [.int s0, .int s1, .ref s2] w none q := by
  intro a0 a1 a2 a3 a4 a5 a6 s0 s1 s2 w q h
  unfold fX15_grow_188 at h
  obtain ⟨w23, gw23, h⟩ := px_bs h
  refine ev_sI dX15_grow_188 gw23 ?_
  refine EV.iinc 6 (a6 + 1) [(6, .int (a6 + 1)), (0, .ref a0), (1, .int a1), (2, .int a2), (3, .int a3), (4, .int a4), (5, .int a5)] dX15_grow_189 rfl rfl (by decide) rfl ?_
  refine EV.goto 50 dX15_grow_192 (by decide) ?_
  refine EV.sub [1, 2, 3, 4, 5, 6, 0] rfl ?_
  exact hk50 _ _ _ _ _ _ _ _ _ h
set_option maxRecDepth 100000 in
set_option maxHeartbeats 4000000 in
theorem eX15_grow_140 {X : px_X} {k40 : Nat → Int32 → Int32 → Int32 → Int32 → Int32 → px_W → Option (px_W)} (hk40 : ∀ (a0 : Nat) (a1 : Int32) (a2 : Int32) (a3 : Int32) (a4 : Int32) (a5 : Int32) (w : px_W) (q : px_W), k40 a0 a1 a2 a3 a4 a5 w = some q → EV X mX15_grow 40 [(0, .ref a0), (1, .int a1), (2, .int a2), (3, .int a3), (4, .int a4), (5, .int a5)] [] w none q) {k50 : Nat → Int32 → Int32 → Int32 → Int32 → Int32 → Int32 → px_W → Option (px_W)} (hk50 : ∀ (a0 : Nat) (a1 : Int32) (a2 : Int32) (a3 : Int32) (a4 : Int32) (a5 : Int32) (a6 : Int32) (w : px_W) (q : px_W), k50 a0 a1 a2 a3 a4 a5 a6 w = some q → EV X mX15_grow 50 [(0, .ref a0), (1, .int a1), (2, .int a2), (3, .int a3), (4, .int a4), (5, .int a5), (6, .int a6)] [] w none q) : ∀ (a0 : Nat) (a1 : Int32) (a2 : Int32) (a3 : Int32) (a4 : Int32) (a5 : Int32) (a6 : Int32) (a7 : Int32) (a8 : Int32) (a9 : Int32) (s0 : Int32) (w : px_W) (q : px_W), fX15_grow_140 X k40 k50 a0 a1 a2 a3 a4 a5 a6 a7 a8 a9 s0 w = some q → EV X mX15_grow 140 [(0, .ref a0), (1, .int a1), (2, .int a2), (3, .int a3), (4, .int a4), (5, .int a5), (6, .int a6), (7, .int a7), (8, .int a8), (9, .int a9)] [.int s0] w none q := by
  intro a0 a1 a2 a3 a4 a5 a6 a7 a8 a9 s0 w q h
  unfold fX15_grow_140 at h
  refine EV.istore [(10, .int s0), (0, .ref a0), (1, .int a1), (2, .int a2), (3, .int a3), (4, .int a4), (5, .int a5), (6, .int a6), (7, .int a7), (8, .int a8), (9, .int a9)] dX15_grow_140 (by decide) rfl ?_
  refine EV.aload_n 1 dX15_grow_142 rfl rfl ?_
  obtain ⟨v24, gv24, h⟩ := px_bs h
  refine ev_gR dX15_grow_143 flRX15_107 gv24 ?_
  refine EV.iload_n 4 dX15_grow_146 rfl rfl ?_
  refine EV.iload 6 dX15_grow_147 rfl ?_
  refine EV.imul dX15_grow_149 ?_
  refine EV.iload 7 dX15_grow_150 rfl ?_
  refine EV.iadd dX15_grow_152 ?_
  refine EV.iload_n 3 dX15_grow_153 rfl rfl ?_
  refine EV.if_eq 180 dX15_grow_154 (by decide) (fun c25 => ?_) (fun c25 => ?_)
  · rw [if_pos c25] at h
    refine EV.aload_n 1 dX15_grow_180 rfl rfl ?_
    refine EV.iload 8 dX15_grow_181 rfl ?_
    refine EV.iload 9 dX15_grow_183 rfl ?_
    obtain ⟨o26, go26, h⟩ := px_bs h
    obtain ⟨q27, gq27, h⟩ := px_bs h
    refine EV.callV (As := [.int a7, .int a8]) (rest := [.int ((a3 * a5) + a6), .ref v24]) dX15_grow_185 kcX15_grow_353 (gO_ok go26) rfl rfl rfl (Nat.le_of_ble_eq_true rfl) (Nat.le_of_ble_eq_true rfl) (eX15_sample gq27) ?_
    refine EV.sub [1, 2, 3, 4, 5, 6, 7] rfl ?_
    exact eX15_grow_188 hk40 hk50 _ _ _ _ _ _ _ _ _ _ _ _ h
  · rw [if_neg c25] at h
    refine EV.iconst (3) dX15_grow_157 (by decide) ?_
    refine EV.aload_n 1 dX15_grow_158 rfl rfl ?_
    refine EV.iload 8 dX15_grow_159 rfl ?_
    refine EV.iload 9 dX15_grow_161 rfl ?_
    obtain ⟨o28, go28, h⟩ := px_bs h
    obtain ⟨q29, gq29, h⟩ := px_bs h
    refine EV.callV (As := [.int a7, .int a8]) (rest := [.int 3, .int ((a3 * a5) + a6), .ref v24]) dX15_grow_163 kcX15_grow_353 (gO_ok go28) rfl rfl rfl (Nat.le_of_ble_eq_true rfl) (Nat.le_of_ble_eq_true rfl) (eX15_sample gq29) ?_
    refine EV.imul dX15_grow_166 ?_
    refine EV.iload 0 dX15_grow_167 rfl ?_
    refine EV.iadd dX15_grow_169 ?_
    refine EV.iconst (1) dX15_grow_170 (by decide) ?_
    refine EV.iadd dX15_grow_171 ?_
    refine EV.iload 10 dX15_grow_172 rfl ?_
    refine EV.iadd dX15_grow_174 ?_
    refine EV.iconst (2) dX15_grow_175 (by decide) ?_
    refine EV.ishr dX15_grow_176 ?_
    refine EV.goto 188 dX15_grow_177 (by decide) ?_
    refine EV.sub [1, 2, 3, 4, 5, 6, 7] rfl ?_
    exact eX15_grow_188 hk40 hk50 _ _ _ _ _ _ _ _ _ _ _ _ h
set_option maxRecDepth 100000 in
set_option maxHeartbeats 4000000 in
theorem eX15_grow_101 {X : px_X} {k40 : Nat → Int32 → Int32 → Int32 → Int32 → Int32 → px_W → Option (px_W)} (hk40 : ∀ (a0 : Nat) (a1 : Int32) (a2 : Int32) (a3 : Int32) (a4 : Int32) (a5 : Int32) (w : px_W) (q : px_W), k40 a0 a1 a2 a3 a4 a5 w = some q → EV X mX15_grow 40 [(0, .ref a0), (1, .int a1), (2, .int a2), (3, .int a3), (4, .int a4), (5, .int a5)] [] w none q) {k50 : Nat → Int32 → Int32 → Int32 → Int32 → Int32 → Int32 → px_W → Option (px_W)} (hk50 : ∀ (a0 : Nat) (a1 : Int32) (a2 : Int32) (a3 : Int32) (a4 : Int32) (a5 : Int32) (a6 : Int32) (w : px_W) (q : px_W), k50 a0 a1 a2 a3 a4 a5 a6 w = some q → EV X mX15_grow 50 [(0, .ref a0), (1, .int a1), (2, .int a2), (3, .int a3), (4, .int a4), (5, .int a5), (6, .int a6)] [] w none q) : ∀ (a0 : Nat) (a1 : Int32) (a2 : Int32) (a3 : Int32) (a4 : Int32) (a5 : Int32) (a6 : Int32) (a7 : Int32) (a8 : Int32) (s0 : Int32) (w : px_W) (q : px_W), fX15_grow_101 X k40 k50 a0 a1 a2 a3 a4 a5 a6 a7 a8 s0 w = some q → EV X mX15_grow 101 [(0, .ref a0), (1, .int a1), (2, .int a2), (3, .int a3), (4, .int a4), (5, .int a5), (6, .int a6), (7, .int a7), (8, .int a8)] [.int s0] w none q := by
  intro a0 a1 a2 a3 a4 a5 a6 a7 a8 s0 w q h
  unfold fX15_grow_101 at h
  refine EV.istore [(9, .int s0), (0, .ref a0), (1, .int a1), (2, .int a2), (3, .int a3), (4, .int a4), (5, .int a5), (6, .int a6), (7, .int a7), (8, .int a8)] dX15_grow_101 (by decide) rfl ?_
  refine EV.iload_n 2 dX15_grow_103 rfl rfl ?_
  refine EV.if_eq 125 dX15_grow_104 (by decide) (fun c30 => ?_) (fun c30 => ?_)
  · rw [if_pos c30] at h
    refine EV.aload_n 1 dX15_grow_125 rfl rfl ?_
    refine EV.iload 8 dX15_grow_126 rfl ?_
    refine EV.iload 9 dX15_grow_128 rfl ?_
    refine EV.iconst (2) dX15_grow_130 (by decide) ?_
    refine EV.iload 0 dX15_grow_131 rfl ?_
    refine EV.imul dX15_grow_133 ?_
    refine EV.iadd dX15_grow_134 ?_
    refine EV.iconst (1) dX15_grow_135 (by decide) ?_
    refine EV.isub dX15_grow_136 ?_
    obtain ⟨o31, go31, h⟩ := px_bs h
    obtain ⟨q32, gq32, h⟩ := px_bs h
    refine EV.callV (As := [.int a7, .int ((a8 + (2 * s0)) - 1)]) (rest := []) dX15_grow_137 kcX15_grow_353 (gO_ok go31) rfl rfl rfl (Nat.le_of_ble_eq_true rfl) (Nat.le_of_ble_eq_true rfl) (eX15_sample gq32) ?_
    refine EV.sub [1, 2, 3, 4, 5, 6, 7, 8, 9, 0] rfl ?_
    exact eX15_grow_140 hk40 hk50 _ _ _ _ _ _ _ _ _ _ _ _ _ h
  · rw [if_neg c30] at h
    refine EV.aload_n 1 dX15_grow_107 rfl rfl ?_
    refine EV.iload 8 dX15_grow_108 rfl ?_
    refine EV.iconst (2) dX15_grow_110 (by decide) ?_
    refine EV.iload 0 dX15_grow_111 rfl ?_
    refine EV.imul dX15_grow_113 ?_
    refine EV.iadd dX15_grow_114 ?_
    refine EV.iconst (1) dX15_grow_115 (by decide) ?_
    refine EV.isub dX15_grow_116 ?_
    refine EV.iload 9 dX15_grow_117 rfl ?_
    obtain ⟨o33, go33, h⟩ := px_bs h
    obtain ⟨q34, gq34, h⟩ := px_bs h
    refine EV.callV (As := [.int ((a7 + (2 * s0)) - 1), .int a8]) (rest := []) dX15_grow_119 kcX15_grow_353 (gO_ok go33) rfl rfl rfl (Nat.le_of_ble_eq_true rfl) (Nat.le_of_ble_eq_true rfl) (eX15_sample gq34) ?_
    refine EV.goto 140 dX15_grow_122 (by decide) ?_
    refine EV.sub [1, 2, 3, 4, 5, 6, 7, 8, 9, 0] rfl ?_
    exact eX15_grow_140 hk40 hk50 _ _ _ _ _ _ _ _ _ _ _ _ _ h
set_option maxRecDepth 100000 in
set_option maxHeartbeats 4000000 in
theorem eX15_grow_84 {X : px_X} {k40 : Nat → Int32 → Int32 → Int32 → Int32 → Int32 → px_W → Option (px_W)} (hk40 : ∀ (a0 : Nat) (a1 : Int32) (a2 : Int32) (a3 : Int32) (a4 : Int32) (a5 : Int32) (w : px_W) (q : px_W), k40 a0 a1 a2 a3 a4 a5 w = some q → EV X mX15_grow 40 [(0, .ref a0), (1, .int a1), (2, .int a2), (3, .int a3), (4, .int a4), (5, .int a5)] [] w none q) {k50 : Nat → Int32 → Int32 → Int32 → Int32 → Int32 → Int32 → px_W → Option (px_W)} (hk50 : ∀ (a0 : Nat) (a1 : Int32) (a2 : Int32) (a3 : Int32) (a4 : Int32) (a5 : Int32) (a6 : Int32) (w : px_W) (q : px_W), k50 a0 a1 a2 a3 a4 a5 a6 w = some q → EV X mX15_grow 50 [(0, .ref a0), (1, .int a1), (2, .int a2), (3, .int a3), (4, .int a4), (5, .int a5), (6, .int a6)] [] w none q) : ∀ (a0 : Nat) (a1 : Int32) (a2 : Int32) (a3 : Int32) (a4 : Int32) (a5 : Int32) (a6 : Int32) (a7 : Int32) (s0 : Int32) (w : px_W) (q : px_W), fX15_grow_84 X k40 k50 a0 a1 a2 a3 a4 a5 a6 a7 s0 w = some q → EV X mX15_grow 84 [(0, .ref a0), (1, .int a1), (2, .int a2), (3, .int a3), (4, .int a4), (5, .int a5), (6, .int a6), (7, .int a7)] [.int s0] w none q := by
  intro a0 a1 a2 a3 a4 a5 a6 a7 s0 w q h
  unfold fX15_grow_84 at h
  refine EV.istore [(8, .int s0), (0, .ref a0), (1, .int a1), (2, .int a2), (3, .int a3), (4, .int a4), (5, .int a5), (6, .int a6), (7, .int a7)] dX15_grow_84 (by decide) rfl ?_
  refine EV.iload_n 2 dX15_grow_86 rfl rfl ?_
  refine EV.if_eq 97 dX15_grow_87 (by decide) (fun c35 => ?_) (fun c35 => ?_)
  · rw [if_pos c35] at h
    refine EV.iload 6 dX15_grow_97 rfl ?_
    refine EV.iconst (2) dX15_grow_99 (by decide) ?_
    obtain ⟨v36, gv36, h⟩ := px_bs h
    refine ev_rI dX15_grow_100 gv36 ?_
    refine EV.sub [1, 2, 3, 4, 5, 6, 7, 8, 0] rfl ?_
    exact eX15_grow_101 hk40 hk50 _ _ _ _ _ _ _ _ _ _ _ _ h
  · rw [if_neg c35] at h
    refine EV.iload 7 dX15_grow_90 rfl ?_
    refine EV.iconst (2) dX15_grow_92 (by decide) ?_
    obtain ⟨v37, gv37, h⟩ := px_bs h
    refine ev_rI dX15_grow_93 gv37 ?_
    refine EV.goto 101 dX15_grow_94 (by decide) ?_
    refine EV.sub [1, 2, 3, 4, 5, 6, 7, 8, 0] rfl ?_
    exact eX15_grow_101 hk40 hk50 _ _ _ _ _ _ _ _ _ _ _ _ h
set_option maxRecDepth 100000 in
set_option maxHeartbeats 4000000 in
theorem eX15_grow_69 {X : px_X} {k40 : Nat → Int32 → Int32 → Int32 → Int32 → Int32 → px_W → Option (px_W)} (hk40 : ∀ (a0 : Nat) (a1 : Int32) (a2 : Int32) (a3 : Int32) (a4 : Int32) (a5 : Int32) (w : px_W) (q : px_W), k40 a0 a1 a2 a3 a4 a5 w = some q → EV X mX15_grow 40 [(0, .ref a0), (1, .int a1), (2, .int a2), (3, .int a3), (4, .int a4), (5, .int a5)] [] w none q) {k50 : Nat → Int32 → Int32 → Int32 → Int32 → Int32 → Int32 → px_W → Option (px_W)} (hk50 : ∀ (a0 : Nat) (a1 : Int32) (a2 : Int32) (a3 : Int32) (a4 : Int32) (a5 : Int32) (a6 : Int32) (w : px_W) (q : px_W), k50 a0 a1 a2 a3 a4 a5 a6 w = some q → EV X mX15_grow 50 [(0, .ref a0), (1, .int a1), (2, .int a2), (3, .int a3), (4, .int a4), (5, .int a5), (6, .int a6)] [] w none q) : ∀ (a0 : Nat) (a1 : Int32) (a2 : Int32) (a3 : Int32) (a4 : Int32) (a5 : Int32) (a6 : Int32) (s0 : Int32) (w : px_W) (q : px_W), fX15_grow_69 X k40 k50 a0 a1 a2 a3 a4 a5 a6 s0 w = some q → EV X mX15_grow 69 [(0, .ref a0), (1, .int a1), (2, .int a2), (3, .int a3), (4, .int a4), (5, .int a5), (6, .int a6)] [.int s0] w none q := by
  intro a0 a1 a2 a3 a4 a5 a6 s0 w q h
  unfold fX15_grow_69 at h
  refine EV.istore [(7, .int s0), (0, .ref a0), (1, .int a1), (2, .int a2), (3, .int a3), (4, .int a4), (5, .int a5), (6, .int a6)] dX15_grow_69 (by decide) rfl ?_
  refine EV.iload_n 2 dX15_grow_71 rfl rfl ?_
  refine EV.if_eq 80 dX15_grow_72 (by decide) (fun c38 => ?_) (fun c38 => ?_)
  · rw [if_pos c38] at h
    refine EV.iload 6 dX15_grow_80 rfl ?_
    refine EV.iconst (2) dX15_grow_82 (by decide) ?_
    obtain ⟨v39, gv39, h⟩ := px_bs h
    refine ev_dI dX15_grow_83 gv39 ?_
    refine EV.sub [1, 2, 3, 4, 5, 6, 7, 0] rfl ?_
    exact eX15_grow_84 hk40 hk50 _ _ _ _ _ _ _ _ _ _ _ h
  · rw [if_neg c38] at h
    refine EV.iload 6 dX15_grow_75 rfl ?_
    refine EV.goto 84 dX15_grow_77 (by decide) ?_
    refine EV.sub [1, 2, 3, 4, 5, 6, 7, 0] rfl ?_
    exact eX15_grow_84 hk40 hk50 _ _ _ _ _ _ _ _ _ _ _ h
set_option maxRecDepth 100000 in
set_option maxHeartbeats 4000000 in
theorem eX15_grow_50 {X : px_X} {k40 : Nat → Int32 → Int32 → Int32 → Int32 → Int32 → px_W → Option (px_W)} (hk40 : ∀ (a0 : Nat) (a1 : Int32) (a2 : Int32) (a3 : Int32) (a4 : Int32) (a5 : Int32) (w : px_W) (q : px_W), k40 a0 a1 a2 a3 a4 a5 w = some q → EV X mX15_grow 40 [(0, .ref a0), (1, .int a1), (2, .int a2), (3, .int a3), (4, .int a4), (5, .int a5)] [] w none q) : ∀ (m : Nat) (a0 : Nat) (a1 : Int32) (a2 : Int32) (a3 : Int32) (a4 : Int32) (a5 : Int32) (a6 : Int32) (w : px_W) (q : px_W), fX15_grow_50 X k40 m a0 a1 a2 a3 a4 a5 a6 w = some q → EV X mX15_grow 50 [(0, .ref a0), (1, .int a1), (2, .int a2), (3, .int a3), (4, .int a4), (5, .int a5), (6, .int a6)] [] w none q := by
  intro m
  induction m with
  | zero => intro a0 a1 a2 a3 a4 a5 a6 w q h; cases h
  | succ m ih =>
    intro a0 a1 a2 a3 a4 a5 a6 w q h
    rw [fX15_grow_50.eq_2] at h
    refine EV.iload 6 dX15_grow_50 rfl ?_
    refine EV.iload_n 3 dX15_grow_52 rfl rfl ?_
    refine EV.icmp_ge 195 dX15_grow_53 (by decide) (fun c40 => ?_) (fun c40 => ?_)
    · rw [if_pos c40] at h
      refine EV.sub [0, 1, 2, 3, 4, 5] rfl ?_
      exact eX15_grow_195 hk40 _ _ _ _ _ _ _ _ h
    · rw [if_neg c40] at h
      refine EV.iload_n 1 dX15_grow_56 rfl rfl ?_
      refine EV.if_eq 67 dX15_grow_57 (by decide) (fun c41 => ?_) (fun c41 => ?_)
      · rw [if_pos c41] at h
        refine EV.iload 6 dX15_grow_67 rfl ?_
        refine EV.sub [0, 1, 2, 3, 4, 5, 6] rfl ?_
        exact eX15_grow_69 hk40 ih _ _ _ _ _ _ _ _ _ _ h
      · rw [if_neg c41] at h
        refine EV.iload 6 dX15_grow_60 rfl ?_
        refine EV.iconst (2) dX15_grow_62 (by decide) ?_
        obtain ⟨v42, gv42, h⟩ := px_bs h
        refine ev_dI dX15_grow_63 gv42 ?_
        refine EV.goto 69 dX15_grow_64 (by decide) ?_
        refine EV.sub [0, 1, 2, 3, 4, 5, 6] rfl ?_
        exact eX15_grow_69 hk40 ih _ _ _ _ _ _ _ _ _ _ h
set_option maxRecDepth 100000 in
set_option maxHeartbeats 4000000 in
theorem eX15_grow_40 {X : px_X}  : ∀ (m : Nat) (a0 : Nat) (a1 : Int32) (a2 : Int32) (a3 : Int32) (a4 : Int32) (a5 : Int32) (w : px_W) (q : px_W), fX15_grow_40 X  m a0 a1 a2 a3 a4 a5 w = some q → EV X mX15_grow 40 [(0, .ref a0), (1, .int a1), (2, .int a2), (3, .int a3), (4, .int a4), (5, .int a5)] [] w none q := by
  intro m
  induction m with
  | zero => intro a0 a1 a2 a3 a4 a5 w q h; cases h
  | succ m ih =>
    intro a0 a1 a2 a3 a4 a5 w q h
    rw [fX15_grow_40.eq_2] at h
    refine EV.iload 5 dX15_grow_40 rfl ?_
    refine EV.iload 4 dX15_grow_42 rfl ?_
    refine EV.icmp_ge 201 dX15_grow_44 (by decide) (fun c43 => ?_) (fun c43 => ?_)
    · rw [if_pos c43] at h
      refine EV.sub [0, 3, 4] rfl ?_
      exact eX15_grow_201  _ _ _ _ _ h
    · rw [if_neg c43] at h
      refine EV.iconst (0) dX15_grow_47 (by decide) ?_
      refine EV.istore [(6, .int 0), (0, .ref a0), (1, .int a1), (2, .int a2), (3, .int a3), (4, .int a4), (5, .int a5)] dX15_grow_48 (by decide) rfl ?_
      refine EV.sub [1, 2, 3, 4, 5, 6, 0] rfl ?_
      exact eX15_grow_50 ih FU _ _ _ _ _ _ _ _ _ h
set_option maxRecDepth 100000 in
set_option maxHeartbeats 4000000 in
theorem eX15_grow_35 {X : px_X}  : ∀ (a0 : Nat) (a1 : Int32) (a2 : Int32) (a3 : Int32) (s0 : Int32) (w : px_W) (q : px_W), fX15_grow_35 X  a0 a1 a2 a3 s0 w = some q → EV X mX15_grow 35 [(0, .ref a0), (1, .int a1), (2, .int a2), (3, .int a3)] [.int s0] w none q := by
  intro a0 a1 a2 a3 s0 w q h
  unfold fX15_grow_35 at h
  refine EV.istore [(4, .int s0), (0, .ref a0), (1, .int a1), (2, .int a2), (3, .int a3)] dX15_grow_35 (by decide) rfl ?_
  refine EV.iconst (0) dX15_grow_37 (by decide) ?_
  refine EV.istore [(5, .int 0), (4, .int s0), (0, .ref a0), (1, .int a1), (2, .int a2), (3, .int a3)] dX15_grow_38 (by decide) rfl ?_
  refine EV.sub [2, 3, 4, 5, 1, 0] rfl ?_
  exact eX15_grow_40  FU _ _ _ _ _ _ _ _ h
set_option maxRecDepth 100000 in
set_option maxHeartbeats 4000000 in
theorem eX15_grow_17 {X : px_X}  : ∀ (a0 : Nat) (a1 : Int32) (a2 : Int32) (s0 : Int32) (w : px_W) (q : px_W), fX15_grow_17 X  a0 a1 a2 s0 w = some q → EV X mX15_grow 17 [(0, .ref a0), (1, .int a1), (2, .int a2)] [.int s0] w none q := by
  intro a0 a1 a2 s0 w q h
  unfold fX15_grow_17 at h
  refine EV.istore_n [(3, .int s0), (0, .ref a0), (1, .int a1), (2, .int a2)] dX15_grow_17 rfl (by decide) rfl ?_
  refine EV.iload_n 2 dX15_grow_18 rfl rfl ?_
  refine EV.if_eq 29 dX15_grow_19 (by decide) (fun c44 => ?_) (fun c44 => ?_)
  · rw [if_pos c44] at h
    refine EV.iconst (2) dX15_grow_29 (by decide) ?_
    refine EV.aload_n 1 dX15_grow_30 rfl rfl ?_
    obtain ⟨v45, gv45, h⟩ := px_bs h
    refine ev_gI dX15_grow_31 flRX15_350 gv45 ?_
    refine EV.imul dX15_grow_34 ?_
    refine EV.sub [1, 2, 3, 0] rfl ?_
    exact eX15_grow_35  _ _ _ _ _ _ _ h
  · rw [if_neg c44] at h
    refine EV.aload_n 1 dX15_grow_22 rfl rfl ?_
    obtain ⟨v46, gv46, h⟩ := px_bs h
    refine ev_gI dX15_grow_23 flRX15_350 gv46 ?_
    refine EV.goto 35 dX15_grow_26 (by decide) ?_
    refine EV.sub [1, 2, 3, 0] rfl ?_
    exact eX15_grow_35  _ _ _ _ _ _ _ h
set_option maxRecDepth 100000 in
set_option maxHeartbeats 4000000 in
theorem eX15_grow {X : px_X} {w : px_W} {a0 : Nat} {a1 : Int32} {a2 : Int32} {q : px_W} (h : fX15_grow X w a0 a1 a2 = some q) : EV X mX15_grow 0 (lv_args 0 [.ref a0, .int a1, .int a2]) [] w none q := by
  unfold fX15_grow at h
  show EV X mX15_grow 0 [(0, .ref a0), (1, .int a1), (2, .int a2)] [] w none q
  refine EV.iload_n 1 dX15_grow_0 rfl rfl ?_
  refine EV.if_eq 13 dX15_grow_1 (by decide) (fun c47 => ?_) (fun c47 => ?_)
  · rw [if_pos c47] at h
    refine EV.aload_n 0 dX15_grow_13 rfl rfl ?_
    obtain ⟨v48, gv48, h⟩ := px_bs h
    refine ev_gI dX15_grow_14 flRX15_333 gv48 ?_
    refine EV.sub [0, 1, 2] rfl ?_
    exact eX15_grow_17  _ _ _ _ _ _ h
  · rw [if_neg c47] at h
    refine EV.iconst (2) dX15_grow_4 (by decide) ?_
    refine EV.aload_n 0 dX15_grow_5 rfl rfl ?_
    obtain ⟨v49, gv49, h⟩ := px_bs h
    refine ev_gI dX15_grow_6 flRX15_333 gv49 ?_
    refine EV.imul dX15_grow_9 ?_
    refine EV.goto 17 dX15_grow_10 (by decide) ?_
    refine EV.sub [0, 1, 2] rfl ?_
    exact eX15_grow_17  _ _ _ _ _ _ h
/-! WavePicturesModel.shrink(I)V -/
theorem dX15_shrink_0 : decode cX15_shrink 0 = .ok (.iload_n 1, 1) := by decide +kernel
theorem dX15_shrink_1 : decode cX15_shrink 1 = .ok (.iconst 1, 1) := by decide +kernel
theorem dX15_shrink_2 : decode cX15_shrink 2 = .ok (.if_icmp .ne 10, 3) := by decide +kernel
theorem dX15_shrink_5 : decode cX15_shrink 5 = .ok (.aload_n 0, 1) := by decide +kernel
theorem dX15_shrink_6 : decode cX15_shrink 6 = .ok (.getfield 333, 3) := by decide +kernel
theorem dX15_shrink_9 : decode cX15_shrink 9 = .ok (.goto 11, 3) := by decide +kernel
theorem dX15_shrink_12 : decode cX15_shrink 12 = .ok (.aload_n 0, 1) := by decide +kernel
theorem dX15_shrink_13 : decode cX15_shrink 13 = .ok (.getfield 333, 3) := by decide +kernel
theorem dX15_shrink_16 : decode cX15_shrink 16 = .ok (.iconst 2, 1) := by decide +kernel
theorem dX15_shrink_17 : decode cX15_shrink 17 = .ok (.invokestatic 132, 3) := by decide +kernel
theorem dX15_shrink_20 : decode cX15_shrink 20 = .ok (.istore_n 2, 1) := by decide +kernel
theorem dX15_shrink_21 : decode cX15_shrink 21 = .ok (.iload_n 1, 1) := by decide +kernel
theorem dX15_shrink_22 : decode cX15_shrink 22 = .ok (.ifCond .ne 10, 3) := by decide +kernel
theorem dX15_shrink_25 : decode cX15_shrink 25 = .ok (.aload_n 0, 1) := by decide +kernel
theorem dX15_shrink_26 : decode cX15_shrink 26 = .ok (.getfield 350, 3) := by decide +kernel
theorem dX15_shrink_29 : decode cX15_shrink 29 = .ok (.goto 11, 3) := by decide +kernel
theorem dX15_shrink_32 : decode cX15_shrink 32 = .ok (.aload_n 0, 1) := by decide +kernel
theorem dX15_shrink_33 : decode cX15_shrink 33 = .ok (.getfield 350, 3) := by decide +kernel
theorem dX15_shrink_36 : decode cX15_shrink 36 = .ok (.iconst 2, 1) := by decide +kernel
theorem dX15_shrink_37 : decode cX15_shrink 37 = .ok (.invokestatic 132, 3) := by decide +kernel
theorem dX15_shrink_40 : decode cX15_shrink 40 = .ok (.istore_n 3, 1) := by decide +kernel
theorem dX15_shrink_41 : decode cX15_shrink 41 = .ok (.iconst 0, 1) := by decide +kernel
theorem dX15_shrink_42 : decode cX15_shrink 42 = .ok (.istore 4, 2) := by decide +kernel
theorem dX15_shrink_44 : decode cX15_shrink 44 = .ok (.iload 4, 2) := by decide +kernel
theorem dX15_shrink_46 : decode cX15_shrink 46 = .ok (.iload_n 3, 1) := by decide +kernel
theorem dX15_shrink_47 : decode cX15_shrink 47 = .ok (.if_icmp .ge 179, 3) := by decide +kernel
theorem dX15_shrink_50 : decode cX15_shrink 50 = .ok (.iconst 0, 1) := by decide +kernel
theorem dX15_shrink_51 : decode cX15_shrink 51 = .ok (.istore 5, 2) := by decide +kernel
theorem dX15_shrink_53 : decode cX15_shrink 53 = .ok (.iload 5, 2) := by decide +kernel
theorem dX15_shrink_55 : decode cX15_shrink 55 = .ok (.iload_n 2, 1) := by decide +kernel
theorem dX15_shrink_56 : decode cX15_shrink 56 = .ok (.if_icmp .ge 164, 3) := by decide +kernel
theorem dX15_shrink_59 : decode cX15_shrink 59 = .ok (.aload_n 0, 1) := by decide +kernel
theorem dX15_shrink_60 : decode cX15_shrink 60 = .ok (.getfield 107, 3) := by decide +kernel
theorem dX15_shrink_63 : decode cX15_shrink 63 = .ok (.iload_n 2, 1) := by decide +kernel
theorem dX15_shrink_64 : decode cX15_shrink 64 = .ok (.iload 4, 2) := by decide +kernel
theorem dX15_shrink_66 : decode cX15_shrink 66 = .ok (.imul, 1) := by decide +kernel
theorem dX15_shrink_67 : decode cX15_shrink 67 = .ok (.iload 5, 2) := by decide +kernel
theorem dX15_shrink_69 : decode cX15_shrink 69 = .ok (.iadd, 1) := by decide +kernel
theorem dX15_shrink_70 : decode cX15_shrink 70 = .ok (.iload_n 1, 1) := by decide +kernel
theorem dX15_shrink_71 : decode cX15_shrink 71 = .ok (.ifCond .ne 36, 3) := by decide +kernel
theorem dX15_shrink_74 : decode cX15_shrink 74 = .ok (.aload_n 0, 1) := by decide +kernel
theorem dX15_shrink_75 : decode cX15_shrink 75 = .ok (.iconst 2, 1) := by decide +kernel
theorem dX15_shrink_76 : decode cX15_shrink 76 = .ok (.iload 5, 2) := by decide +kernel
theorem dX15_shrink_78 : decode cX15_shrink 78 = .ok (.imul, 1) := by decide +kernel
theorem dX15_shrink_79 : decode cX15_shrink 79 = .ok (.iload 4, 2) := by decide +kernel
theorem dX15_shrink_81 : decode cX15_shrink 81 = .ok (.invokevirtual 353, 3) := by decide +kernel
theorem dX15_shrink_84 : decode cX15_shrink 84 = .ok (.aload_n 0, 1) := by decide +kernel
theorem dX15_shrink_85 : decode cX15_shrink 85 = .ok (.iconst 2, 1) := by decide +kernel
theorem dX15_shrink_86 : decode cX15_shrink 86 = .ok (.iload 5, 2) := by decide +kernel
theorem dX15_shrink_88 : decode cX15_shrink 88 = .ok (.imul, 1) := by decide +kernel
theorem dX15_shrink_89 : decode cX15_shrink 89 = .ok (.iconst 1, 1) := by decide +kernel
theorem dX15_shrink_90 : decode cX15_shrink 90 = .ok (.iadd, 1) := by decide +kernel
theorem dX15_shrink_91 : decode cX15_shrink 91 = .ok (.iload 4, 2) := by decide +kernel
theorem dX15_shrink_93 : decode cX15_shrink 93 = .ok (.invokevirtual 353, 3) := by decide +kernel
theorem dX15_shrink_96 : decode cX15_shrink 96 = .ok (.iadd, 1) := by decide +kernel
theorem dX15_shrink_97 : decode cX15_shrink 97 = .ok (.iload 5, 2) := by decide +kernel
theorem dX15_shrink_99 : decode cX15_shrink 99 = .ok (.iconst 2, 1) := by decide +kernel
theorem dX15_shrink_100 : decode cX15_shrink 100 = .ok (.irem, 1) := by decide +kernel
theorem dX15_shrink_101 : decode cX15_shrink 101 = .ok (.iadd, 1) := by decide +kernel
theorem dX15_shrink_102 : decode cX15_shrink 102 = .ok (.iconst 1, 1) := by decide +kernel
theorem dX15_shrink_103 : decode cX15_shrink 103 = .ok (.ishr, 1) := by decide +kernel
theorem dX15_shrink_104 : decode cX15_shrink 104 = .ok (.goto 109, 3) := by decide +kernel
theorem dX15_shrink_107 : decode cX15_shrink 107 = .ok (.iload_n 1, 1) := by decide +kernel
theorem dX15_shrink_108 : decode cX15_shrink 108 = .ok (.iconst 1, 1) := by decide +kernel
theorem dX15_shrink_109 : decode cX15_shrink 109 = .ok (.if_icmp .ne 36, 3) := by decide +kernel
theorem dX15_shrink_112 : decode cX15_shrink 112 = .ok (.aload_n 0, 1) := by decide +kernel
theorem dX15_shrink_113 : decode cX15_shrink 113 = .ok (.iload 5, 2) := by decide +kernel
theorem dX15_shrink_115 : decode cX15_shrink 115 = .ok (.iconst 2, 1) := by decide +kernel
theorem dX15_shrink_116 : decode cX15_shrink 116 = .ok (.iload 4, 2) := by decide +kernel
theorem dX15_shrink_118 : decode cX15_shrink 118 = .ok (.imul, 1) := by decide +kernel
theorem dX15_shrink_119 : decode cX15_shrink 119 = .ok (.invokevirtual 353, 3) := by decide +kernel
theorem dX15_shrink_122 : decode cX15_shrink 122 = .ok (.aload_n 0, 1) := by decide +kernel
theorem dX15_shrink_123 : decode cX15_shrink 123 = .ok (.iload 5, 2) := by decide +kernel
theorem dX15_shrink_125 : decode cX15_shrink 125 = .ok (.iconst 2, 1) := by decide +kernel
theorem dX15_shrink_126 : decode cX15_shrink 126 = .ok (.iload 4, 2) := by decide +kernel
theorem dX15_shrink_128 : decode cX15_shrink 128 = .ok (.imul, 1) := by decide +kernel
theorem dX15_shrink_129 : decode cX15_shrink 129 = .ok (.iconst 1, 1) := by decide +kernel
theorem dX15_shrink_130 : decode cX15_shrink 130 = .ok (.iadd, 1) := by decide +kernel
theorem dX15_shrink_131 : decode cX15_shrink 131 = .ok (.invokevirtual 353, 3) := by decide +kernel
theorem dX15_shrink_134 : decode cX15_shrink 134 = .ok (.iadd, 1) := by decide +kernel
theorem dX15_shrink_135 : decode cX15_shrink 135 = .ok (.iload 4, 2) := by decide +kernel
theorem dX15_shrink_137 : decode cX15_shrink 137 = .ok (.iconst 2, 1) := by decide +kernel
theorem dX15_shrink_138 : decode cX15_shrink 138 = .ok (.irem, 1) := by decide +kernel
theorem dX15_shrink_139 : decode cX15_shrink 139 = .ok (.iadd, 1) := by decide +kernel
theorem dX15_shrink_140 : decode cX15_shrink 140 = .ok (.iconst 1, 1) := by decide +kernel
theorem dX15_shrink_141 : decode cX15_shrink 141 = .ok (.ishr, 1) := by decide +kernel
theorem dX15_shrink_142 : decode cX15_shrink 142 = .ok (.goto 71, 3) := by decide +kernel
theorem dX15_shrink_145 : decode cX15_shrink 145 = .ok (.aload_n 0, 1) := by decide +kernel
theorem dX15_shrink_146 : decode cX15_shrink 146 = .ok (.iconst 2, 1) := by decide +kernel
theorem dX15_shrink_147 : decode cX15_shrink 147 = .ok (.iload 5, 2) := by decide +kernel
theorem dX15_shrink_149 : decode cX15_shrink 149 = .ok (.imul, 1) := by decide +kernel
theorem dX15_shrink_150 : decode cX15_shrink 150 = .ok (.iconst 2, 1) := by decide +kernel
theorem dX15_shrink_151 : decode cX15_shrink 151 = .ok (.iload 4, 2) := by decide +kernel
theorem dX15_shrink_153 : decode cX15_shrink 153 = .ok (.imul, 1) := by decide +kernel
theorem dX15_shrink_154 : decode cX15_shrink 154 = .ok (.invokevirtual 353, 3) := by decide +kernel
theorem dX15_shrink_157 : decode cX15_shrink 157 = .ok (.aload_n 0, 1) := by decide +kernel
theorem dX15_shrink_158 : decode cX15_shrink 158 = .ok (.iconst 2, 1) := by decide +kernel
theorem dX15_shrink_159 : decode cX15_shrink 159 = .ok (.iload 5, 2) := by decide +kernel
theorem dX15_shrink_161 : decode cX15_shrink 161 = .ok (.imul, 1) := by decide +kernel
theorem dX15_shrink_162 : decode cX15_shrink 162 = .ok (.iconst 1, 1) := by decide +kernel
theorem dX15_shrink_163 : decode cX15_shrink 163 = .ok (.iadd, 1) := by decide +kernel
theorem dX15_shrink_164 : decode cX15_shrink 164 = .ok (.iconst 2, 1) := by decide +kernel
theorem dX15_shrink_165 : decode cX15_shrink 165 = .ok (.iload 4, 2) := by decide +kernel
theorem dX15_shrink_167 : decode cX15_shrink 167 = .ok (.imul, 1) := by decide +kernel
theorem dX15_shrink_168 : decode cX15_shrink 168 = .ok (.invokevirtual 353, 3) := by decide +kernel
theorem dX15_shrink_171 : decode cX15_shrink 171 = .ok (.iadd, 1) := by decide +kernel
theorem dX15_shrink_172 : decode cX15_shrink 172 = .ok (.aload_n 0, 1) := by decide +kernel
theorem dX15_shrink_173 : decode cX15_shrink 173 = .ok (.iconst 2, 1) := by decide +kernel
theorem dX15_shrink_174 : decode cX15_shrink 174 = .ok (.iload 5, 2) := by decide +kernel
theorem dX15_shrink_176 : decode cX15_shrink 176 = .ok (.imul, 1) := by decide +kernel
theorem dX15_shrink_177 : decode cX15_shrink 177 = .ok (.iconst 2, 1) := by decide +kernel
theorem dX15_shrink_178 : decode cX15_shrink 178 = .ok (.iload 4, 2) := by decide +kernel
theorem dX15_shrink_180 : decode cX15_shrink 180 = .ok (.imul, 1) := by decide +kernel
theorem dX15_shrink_181 : decode cX15_shrink 181 = .ok (.iconst 1, 1) := by decide +kernel
theorem dX15_shrink_182 : decode cX15_shrink 182 = .ok (.iadd, 1) := by decide +kernel
theorem dX15_shrink_183 : decode cX15_shrink 183 = .ok (.invokevirtual 353, 3) := by decide +kernel
theorem dX15_shrink_186 : decode cX15_shrink 186 = .ok (.iadd, 1) := by decide +kernel
theorem dX15_shrink_187 : decode cX15_shrink 187 = .ok (.aload_n 0, 1) := by decide +kernel
theorem dX15_shrink_188 : decode cX15_shrink 188 = .ok (.iconst 2, 1) := by decide +kernel
theorem dX15_shrink_189 : decode cX15_shrink 189 = .ok (.iload 5, 2) := by decide +kernel
theorem dX15_shrink_191 : decode cX15_shrink 191 = .ok (.imul, 1) := by decide +kernel
theorem dX15_shrink_192 : decode cX15_shrink 192 = .ok (.iconst 1, 1) := by decide +kernel
theorem dX15_shrink_193 : decode cX15_shrink 193 = .ok (.iadd, 1) := by decide +kernel
theorem dX15_shrink_194 : decode cX15_shrink 194 = .ok (.iconst 2, 1) := by decide +kernel
theorem dX15_shrink_195 : decode cX15_shrink 195 = .ok (.iload 4, 2) := by decide +kernel
theorem dX15_shrink_197 : decode cX15_shrink 197 = .ok (.imul, 1) := by decide +kernel
theorem dX15_shrink_198 : decode cX15_shrink 198 = .ok (.iconst 1, 1) := by decide +kernel
theorem dX15_shrink_199 : decode cX15_shrink 199 = .ok (.iadd, 1) := by decide +kernel
theorem dX15_shrink_200 : decode cX15_shrink 200 = .ok (.invokevirtual 353, 3) := by decide +kernel
theorem dX15_shrink_203 : decode cX15_shrink 203 = .ok (.iadd, 1) := by decide +kernel
theorem dX15_shrink_204 : decode cX15_shrink 204 = .ok (.iconst 1, 1) := by decide +kernel
theorem dX15_shrink_205 : decode cX15_shrink 205 = .ok (.iadd, 1) := by decide +kernel
theorem dX15_shrink_206 : decode cX15_shrink 206 = .ok (.iload 5, 2) := by decide +kernel
theorem dX15_shrink_208 : decode cX15_shrink 208 = .ok (.iconst 2, 1) := by decide +kernel
theorem dX15_shrink_209 : decode cX15_shrink 209 = .ok (.irem, 1) := by decide +kernel
theorem dX15_shrink_210 : decode cX15_shrink 210 = .ok (.iadd, 1) := by decide +kernel
theorem dX15_shrink_211 : decode cX15_shrink 211 = .ok (.iconst 2, 1) := by decide +kernel
theorem dX15_shrink_212 : decode cX15_shrink 212 = .ok (.ishr, 1) := by decide +kernel
theorem dX15_shrink_213 : decode cX15_shrink 213 = .ok (.iastore, 1) := by decide +kernel
theorem dX15_shrink_214 : decode cX15_shrink 214 = .ok (.iinc 5 1, 3) := by decide +kernel
theorem dX15_shrink_217 : decode cX15_shrink 217 = .ok (.goto (-164), 3) := by decide +kernel
theorem dX15_shrink_220 : decode cX15_shrink 220 = .ok (.iinc 4 1, 3) := by decide +kernel
theorem dX15_shrink_223 : decode cX15_shrink 223 = .ok (.goto (-179), 3) := by decide +kernel
theorem dX15_shrink_226 : decode cX15_shrink 226 = .ok (.aload_n 0, 1) := by decide +kernel
theorem dX15_shrink_227 : decode cX15_shrink 227 = .ok (.iload_n 2, 1) := by decide +kernel
theorem dX15_shrink_228 : decode cX15_shrink 228 = .ok (.iload_n 3, 1) := by decide +kernel
theorem dX15_shrink_229 : decode cX15_shrink 229 = .ok (.invokevirtual 356, 3) := by decide +kernel
theorem dX15_shrink_232 : decode cX15_shrink 232 = .ok (.return_, 1) := by decide +kernel
theorem kcX15_shrink_132 : px_cS mX15_shrink 132 mX15_up 2 := ⟨⟨mbX15_up, by decide, by decide⟩, Or.inl (tb9 (List.mem_of_getElem? (i := 115) rfl)), tb9 (List.mem_of_getElem? (i := 116) rfl)⟩
theorem kcX15_shrink_353 : px_cV mX15_shrink 353 mX15_sample 2 := ⟨⟨mbX15_sample, by decide, by decide⟩, Or.inl (tb10 (List.mem_of_getElem? (i := 25) rfl)), vbX15_sample⟩
theorem kcX15_shrink_356 : px_cV mX15_shrink 356 mX15_become 2 := ⟨⟨mbX15_become, by decide, by decide⟩, Or.inl (tb10 (List.mem_of_getElem? (i := 29) rfl)), vbX15_become⟩
set_option maxRecDepth 100000 in
set_option maxHeartbeats 4000000 in
theorem eX15_shrink_226 {X : px_X}  : ∀ (a0 : Nat) (a2 : Int32) (a3 : Int32) (w : px_W) (q : px_W), fX15_shrink_226 X  a0 a2 a3 w = some q → EV X mX15_shrink 226 [(0, .ref a0), (2, .int a2), (3, .int a3)] [] w none q := by
  intro a0 a2 a3 w q h
  unfold fX15_shrink_226 at h
  refine EV.aload_n 0 dX15_shrink_226 rfl rfl ?_
  refine EV.iload_n 1 dX15_shrink_227 rfl rfl ?_
  refine EV.iload_n 2 dX15_shrink_228 rfl rfl ?_
  obtain ⟨o30, go30, h⟩ := px_bs h
  obtain ⟨q31, gq31, h⟩ := px_bs h
  refine EV.callV (As := [.int a2, .int a3]) (rest := []) dX15_shrink_229 kcX15_shrink_356 (gO_ok go30) rfl rfl rfl (Nat.le_of_ble_eq_true rfl) (Nat.le_of_ble_eq_true rfl) (eX15_become gq31) ?_
  cases h
  exact EV.ret0 dX15_shrink_232 trivial
set_option maxRecDepth 100000 in
set_option maxHeartbeats 4000000 in
theorem eX15_shrink_220 {X : px_X} {k44 : Nat → Int32 → Int32 → Int32 → Int32 → px_W → Option (px_W)} (hk44 : ∀ (a0 : Nat) (a1 : Int32) (a2 : Int32) (a3 : Int32) (a4 : Int32) (w : px_W) (q : px_W), k44 a0 a1 a2 a3 a4 w = some q → EV X mX15_shrink 44 [(0, .ref a0), (1, .int a1), (2, .int a2), (3, .int a3), (4, .int a4)] [] w none q) : ∀ (a0 : Nat) (a1 : Int32) (a2 : Int32) (a3 : Int32) (a4 : Int32) (w : px_W) (q : px_W), fX15_shrink_220 X k44 a0 a1 a2 a3 a4 w = some q → EV X mX15_shrink 220 [(0, .ref a0), (1, .int a1), (2, .int a2), (3, .int a3), (4, .int a4)] [] w none q := by
  intro a0 a1 a2 a3 a4 w q h
  unfold fX15_shrink_220 at h
  refine EV.iinc 4 (a4 + 1) [(4, .int (a4 + 1)), (0, .ref a0), (1, .int a1), (2, .int a2), (3, .int a3)] dX15_shrink_220 rfl rfl (by decide) rfl ?_
  refine EV.goto 44 dX15_shrink_223 (by decide) ?_
  refine EV.sub [1, 2, 3, 4, 0] rfl ?_
  exact hk44 _ _ _ _ _ _ _ h
set_option maxRecDepth 100000 in
set_option maxHeartbeats 4000000 in
theorem eX15_shrink_213 {X : px_X} {k44 : Nat → Int32 → Int32 → Int32 → Int32 → px_W → Option (px_W)} (hk44 : ∀ (a0 : Nat) (a1 : Int32) (a2 : Int32) (a3 : Int32) (a4 : Int32) (w : px_W) (q : px_W), k44 a0 a1 a2 a3 a4 w = some q → EV X mX15_shrink 44 [(0, .ref a0), (1, .int a1), (2, .int a2), (3, .int a3), (4, .int a4)] [] w none q) {k53 : Nat → Int32 → Int32 → Int32 → Int32 → Int32 → px_W → Option (px_W)} (hk53 : ∀ (a0 : Nat) (a1 : Int32) (a2 : Int32) (a3 : Int32) (a4 : Int32) (a5 : Int32) (w : px_W) (q : px_W), k53 a0 a1 a2 a3 a4 a5 w = some q → EV X mX15_shrink 53 [(0, .ref a0), (1, .int a1), (2, .int a2), (3, .int a3), (4, .int a4), (5, .int a5)] [] w none q) : ∀ (a0 : Nat) (a1 : Int32) (a2 : Int32) (a3 : Int32) (a4 : Int32) (a5 : Int32) (s0 : Int32) (s1 : Int32) (s2 : Nat) (w : px_W) (q : px_W), fX15_shrink_213 X k44 k53 a0 a1 a2 a3 a4 a5 s0 s1 s2 w = some q → EV X mX15_shrink 213 [(0, .ref a0), (1, .int a1), (2, .int a2), (3, .int a3), (4, .int a4), (5, .int a5)] [.int s0, .int s1, .ref s2] w none q := by
  intro a0 a1 a2 a3 a4 a5 s0 s1 s2 w q h
  unfold fX15_shrink_213 at h
  obtain ⟨w32, gw32, h⟩ := px_bs h
  refine ev_sI dX15_shrink_213 gw32 ?_
  refine EV.iinc 5 (a5 + 1) [(5, .int (a5 + 1)), (0, .ref a0), (1, .int a1), (2, .int a2), (3, .int a3), (4, .int a4)] dX15_shrink_214 rfl rfl (by decide) rfl ?_
  refine EV.goto 53 dX15_shrink_217 (by decide) ?_
  refine EV.sub [1, 2, 3, 4, 5, 0] rfl ?_
  exact hk53 _ _ _ _ _ _ _ _ h
set_option maxRecDepth 100000 in
set_option maxHeartbeats 4000000 in
theorem eX15_shrink_53 {X : px_X} {k44 : Nat → Int32 → Int32 → Int32 → Int32 → px_W → Option (px_W)} (hk44 : ∀ (a0 : Nat) (a1 : Int32) (a2 : Int32) (a3 : Int32) (a4 : Int32) (w : px_W) (q : px_W), k44 a0 a1 a2 a3 a4 w = some q → EV X mX15_shrink 44 [(0, .ref a0), (1, .int a1), (2, .int a2), (3, .int a3), (4, .int a4)] [] w none q) : ∀ (m : Nat) (a0 : Nat) (a1 : Int32) (a2 : Int32) (a3 : Int32) (a4 : Int32) (a5 : Int32) (w : px_W) (q : px_W), fX15_shrink_53 X k44 m a0 a1 a2 a3 a4 a5 w = some q → EV X mX15_shrink 53 [(0, .ref a0), (1, .int a1), (2, .int a2), (3, .int a3), (4, .int a4), (5, .int a5)] [] w none q := by
  intro m
  induction m with
  | zero => intro a0 a1 a2 a3 a4 a5 w q h; cases h
  | succ m ih =>
    intro a0 a1 a2 a3 a4 a5 w q h
    rw [fX15_shrink_53.eq_2] at h
    refine EV.iload 5 dX15_shrink_53 rfl ?_
    refine EV.iload_n 2 dX15_shrink_55 rfl rfl ?_
    refine EV.icmp_ge 220 dX15_shrink_56 (by decide) (fun c33 => ?_) (fun c33 => ?_)
    · rw [if_pos c33] at h
      refine EV.sub [0, 1, 2, 3, 4] rfl ?_
      exact eX15_shrink_220 hk44 _ _ _ _ _ _ _ h
    · rw [if_neg c33] at h
      refine EV.aload_n 0 dX15_shrink_59 rfl rfl ?_
      obtain ⟨v34, gv34, h⟩ := px_bs h
      refine ev_gR dX15_shrink_60 flRX15_107 gv34 ?_
      refine EV.iload_n 2 dX15_shrink_63 rfl rfl ?_
      refine EV.iload 4 dX15_shrink_64 rfl ?_
      refine EV.imul dX15_shrink_66 ?_
      refine EV.iload 5 dX15_shrink_67 rfl ?_
      refine EV.iadd dX15_shrink_69 ?_
      refine EV.iload_n 1 dX15_shrink_70 rfl rfl ?_
      refine EV.if_ne 107 dX15_shrink_71 (by decide) (fun c35 => ?_) (fun c35 => ?_)
      · rw [if_neg c35] at h
        refine EV.iload_n 1 dX15_shrink_107 rfl rfl ?_
        refine EV.iconst (1) dX15_shrink_108 (by decide) ?_
        refine EV.icmp_ne 145 dX15_shrink_109 (by decide) (fun c36 => ?_) (fun c36 => ?_)
        · rw [if_neg c36] at h
          refine EV.aload_n 0 dX15_shrink_145 rfl rfl ?_
          refine EV.iconst (2) dX15_shrink_146 (by decide) ?_
          refine EV.iload 5 dX15_shrink_147 rfl ?_
          refine EV.imul dX15_shrink_149 ?_
          refine EV.iconst (2) dX15_shrink_150 (by decide) ?_
          refine EV.iload 4 dX15_shrink_151 rfl ?_
          refine EV.imul dX15_shrink_153 ?_
          obtain ⟨o37, go37, h⟩ := px_bs h
          obtain ⟨q38, gq38, h⟩ := px_bs h
          refine EV.callV (As := [.int (2 * a5), .int (2 * a4)]) (rest := [.int ((a2 * a4) + a5), .ref v34]) dX15_shrink_154 kcX15_shrink_353 (gO_ok go37) rfl rfl rfl (Nat.le_of_ble_eq_true rfl) (Nat.le_of_ble_eq_true rfl) (eX15_sample gq38) ?_
          refine EV.aload_n 0 dX15_shrink_157 rfl rfl ?_
          refine EV.iconst (2) dX15_shrink_158 (by decide) ?_
          refine EV.iload 5 dX15_shrink_159 rfl ?_
          refine EV.imul dX15_shrink_161 ?_
          refine EV.iconst (1) dX15_shrink_162 (by decide) ?_
          refine EV.iadd dX15_shrink_163 ?_
          refine EV.iconst (2) dX15_shrink_164 (by decide) ?_
          refine EV.iload 4 dX15_shrink_165 rfl ?_
          refine EV.imul dX15_shrink_167 ?_
          obtain ⟨o39, go39, h⟩ := px_bs h
          obtain ⟨q40, gq40, h⟩ := px_bs h
          refine EV.callV (As := [.int ((2 * a5) + 1), .int (2 * a4)]) (rest := [.int q38.1, .int ((a2 * a4) + a5), .ref v34]) dX15_shrink_168 kcX15_shrink_353 (gO_ok go39) rfl rfl rfl (Nat.le_of_ble_eq_true rfl) (Nat.le_of_ble_eq_true rfl) (eX15_sample gq40) ?_
          refine EV.iadd dX15_shrink_171 ?_
          refine EV.aload_n 0 dX15_shrink_172 rfl rfl ?_
          refine EV.iconst (2) dX15_shrink_173 (by decide) ?_
          refine EV.iload 5 dX15_shrink_174 rfl ?_
          refine EV.imul dX15_shrink_176 ?_
          refine EV.iconst (2) dX15_shrink_177 (by decide) ?_
          refine EV.iload 4 dX15_shrink_178 rfl ?_
          refine EV.imul dX15_shrink_180 ?_
          refine EV.iconst (1) dX15_shrink_181 (by decide) ?_
          refine EV.iadd dX15_shrink_182 ?_
          obtain ⟨o41, go41, h⟩ := px_bs h
          obtain ⟨q42, gq42, h⟩ := px_bs h
          refine EV.callV (As := [.int (2 * a5), .int ((2 * a4) + 1)]) (rest := [.int (q38.1 + q40.1), .int ((a2 * a4) + a5), .ref v34]) dX15_shrink_183 kcX15_shrink_353 (gO_ok go41) rfl rfl rfl (Nat.le_of_ble_eq_true rfl) (Nat.le_of_ble_eq_true rfl) (eX15_sample gq42) ?_
          refine EV.iadd dX15_shrink_186 ?_
          refine EV.aload_n 0 dX15_shrink_187 rfl rfl ?_
          refine EV.iconst (2) dX15_shrink_188 (by decide) ?_
          refine EV.iload 5 dX15_shrink_189 rfl ?_
          refine EV.imul dX15_shrink_191 ?_
          refine EV.iconst (1) dX15_shrink_192 (by decide) ?_
          refine EV.iadd dX15_shrink_193 ?_
          refine EV.iconst (2) dX15_shrink_194 (by decide) ?_
          refine EV.iload 4 dX15_shrink_195 rfl ?_
          refine EV.imul dX15_shrink_197 ?_
          refine EV.iconst (1) dX15_shrink_198 (by decide) ?_
          refine EV.iadd dX15_shrink_199 ?_
          obtain ⟨o43, go43, h⟩ := px_bs h
          obtain ⟨q44, gq44, h⟩ := px_bs h
          refine EV.callV (As := [.int ((2 * a5) + 1), .int ((2 * a4) + 1)]) (rest := [.int ((q38.1 + q40.1) + q42.1), .int ((a2 * a4) + a5), .ref v34]) dX15_shrink_200 kcX15_shrink_353 (gO_ok go43) rfl rfl rfl (Nat.le_of_ble_eq_true rfl) (Nat.le_of_ble_eq_true rfl) (eX15_sample gq44) ?_
          refine EV.iadd dX15_shrink_203 ?_
          refine EV.iconst (1) dX15_shrink_204 (by decide) ?_
          refine EV.iadd dX15_shrink_205 ?_
          refine EV.iload 5 dX15_shrink_206 rfl ?_
          refine EV.iconst (2) dX15_shrink_208 (by decide) ?_
          obtain ⟨v45, gv45, h⟩ := px_bs h
          refine ev_rI dX15_shrink_209 gv45 ?_
          refine EV.iadd dX15_shrink_210 ?_
          refine EV.iconst (2) dX15_shrink_211 (by decide) ?_
          refine EV.ishr dX15_shrink_212 ?_
          refine EV.sub [0, 1, 2, 3, 4, 5] rfl ?_
          exact eX15_shrink_213 hk44 ih _ _ _ _ _ _ _ _ _ _ _ h
        · rw [if_pos c36] at h
          refine EV.aload_n 0 dX15_shrink_112 rfl rfl ?_
          refine EV.iload 5 dX15_shrink_113 rfl ?_
          refine EV.iconst (2) dX15_shrink_115 (by decide) ?_
          refine EV.iload 4 dX15_shrink_116 rfl ?_
          refine EV.imul dX15_shrink_118 ?_
          obtain ⟨o46, go46, h⟩ := px_bs h
          obtain ⟨q47, gq47, h⟩ := px_bs h
          refine EV.callV (As := [.int a5, .int (2 * a4)]) (rest := [.int ((a2 * a4) + a5), .ref v34]) dX15_shrink_119 kcX15_shrink_353 (gO_ok go46) rfl rfl rfl (Nat.le_of_ble_eq_true rfl) (Nat.le_of_ble_eq_true rfl) (eX15_sample gq47) ?_
          refine EV.aload_n 0 dX15_shrink_122 rfl rfl ?_
          refine EV.iload 5 dX15_shrink_123 rfl ?_
          refine EV.iconst (2) dX15_shrink_125 (by decide) ?_
          refine EV.iload 4 dX15_shrink_126 rfl ?_
          refine EV.imul dX15_shrink_128 ?_
          refine EV.iconst (1) dX15_shrink_129 (by decide) ?_
          refine EV.iadd dX15_shrink_130 ?_
          obtain ⟨o48, go48, h⟩ := px_bs h
          obtain ⟨q49, gq49, h⟩ := px_bs h
          refine EV.callV (As := [.int a5, .int ((2 * a4) + 1)]) (rest := [.int q47.1, .int ((a2 * a4) + a5), .ref v34]) dX15_shrink_131 kcX15_shrink_353 (gO_ok go48) rfl rfl rfl (Nat.le_of_ble_eq_true rfl) (Nat.le_of_ble_eq_true rfl) (eX15_sample gq49) ?_
          refine EV.iadd dX15_shrink_134 ?_
          refine EV.iload 4 dX15_shrink_135 rfl ?_
          refine EV.iconst (2) dX15_shrink_137 (by decide) ?_
          obtain ⟨v50, gv50, h⟩ := px_bs h
          refine ev_rI dX15_shrink_138 gv50 ?_
          refine EV.iadd dX15_shrink_139 ?_
          refine EV.iconst (1) dX15_shrink_140 (by decide) ?_
          refine EV.ishr dX15_shrink_141 ?_
          refine EV.goto 213 dX15_shrink_142 (by decide) ?_
          refine EV.sub [0, 1, 2, 3, 4, 5] rfl ?_
          exact eX15_shrink_213 hk44 ih _ _ _ _ _ _ _ _ _ _ _ h
      · rw [if_pos c35] at h
        refine EV.aload_n 0 dX15_shrink_74 rfl rfl ?_
        refine EV.iconst (2) dX15_shrink_75 (by decide) ?_
        refine EV.iload 5 dX15_shrink_76 rfl ?_
        refine EV.imul dX15_shrink_78 ?_
        refine EV.iload 4 dX15_shrink_79 rfl ?_
        obtain ⟨o51, go51, h⟩ := px_bs h
        obtain ⟨q52, gq52, h⟩ := px_bs h
        refine EV.callV (As := [.int (2 * a5), .int a4]) (rest := [.int ((a2 * a4) + a5), .ref v34]) dX15_shrink_81 kcX15_shrink_353 (gO_ok go51) rfl rfl rfl (Nat.le_of_ble_eq_true rfl) (Nat.le_of_ble_eq_true rfl) (eX15_sample gq52) ?_
        refine EV.aload_n 0 dX15_shrink_84 rfl rfl ?_
        refine EV.iconst (2) dX15_shrink_85 (by decide) ?_
        refine EV.iload 5 dX15_shrink_86 rfl ?_
        refine EV.imul dX15_shrink_88 ?_
        refine EV.iconst (1) dX15_shrink_89 (by decide) ?_
        refine EV.iadd dX15_shrink_90 ?_
        refine EV.iload 4 dX15_shrink_91 rfl ?_
        obtain ⟨o53, go53, h⟩ := px_bs h
        obtain ⟨q54, gq54, h⟩ := px_bs h
        refine EV.callV (As := [.int ((2 * a5) + 1), .int a4]) (rest := [.int q52.1, .int ((a2 * a4) + a5), .ref v34]) dX15_shrink_93 kcX15_shrink_353 (gO_ok go53) rfl rfl rfl (Nat.le_of_ble_eq_true rfl) (Nat.le_of_ble_eq_true rfl) (eX15_sample gq54) ?_
        refine EV.iadd dX15_shrink_96 ?_
        refine EV.iload 5 dX15_shrink_97 rfl ?_
        refine EV.iconst (2) dX15_shrink_99 (by decide) ?_
        obtain ⟨v55, gv55, h⟩ := px_bs h
        refine ev_rI dX15_shrink_100 gv55 ?_
        refine EV.iadd dX15_shrink_101 ?_
        refine EV.iconst (1) dX15_shrink_102 (by decide) ?_
        refine EV.ishr dX15_shrink_103 ?_
        refine EV.goto 213 dX15_shrink_104 (by decide) ?_
        refine EV.sub [0, 1, 2, 3, 4, 5] rfl ?_
        exact eX15_shrink_213 hk44 ih _ _ _ _ _ _ _ _ _ _ _ h
set_option maxRecDepth 100000 in
set_option maxHeartbeats 4000000 in
theorem eX15_shrink_44 {X : px_X}  : ∀ (m : Nat) (a0 : Nat) (a1 : Int32) (a2 : Int32) (a3 : Int32) (a4 : Int32) (w : px_W) (q : px_W), fX15_shrink_44 X  m a0 a1 a2 a3 a4 w = some q → EV X mX15_shrink 44 [(0, .ref a0), (1, .int a1), (2, .int a2), (3, .int a3), (4, .int a4)] [] w none q := by
  intro m
  induction m with
  | zero => intro a0 a1 a2 a3 a4 w q h; cases h
  | succ m ih =>
    intro a0 a1 a2 a3 a4 w q h
    rw [fX15_shrink_44.eq_2] at h
    refine EV.iload 4 dX15_shrink_44 rfl ?_
    refine EV.iload_n 3 dX15_shrink_46 rfl rfl ?_
    refine EV.icmp_ge 226 dX15_shrink_47 (by decide) (fun c56 => ?_) (fun c56 => ?_)
    · rw [if_pos c56] at h
      refine EV.sub [0, 2, 3] rfl ?_
      exact eX15_shrink_226  _ _ _ _ _ h
    · rw [if_neg c56] at h
      refine EV.iconst (0) dX15_shrink_50 (by decide) ?_
      refine EV.istore [(5, .int 0), (0, .ref a0), (1, .int a1), (2, .int a2), (3, .int a3), (4, .int a4)] dX15_shrink_51 (by decide) rfl ?_
      refine EV.sub [1, 2, 3, 4, 5, 0] rfl ?_
      exact eX15_shrink_53 ih FU _ _ _ _ _ _ _ _ h
set_option maxRecDepth 100000 in
set_option maxHeartbeats 4000000 in
theorem eX15_shrink_40 {X : px_X}  : ∀ (a0 : Nat) (a1 : Int32) (a2 : Int32) (s0 : Int32) (w : px_W) (q : px_W), fX15_shrink_40 X  a0 a1 a2 s0 w = some q → EV X mX15_shrink 40 [(0, .ref a0), (1, .int a1), (2, .int a2)] [.int s0] w none q := by
  intro a0 a1 a2 s0 w q h
  unfold fX15_shrink_40 at h
  refine EV.istore_n [(3, .int s0), (0, .ref a0), (1, .int a1), (2, .int a2)] dX15_shrink_40 rfl (by decide) rfl ?_
  refine EV.iconst (0) dX15_shrink_41 (by decide) ?_
  refine EV.istore [(4, .int 0), (3, .int s0), (0, .ref a0), (1, .int a1), (2, .int a2)] dX15_shrink_42 (by decide) rfl ?_
  refine EV.sub [2, 3, 4, 1, 0] rfl ?_
  exact eX15_shrink_44  FU _ _ _ _ _ _ _ h
set_option maxRecDepth 100000 in
set_option maxHeartbeats 4000000 in
theorem eX15_shrink_20 {X : px_X}  : ∀ (a0 : Nat) (a1 : Int32) (s0 : Int32) (w : px_W) (q : px_W), fX15_shrink_20 X  a0 a1 s0 w = some q → EV X mX15_shrink 20 [(0, .ref a0), (1, .int a1)] [.int s0] w none q := by
  intro a0 a1 s0 w q h
  unfold fX15_shrink_20 at h
  refine EV.istore_n [(2, .int s0), (0, .ref a0), (1, .int a1)] dX15_shrink_20 rfl (by decide) rfl ?_
  refine EV.iload_n 2 dX15_shrink_21 rfl rfl ?_
  refine EV.if_ne 32 dX15_shrink_22 (by decide) (fun c57 => ?_) (fun c57 => ?_)
  · rw [if_neg c57] at h
    refine EV.aload_n 1 dX15_shrink_32 rfl rfl ?_
    obtain ⟨v58, gv58, h⟩ := px_bs h
    refine ev_gI dX15_shrink_33 flRX15_350 gv58 ?_
    refine EV.iconst (2) dX15_shrink_36 (by decide) ?_
    obtain ⟨q59, gq59, h⟩ := px_bs h
    refine EV.callS (As := [.int v58, .int 2]) (rest := []) dX15_shrink_37 kcX15_shrink_132 rfl (Nat.le_of_ble_eq_true rfl) (Nat.le_of_ble_eq_true rfl) (eX15_up gq59) ?_
    refine EV.sub [1, 2, 0] rfl ?_
    exact eX15_shrink_40  _ _ _ _ _ _ h
  · rw [if_pos c57] at h
    refine EV.aload_n 1 dX15_shrink_25 rfl rfl ?_
    obtain ⟨v60, gv60, h⟩ := px_bs h
    refine ev_gI dX15_shrink_26 flRX15_350 gv60 ?_
    refine EV.goto 40 dX15_shrink_29 (by decide) ?_
    refine EV.sub [1, 2, 0] rfl ?_
    exact eX15_shrink_40  _ _ _ _ _ _ h
set_option maxRecDepth 100000 in
set_option maxHeartbeats 4000000 in
theorem eX15_shrink {X : px_X} {w : px_W} {a0 : Nat} {a1 : Int32} {q : px_W} (h : fX15_shrink X w a0 a1 = some q) : EV X mX15_shrink 0 (lv_args 0 [.ref a0, .int a1]) [] w none q := by
  unfold fX15_shrink at h
  show EV X mX15_shrink 0 [(0, .ref a0), (1, .int a1)] [] w none q
  refine EV.iload_n 1 dX15_shrink_0 rfl rfl ?_
  refine EV.iconst (1) dX15_shrink_1 (by decide) ?_
  refine EV.icmp_ne 12 dX15_shrink_2 (by decide) (fun c61 => ?_) (fun c61 => ?_)
  · rw [if_neg c61] at h
    refine EV.aload_n 0 dX15_shrink_12 rfl rfl ?_
    obtain ⟨v62, gv62, h⟩ := px_bs h
    refine ev_gI dX15_shrink_13 flRX15_333 gv62 ?_
    refine EV.iconst (2) dX15_shrink_16 (by decide) ?_
    obtain ⟨q63, gq63, h⟩ := px_bs h
    refine EV.callS (As := [.int v62, .int 2]) (rest := []) dX15_shrink_17 kcX15_shrink_132 rfl (Nat.le_of_ble_eq_true rfl) (Nat.le_of_ble_eq_true rfl) (eX15_up gq63) ?_
    refine EV.sub [0, 1] rfl ?_
    exact eX15_shrink_20  _ _ _ _ _ h
  · rw [if_pos c61] at h
    refine EV.aload_n 0 dX15_shrink_5 rfl rfl ?_
    obtain ⟨v64, gv64, h⟩ := px_bs h
    refine ev_gI dX15_shrink_6 flRX15_333 gv64 ?_
    refine EV.goto 20 dX15_shrink_9 (by decide) ?_
    refine EV.sub [0, 1] rfl ?_
    exact eX15_shrink_20  _ _ _ _ _ h
/-! WavePicturesModel.fit(II)V -/
theorem dX15_fit_0 : decode cX15_fit 0 = .ok (.iconst 0, 1) := by decide +kernel
theorem dX15_fit_1 : decode cX15_fit 1 = .ok (.istore_n 3, 1) := by decide +kernel
theorem dX15_fit_2 : decode cX15_fit 2 = .ok (.iload_n 3, 1) := by decide +kernel
theorem dX15_fit_3 : decode cX15_fit 3 = .ok (.iload_n 2, 1) := by decide +kernel
theorem dX15_fit_4 : decode cX15_fit 4 = .ok (.if_icmp .ge 42, 3) := by decide +kernel
theorem dX15_fit_7 : decode cX15_fit 7 = .ok (.iconst 0, 1) := by decide +kernel
theorem dX15_fit_8 : decode cX15_fit 8 = .ok (.istore 4, 2) := by decide +kernel
theorem dX15_fit_10 : decode cX15_fit 10 = .ok (.iload 4, 2) := by decide +kernel
theorem dX15_fit_12 : decode cX15_fit 12 = .ok (.iload_n 1, 1) := by decide +kernel
theorem dX15_fit_13 : decode cX15_fit 13 = .ok (.if_icmp .ge 27, 3) := by decide +kernel
theorem dX15_fit_16 : decode cX15_fit 16 = .ok (.aload_n 0, 1) := by decide +kernel
theorem dX15_fit_17 : decode cX15_fit 17 = .ok (.getfield 107, 3) := by decide +kernel
theorem dX15_fit_20 : decode cX15_fit 20 = .ok (.iload_n 1, 1) := by decide +kernel
theorem dX15_fit_21 : decode cX15_fit 21 = .ok (.iload_n 3, 1) := by decide +kernel
theorem dX15_fit_22 : decode cX15_fit 22 = .ok (.imul, 1) := by decide +kernel
theorem dX15_fit_23 : decode cX15_fit 23 = .ok (.iload 4, 2) := by decide +kernel
theorem dX15_fit_25 : decode cX15_fit 25 = .ok (.iadd, 1) := by decide +kernel
theorem dX15_fit_26 : decode cX15_fit 26 = .ok (.aload_n 0, 1) := by decide +kernel
theorem dX15_fit_27 : decode cX15_fit 27 = .ok (.iload 4, 2) := by decide +kernel
theorem dX15_fit_29 : decode cX15_fit 29 = .ok (.iload_n 3, 1) := by decide +kernel
theorem dX15_fit_30 : decode cX15_fit 30 = .ok (.invokevirtual 353, 3) := by decide +kernel
theorem dX15_fit_33 : decode cX15_fit 33 = .ok (.iastore, 1) := by decide +kernel
theorem dX15_fit_34 : decode cX15_fit 34 = .ok (.iinc 4 1, 3) := by decide +kernel
theorem dX15_fit_37 : decode cX15_fit 37 = .ok (.goto (-27), 3) := by decide +kernel
theorem dX15_fit_40 : decode cX15_fit 40 = .ok (.iinc 3 1, 3) := by decide +kernel
theorem dX15_fit_43 : decode cX15_fit 43 = .ok (.goto (-41), 3) := by decide +kernel
theorem dX15_fit_46 : decode cX15_fit 46 = .ok (.aload_n 0, 1) := by decide +kernel
theorem dX15_fit_47 : decode cX15_fit 47 = .ok (.iload_n 1, 1) := by decide +kernel
theorem dX15_fit_48 : decode cX15_fit 48 = .ok (.iload_n 2, 1) := by decide +kernel
theorem dX15_fit_49 : decode cX15_fit 49 = .ok (.invokevirtual 356, 3) := by decide +kernel
theorem dX15_fit_52 : decode cX15_fit 52 = .ok (.return_, 1) := by decide +kernel
theorem kcX15_fit_353 : px_cV mX15_fit 353 mX15_sample 2 := ⟨⟨mbX15_sample, by decide, by decide⟩, Or.inl (tb10 (List.mem_of_getElem? (i := 25) rfl)), vbX15_sample⟩
theorem kcX15_fit_356 : px_cV mX15_fit 356 mX15_become 2 := ⟨⟨mbX15_become, by decide, by decide⟩, Or.inl (tb10 (List.mem_of_getElem? (i := 29) rfl)), vbX15_become⟩
set_option maxRecDepth 100000 in
set_option maxHeartbeats 4000000 in
theorem eX15_fit_40 {X : px_X} {k2 : Nat → Int32 → Int32 → Int32 → px_W → Option (px_W)} (hk2 : ∀ (a0 : Nat) (a1 : Int32) (a2 : Int32) (a3 : Int32) (w : px_W) (q : px_W), k2 a0 a1 a2 a3 w = some q → EV X mX15_fit 2 [(0, .ref a0), (1, .int a1), (2, .int a2), (3, .int a3)] [] w none q) : ∀ (a0 : Nat) (a1 : Int32) (a2 : Int32) (a3 : Int32) (w : px_W) (q : px_W), fX15_fit_40 X k2 a0 a1 a2 a3 w = some q → EV X mX15_fit 40 [(0, .ref a0), (1, .int a1), (2, .int a2), (3, .int a3)] [] w none q := by
  intro a0 a1 a2 a3 w q h
  unfold fX15_fit_40 at h
  refine EV.iinc 3 (a3 + 1) [(3, .int (a3 + 1)), (0, .ref a0), (1, .int a1), (2, .int a2)] dX15_fit_40 rfl rfl (by decide) rfl ?_
  refine EV.goto 2 dX15_fit_43 (by decide) ?_
  refine EV.sub [1, 2, 3, 0] rfl ?_
  exact hk2 _ _ _ _ _ _ h
set_option maxRecDepth 100000 in
set_option maxHeartbeats 4000000 in
theorem eX15_fit_10 {X : px_X} {k2 : Nat → Int32 → Int32 → Int32 → px_W → Option (px_W)} (hk2 : ∀ (a0 : Nat) (a1 : Int32) (a2 : Int32) (a3 : Int32) (w : px_W) (q : px_W), k2 a0 a1 a2 a3 w = some q → EV X mX15_fit 2 [(0, .ref a0), (1, .int a1), (2, .int a2), (3, .int a3)] [] w none q) : ∀ (m : Nat) (a0 : Nat) (a1 : Int32) (a2 : Int32) (a3 : Int32) (a4 : Int32) (w : px_W) (q : px_W), fX15_fit_10 X k2 m a0 a1 a2 a3 a4 w = some q → EV X mX15_fit 10 [(0, .ref a0), (1, .int a1), (2, .int a2), (3, .int a3), (4, .int a4)] [] w none q := by
  intro m
  induction m with
  | zero => intro a0 a1 a2 a3 a4 w q h; cases h
  | succ m ih =>
    intro a0 a1 a2 a3 a4 w q h
    rw [fX15_fit_10.eq_2] at h
    refine EV.iload 4 dX15_fit_10 rfl ?_
    refine EV.iload_n 1 dX15_fit_12 rfl rfl ?_
    refine EV.icmp_ge 40 dX15_fit_13 (by decide) (fun c7 => ?_) (fun c7 => ?_)
    · rw [if_pos c7] at h
      refine EV.sub [0, 1, 2, 3] rfl ?_
      exact eX15_fit_40 hk2 _ _ _ _ _ _ h
    · rw [if_neg c7] at h
      refine EV.aload_n 0 dX15_fit_16 rfl rfl ?_
      obtain ⟨v8, gv8, h⟩ := px_bs h
      refine ev_gR dX15_fit_17 flRX15_107 gv8 ?_
      refine EV.iload_n 1 dX15_fit_20 rfl rfl ?_
      refine EV.iload_n 3 dX15_fit_21 rfl rfl ?_
      refine EV.imul dX15_fit_22 ?_
      refine EV.iload 4 dX15_fit_23 rfl ?_
      refine EV.iadd dX15_fit_25 ?_
      refine EV.aload_n 0 dX15_fit_26 rfl rfl ?_
      refine EV.iload 4 dX15_fit_27 rfl ?_
      refine EV.iload_n 3 dX15_fit_29 rfl rfl ?_
      obtain ⟨o9, go9, h⟩ := px_bs h
      obtain ⟨q10, gq10, h⟩ := px_bs h
      refine EV.callV (As := [.int a4, .int a3]) (rest := [.int ((a1 * a3) + a4), .ref v8]) dX15_fit_30 kcX15_fit_353 (gO_ok go9) rfl rfl rfl (Nat.le_of_ble_eq_true rfl) (Nat.le_of_ble_eq_true rfl) (eX15_sample gq10) ?_
      obtain ⟨w11, gw11, h⟩ := px_bs h
      refine ev_sI dX15_fit_33 gw11 ?_
      refine EV.iinc 4 (a4 + 1) [(4, .int (a4 + 1)), (0, .ref a0), (1, .int a1), (2, .int a2), (3, .int a3)] dX15_fit_34 rfl rfl (by decide) rfl ?_
      refine EV.goto 10 dX15_fit_37 (by decide) ?_
      refine EV.sub [1, 2, 3, 4, 0] rfl ?_
      exact ih _ _ _ _ _ _ _ h
set_option maxRecDepth 100000 in
set_option maxHeartbeats 4000000 in
theorem eX15_fit_46 {X : px_X}  : ∀ (a0 : Nat) (a1 : Int32) (a2 : Int32) (w : px_W) (q : px_W), fX15_fit_46 X  a0 a1 a2 w = some q → EV X mX15_fit 46 [(0, .ref a0), (1, .int a1), (2, .int a2)] [] w none q := by
  intro a0 a1 a2 w q h
  unfold fX15_fit_46 at h
  refine EV.aload_n 0 dX15_fit_46 rfl rfl ?_
  refine EV.iload_n 1 dX15_fit_47 rfl rfl ?_
  refine EV.iload_n 2 dX15_fit_48 rfl rfl ?_
  obtain ⟨o12, go12, h⟩ := px_bs h
  obtain ⟨q13, gq13, h⟩ := px_bs h
  refine EV.callV (As := [.int a1, .int a2]) (rest := []) dX15_fit_49 kcX15_fit_356 (gO_ok go12) rfl rfl rfl (Nat.le_of_ble_eq_true rfl) (Nat.le_of_ble_eq_true rfl) (eX15_become gq13) ?_
  cases h
  exact EV.ret0 dX15_fit_52 trivial
set_option maxRecDepth 100000 in
set_option maxHeartbeats 4000000 in
theorem eX15_fit_2 {X : px_X}  : ∀ (m : Nat) (a0 : Nat) (a1 : Int32) (a2 : Int32) (a3 : Int32) (w : px_W) (q : px_W), fX15_fit_2 X  m a0 a1 a2 a3 w = some q → EV X mX15_fit 2 [(0, .ref a0), (1, .int a1), (2, .int a2), (3, .int a3)] [] w none q := by
  intro m
  induction m with
  | zero => intro a0 a1 a2 a3 w q h; cases h
  | succ m ih =>
    intro a0 a1 a2 a3 w q h
    rw [fX15_fit_2.eq_2] at h
    refine EV.iload_n 3 dX15_fit_2 rfl rfl ?_
    refine EV.iload_n 2 dX15_fit_3 rfl rfl ?_
    refine EV.icmp_ge 46 dX15_fit_4 (by decide) (fun c14 => ?_) (fun c14 => ?_)
    · rw [if_pos c14] at h
      refine EV.sub [0, 1, 2] rfl ?_
      exact eX15_fit_46  _ _ _ _ _ h
    · rw [if_neg c14] at h
      refine EV.iconst (0) dX15_fit_7 (by decide) ?_
      refine EV.istore [(4, .int 0), (0, .ref a0), (1, .int a1), (2, .int a2), (3, .int a3)] dX15_fit_8 (by decide) rfl ?_
      refine EV.sub [1, 2, 3, 4, 0] rfl ?_
      exact eX15_fit_10 ih FU _ _ _ _ _ _ _ h
set_option maxRecDepth 100000 in
set_option maxHeartbeats 4000000 in
theorem eX15_fit {X : px_X} {w : px_W} {a0 : Nat} {a1 : Int32} {a2 : Int32} {q : px_W} (h : fX15_fit X w a0 a1 a2 = some q) : EV X mX15_fit 0 (lv_args 0 [.ref a0, .int a1, .int a2]) [] w none q := by
  unfold fX15_fit at h
  show EV X mX15_fit 0 [(0, .ref a0), (1, .int a1), (2, .int a2)] [] w none q
  refine EV.iconst (0) dX15_fit_0 (by decide) ?_
  refine EV.istore_n [(3, .int 0), (0, .ref a0), (1, .int a1), (2, .int a2)] dX15_fit_1 rfl (by decide) rfl ?_
  refine EV.sub [1, 2, 3, 0] rfl ?_
  exact eX15_fit_2  FU _ _ _ _ _ _ h
/-! WavePicturesModel.paintPlane(I)V -/
theorem dX15_paintPlane_0 : decode cX15_paintPlane 0 = .ok (.aload_n 0, 1) := by decide +kernel
theorem dX15_paintPlane_1 : decode cX15_paintPlane 1 = .ok (.aload_n 0, 1) := by decide +kernel
theorem dX15_paintPlane_2 : decode cX15_paintPlane 2 = .ok (.getfield 98, 3) := by decide +kernel
theorem dX15_paintPlane_5 : decode cX15_paintPlane 5 = .ok (.iload_n 1, 1) := by decide +kernel
theorem dX15_paintPlane_6 : decode cX15_paintPlane 6 = .ok (.iaload, 1) := by decide +kernel
theorem dX15_paintPlane_7 : decode cX15_paintPlane 7 = .ok (.putfield 333, 3) := by decide +kernel
theorem dX15_paintPlane_10 : decode cX15_paintPlane 10 = .ok (.aload_n 0, 1) := by decide +kernel
theorem dX15_paintPlane_11 : decode cX15_paintPlane 11 = .ok (.aload_n 0, 1) := by decide +kernel
theorem dX15_paintPlane_12 : decode cX15_paintPlane 12 = .ok (.getfield 101, 3) := by decide +kernel
theorem dX15_paintPlane_15 : decode cX15_paintPlane 15 = .ok (.iload_n 1, 1) := by decide +kernel
theorem dX15_paintPlane_16 : decode cX15_paintPlane 16 = .ok (.iaload, 1) := by decide +kernel
theorem dX15_paintPlane_17 : decode cX15_paintPlane 17 = .ok (.putfield 350, 3) := by decide +kernel
theorem dX15_paintPlane_20 : decode cX15_paintPlane 20 = .ok (.iconst 0, 1) := by decide +kernel
theorem dX15_paintPlane_21 : decode cX15_paintPlane 21 = .ok (.istore_n 2, 1) := by decide +kernel
theorem dX15_paintPlane_22 : decode cX15_paintPlane 22 = .ok (.iload_n 2, 1) := by decide +kernel
theorem dX15_paintPlane_23 : decode cX15_paintPlane 23 = .ok (.aload_n 0, 1) := by decide +kernel
theorem dX15_paintPlane_24 : decode cX15_paintPlane 24 = .ok (.getfield 333, 3) := by decide +kernel
theorem dX15_paintPlane_27 : decode cX15_paintPlane 27 = .ok (.aload_n 0, 1) := by decide +kernel
theorem dX15_paintPlane_28 : decode cX15_paintPlane 28 = .ok (.getfield 350, 3) := by decide +kernel
theorem dX15_paintPlane_31 : decode cX15_paintPlane 31 = .ok (.imul, 1) := by decide +kernel
theorem dX15_paintPlane_32 : decode cX15_paintPlane 32 = .ok (.if_icmp .ge 27, 3) := by decide +kernel
theorem dX15_paintPlane_35 : decode cX15_paintPlane 35 = .ok (.aload_n 0, 1) := by decide +kernel
theorem dX15_paintPlane_36 : decode cX15_paintPlane 36 = .ok (.getfield 104, 3) := by decide +kernel
theorem dX15_paintPlane_39 : decode cX15_paintPlane 39 = .ok (.iload_n 2, 1) := by decide +kernel
theorem dX15_paintPlane_40 : decode cX15_paintPlane 40 = .ok (.aload_n 0, 1) := by decide +kernel
theorem dX15_paintPlane_41 : decode cX15_paintPlane 41 = .ok (.getfield 95, 3) := by decide +kernel
theorem dX15_paintPlane_44 : decode cX15_paintPlane 44 = .ok (.sipush 1024, 3) := by decide +kernel
theorem dX15_paintPlane_47 : decode cX15_paintPlane 47 = .ok (.iload_n 1, 1) := by decide +kernel
theorem dX15_paintPlane_48 : decode cX15_paintPlane 48 = .ok (.imul, 1) := by decide +kernel
theorem dX15_paintPlane_49 : decode cX15_paintPlane 49 = .ok (.iload_n 2, 1) := by decide +kernel
theorem dX15_paintPlane_50 : decode cX15_paintPlane 50 = .ok (.iadd, 1) := by decide +kernel
theorem dX15_paintPlane_51 : decode cX15_paintPlane 51 = .ok (.iaload, 1) := by decide +kernel
theorem dX15_paintPlane_52 : decode cX15_paintPlane 52 = .ok (.iastore, 1) := by decide +kernel
theorem dX15_paintPlane_53 : decode cX15_paintPlane 53 = .ok (.iinc 2 1, 3) := by decide +kernel
theorem dX15_paintPlane_56 : decode cX15_paintPlane 56 = .ok (.goto (-34), 3) := by decide +kernel
theorem dX15_paintPlane_59 : decode cX15_paintPlane 59 = .ok (.aload_n 0, 1) := by decide +kernel
theorem dX15_paintPlane_60 : decode cX15_paintPlane 60 = .ok (.getfield 52, 3) := by decide +kernel
theorem dX15_paintPlane_63 : decode cX15_paintPlane 63 = .ok (.iload_n 1, 1) := by decide +kernel
theorem dX15_paintPlane_64 : decode cX15_paintPlane 64 = .ok (.iaload, 1) := by decide +kernel
theorem dX15_paintPlane_65 : decode cX15_paintPlane 65 = .ok (.aload_n 0, 1) := by decide +kernel
theorem dX15_paintPlane_66 : decode cX15_paintPlane 66 = .ok (.getfield 120, 3) := by decide +kernel
theorem dX15_paintPlane_69 : decode cX15_paintPlane 69 = .ok (.if_icmp .ge 24, 3) := by decide +kernel
theorem dX15_paintPlane_72 : decode cX15_paintPlane 72 = .ok (.aload_n 0, 1) := by decide +kernel
theorem dX15_paintPlane_73 : decode cX15_paintPlane 73 = .ok (.getfield 55, 3) := by decide +kernel
theorem dX15_paintPlane_76 : decode cX15_paintPlane 76 = .ok (.iload_n 1, 1) := by decide +kernel
theorem dX15_paintPlane_77 : decode cX15_paintPlane 77 = .ok (.iaload, 1) := by decide +kernel
theorem dX15_paintPlane_78 : decode cX15_paintPlane 78 = .ok (.aload_n 0, 1) := by decide +kernel
theorem dX15_paintPlane_79 : decode cX15_paintPlane 79 = .ok (.getfield 123, 3) := by decide +kernel
theorem dX15_paintPlane_82 : decode cX15_paintPlane 82 = .ok (.if_icmp .ge 11, 3) := by decide +kernel
theorem dX15_paintPlane_85 : decode cX15_paintPlane 85 = .ok (.aload_n 0, 1) := by decide +kernel
theorem dX15_paintPlane_86 : decode cX15_paintPlane 86 = .ok (.iconst 2, 1) := by decide +kernel
theorem dX15_paintPlane_87 : decode cX15_paintPlane 87 = .ok (.invokevirtual 362, 3) := by decide +kernel
theorem dX15_paintPlane_90 : decode cX15_paintPlane 90 = .ok (.goto 42, 3) := by decide +kernel
theorem dX15_paintPlane_93 : decode cX15_paintPlane 93 = .ok (.aload_n 0, 1) := by decide +kernel
theorem dX15_paintPlane_94 : decode cX15_paintPlane 94 = .ok (.getfield 52, 3) := by decide +kernel
theorem dX15_paintPlane_97 : decode cX15_paintPlane 97 = .ok (.iload_n 1, 1) := by decide +kernel
theorem dX15_paintPlane_98 : decode cX15_paintPlane 98 = .ok (.iaload, 1) := by decide +kernel
theorem dX15_paintPlane_99 : decode cX15_paintPlane 99 = .ok (.aload_n 0, 1) := by decide +kernel
theorem dX15_paintPlane_100 : decode cX15_paintPlane 100 = .ok (.getfield 120, 3) := by decide +kernel
theorem dX15_paintPlane_103 : decode cX15_paintPlane 103 = .ok (.if_icmp .ge 11, 3) := by decide +kernel
theorem dX15_paintPlane_106 : decode cX15_paintPlane 106 = .ok (.aload_n 0, 1) := by decide +kernel
theorem dX15_paintPlane_107 : decode cX15_paintPlane 107 = .ok (.iconst 0, 1) := by decide +kernel
theorem dX15_paintPlane_108 : decode cX15_paintPlane 108 = .ok (.invokevirtual 362, 3) := by decide +kernel
theorem dX15_paintPlane_111 : decode cX15_paintPlane 111 = .ok (.goto 21, 3) := by decide +kernel
theorem dX15_paintPlane_114 : decode cX15_paintPlane 114 = .ok (.aload_n 0, 1) := by decide +kernel
theorem dX15_paintPlane_115 : decode cX15_paintPlane 115 = .ok (.getfield 55, 3) := by decide +kernel
theorem dX15_paintPlane_118 : decode cX15_paintPlane 118 = .ok (.iload_n 1, 1) := by decide +kernel
theorem dX15_paintPlane_119 : decode cX15_paintPlane 119 = .ok (.iaload, 1) := by decide +kernel
theorem dX15_paintPlane_120 : decode cX15_paintPlane 120 = .ok (.aload_n 0, 1) := by decide +kernel
theorem dX15_paintPlane_121 : decode cX15_paintPlane 121 = .ok (.getfield 123, 3) := by decide +kernel
theorem dX15_paintPlane_124 : decode cX15_paintPlane 124 = .ok (.if_icmp .ge 8, 3) := by decide +kernel
theorem dX15_paintPlane_127 : decode cX15_paintPlane 127 = .ok (.aload_n 0, 1) := by decide +kernel
theorem dX15_paintPlane_128 : decode cX15_paintPlane 128 = .ok (.iconst 1, 1) := by decide +kernel
theorem dX15_paintPlane_129 : decode cX15_paintPlane 129 = .ok (.invokevirtual 362, 3) := by decide +kernel
theorem dX15_paintPlane_132 : decode cX15_paintPlane 132 = .ok (.aload_n 0, 1) := by decide +kernel
theorem dX15_paintPlane_133 : decode cX15_paintPlane 133 = .ok (.bipush 8, 2) := by decide +kernel
theorem dX15_paintPlane_135 : decode cX15_paintPlane 135 = .ok (.aload_n 0, 1) := by decide +kernel
theorem dX15_paintPlane_136 : decode cX15_paintPlane 136 = .ok (.getfield 58, 3) := by decide +kernel
theorem dX15_paintPlane_139 : decode cX15_paintPlane 139 = .ok (.iload_n 1, 1) := by decide +kernel
theorem dX15_paintPlane_140 : decode cX15_paintPlane 140 = .ok (.iaload, 1) := by decide +kernel
theorem dX15_paintPlane_141 : decode cX15_paintPlane 141 = .ok (.imul, 1) := by decide +kernel
theorem dX15_paintPlane_142 : decode cX15_paintPlane 142 = .ok (.bipush 8, 2) := by decide +kernel
theorem dX15_paintPlane_144 : decode cX15_paintPlane 144 = .ok (.aload_n 0, 1) := by decide +kernel
theorem dX15_paintPlane_145 : decode cX15_paintPlane 145 = .ok (.getfield 61, 3) := by decide +kernel
theorem dX15_paintPlane_148 : decode cX15_paintPlane 148 = .ok (.iload_n 1, 1) := by decide +kernel
theorem dX15_paintPlane_149 : decode cX15_paintPlane 149 = .ok (.iaload, 1) := by decide +kernel
theorem dX15_paintPlane_150 : decode cX15_paintPlane 150 = .ok (.imul, 1) := by decide +kernel
theorem dX15_paintPlane_151 : decode cX15_paintPlane 151 = .ok (.invokevirtual 365, 3) := by decide +kernel
theorem dX15_paintPlane_154 : decode cX15_paintPlane 154 = .ok (.iconst 0, 1) := by decide +kernel
theorem dX15_paintPlane_155 : decode cX15_paintPlane 155 = .ok (.istore_n 2, 1) := by decide +kernel
theorem dX15_paintPlane_156 : decode cX15_paintPlane 156 = .ok (.iload_n 2, 1) := by decide +kernel
theorem dX15_paintPlane_157 : decode cX15_paintPlane 157 = .ok (.aload_n 0, 1) := by decide +kernel
theorem dX15_paintPlane_158 : decode cX15_paintPlane 158 = .ok (.getfield 58, 3) := by decide +kernel
theorem dX15_paintPlane_161 : decode cX15_paintPlane 161 = .ok (.iload_n 1, 1) := by decide +kernel
theorem dX15_paintPlane_162 : decode cX15_paintPlane 162 = .ok (.iaload, 1) := by decide +kernel
theorem dX15_paintPlane_163 : decode cX15_paintPlane 163 = .ok (.aload_n 0, 1) := by decide +kernel
theorem dX15_paintPlane_164 : decode cX15_paintPlane 164 = .ok (.getfield 61, 3) := by decide +kernel
theorem dX15_paintPlane_167 : decode cX15_paintPlane 167 = .ok (.iload_n 1, 1) := by decide +kernel
theorem dX15_paintPlane_168 : decode cX15_paintPlane 168 = .ok (.iaload, 1) := by decide +kernel
theorem dX15_paintPlane_169 : decode cX15_paintPlane 169 = .ok (.imul, 1) := by decide +kernel
theorem dX15_paintPlane_170 : decode cX15_paintPlane 170 = .ok (.if_icmp .ge 37, 3) := by decide +kernel
theorem dX15_paintPlane_173 : decode cX15_paintPlane 173 = .ok (.aload_n 0, 1) := by decide +kernel
theorem dX15_paintPlane_174 : decode cX15_paintPlane 174 = .ok (.iload_n 1, 1) := by decide +kernel
theorem dX15_paintPlane_175 : decode cX15_paintPlane 175 = .ok (.iload_n 2, 1) := by decide +kernel
theorem dX15_paintPlane_176 : decode cX15_paintPlane 176 = .ok (.bipush 8, 2) := by decide +kernel
theorem dX15_paintPlane_178 : decode cX15_paintPlane 178 = .ok (.iload_n 2, 1) := by decide +kernel
theorem dX15_paintPlane_179 : decode cX15_paintPlane 179 = .ok (.aload_n 0, 1) := by decide +kernel
theorem dX15_paintPlane_180 : decode cX15_paintPlane 180 = .ok (.getfield 58, 3) := by decide +kernel
theorem dX15_paintPlane_183 : decode cX15_paintPlane 183 = .ok (.iload_n 1, 1) := by decide +kernel
theorem dX15_paintPlane_184 : decode cX15_paintPlane 184 = .ok (.iaload, 1) := by decide +kernel
theorem dX15_paintPlane_185 : decode cX15_paintPlane 185 = .ok (.irem, 1) := by decide +kernel
theorem dX15_paintPlane_186 : decode cX15_paintPlane 186 = .ok (.imul, 1) := by decide +kernel
theorem dX15_paintPlane_187 : decode cX15_paintPlane 187 = .ok (.bipush 8, 2) := by decide +kernel
theorem dX15_paintPlane_189 : decode cX15_paintPlane 189 = .ok (.iload_n 2, 1) := by decide +kernel
theorem dX15_paintPlane_190 : decode cX15_paintPlane 190 = .ok (.aload_n 0, 1) := by decide +kernel
theorem dX15_paintPlane_191 : decode cX15_paintPlane 191 = .ok (.getfield 58, 3) := by decide +kernel
theorem dX15_paintPlane_194 : decode cX15_paintPlane 194 = .ok (.iload_n 1, 1) := by decide +kernel
theorem dX15_paintPlane_195 : decode cX15_paintPlane 195 = .ok (.iaload, 1) := by decide +kernel
theorem dX15_paintPlane_196 : decode cX15_paintPlane 196 = .ok (.idiv, 1) := by decide +kernel
theorem dX15_paintPlane_197 : decode cX15_paintPlane 197 = .ok (.imul, 1) := by decide +kernel
theorem dX15_paintPlane_198 : decode cX15_paintPlane 198 = .ok (.invokevirtual 368, 3) := by decide +kernel
theorem dX15_paintPlane_201 : decode cX15_paintPlane 201 = .ok (.iinc 2 1, 3) := by decide +kernel
theorem dX15_paintPlane_204 : decode cX15_paintPlane 204 = .ok (.goto (-48), 3) := by decide +kernel
theorem dX15_paintPlane_207 : decode cX15_paintPlane 207 = .ok (.return_, 1) := by decide +kernel
theorem flRX15_95 : px_f RX15 95 15 39 := ⟨_, rfl, by decide, Or.inl (tb8 (List.mem_of_getElem? (i := 0) rfl))⟩
theorem mbX15_shrink : px_mB mX15_shrink 1 := ⟨tb10 (List.mem_of_getElem? (i := 24) rfl), by decide +kernel, tb1 (List.mem_of_getElem? (i := 13) rfl), by decide +kernel, by decide +kernel⟩
theorem vbX15_shrink : px_vB mX15_shrink := ⟨tb10 (List.mem_of_getElem? (i := 23) rfl), List.mem_append_left _ (List.mem_of_getElem? (i := 163) (by decide +kernel))⟩
theorem kcX15_paintPlane_362 : px_cV mX15_paintPlane 362 mX15_shrink 1 := ⟨⟨mbX15_shrink, by decide, by decide⟩, Or.inl (tb10 (List.mem_of_getElem? (i := 21) rfl)), vbX15_shrink⟩
theorem mbX15_fit : px_mB mX15_fit 2 := ⟨tb10 (List.mem_of_getElem? (i := 36) rfl), by decide +kernel, tb1 (List.mem_of_getElem? (i := 13) rfl), by decide +kernel, by decide +kernel⟩
theorem vbX15_fit : px_vB mX15_fit := ⟨tb10 (List.mem_of_getElem? (i := 35) rfl), List.mem_append_left _ (List.mem_of_getElem? (i := 166) (by decide +kernel))⟩
theorem kcX15_paintPlane_365 : px_cV mX15_paintPlane 365 mX15_fit 2 := ⟨⟨mbX15_fit, by decide, by decide⟩, Or.inl (tb10 (List.mem_of_getElem? (i := 33) rfl)), vbX15_fit⟩
theorem mbX15_forward : px_mB mX15_forward 4 := ⟨tb10 (List.mem_of_getElem? (i := 40) rfl), by decide +kernel, tb1 (List.mem_of_getElem? (i := 13) rfl), by decide +kernel, by decide +kernel⟩
theorem vbX15_forward : px_vB mX15_forward := ⟨tb10 (List.mem_of_getElem? (i := 39) rfl), List.mem_append_left _ (List.mem_of_getElem? (i := 167) (by decide +kernel))⟩
theorem kcX15_paintPlane_368 : px_cV mX15_paintPlane 368 mX15_forward 4 := ⟨⟨mbX15_forward, by decide, by decide⟩, Or.inl (tb10 (List.mem_of_getElem? (i := 37) rfl)), vbX15_forward⟩
set_option maxRecDepth 100000 in
set_option maxHeartbeats 4000000 in
theorem eX15_paintPlane_156 {X : px_X}  : ∀ (m : Nat) (a0 : Nat) (a1 : Int32) (a2 : Int32) (w : px_W) (q : px_W), fX15_paintPlane_156 X  m a0 a1 a2 w = some q → EV X mX15_paintPlane 156 [(0, .ref a0), (1, .int a1), (2, .int a2)] [] w none q := by
  intro m
  induction m with
  | zero => intro a0 a1 a2 w q h; cases h
  | succ m ih =>
    intro a0 a1 a2 w q h
    rw [fX15_paintPlane_156.eq_2] at h
    refine EV.iload_n 2 dX15_paintPlane_156 rfl rfl ?_
    refine EV.aload_n 0 dX15_paintPlane_157 rfl rfl ?_
    obtain ⟨v49, gv49, h⟩ := px_bs h
    refine ev_gR dX15_paintPlane_158 flRX15_58 gv49 ?_
    refine EV.iload_n 1 dX15_paintPlane_161 rfl rfl ?_
    obtain ⟨v50, gv50, h⟩ := px_bs h
    refine ev_aI dX15_paintPlane_162 gv50 ?_
    refine EV.aload_n 0 dX15_paintPlane_163 rfl rfl ?_
    obtain ⟨v51, gv51, h⟩ := px_bs h
    refine ev_gR dX15_paintPlane_164 flRX15_61 gv51 ?_
    refine EV.iload_n 1 dX15_paintPlane_167 rfl rfl ?_
    obtain ⟨v52, gv52, h⟩ := px_bs h
    refine ev_aI dX15_paintPlane_168 gv52 ?_
    refine EV.imul dX15_paintPlane_169 ?_
    refine EV.icmp_ge 207 dX15_paintPlane_170 (by decide) (fun c53 => ?_) (fun c53 => ?_)
    · rw [if_pos c53] at h
      cases h
      exact EV.ret0 dX15_paintPlane_207 trivial
    · rw [if_neg c53] at h
      refine EV.aload_n 0 dX15_paintPlane_173 rfl rfl ?_
      refine EV.iload_n 1 dX15_paintPlane_174 rfl rfl ?_
      refine EV.iload_n 2 dX15_paintPlane_175 rfl rfl ?_
      refine EV.bipush (8) dX15_paintPlane_176 (by decide) ?_
      refine EV.iload_n 2 dX15_paintPlane_178 rfl rfl ?_
      refine EV.aload_n 0 dX15_paintPlane_179 rfl rfl ?_
      obtain ⟨v54, gv54, h⟩ := px_bs h
      refine ev_gR dX15_paintPlane_180 flRX15_58 gv54 ?_
      refine EV.iload_n 1 dX15_paintPlane_183 rfl rfl ?_
      obtain ⟨v55, gv55, h⟩ := px_bs h
      refine ev_aI dX15_paintPlane_184 gv55 ?_
      obtain ⟨v56, gv56, h⟩ := px_bs h
      refine ev_rI dX15_paintPlane_185 gv56 ?_
      refine EV.imul dX15_paintPlane_186 ?_
      refine EV.bipush (8) dX15_paintPlane_187 (by decide) ?_
      refine EV.iload_n 2 dX15_paintPlane_189 rfl rfl ?_
      refine EV.aload_n 0 dX15_paintPlane_190 rfl rfl ?_
      obtain ⟨v57, gv57, h⟩ := px_bs h
      refine ev_gR dX15_paintPlane_191 flRX15_58 gv57 ?_
      refine EV.iload_n 1 dX15_paintPlane_194 rfl rfl ?_
      obtain ⟨v58, gv58, h⟩ := px_bs h
      refine ev_aI dX15_paintPlane_195 gv58 ?_
      obtain ⟨v59, gv59, h⟩ := px_bs h
      refine ev_dI dX15_paintPlane_196 gv59 ?_
      refine EV.imul dX15_paintPlane_197 ?_
      obtain ⟨o60, go60, h⟩ := px_bs h
      obtain ⟨q61, gq61, h⟩ := px_bs h
      refine EV.callV (As := [.int a1, .int a2, .int (8 * v56), .int (8 * v59)]) (rest := []) dX15_paintPlane_198 kcX15_paintPlane_368 (gO_ok go60) rfl rfl rfl (Nat.le_of_ble_eq_true rfl) (Nat.le_of_ble_eq_true rfl) (eX15_forward gq61) ?_
      refine EV.iinc 2 (a2 + 1) [(2, .int (a2 + 1)), (0, .ref a0), (1, .int a1)] dX15_paintPlane_201 rfl rfl (by decide) rfl ?_
      refine EV.goto 156 dX15_paintPlane_204 (by decide) ?_
      refine EV.sub [1, 2, 0] rfl ?_
      exact ih _ _ _ _ _ h
set_option maxRecDepth 100000 in
set_option maxHeartbeats 4000000 in
theorem eX15_paintPlane_132 {X : px_X}  : ∀ (a0 : Nat) (a1 : Int32) (w : px_W) (q : px_W), fX15_paintPlane_132 X  a0 a1 w = some q → EV X mX15_paintPlane 132 [(0, .ref a0), (1, .int a1)] [] w none q := by
  intro a0 a1 w q h
  unfold fX15_paintPlane_132 at h
  refine EV.aload_n 0 dX15_paintPlane_132 rfl rfl ?_
  refine EV.bipush (8) dX15_paintPlane_133 (by decide) ?_
  refine EV.aload_n 0 dX15_paintPlane_135 rfl rfl ?_
  obtain ⟨v62, gv62, h⟩ := px_bs h
  refine ev_gR dX15_paintPlane_136 flRX15_58 gv62 ?_
  refine EV.iload_n 1 dX15_paintPlane_139 rfl rfl ?_
  obtain ⟨v63, gv63, h⟩ := px_bs h
  refine ev_aI dX15_paintPlane_140 gv63 ?_
  refine EV.imul dX15_paintPlane_141 ?_
  refine EV.bipush (8) dX15_paintPlane_142 (by decide) ?_
  refine EV.aload_n 0 dX15_paintPlane_144 rfl rfl ?_
  obtain ⟨v64, gv64, h⟩ := px_bs h
  refine ev_gR dX15_paintPlane_145 flRX15_61 gv64 ?_
  refine EV.iload_n 1 dX15_paintPlane_148 rfl rfl ?_
  obtain ⟨v65, gv65, h⟩ := px_bs h
  refine ev_aI dX15_paintPlane_149 gv65 ?_
  refine EV.imul dX15_paintPlane_150 ?_
  obtain ⟨o66, go66, h⟩ := px_bs h
  obtain ⟨q67, gq67, h⟩ := px_bs h
  refine EV.callV (As := [.int (8 * v63), .int (8 * v65)]) (rest := []) dX15_paintPlane_151 kcX15_paintPlane_365 (gO_ok go66) rfl rfl rfl (Nat.le_of_ble_eq_true rfl) (Nat.le_of_ble_eq_true rfl) (eX15_fit gq67) ?_
  refine EV.iconst (0) dX15_paintPlane_154 (by decide) ?_
  refine EV.istore_n [(2, .int 0), (0, .ref a0), (1, .int a1)] dX15_paintPlane_155 rfl (by decide) rfl ?_
  refine EV.sub [1, 2, 0] rfl ?_
  exact eX15_paintPlane_156  FU _ _ _ _ _ h
set_option maxRecDepth 100000 in
set_option maxHeartbeats 4000000 in
theorem eX15_paintPlane_93 {X : px_X}  : ∀ (a0 : Nat) (a1 : Int32) (w : px_W) (q : px_W), fX15_paintPlane_93 X  a0 a1 w = some q → EV X mX15_paintPlane 93 [(0, .ref a0), (1, .int a1)] [] w none q := by
  intro a0 a1 w q h
  unfold fX15_paintPlane_93 at h
  refine EV.aload_n 0 dX15_paintPlane_93 rfl rfl ?_
  obtain ⟨v68, gv68, h⟩ := px_bs h
  refine ev_gR dX15_paintPlane_94 flRX15_52 gv68 ?_
  refine EV.iload_n 1 dX15_paintPlane_97 rfl rfl ?_
  obtain ⟨v69, gv69, h⟩ := px_bs h
  refine ev_aI dX15_paintPlane_98 gv69 ?_
  refine EV.aload_n 0 dX15_paintPlane_99 rfl rfl ?_
  obtain ⟨v70, gv70, h⟩ := px_bs h
  refine ev_gI dX15_paintPlane_100 flRX15_120 gv70 ?_
  refine EV.icmp_ge 114 dX15_paintPlane_103 (by decide) (fun c71 => ?_) (fun c71 => ?_)
  · rw [if_pos c71] at h
    refine EV.aload_n 0 dX15_paintPlane_114 rfl rfl ?_
    obtain ⟨v72, gv72, h⟩ := px_bs h
    refine ev_gR dX15_paintPlane_115 flRX15_55 gv72 ?_
    refine EV.iload_n 1 dX15_paintPlane_118 rfl rfl ?_
    obtain ⟨v73, gv73, h⟩ := px_bs h
    refine ev_aI dX15_paintPlane_119 gv73 ?_
    refine EV.aload_n 0 dX15_paintPlane_120 rfl rfl ?_
    obtain ⟨v74, gv74, h⟩ := px_bs h
    refine ev_gI dX15_paintPlane_121 flRX15_123 gv74 ?_
    refine EV.icmp_ge 132 dX15_paintPlane_124 (by decide) (fun c75 => ?_) (fun c75 => ?_)
    · rw [if_pos c75] at h
      refine EV.sub [0, 1] rfl ?_
      exact eX15_paintPlane_132  _ _ _ _ h
    · rw [if_neg c75] at h
      refine EV.aload_n 0 dX15_paintPlane_127 rfl rfl ?_
      refine EV.iconst (1) dX15_paintPlane_128 (by decide) ?_
      obtain ⟨o76, go76, h⟩ := px_bs h
      obtain ⟨q77, gq77, h⟩ := px_bs h
      refine EV.callV (As := [.int 1]) (rest := []) dX15_paintPlane_129 kcX15_paintPlane_362 (gO_ok go76) rfl rfl rfl (Nat.le_of_ble_eq_true rfl) (Nat.le_of_ble_eq_true rfl) (eX15_shrink gq77) ?_
      refine EV.sub [0, 1] rfl ?_
      exact eX15_paintPlane_132  _ _ _ _ h
  · rw [if_neg c71] at h
    refine EV.aload_n 0 dX15_paintPlane_106 rfl rfl ?_
    refine EV.iconst (0) dX15_paintPlane_107 (by decide) ?_
    obtain ⟨o78, go78, h⟩ := px_bs h
    obtain ⟨q79, gq79, h⟩ := px_bs h
    refine EV.callV (As := [.int 0]) (rest := []) dX15_paintPlane_108 kcX15_paintPlane_362 (gO_ok go78) rfl rfl rfl (Nat.le_of_ble_eq_true rfl) (Nat.le_of_ble_eq_true rfl) (eX15_shrink gq79) ?_
    refine EV.goto 132 dX15_paintPlane_111 (by decide) ?_
    refine EV.sub [0, 1] rfl ?_
    exact eX15_paintPlane_132  _ _ _ _ h
set_option maxRecDepth 100000 in
set_option maxHeartbeats 4000000 in
theorem eX15_paintPlane_59 {X : px_X}  : ∀ (a0 : Nat) (a1 : Int32) (w : px_W) (q : px_W), fX15_paintPlane_59 X  a0 a1 w = some q → EV X mX15_paintPlane 59 [(0, .ref a0), (1, .int a1)] [] w none q := by
  intro a0 a1 w q h
  unfold fX15_paintPlane_59 at h
  refine EV.aload_n 0 dX15_paintPlane_59 rfl rfl ?_
  obtain ⟨v80, gv80, h⟩ := px_bs h
  refine ev_gR dX15_paintPlane_60 flRX15_52 gv80 ?_
  refine EV.iload_n 1 dX15_paintPlane_63 rfl rfl ?_
  obtain ⟨v81, gv81, h⟩ := px_bs h
  refine ev_aI dX15_paintPlane_64 gv81 ?_
  refine EV.aload_n 0 dX15_paintPlane_65 rfl rfl ?_
  obtain ⟨v82, gv82, h⟩ := px_bs h
  refine ev_gI dX15_paintPlane_66 flRX15_120 gv82 ?_
  refine EV.icmp_ge 93 dX15_paintPlane_69 (by decide) (fun c83 => ?_) (fun c83 => ?_)
  · rw [if_pos c83] at h
    refine EV.sub [0, 1] rfl ?_
    exact eX15_paintPlane_93  _ _ _ _ h
  · rw [if_neg c83] at h
    refine EV.aload_n 0 dX15_paintPlane_72 rfl rfl ?_
    obtain ⟨v84, gv84, h⟩ := px_bs h
    refine ev_gR dX15_paintPlane_73 flRX15_55 gv84 ?_
    refine EV.iload_n 1 dX15_paintPlane_76 rfl rfl ?_
    obtain ⟨v85, gv85, h⟩ := px_bs h
    refine ev_aI dX15_paintPlane_77 gv85 ?_
    refine EV.aload_n 0 dX15_paintPlane_78 rfl rfl ?_
    obtain ⟨v86, gv86, h⟩ := px_bs h
    refine ev_gI dX15_paintPlane_79 flRX15_123 gv86 ?_
    refine EV.icmp_ge 93 dX15_paintPlane_82 (by decide) (fun c87 => ?_) (fun c87 => ?_)
    · rw [if_pos c87] at h
      refine EV.sub [0, 1] rfl ?_
      exact eX15_paintPlane_93  _ _ _ _ h
    · rw [if_neg c87] at h
      refine EV.aload_n 0 dX15_paintPlane_85 rfl rfl ?_
      refine EV.iconst (2) dX15_paintPlane_86 (by decide) ?_
      obtain ⟨o88, go88, h⟩ := px_bs h
      obtain ⟨q89, gq89, h⟩ := px_bs h
      refine EV.callV (As := [.int 2]) (rest := []) dX15_paintPlane_87 kcX15_paintPlane_362 (gO_ok go88) rfl rfl rfl (Nat.le_of_ble_eq_true rfl) (Nat.le_of_ble_eq_true rfl) (eX15_shrink gq89) ?_
      refine EV.goto 132 dX15_paintPlane_90 (by decide) ?_
      refine EV.sub [0, 1] rfl ?_
      exact eX15_paintPlane_132  _ _ _ _ h
set_option maxRecDepth 100000 in
set_option maxHeartbeats 4000000 in
theorem eX15_paintPlane_22 {X : px_X}  : ∀ (m : Nat) (a0 : Nat) (a1 : Int32) (a2 : Int32) (w : px_W) (q : px_W), fX15_paintPlane_22 X  m a0 a1 a2 w = some q → EV X mX15_paintPlane 22 [(0, .ref a0), (1, .int a1), (2, .int a2)] [] w none q := by
  intro m
  induction m with
  | zero => intro a0 a1 a2 w q h; cases h
  | succ m ih =>
    intro a0 a1 a2 w q h
    rw [fX15_paintPlane_22.eq_2] at h
    refine EV.iload_n 2 dX15_paintPlane_22 rfl rfl ?_
    refine EV.aload_n 0 dX15_paintPlane_23 rfl rfl ?_
    obtain ⟨v90, gv90, h⟩ := px_bs h
    refine ev_gI dX15_paintPlane_24 flRX15_333 gv90 ?_
    refine EV.aload_n 0 dX15_paintPlane_27 rfl rfl ?_
    obtain ⟨v91, gv91, h⟩ := px_bs h
    refine ev_gI dX15_paintPlane_28 flRX15_350 gv91 ?_
    refine EV.imul dX15_paintPlane_31 ?_
    refine EV.icmp_ge 59 dX15_paintPlane_32 (by decide) (fun c92 => ?_) (fun c92 => ?_)
    · rw [if_pos c92] at h
      refine EV.sub [0, 1] rfl ?_
      exact eX15_paintPlane_59  _ _ _ _ h
    · rw [if_neg c92] at h
      refine EV.aload_n 0 dX15_paintPlane_35 rfl rfl ?_
      obtain ⟨v93, gv93, h⟩ := px_bs h
      refine ev_gR dX15_paintPlane_36 flRX15_104 gv93 ?_
      refine EV.iload_n 2 dX15_paintPlane_39 rfl rfl ?_
      refine EV.aload_n 0 dX15_paintPlane_40 rfl rfl ?_
      obtain ⟨v94, gv94, h⟩ := px_bs h
      refine ev_gR dX15_paintPlane_41 flRX15_95 gv94 ?_
      refine EV.sipush (1024) dX15_paintPlane_44 (by decide) ?_
      refine EV.iload_n 1 dX15_paintPlane_47 rfl rfl ?_
      refine EV.imul dX15_paintPlane_48 ?_
      refine EV.iload_n 2 dX15_paintPlane_49 rfl rfl ?_
      refine EV.iadd dX15_paintPlane_50 ?_
      obtain ⟨v95, gv95, h⟩ := px_bs h
      refine ev_aI dX15_paintPlane_51 gv95 ?_
      obtain ⟨w96, gw96, h⟩ := px_bs h
      refine ev_sI dX15_paintPlane_52 gw96 ?_
      refine EV.iinc 2 (a2 + 1) [(2, .int (a2 + 1)), (0, .ref a0), (1, .int a1)] dX15_paintPlane_53 rfl rfl (by decide) rfl ?_
      refine EV.goto 22 dX15_paintPlane_56 (by decide) ?_
      refine EV.sub [1, 2, 0] rfl ?_
      exact ih _ _ _ _ _ h
set_option maxRecDepth 100000 in
set_option maxHeartbeats 4000000 in
theorem eX15_paintPlane {X : px_X} {w : px_W} {a0 : Nat} {a1 : Int32} {q : px_W} (h : fX15_paintPlane X w a0 a1 = some q) : EV X mX15_paintPlane 0 (lv_args 0 [.ref a0, .int a1]) [] w none q := by
  unfold fX15_paintPlane at h
  show EV X mX15_paintPlane 0 [(0, .ref a0), (1, .int a1)] [] w none q
  refine EV.aload_n 0 dX15_paintPlane_0 rfl rfl ?_
  refine EV.aload_n 0 dX15_paintPlane_1 rfl rfl ?_
  obtain ⟨v97, gv97, h⟩ := px_bs h
  refine ev_gR dX15_paintPlane_2 flRX15_98 gv97 ?_
  refine EV.iload_n 1 dX15_paintPlane_5 rfl rfl ?_
  obtain ⟨v98, gv98, h⟩ := px_bs h
  refine ev_aI dX15_paintPlane_6 gv98 ?_
  obtain ⟨w99, gw99, h⟩ := px_bs h
  refine ev_pV dX15_paintPlane_7 flRX15_333 rfl rfl rfl rfl gw99 ?_
  refine EV.aload_n 0 dX15_paintPlane_10 rfl rfl ?_
  refine EV.aload_n 0 dX15_paintPlane_11 rfl rfl ?_
  obtain ⟨v100, gv100, h⟩ := px_bs h
  refine ev_gR dX15_paintPlane_12 flRX15_101 gv100 ?_
  refine EV.iload_n 1 dX15_paintPlane_15 rfl rfl ?_
  obtain ⟨v101, gv101, h⟩ := px_bs h
  refine ev_aI dX15_paintPlane_16 gv101 ?_
  obtain ⟨w102, gw102, h⟩ := px_bs h
  refine ev_pV dX15_paintPlane_17 flRX15_350 rfl rfl rfl rfl gw102 ?_
  refine EV.iconst (0) dX15_paintPlane_20 (by decide) ?_
  refine EV.istore_n [(2, .int 0), (0, .ref a0), (1, .int a1)] dX15_paintPlane_21 rfl (by decide) rfl ?_
  refine EV.sub [1, 2, 0] rfl ?_
  exact eX15_paintPlane_22  FU _ _ _ _ _ h
/-! WavePicturesModel.paintFrom(IIIII)Z -/
theorem dX15_paintFrom_0 : decode cX15_paintFrom 0 = .ok (.iload_n 1, 1) := by decide +kernel
theorem dX15_paintFrom_1 : decode cX15_paintFrom 1 = .ok (.ifCond .le 69, 3) := by decide +kernel
theorem dX15_paintFrom_4 : decode cX15_paintFrom 4 = .ok (.iload_n 1, 1) := by decide +kernel
theorem dX15_paintFrom_5 : decode cX15_paintFrom 5 = .ok (.bipush 33, 2) := by decide +kernel
theorem dX15_paintFrom_7 : decode cX15_paintFrom 7 = .ok (.if_icmp .ge 63, 3) := by decide +kernel
theorem dX15_paintFrom_10 : decode cX15_paintFrom 10 = .ok (.iload_n 2, 1) := by decide +kernel
theorem dX15_paintFrom_11 : decode cX15_paintFrom 11 = .ok (.ifCond .le 59, 3) := by decide +kernel
theorem dX15_paintFrom_14 : decode cX15_paintFrom 14 = .ok (.iload_n 2, 1) := by decide +kernel
theorem dX15_paintFrom_15 : decode cX15_paintFrom 15 = .ok (.bipush 33, 2) := by decide +kernel
theorem dX15_paintFrom_17 : decode cX15_paintFrom 17 = .ok (.if_icmp .ge 53, 3) := by decide +kernel
theorem dX15_paintFrom_20 : decode cX15_paintFrom 20 = .ok (.iload_n 3, 1) := by decide +kernel
theorem dX15_paintFrom_21 : decode cX15_paintFrom 21 = .ok (.ifCond .le 49, 3) := by decide +kernel
theorem dX15_paintFrom_24 : decode cX15_paintFrom 24 = .ok (.iload_n 3, 1) := by decide +kernel
theorem dX15_paintFrom_25 : decode cX15_paintFrom 25 = .ok (.iconst 5, 1) := by decide +kernel
theorem dX15_paintFrom_26 : decode cX15_paintFrom 26 = .ok (.if_icmp .ge 44, 3) := by decide +kernel
theorem dX15_paintFrom_29 : decode cX15_paintFrom 29 = .ok (.iload 5, 2) := by decide +kernel
theorem dX15_paintFrom_31 : decode cX15_paintFrom 31 = .ok (.ifCond .le 39, 3) := by decide +kernel
theorem dX15_paintFrom_34 : decode cX15_paintFrom 34 = .ok (.iload 5, 2) := by decide +kernel
theorem dX15_paintFrom_36 : decode cX15_paintFrom 36 = .ok (.sipush 5001, 3) := by decide +kernel
theorem dX15_paintFrom_39 : decode cX15_paintFrom 39 = .ok (.if_icmp .ge 31, 3) := by decide +kernel
theorem dX15_paintFrom_42 : decode cX15_paintFrom 42 = .ok (.iload 4, 2) := by decide +kernel
theorem dX15_paintFrom_44 : decode cX15_paintFrom 44 = .ok (.ifCond .lt 26, 3) := by decide +kernel
theorem dX15_paintFrom_47 : decode cX15_paintFrom 47 = .ok (.iload 4, 2) := by decide +kernel
theorem dX15_paintFrom_49 : decode cX15_paintFrom 49 = .ok (.iconst 1, 1) := by decide +kernel
theorem dX15_paintFrom_50 : decode cX15_paintFrom 50 = .ok (.iconst 2, 1) := by decide +kernel
theorem dX15_paintFrom_51 : decode cX15_paintFrom 51 = .ok (.iload_n 3, 1) := by decide +kernel
theorem dX15_paintFrom_52 : decode cX15_paintFrom 52 = .ok (.iconst 5, 1) := by decide +kernel
theorem dX15_paintFrom_53 : decode cX15_paintFrom 53 = .ok (.if_icmp .ge 7, 3) := by decide +kernel
theorem dX15_paintFrom_56 : decode cX15_paintFrom 56 = .ok (.iload_n 3, 1) := by decide +kernel
theorem dX15_paintFrom_57 : decode cX15_paintFrom 57 = .ok (.goto 4, 3) := by decide +kernel
theorem dX15_paintFrom_60 : decode cX15_paintFrom 60 = .ok (.iconst 4, 1) := by decide +kernel
theorem dX15_paintFrom_61 : decode cX15_paintFrom 61 = .ok (.imul, 1) := by decide +kernel
theorem dX15_paintFrom_62 : decode cX15_paintFrom 62 = .ok (.ishl, 1) := by decide +kernel
theorem dX15_paintFrom_63 : decode cX15_paintFrom 63 = .ok (.if_icmp .ge 7, 3) := by decide +kernel
theorem dX15_paintFrom_66 : decode cX15_paintFrom 66 = .ok (.iconst 1, 1) := by decide +kernel
theorem dX15_paintFrom_67 : decode cX15_paintFrom 67 = .ok (.goto 4, 3) := by decide +kernel
theorem dX15_paintFrom_70 : decode cX15_paintFrom 70 = .ok (.iconst 0, 1) := by decide +kernel
theorem dX15_paintFrom_71 : decode cX15_paintFrom 71 = .ok (.istore 6, 2) := by decide +kernel
theorem dX15_paintFrom_73 : decode cX15_paintFrom 73 = .ok (.iconst 0, 1) := by decide +kernel
theorem dX15_paintFrom_74 : decode cX15_paintFrom 74 = .ok (.istore 7, 2) := by decide +kernel
theorem dX15_paintFrom_76 : decode cX15_paintFrom 76 = .ok (.iload 7, 2) := by decide +kernel
theorem dX15_paintFrom_78 : decode cX15_paintFrom 78 = .ok (.iload_n 3, 1) := by decide +kernel
theorem dX15_paintFrom_79 : decode cX15_paintFrom 79 = .ok (.if_icmp .ge 43, 3) := by decide +kernel
theorem dX15_paintFrom_82 : decode cX15_paintFrom 82 = .ok (.iload 6, 2) := by decide +kernel
theorem dX15_paintFrom_84 : decode cX15_paintFrom 84 = .ok (.ifCond .eq 38, 3) := by decide +kernel
theorem dX15_paintFrom_87 : decode cX15_paintFrom 87 = .ok (.aload_n 0, 1) := by decide +kernel
theorem dX15_paintFrom_88 : decode cX15_paintFrom 88 = .ok (.getfield 98, 3) := by decide +kernel
theorem dX15_paintFrom_91 : decode cX15_paintFrom 91 = .ok (.iload 7, 2) := by decide +kernel
theorem dX15_paintFrom_93 : decode cX15_paintFrom 93 = .ok (.iaload, 1) := by decide +kernel
theorem dX15_paintFrom_94 : decode cX15_paintFrom 94 = .ok (.iload_n 1, 1) := by decide +kernel
theorem dX15_paintFrom_95 : decode cX15_paintFrom 95 = .ok (.if_icmp .ne 18, 3) := by decide +kernel
theorem dX15_paintFrom_98 : decode cX15_paintFrom 98 = .ok (.aload_n 0, 1) := by decide +kernel
theorem dX15_paintFrom_99 : decode cX15_paintFrom 99 = .ok (.getfield 101, 3) := by decide +kernel
theorem dX15_paintFrom_102 : decode cX15_paintFrom 102 = .ok (.iload 7, 2) := by decide +kernel
theorem dX15_paintFrom_104 : decode cX15_paintFrom 104 = .ok (.iaload, 1) := by decide +kernel
theorem dX15_paintFrom_105 : decode cX15_paintFrom 105 = .ok (.iload_n 2, 1) := by decide +kernel
theorem dX15_paintFrom_106 : decode cX15_paintFrom 106 = .ok (.if_icmp .ne 7, 3) := by decide +kernel
theorem dX15_paintFrom_109 : decode cX15_paintFrom 109 = .ok (.iconst 1, 1) := by decide +kernel
theorem dX15_paintFrom_110 : decode cX15_paintFrom 110 = .ok (.goto 4, 3) := by decide +kernel
theorem dX15_paintFrom_113 : decode cX15_paintFrom 113 = .ok (.iconst 0, 1) := by decide +kernel
theorem dX15_paintFrom_114 : decode cX15_paintFrom 114 = .ok (.istore 6, 2) := by decide +kernel
theorem dX15_paintFrom_116 : decode cX15_paintFrom 116 = .ok (.iinc 7 1, 3) := by decide +kernel
theorem dX15_paintFrom_119 : decode cX15_paintFrom 119 = .ok (.goto (-43), 3) := by decide +kernel
theorem dX15_paintFrom_122 : decode cX15_paintFrom 122 = .ok (.iload 6, 2) := by decide +kernel
theorem dX15_paintFrom_124 : decode cX15_paintFrom 124 = .ok (.ifCond .ne 5, 3) := by decide +kernel
theorem dX15_paintFrom_127 : decode cX15_paintFrom 127 = .ok (.iconst 0, 1) := by decide +kernel
theorem dX15_paintFrom_128 : decode cX15_paintFrom 128 = .ok (.ireturn, 1) := by decide +kernel
theorem dX15_paintFrom_129 : decode cX15_paintFrom 129 = .ok (.aload_n 0, 1) := by decide +kernel
theorem dX15_paintFrom_130 : decode cX15_paintFrom 130 = .ok (.iconst 1, 1) := by decide +kernel
theorem dX15_paintFrom_131 : decode cX15_paintFrom 131 = .ok (.putfield 235, 3) := by decide +kernel
theorem dX15_paintFrom_134 : decode cX15_paintFrom 134 = .ok (.aload_n 0, 1) := by decide +kernel
theorem dX15_paintFrom_135 : decode cX15_paintFrom 135 = .ok (.iload_n 1, 1) := by decide +kernel
theorem dX15_paintFrom_136 : decode cX15_paintFrom 136 = .ok (.putfield 129, 3) := by decide +kernel
theorem dX15_paintFrom_139 : decode cX15_paintFrom 139 = .ok (.aload_n 0, 1) := by decide +kernel
theorem dX15_paintFrom_140 : decode cX15_paintFrom 140 = .ok (.iload_n 2, 1) := by decide +kernel
theorem dX15_paintFrom_141 : decode cX15_paintFrom 141 = .ok (.putfield 139, 3) := by decide +kernel
theorem dX15_paintFrom_144 : decode cX15_paintFrom 144 = .ok (.aload_n 0, 1) := by decide +kernel
theorem dX15_paintFrom_145 : decode cX15_paintFrom 145 = .ok (.iload_n 3, 1) := by decide +kernel
theorem dX15_paintFrom_146 : decode cX15_paintFrom 146 = .ok (.putfield 126, 3) := by decide +kernel
theorem dX15_paintFrom_149 : decode cX15_paintFrom 149 = .ok (.iconst 0, 1) := by decide +kernel
theorem dX15_paintFrom_150 : decode cX15_paintFrom 150 = .ok (.istore 7, 2) := by decide +kernel
theorem dX15_paintFrom_152 : decode cX15_paintFrom 152 = .ok (.iload 7, 2) := by decide +kernel
theorem dX15_paintFrom_154 : decode cX15_paintFrom 154 = .ok (.iload_n 3, 1) := by decide +kernel
theorem dX15_paintFrom_155 : decode cX15_paintFrom 155 = .ok (.if_icmp .ge 47, 3) := by decide +kernel
theorem dX15_paintFrom_158 : decode cX15_paintFrom 158 = .ok (.aload_n 0, 1) := by decide +kernel
theorem dX15_paintFrom_159 : decode cX15_paintFrom 159 = .ok (.getfield 52, 3) := by decide +kernel
theorem dX15_paintFrom_162 : decode cX15_paintFrom 162 = .ok (.iload 7, 2) := by decide +kernel
theorem dX15_paintFrom_164 : decode cX15_paintFrom 164 = .ok (.iconst 1, 1) := by decide +kernel
theorem dX15_paintFrom_165 : decode cX15_paintFrom 165 = .ok (.iload 4, 2) := by decide +kernel
theorem dX15_paintFrom_167 : decode cX15_paintFrom 167 = .ok (.iconst 2, 1) := by decide +kernel
theorem dX15_paintFrom_168 : decode cX15_paintFrom 168 = .ok (.iload 7, 2) := by decide +kernel
theorem dX15_paintFrom_170 : decode cX15_paintFrom 170 = .ok (.imul, 1) := by decide +kernel
theorem dX15_paintFrom_171 : decode cX15_paintFrom 171 = .ok (.ishr, 1) := by decide +kernel
theorem dX15_paintFrom_172 : decode cX15_paintFrom 172 = .ok (.iconst 1, 1) := by decide +kernel
theorem dX15_paintFrom_173 : decode cX15_paintFrom 173 = .ok (.iand, 1) := by decide +kernel
theorem dX15_paintFrom_174 : decode cX15_paintFrom 174 = .ok (.iadd, 1) := by decide +kernel
theorem dX15_paintFrom_175 : decode cX15_paintFrom 175 = .ok (.iastore, 1) := by decide +kernel
theorem dX15_paintFrom_176 : decode cX15_paintFrom 176 = .ok (.aload_n 0, 1) := by decide +kernel
theorem dX15_paintFrom_177 : decode cX15_paintFrom 177 = .ok (.getfield 55, 3) := by decide +kernel
theorem dX15_paintFrom_180 : decode cX15_paintFrom 180 = .ok (.iload 7, 2) := by decide +kernel
theorem dX15_paintFrom_182 : decode cX15_paintFrom 182 = .ok (.iconst 1, 1) := by decide +kernel
theorem dX15_paintFrom_183 : decode cX15_paintFrom 183 = .ok (.iload 4, 2) := by decide +kernel
theorem dX15_paintFrom_185 : decode cX15_paintFrom 185 = .ok (.iconst 2, 1) := by decide +kernel
theorem dX15_paintFrom_186 : decode cX15_paintFrom 186 = .ok (.iload 7, 2) := by decide +kernel
theorem dX15_paintFrom_188 : decode cX15_paintFrom 188 = .ok (.imul, 1) := by decide +kernel
theorem dX15_paintFrom_189 : decode cX15_paintFrom 189 = .ok (.iconst 1, 1) := by decide +kernel
theorem dX15_paintFrom_190 : decode cX15_paintFrom 190 = .ok (.iadd, 1) := by decide +kernel
theorem dX15_paintFrom_191 : decode cX15_paintFrom 191 = .ok (.ishr, 1) := by decide +kernel
theorem dX15_paintFrom_192 : decode cX15_paintFrom 192 = .ok (.iconst 1, 1) := by decide +kernel
theorem dX15_paintFrom_193 : decode cX15_paintFrom 193 = .ok (.iand, 1) := by decide +kernel
theorem dX15_paintFrom_194 : decode cX15_paintFrom 194 = .ok (.iadd, 1) := by decide +kernel
theorem dX15_paintFrom_195 : decode cX15_paintFrom 195 = .ok (.iastore, 1) := by decide +kernel
theorem dX15_paintFrom_196 : decode cX15_paintFrom 196 = .ok (.iinc 7 1, 3) := by decide +kernel
theorem dX15_paintFrom_199 : decode cX15_paintFrom 199 = .ok (.goto (-47), 3) := by decide +kernel
theorem dX15_paintFrom_202 : decode cX15_paintFrom 202 = .ok (.aload_n 0, 1) := by decide +kernel
theorem dX15_paintFrom_203 : decode cX15_paintFrom 203 = .ok (.invokevirtual 239, 3) := by decide +kernel
theorem dX15_paintFrom_206 : decode cX15_paintFrom 206 = .ok (.iconst 0, 1) := by decide +kernel
theorem dX15_paintFrom_207 : decode cX15_paintFrom 207 = .ok (.istore 7, 2) := by decide +kernel
theorem dX15_paintFrom_209 : decode cX15_paintFrom 209 = .ok (.iload 7, 2) := by decide +kernel
theorem dX15_paintFrom_211 : decode cX15_paintFrom 211 = .ok (.sipush 12288, 3) := by decide +kernel
theorem dX15_paintFrom_214 : decode cX15_paintFrom 214 = .ok (.if_icmp .ge 17, 3) := by decide +kernel
theorem dX15_paintFrom_217 : decode cX15_paintFrom 217 = .ok (.aload_n 0, 1) := by decide +kernel
theorem dX15_paintFrom_218 : decode cX15_paintFrom 218 = .ok (.getfield 70, 3) := by decide +kernel
theorem dX15_paintFrom_221 : decode cX15_paintFrom 221 = .ok (.iload 7, 2) := by decide +kernel
theorem dX15_paintFrom_223 : decode cX15_paintFrom 223 = .ok (.iconst 0, 1) := by decide +kernel
theorem dX15_paintFrom_224 : decode cX15_paintFrom 224 = .ok (.sastore, 1) := by decide +kernel
theorem dX15_paintFrom_225 : decode cX15_paintFrom 225 = .ok (.iinc 7 1, 3) := by decide +kernel
theorem dX15_paintFrom_228 : decode cX15_paintFrom 228 = .ok (.goto (-19), 3) := by decide +kernel
theorem dX15_paintFrom_231 : decode cX15_paintFrom 231 = .ok (.iconst 0, 1) := by decide +kernel
theorem dX15_paintFrom_232 : decode cX15_paintFrom 232 = .ok (.istore 7, 2) := by decide +kernel
theorem dX15_paintFrom_234 : decode cX15_paintFrom 234 = .ok (.iload 7, 2) := by decide +kernel
theorem dX15_paintFrom_236 : decode cX15_paintFrom 236 = .ok (.iload_n 3, 1) := by decide +kernel
theorem dX15_paintFrom_237 : decode cX15_paintFrom 237 = .ok (.if_icmp .ge 122, 3) := by decide +kernel
theorem dX15_paintFrom_240 : decode cX15_paintFrom 240 = .ok (.iconst 0, 1) := by decide +kernel
theorem dX15_paintFrom_241 : decode cX15_paintFrom 241 = .ok (.istore 8, 2) := by decide +kernel
theorem dX15_paintFrom_243 : decode cX15_paintFrom 243 = .ok (.iload 8, 2) := by decide +kernel
theorem dX15_paintFrom_245 : decode cX15_paintFrom 245 = .ok (.bipush 64, 2) := by decide +kernel
theorem dX15_paintFrom_247 : decode cX15_paintFrom 247 = .ok (.if_icmp .ge 100, 3) := by decide +kernel
theorem dX15_paintFrom_250 : decode cX15_paintFrom 250 = .ok (.iload 7, 2) := by decide +kernel
theorem dX15_paintFrom_252 : decode cX15_paintFrom 252 = .ok (.ifCond .ne 8, 3) := by decide +kernel
theorem dX15_paintFrom_255 : decode cX15_paintFrom 255 = .ok (.bipush 16, 2) := by decide +kernel
theorem dX15_paintFrom_257 : decode cX15_paintFrom 257 = .ok (.goto 5, 3) := by decide +kernel
theorem dX15_paintFrom_260 : decode cX15_paintFrom 260 = .ok (.bipush 17, 2) := by decide +kernel
theorem dX15_paintFrom_262 : decode cX15_paintFrom 262 = .ok (.iload 7, 2) := by decide +kernel
theorem dX15_paintFrom_264 : decode cX15_paintFrom 264 = .ok (.ifCond .ne 8, 3) := by decide +kernel
theorem dX15_paintFrom_267 : decode cX15_paintFrom 267 = .ok (.bipush 6, 2) := by decide +kernel
theorem dX15_paintFrom_269 : decode cX15_paintFrom 269 = .ok (.goto 5, 3) := by decide +kernel
theorem dX15_paintFrom_272 : decode cX15_paintFrom 272 = .ok (.bipush 10, 2) := by decide +kernel
theorem dX15_paintFrom_274 : decode cX15_paintFrom 274 = .ok (.aload_n 0, 1) := by decide +kernel
theorem dX15_paintFrom_275 : decode cX15_paintFrom 275 = .ok (.getfield 86, 3) := by decide +kernel
theorem dX15_paintFrom_278 : decode cX15_paintFrom 278 = .ok (.iload 8, 2) := by decide +kernel
theorem dX15_paintFrom_280 : decode cX15_paintFrom 280 = .ok (.iaload, 1) := by decide +kernel
theorem dX15_paintFrom_281 : decode cX15_paintFrom 281 = .ok (.aload_n 0, 1) := by decide +kernel
theorem dX15_paintFrom_282 : decode cX15_paintFrom 282 = .ok (.getfield 89, 3) := by decide +kernel
theorem dX15_paintFrom_285 : decode cX15_paintFrom 285 = .ok (.iload 8, 2) := by decide +kernel
theorem dX15_paintFrom_287 : decode cX15_paintFrom 287 = .ok (.iaload, 1) := by decide +kernel
theorem dX15_paintFrom_288 : decode cX15_paintFrom 288 = .ok (.iadd, 1) := by decide +kernel
theorem dX15_paintFrom_289 : decode cX15_paintFrom 289 = .ok (.imul, 1) := by decide +kernel
theorem dX15_paintFrom_290 : decode cX15_paintFrom 290 = .ok (.iadd, 1) := by decide +kernel
theorem dX15_paintFrom_291 : decode cX15_paintFrom 291 = .ok (.iload 5, 2) := by decide +kernel
theorem dX15_paintFrom_293 : decode cX15_paintFrom 293 = .ok (.imul, 1) := by decide +kernel
theorem dX15_paintFrom_294 : decode cX15_paintFrom 294 = .ok (.bipush 50, 2) := by decide +kernel
theorem dX15_paintFrom_296 : decode cX15_paintFrom 296 = .ok (.iadd, 1) := by decide +kernel
theorem dX15_paintFrom_297 : decode cX15_paintFrom 297 = .ok (.bipush 100, 2) := by decide +kernel
theorem dX15_paintFrom_299 : decode cX15_paintFrom 299 = .ok (.idiv, 1) := by decide +kernel
theorem dX15_paintFrom_300 : decode cX15_paintFrom 300 = .ok (.istore 9, 2) := by decide +kernel
theorem dX15_paintFrom_302 : decode cX15_paintFrom 302 = .ok (.aload_n 0, 1) := by decide +kernel
theorem dX15_paintFrom_303 : decode cX15_paintFrom 303 = .ok (.getfield 67, 3) := by decide +kernel
theorem dX15_paintFrom_306 : decode cX15_paintFrom 306 = .ok (.bipush 64, 2) := by decide +kernel
theorem dX15_paintFrom_308 : decode cX15_paintFrom 308 = .ok (.iload 7, 2) := by decide +kernel
theorem dX15_paintFrom_310 : decode cX15_paintFrom 310 = .ok (.imul, 1) := by decide +kernel
theorem dX15_paintFrom_311 : decode cX15_paintFrom 311 = .ok (.iload 8, 2) := by decide +kernel
theorem dX15_paintFrom_313 : decode cX15_paintFrom 313 = .ok (.iadd, 1) := by decide +kernel
theorem dX15_paintFrom_314 : decode cX15_paintFrom 314 = .ok (.iload 9, 2) := by decide +kernel
theorem dX15_paintFrom_316 : decode cX15_paintFrom 316 = .ok (.iconst 1, 1) := by decide +kernel
theorem dX15_paintFrom_317 : decode cX15_paintFrom 317 = .ok (.if_icmp .ge 7, 3) := by decide +kernel
theorem dX15_paintFrom_320 : decode cX15_paintFrom 320 = .ok (.iconst 1, 1) := by decide +kernel
theorem dX15_paintFrom_321 : decode cX15_paintFrom 321 = .ok (.goto 19, 3) := by decide +kernel
theorem dX15_paintFrom_324 : decode cX15_paintFrom 324 = .ok (.iload 9, 2) := by decide +kernel
theorem dX15_paintFrom_326 : decode cX15_paintFrom 326 = .ok (.sipush 255, 3) := by decide +kernel
theorem dX15_paintFrom_329 : decode cX15_paintFrom 329 = .ok (.if_icmp .le 9, 3) := by decide +kernel
theorem dX15_paintFrom_332 : decode cX15_paintFrom 332 = .ok (.sipush 255, 3) := by decide +kernel
theorem dX15_paintFrom_335 : decode cX15_paintFrom 335 = .ok (.goto 5, 3) := by decide +kernel
theorem dX15_paintFrom_338 : decode cX15_paintFrom 338 = .ok (.iload 9, 2) := by decide +kernel
theorem dX15_paintFrom_340 : decode cX15_paintFrom 340 = .ok (.iastore, 1) := by decide +kernel
theorem dX15_paintFrom_341 : decode cX15_paintFrom 341 = .ok (.iinc 8 1, 3) := by decide +kernel
theorem dX15_paintFrom_344 : decode cX15_paintFrom 344 = .ok (.goto (-101), 3) := by decide +kernel
theorem dX15_paintFrom_347 : decode cX15_paintFrom 347 = .ok (.aload_n 0, 1) := by decide +kernel
theorem dX15_paintFrom_348 : decode cX15_paintFrom 348 = .ok (.iload 7, 2) := by decide +kernel
theorem dX15_paintFrom_350 : decode cX15_paintFrom 350 = .ok (.invokevirtual 359, 3) := by decide +kernel
theorem dX15_paintFrom_353 : decode cX15_paintFrom 353 = .ok (.iinc 7 1, 3) := by decide +kernel
theorem dX15_paintFrom_356 : decode cX15_paintFrom 356 = .ok (.goto (-122), 3) := by decide +kernel
theorem dX15_paintFrom_359 : decode cX15_paintFrom 359 = .ok (.iconst 1, 1) := by decide +kernel
theorem dX15_paintFrom_360 : decode cX15_paintFrom 360 = .ok (.ireturn, 1) := by decide +kernel
theorem kcX15_paintFrom_239 : px_cV mX15_paintFrom 239 mX15_layOut 0 := ⟨⟨mbX15_layOut, by decide, by decide⟩, Or.inl (tb9 (List.mem_of_getElem? (i := 111) rfl)), vbX15_layOut⟩
theorem mbX15_paintPlane : px_mB mX15_paintPlane 1 := ⟨tb10 (List.mem_of_getElem? (i := 20) rfl), by decide +kernel, tb1 (List.mem_of_getElem? (i := 13) rfl), by decide +kernel, by decide +kernel⟩
theorem vbX15_paintPlane : px_vB mX15_paintPlane := ⟨tb10 (List.mem_of_getElem? (i := 19) rfl), List.mem_append_left _ (List.mem_of_getElem? (i := 162) (by decide +kernel))⟩
theorem kcX15_paintFrom_359 : px_cV mX15_paintFrom 359 mX15_paintPlane 1 := ⟨⟨mbX15_paintPlane, by decide, by decide⟩, Or.inl (tb10 (List.mem_of_getElem? (i := 17) rfl)), vbX15_paintPlane⟩
set_option maxRecDepth 100000 in
set_option maxHeartbeats 4000000 in
theorem eX15_paintFrom_114 {X : px_X} {k76 : Nat → Int32 → Int32 → Int32 → Int32 → Int32 → Int32 → Int32 → px_W → Option (Int32 × px_W)} (hk76 : ∀ (a0 : Nat) (a1 : Int32) (a2 : Int32) (a3 : Int32) (a4 : Int32) (a5 : Int32) (a6 : Int32) (a7 : Int32) (w : px_W) (q : Int32 × px_W), k76 a0 a1 a2 a3 a4 a5 a6 a7 w = some q → EV X mX15_paintFrom 76 [(0, .ref a0), (1, .int a1), (2, .int a2), (3, .int a3), (4, .int a4), (5, .int a5), (6, .int a6), (7, .int a7)] [] w (some (.int q.1)) q.2) : ∀ (a0 : Nat) (a1 : Int32) (a2 : Int32) (a3 : Int32) (a4 : Int32) (a5 : Int32) (a7 : Int32) (s0 : Int32) (w : px_W) (q : Int32 × px_W), fX15_paintFrom_114 X k76 a0 a1 a2 a3 a4 a5 a7 s0 w = some q → EV X mX15_paintFrom 114 [(0, .ref a0), (1, .int a1), (2, .int a2), (3, .int a3), (4, .int a4), (5, .int a5), (7, .int a7)] [.int s0] w (some (.int q.1)) q.2 := by
  intro a0 a1 a2 a3 a4 a5 a7 s0 w q h
  unfold fX15_paintFrom_114 at h
  refine EV.istore [(6, .int s0), (0, .ref a0), (1, .int a1), (2, .int a2), (3, .int a3), (4, .int a4), (5, .int a5), (7, .int a7)] dX15_paintFrom_114 (by decide) rfl ?_
  refine EV.iinc 7 (a7 + 1) [(7, .int (a7 + 1)), (6, .int s0), (0, .ref a0), (1, .int a1), (2, .int a2), (3, .int a3), (4, .int a4), (5, .int a5)] dX15_paintFrom_116 rfl rfl (by decide) rfl ?_
  refine EV.goto 76 dX15_paintFrom_119 (by decide) ?_
  refine EV.sub [2, 3, 4, 5, 6, 7, 1, 0] rfl ?_
  exact hk76 _ _ _ _ _ _ _ _ _ _ h
set_option maxRecDepth 100000 in
set_option maxHeartbeats 4000000 in
theorem eX15_paintFrom_113 {X : px_X} {k76 : Nat → Int32 → Int32 → Int32 → Int32 → Int32 → Int32 → Int32 → px_W → Option (Int32 × px_W)} (hk76 : ∀ (a0 : Nat) (a1 : Int32) (a2 : Int32) (a3 : Int32) (a4 : Int32) (a5 : Int32) (a6 : Int32) (a7 : Int32) (w : px_W) (q : Int32 × px_W), k76 a0 a1 a2 a3 a4 a5 a6 a7 w = some q → EV X mX15_paintFrom 76 [(0, .ref a0), (1, .int a1), (2, .int a2), (3, .int a3), (4, .int a4), (5, .int a5), (6, .int a6), (7, .int a7)] [] w (some (.int q.1)) q.2) : ∀ (a0 : Nat) (a1 : Int32) (a2 : Int32) (a3 : Int32) (a4 : Int32) (a5 : Int32) (a7 : Int32) (w : px_W) (q : Int32 × px_W), fX15_paintFrom_113 X k76 a0 a1 a2 a3 a4 a5 a7 w = some q → EV X mX15_paintFrom 113 [(0, .ref a0), (1, .int a1), (2, .int a2), (3, .int a3), (4, .int a4), (5, .int a5), (7, .int a7)] [] w (some (.int q.1)) q.2 := by
  intro a0 a1 a2 a3 a4 a5 a7 w q h
  unfold fX15_paintFrom_113 at h
  refine EV.iconst (0) dX15_paintFrom_113 (by decide) ?_
  refine EV.sub [0, 1, 2, 3, 4, 5, 6] rfl ?_
  exact eX15_paintFrom_114 hk76 _ _ _ _ _ _ _ _ _ _ h
set_option maxRecDepth 100000 in
set_option maxHeartbeats 4000000 in
theorem eX15_paintFrom_347 {X : px_X} {k234 : Nat → Int32 → Int32 → Int32 → px_W → Option (Int32 × px_W)} (hk234 : ∀ (a0 : Nat) (a3 : Int32) (a5 : Int32) (a7 : Int32) (w : px_W) (q : Int32 × px_W), k234 a0 a3 a5 a7 w = some q → EV X mX15_paintFrom 234 [(0, .ref a0), (3, .int a3), (5, .int a5), (7, .int a7)] [] w (some (.int q.1)) q.2) : ∀ (a0 : Nat) (a3 : Int32) (a5 : Int32) (a7 : Int32) (w : px_W) (q : Int32 × px_W), fX15_paintFrom_347 X k234 a0 a3 a5 a7 w = some q → EV X mX15_paintFrom 347 [(0, .ref a0), (3, .int a3), (5, .int a5), (7, .int a7)] [] w (some (.int q.1)) q.2 := by
  intro a0 a3 a5 a7 w q h
  unfold fX15_paintFrom_347 at h
  refine EV.aload_n 0 dX15_paintFrom_347 rfl rfl ?_
  refine EV.iload 3 dX15_paintFrom_348 rfl ?_
  obtain ⟨o26, go26, h⟩ := px_bs h
  obtain ⟨q27, gq27, h⟩ := px_bs h
  refine EV.callV (As := [.int a7]) (rest := []) dX15_paintFrom_350 kcX15_paintFrom_359 (gO_ok go26) rfl rfl rfl (Nat.le_of_ble_eq_true rfl) (Nat.le_of_ble_eq_true rfl) (eX15_paintPlane gq27) ?_
  refine EV.iinc 3 (a7 + 1) [(7, .int (a7 + 1)), (0, .ref a0), (3, .int a3), (5, .int a5)] dX15_paintFrom_353 rfl rfl (by decide) rfl ?_
  refine EV.goto 234 dX15_paintFrom_356 (by decide) ?_
  refine EV.sub [1, 2, 3, 0] rfl ?_
  exact hk234 _ _ _ _ _ _ h
set_option maxRecDepth 100000 in
set_option maxHeartbeats 4000000 in
theorem eX15_paintFrom_340 {X : px_X} {k234 : Nat → Int32 → Int32 → Int32 → px_W → Option (Int32 × px_W)} (hk234 : ∀ (a0 : Nat) (a3 : Int32) (a5 : Int32) (a7 : Int32) (w : px_W) (q : Int32 × px_W), k234 a0 a3 a5 a7 w = some q → EV X mX15_paintFrom 234 [(0, .ref a0), (3, .int a3), (5, .int a5), (7, .int a7)] [] w (some (.int q.1)) q.2) {k243 : Nat → Int32 → Int32 → Int32 → Int32 → px_W → Option (Int32 × px_W)} (hk243 : ∀ (a0 : Nat) (a3 : Int32) (a5 : Int32) (a7 : Int32) (a8 : Int32) (w : px_W) (q : Int32 × px_W), k243 a0 a3 a5 a7 a8 w = some q → EV X mX15_paintFrom 243 [(0, .ref a0), (3, .int a3), (5, .int a5), (7, .int a7), (8, .int a8)] [] w (some (.int q.1)) q.2) : ∀ (a0 : Nat) (a3 : Int32) (a5 : Int32) (a7 : Int32) (a8 : Int32) (s0 : Int32) (s1 : Int32) (s2 : Nat) (w : px_W) (q : Int32 × px_W), fX15_paintFrom_340 X k234 k243 a0 a3 a5 a7 a8 s0 s1 s2 w = some q → EV X mX15_paintFrom 340 [(0, .ref a0), (3, .int a3), (5, .int a5), (7, .int a7), (8, .int a8)] [.int s0, .int s1, .ref s2] w (some (.int q.1)) q.2 := by
  intro a0 a3 a5 a7 a8 s0 s1 s2 w q h
  unfold fX15_paintFrom_340 at h
  obtain ⟨w28, gw28, h⟩ := px_bs h
  refine ev_sI dX15_paintFrom_340 gw28 ?_
  refine EV.iinc 4 (a8 + 1) [(8, .int (a8 + 1)), (0, .ref a0), (3, .int a3), (5, .int a5), (7, .int a7)] dX15_paintFrom_341 rfl rfl (by decide) rfl ?_
  refine EV.goto 243 dX15_paintFrom_344 (by decide) ?_
  refine EV.sub [1, 2, 3, 4, 0] rfl ?_
  exact hk243 _ _ _ _ _ _ _ h
set_option maxRecDepth 100000 in
set_option maxHeartbeats 4000000 in
theorem eX15_paintFrom_274 {X : px_X} {k234 : Nat → Int32 → Int32 → Int32 → px_W → Option (Int32 × px_W)} (hk234 : ∀ (a0 : Nat) (a3 : Int32) (a5 : Int32) (a7 : Int32) (w : px_W) (q : Int32 × px_W), k234 a0 a3 a5 a7 w = some q → EV X mX15_paintFrom 234 [(0, .ref a0), (3, .int a3), (5, .int a5), (7, .int a7)] [] w (some (.int q.1)) q.2) {k243 : Nat → Int32 → Int32 → Int32 → Int32 → px_W → Option (Int32 × px_W)} (hk243 : ∀ (a0 : Nat) (a3 : Int32) (a5 : Int32) (a7 : Int32) (a8 : Int32) (w : px_W) (q : Int32 × px_W), k243 a0 a3 a5 a7 a8 w = some q → EV X mX15_paintFrom 243 [(0, .ref a0), (3, .int a3), (5, .int a5), (7, .int a7), (8, .int a8)] [] w (some (.int q.1)) q.2) : ∀ (a0 : Nat) (a3 : Int32) (a5 : Int32) (a7 : Int32) (a8 : Int32) (s0 : Int32) (s1 : Int32) (w : px_W) (q : Int32 × px_W), fX15_paintFrom_274 X k234 k243 a0 a3 a5 a7 a8 s0 s1 w = some q → EV X mX15_paintFrom 274 [(0, .ref a0), (3, .int a3), (5, .int a5), (7, .int a7), (8, .int a8)] [.int s0, .int s1] w (some (.int q.1)) q.2 := by
  intro a0 a3 a5 a7 a8 s0 s1 w q h
  unfold fX15_paintFrom_274 at h
  refine EV.aload_n 0 dX15_paintFrom_274 rfl rfl ?_
  obtain ⟨v29, gv29, h⟩ := px_bs h
  refine ev_gR dX15_paintFrom_275 flRX15_86 gv29 ?_
  refine EV.iload 4 dX15_paintFrom_278 rfl ?_
  obtain ⟨v30, gv30, h⟩ := px_bs h
  refine ev_aI dX15_paintFrom_280 gv30 ?_
  refine EV.aload_n 0 dX15_paintFrom_281 rfl rfl ?_
  obtain ⟨v31, gv31, h⟩ := px_bs h
  refine ev_gR dX15_paintFrom_282 flRX15_89 gv31 ?_
  refine EV.iload 4 dX15_paintFrom_285 rfl ?_
  obtain ⟨v32, gv32, h⟩ := px_bs h
  refine ev_aI dX15_paintFrom_287 gv32 ?_
  refine EV.iadd dX15_paintFrom_288 ?_
  refine EV.imul dX15_paintFrom_289 ?_
  refine EV.iadd dX15_paintFrom_290 ?_
  refine EV.iload 2 dX15_paintFrom_291 rfl ?_
  refine EV.imul dX15_paintFrom_293 ?_
  refine EV.bipush (50) dX15_paintFrom_294 (by decide) ?_
  refine EV.iadd dX15_paintFrom_296 ?_
  refine EV.bipush (100) dX15_paintFrom_297 (by decide) ?_
  obtain ⟨v33, gv33, h⟩ := px_bs h
  refine ev_dI dX15_paintFrom_299 gv33 ?_
  refine EV.istore [(9, .int v33), (0, .ref a0), (3, .int a3), (5, .int a5), (7, .int a7), (8, .int a8)] dX15_paintFrom_300 (by decide) rfl ?_
  refine EV.aload_n 1 dX15_paintFrom_302 rfl rfl ?_
  obtain ⟨v34, gv34, h⟩ := px_bs h
  refine ev_gR dX15_paintFrom_303 flRX15_67 gv34 ?_
  refine EV.bipush (64) dX15_paintFrom_306 (by decide) ?_
  refine EV.iload 4 dX15_paintFrom_308 rfl ?_
  refine EV.imul dX15_paintFrom_310 ?_
  refine EV.iload 5 dX15_paintFrom_311 rfl ?_
  refine EV.iadd dX15_paintFrom_313 ?_
  refine EV.iload 0 dX15_paintFrom_314 rfl ?_
  refine EV.iconst (1) dX15_paintFrom_316 (by decide) ?_
  refine EV.icmp_ge 324 dX15_paintFrom_317 (by decide) (fun c35 => ?_) (fun c35 => ?_)
  · rw [if_pos c35] at h
    refine EV.iload 0 dX15_paintFrom_324 rfl ?_
    refine EV.sipush (255) dX15_paintFrom_326 (by decide) ?_
    refine EV.icmp_le 338 dX15_paintFrom_329 (by decide) (fun c36 => ?_) (fun c36 => ?_)
    · rw [if_pos c36] at h
      refine EV.iload 0 dX15_paintFrom_338 rfl ?_
      refine EV.sub [1, 2, 3, 4, 5] rfl ?_
      exact eX15_paintFrom_340 hk234 hk243 _ _ _ _ _ _ _ _ _ _ h
    · rw [if_neg c36] at h
      refine EV.sipush (255) dX15_paintFrom_332 (by decide) ?_
      refine EV.goto 340 dX15_paintFrom_335 (by decide) ?_
      refine EV.sub [1, 2, 3, 4, 5] rfl ?_
      exact eX15_paintFrom_340 hk234 hk243 _ _ _ _ _ _ _ _ _ _ h
  · rw [if_neg c35] at h
    refine EV.iconst (1) dX15_paintFrom_320 (by decide) ?_
    refine EV.goto 340 dX15_paintFrom_321 (by decide) ?_
    refine EV.sub [1, 2, 3, 4, 5] rfl ?_
    exact eX15_paintFrom_340 hk234 hk243 _ _ _ _ _ _ _ _ _ _ h
set_option maxRecDepth 100000 in
set_option maxHeartbeats 4000000 in
theorem eX15_paintFrom_262 {X : px_X} {k234 : Nat → Int32 → Int32 → Int32 → px_W → Option (Int32 × px_W)} (hk234 : ∀ (a0 : Nat) (a3 : Int32) (a5 : Int32) (a7 : Int32) (w : px_W) (q : Int32 × px_W), k234 a0 a3 a5 a7 w = some q → EV X mX15_paintFrom 234 [(0, .ref a0), (3, .int a3), (5, .int a5), (7, .int a7)] [] w (some (.int q.1)) q.2) {k243 : Nat → Int32 → Int32 → Int32 → Int32 → px_W → Option (Int32 × px_W)} (hk243 : ∀ (a0 : Nat) (a3 : Int32) (a5 : Int32) (a7 : Int32) (a8 : Int32) (w : px_W) (q : Int32 × px_W), k243 a0 a3 a5 a7 a8 w = some q → EV X mX15_paintFrom 243 [(0, .ref a0), (3, .int a3), (5, .int a5), (7, .int a7), (8, .int a8)] [] w (some (.int q.1)) q.2) : ∀ (a0 : Nat) (a3 : Int32) (a5 : Int32) (a7 : Int32) (a8 : Int32) (s0 : Int32) (w : px_W) (q : Int32 × px_W), fX15_paintFrom_262 X k234 k243 a0 a3 a5 a7 a8 s0 w = some q → EV X mX15_paintFrom 262 [(0, .ref a0), (3, .int a3), (5, .int a5), (7, .int a7), (8, .int a8)] [.int s0] w (some (.int q.1)) q.2 := by
  intro a0 a3 a5 a7 a8 s0 w q h
  unfold fX15_paintFrom_262 at h
  refine EV.iload 3 dX15_paintFrom_262 rfl ?_
  refine EV.if_ne 272 dX15_paintFrom_264 (by decide) (fun c37 => ?_) (fun c37 => ?_)
  · rw [if_neg c37] at h
    refine EV.bipush (10) dX15_paintFrom_272 (by decide) ?_
    refine EV.sub [0, 1, 2, 3, 4] rfl ?_
    exact eX15_paintFrom_274 hk234 hk243 _ _ _ _ _ _ _ _ _ h
  · rw [if_pos c37] at h
    refine EV.bipush (6) dX15_paintFrom_267 (by decide) ?_
    refine EV.goto 274 dX15_paintFrom_269 (by decide) ?_
    refine EV.sub [0, 1, 2, 3, 4] rfl ?_
    exact eX15_paintFrom_274 hk234 hk243 _ _ _ _ _ _ _ _ _ h
set_option maxRecDepth 100000 in
set_option maxHeartbeats 4000000 in
theorem eX15_paintFrom_243 {X : px_X} {k234 : Nat → Int32 → Int32 → Int32 → px_W → Option (Int32 × px_W)} (hk234 : ∀ (a0 : Nat) (a3 : Int32) (a5 : Int32) (a7 : Int32) (w : px_W) (q : Int32 × px_W), k234 a0 a3 a5 a7 w = some q → EV X mX15_paintFrom 234 [(0, .ref a0), (3, .int a3), (5, .int a5), (7, .int a7)] [] w (some (.int q.1)) q.2) : ∀ (m : Nat) (a0 : Nat) (a3 : Int32) (a5 : Int32) (a7 : Int32) (a8 : Int32) (w : px_W) (q : Int32 × px_W), fX15_paintFrom_243 X k234 m a0 a3 a5 a7 a8 w = some q → EV X mX15_paintFrom 243 [(0, .ref a0), (3, .int a3), (5, .int a5), (7, .int a7), (8, .int a8)] [] w (some (.int q.1)) q.2 := by
  intro m
  induction m with
  | zero => intro a0 a3 a5 a7 a8 w q h; cases h
  | succ m ih =>
    intro a0 a3 a5 a7 a8 w q h
    rw [fX15_paintFrom_243.eq_2] at h
    refine EV.iload 4 dX15_paintFrom_243 rfl ?_
    refine EV.bipush (64) dX15_paintFrom_245 (by decide) ?_
    refine EV.icmp_ge 347 dX15_paintFrom_247 (by decide) (fun c38 => ?_) (fun c38 => ?_)
    · rw [if_pos c38] at h
      refine EV.sub [0, 1, 2, 3] rfl ?_
      exact eX15_paintFrom_347 hk234 _ _ _ _ _ _ h
    · rw [if_neg c38] at h
      refine EV.iload 3 dX15_paintFrom_250 rfl ?_
      refine EV.if_ne 260 dX15_paintFrom_252 (by decide) (fun c39 => ?_) (fun c39 => ?_)
      · rw [if_neg c39] at h
        refine EV.bipush (17) dX15_paintFrom_260 (by decide) ?_
        refine EV.sub [0, 1, 2, 3, 4] rfl ?_
        exact eX15_paintFrom_262 hk234 ih _ _ _ _ _ _ _ _ h
      · rw [if_pos c39] at h
        refine EV.bipush (16) dX15_paintFrom_255 (by decide) ?_
        refine EV.goto 262 dX15_paintFrom_257 (by decide) ?_
        refine EV.sub [0, 1, 2, 3, 4] rfl ?_
        exact eX15_paintFrom_262 hk234 ih _ _ _ _ _ _ _ _ h
set_option maxRecDepth 100000 in
set_option maxHeartbeats 4000000 in
theorem eX15_paintFrom_234 {X : px_X}  : ∀ (m : Nat) (a0 : Nat) (a3 : Int32) (a5 : Int32) (a7 : Int32) (w : px_W) (q : Int32 × px_W), fX15_paintFrom_234 X  m a0 a3 a5 a7 w = some q → EV X mX15_paintFrom 234 [(0, .ref a0), (3, .int a3), (5, .int a5), (7, .int a7)] [] w (some (.int q.1)) q.2 := by
  intro m
  induction m with
  | zero => intro a0 a3 a5 a7 w q h; cases h
  | succ m ih =>
    intro a0 a3 a5 a7 w q h
    rw [fX15_paintFrom_234.eq_2] at h
    refine EV.iload 3 dX15_paintFrom_234 rfl ?_
    refine EV.iload_n 1 dX15_paintFrom_236 rfl rfl ?_
    refine EV.icmp_ge 359 dX15_paintFrom_237 (by decide) (fun c40 => ?_) (fun c40 => ?_)
    · rw [if_pos c40] at h
      refine EV.iconst (1) dX15_paintFrom_359 (by decide) ?_
      cases h
      exact EV.reti dX15_paintFrom_360 rfl
    · rw [if_neg c40] at h
      refine EV.iconst (0) dX15_paintFrom_240 (by decide) ?_
      refine EV.istore [(8, .int 0), (0, .ref a0), (3, .int a3), (5, .int a5), (7, .int a7)] dX15_paintFrom_241 (by decide) rfl ?_
      refine EV.sub [1, 2, 3, 4, 0] rfl ?_
      exact eX15_paintFrom_243 ih FU _ _ _ _ _ _ _ h
set_option maxRecDepth 100000 in
set_option maxHeartbeats 4000000 in
theorem eX15_paintFrom_231 {X : px_X}  : ∀ (a0 : Nat) (a3 : Int32) (a5 : Int32) (w : px_W) (q : Int32 × px_W), fX15_paintFrom_231 X  a0 a3 a5 w = some q → EV X mX15_paintFrom 231 [(0, .ref a0), (3, .int a3), (5, .int a5)] [] w (some (.int q.1)) q.2 := by
  intro a0 a3 a5 w q h
  unfold fX15_paintFrom_231 at h
  refine EV.iconst (0) dX15_paintFrom_231 (by decide) ?_
  refine EV.istore [(7, .int 0), (0, .ref a0), (3, .int a3), (5, .int a5)] dX15_paintFrom_232 (by decide) rfl ?_
  refine EV.sub [1, 2, 3, 0] rfl ?_
  exact eX15_paintFrom_234  FU _ _ _ _ _ _ h
set_option maxRecDepth 100000 in
set_option maxHeartbeats 4000000 in
theorem eX15_paintFrom_209 {X : px_X}  : ∀ (m : Nat) (a0 : Nat) (a3 : Int32) (a5 : Int32) (a7 : Int32) (w : px_W) (q : Int32 × px_W), fX15_paintFrom_209 X  m a0 a3 a5 a7 w = some q → EV X mX15_paintFrom 209 [(0, .ref a0), (3, .int a3), (5, .int a5), (7, .int a7)] [] w (some (.int q.1)) q.2 := by
  intro m
  induction m with
  | zero => intro a0 a3 a5 a7 w q h; cases h
  | succ m ih =>
    intro a0 a3 a5 a7 w q h
    rw [fX15_paintFrom_209.eq_2] at h
    refine EV.iload 3 dX15_paintFrom_209 rfl ?_
    refine EV.sipush (12288) dX15_paintFrom_211 (by decide) ?_
    refine EV.icmp_ge 231 dX15_paintFrom_214 (by decide) (fun c41 => ?_) (fun c41 => ?_)
    · rw [if_pos c41] at h
      refine EV.sub [0, 1, 2] rfl ?_
      exact eX15_paintFrom_231  _ _ _ _ _ h
    · rw [if_neg c41] at h
      refine EV.aload_n 0 dX15_paintFrom_217 rfl rfl ?_
      obtain ⟨v42, gv42, h⟩ := px_bs h
      refine ev_gR dX15_paintFrom_218 flRX15_70 gv42 ?_
      refine EV.iload 3 dX15_paintFrom_221 rfl ?_
      refine EV.iconst (0) dX15_paintFrom_223 (by decide) ?_
      obtain ⟨w43, gw43, h⟩ := px_bs h
      refine ev_sS dX15_paintFrom_224 gw43 ?_
      refine EV.iinc 3 (a7 + 1) [(7, .int (a7 + 1)), (0, .ref a0), (3, .int a3), (5, .int a5)] dX15_paintFrom_225 rfl rfl (by decide) rfl ?_
      refine EV.goto 209 dX15_paintFrom_228 (by decide) ?_
      refine EV.sub [1, 2, 3, 0] rfl ?_
      exact ih _ _ _ _ _ _ h
set_option maxRecDepth 100000 in
set_option maxHeartbeats 4000000 in
theorem eX15_paintFrom_202 {X : px_X}  : ∀ (a0 : Nat) (a3 : Int32) (a5 : Int32) (w : px_W) (q : Int32 × px_W), fX15_paintFrom_202 X  a0 a3 a5 w = some q → EV X mX15_paintFrom 202 [(0, .ref a0), (3, .int a3), (5, .int a5)] [] w (some (.int q.1)) q.2 := by
  intro a0 a3 a5 w q h
  unfold fX15_paintFrom_202 at h
  refine EV.aload_n 0 dX15_paintFrom_202 rfl rfl ?_
  obtain ⟨o44, go44, h⟩ := px_bs h
  obtain ⟨q45, gq45, h⟩ := px_bs h
  refine EV.callV (As := []) (rest := []) dX15_paintFrom_203 kcX15_paintFrom_239 (gO_ok go44) rfl rfl rfl (Nat.le_of_ble_eq_true rfl) (Nat.le_of_ble_eq_true rfl) (eX15_layOut gq45) ?_
  refine EV.iconst (0) dX15_paintFrom_206 (by decide) ?_
  refine EV.istore [(7, .int 0), (0, .ref a0), (3, .int a3), (5, .int a5)] dX15_paintFrom_207 (by decide) rfl ?_
  refine EV.sub [1, 2, 3, 0] rfl ?_
  exact eX15_paintFrom_209  FU _ _ _ _ _ _ h
set_option maxRecDepth 100000 in
set_option maxHeartbeats 4000000 in
theorem eX15_paintFrom_152 {X : px_X}  : ∀ (m : Nat) (a0 : Nat) (a3 : Int32) (a4 : Int32) (a5 : Int32) (a7 : Int32) (w : px_W) (q : Int32 × px_W), fX15_paintFrom_152 X  m a0 a3 a4 a5 a7 w = some q → EV X mX15_paintFrom 152 [(0, .ref a0), (3, .int a3), (4, .int a4), (5, .int a5), (7, .int a7)] [] w (some (.int q.1)) q.2 := by
  intro m
  induction m with
  | zero => intro a0 a3 a4 a5 a7 w q h; cases h
  | succ m ih =>
    intro a0 a3 a4 a5 a7 w q h
    rw [fX15_paintFrom_152.eq_2] at h
    refine EV.iload 4 dX15_paintFrom_152 rfl ?_
    refine EV.iload_n 1 dX15_paintFrom_154 rfl rfl ?_
    refine EV.icmp_ge 202 dX15_paintFrom_155 (by decide) (fun c46 => ?_) (fun c46 => ?_)
    · rw [if_pos c46] at h
      refine EV.sub [0, 1, 3] rfl ?_
      exact eX15_paintFrom_202  _ _ _ _ _ h
    · rw [if_neg c46] at h
      refine EV.aload_n 0 dX15_paintFrom_158 rfl rfl ?_
      obtain ⟨v47, gv47, h⟩ := px_bs h
      refine ev_gR dX15_paintFrom_159 flRX15_52 gv47 ?_
      refine EV.iload 4 dX15_paintFrom_162 rfl ?_
      refine EV.iconst (1) dX15_paintFrom_164 (by decide) ?_
      refine EV.iload 2 dX15_paintFrom_165 rfl ?_
      refine EV.iconst (2) dX15_paintFrom_167 (by decide) ?_
      refine EV.iload 4 dX15_paintFrom_168 rfl ?_
      refine EV.imul dX15_paintFrom_170 ?_
      refine EV.ishr dX15_paintFrom_171 ?_
      refine EV.iconst (1) dX15_paintFrom_172 (by decide) ?_
      refine EV.iand dX15_paintFrom_173 ?_
      refine EV.iadd dX15_paintFrom_174 ?_
      obtain ⟨w48, gw48, h⟩ := px_bs h
      refine ev_sI dX15_paintFrom_175 gw48 ?_
      refine EV.aload_n 0 dX15_paintFrom_176 rfl rfl ?_
      obtain ⟨v49, gv49, h⟩ := px_bs h
      refine ev_gR dX15_paintFrom_177 flRX15_55 gv49 ?_
      refine EV.iload 4 dX15_paintFrom_180 rfl ?_
      refine EV.iconst (1) dX15_paintFrom_182 (by decide) ?_
      refine EV.iload 2 dX15_paintFrom_183 rfl ?_
      refine EV.iconst (2) dX15_paintFrom_185 (by decide) ?_
      refine EV.iload 4 dX15_paintFrom_186 rfl ?_
      refine EV.imul dX15_paintFrom_188 ?_
      refine EV.iconst (1) dX15_paintFrom_189 (by decide) ?_
      refine EV.iadd dX15_paintFrom_190 ?_
      refine EV.ishr dX15_paintFrom_191 ?_
      refine EV.iconst (1) dX15_paintFrom_192 (by decide) ?_
      refine EV.iand dX15_paintFrom_193 ?_
      refine EV.iadd dX15_paintFrom_194 ?_
      obtain ⟨w50, gw50, h⟩ := px_bs h
      refine ev_sI dX15_paintFrom_195 gw50 ?_
      refine EV.iinc 4 (a7 + 1) [(7, .int (a7 + 1)), (0, .ref a0), (3, .int a3), (4, .int a4), (5, .int a5)] dX15_paintFrom_196 rfl rfl (by decide) rfl ?_
      refine EV.goto 152 dX15_paintFrom_199 (by decide) ?_
      refine EV.sub [1, 2, 3, 4, 0] rfl ?_
      exact ih _ _ _ _ _ _ _ h
set_option maxRecDepth 100000 in
set_option maxHeartbeats 4000000 in
theorem eX15_paintFrom_122 {X : px_X}  : ∀ (a0 : Nat) (a1 : Int32) (a2 : Int32) (a3 : Int32) (a4 : Int32) (a5 : Int32) (a6 : Int32) (w : px_W) (q : Int32 × px_W), fX15_paintFrom_122 X  a0 a1 a2 a3 a4 a5 a6 w = some q → EV X mX15_paintFrom 122 [(0, .ref a0), (1, .int a1), (2, .int a2), (3, .int a3), (4, .int a4), (5, .int a5), (6, .int a6)] [] w (some (.int q.1)) q.2 := by
  intro a0 a1 a2 a3 a4 a5 a6 w q h
  unfold fX15_paintFrom_122 at h
  refine EV.iload 6 dX15_paintFrom_122 rfl ?_
  refine EV.if_ne 129 dX15_paintFrom_124 (by decide) (fun c51 => ?_) (fun c51 => ?_)
  · rw [if_neg c51] at h
    refine EV.aload_n 0 dX15_paintFrom_129 rfl rfl ?_
    refine EV.iconst (1) dX15_paintFrom_130 (by decide) ?_
    obtain ⟨w52, gw52, h⟩ := px_bs h
    refine ev_pZ dX15_paintFrom_131 flRX15_235 rfl rfl (by decide +kernel) gw52 ?_
    refine EV.aload_n 0 dX15_paintFrom_134 rfl rfl ?_
    refine EV.iload_n 1 dX15_paintFrom_135 rfl rfl ?_
    obtain ⟨w53, gw53, h⟩ := px_bs h
    refine ev_pV dX15_paintFrom_136 flRX15_129 rfl rfl rfl rfl gw53 ?_
    refine EV.aload_n 0 dX15_paintFrom_139 rfl rfl ?_
    refine EV.iload_n 2 dX15_paintFrom_140 rfl rfl ?_
    obtain ⟨w54, gw54, h⟩ := px_bs h
    refine ev_pV dX15_paintFrom_141 flRX15_139 rfl rfl rfl rfl gw54 ?_
    refine EV.aload_n 0 dX15_paintFrom_144 rfl rfl ?_
    refine EV.iload_n 3 dX15_paintFrom_145 rfl rfl ?_
    obtain ⟨w55, gw55, h⟩ := px_bs h
    refine ev_pV dX15_paintFrom_146 flRX15_126 rfl rfl rfl rfl gw55 ?_
    refine EV.iconst (0) dX15_paintFrom_149 (by decide) ?_
    refine EV.istore [(7, .int 0), (0, .ref a0), (1, .int a1), (2, .int a2), (3, .int a3), (4, .int a4), (5, .int a5), (6, .int a6)] dX15_paintFrom_150 (by decide) rfl ?_
    refine EV.sub [1, 4, 5, 6, 0] rfl ?_
    exact eX15_paintFrom_152  FU _ _ _ _ _ _ _ h
  · rw [if_pos c51] at h
    refine EV.iconst (0) dX15_paintFrom_127 (by decide) ?_
    cases h
    exact EV.reti dX15_paintFrom_128 rfl
set_option maxRecDepth 100000 in
set_option maxHeartbeats 4000000 in
theorem eX15_paintFrom_76 {X : px_X}  : ∀ (m : Nat) (a0 : Nat) (a1 : Int32) (a2 : Int32) (a3 : Int32) (a4 : Int32) (a5 : Int32) (a6 : Int32) (a7 : Int32) (w : px_W) (q : Int32 × px_W), fX15_paintFrom_76 X  m a0 a1 a2 a3 a4 a5 a6 a7 w = some q → EV X mX15_paintFrom 76 [(0, .ref a0), (1, .int a1), (2, .int a2), (3, .int a3), (4, .int a4), (5, .int a5), (6, .int a6), (7, .int a7)] [] w (some (.int q.1)) q.2 := by
  intro m
  induction m with
  | zero => intro a0 a1 a2 a3 a4 a5 a6 a7 w q h; cases h
  | succ m ih =>
    intro a0 a1 a2 a3 a4 a5 a6 a7 w q h
    rw [fX15_paintFrom_76.eq_2] at h
    refine EV.iload 7 dX15_paintFrom_76 rfl ?_
    refine EV.iload_n 3 dX15_paintFrom_78 rfl rfl ?_
    refine EV.icmp_ge 122 dX15_paintFrom_79 (by decide) (fun c56 => ?_) (fun c56 => ?_)
    · rw [if_pos c56] at h
      refine EV.sub [0, 1, 2, 3, 4, 5, 6] rfl ?_
      exact eX15_paintFrom_122  _ _ _ _ _ _ _ _ _ h
    · rw [if_neg c56] at h
      refine EV.iload 6 dX15_paintFrom_82 rfl ?_
      refine EV.if_eq 122 dX15_paintFrom_84 (by decide) (fun c57 => ?_) (fun c57 => ?_)
      · rw [if_pos c57] at h
        refine EV.sub [0, 1, 2, 3, 4, 5, 6] rfl ?_
        exact eX15_paintFrom_122  _ _ _ _ _ _ _ _ _ h
      · rw [if_neg c57] at h
        refine EV.aload_n 0 dX15_paintFrom_87 rfl rfl ?_
        obtain ⟨v58, gv58, h⟩ := px_bs h
        refine ev_gR dX15_paintFrom_88 flRX15_98 gv58 ?_
        refine EV.iload 7 dX15_paintFrom_91 rfl ?_
        obtain ⟨v59, gv59, h⟩ := px_bs h
        refine ev_aI dX15_paintFrom_93 gv59 ?_
        refine EV.iload_n 1 dX15_paintFrom_94 rfl rfl ?_
        refine EV.icmp_ne 113 dX15_paintFrom_95 (by decide) (fun c60 => ?_) (fun c60 => ?_)
        · rw [if_neg c60] at h
          refine EV.sub [0, 1, 2, 3, 4, 5, 7] rfl ?_
          exact eX15_paintFrom_113 ih _ _ _ _ _ _ _ _ _ h
        · rw [if_pos c60] at h
          refine EV.aload_n 0 dX15_paintFrom_98 rfl rfl ?_
          obtain ⟨v61, gv61, h⟩ := px_bs h
          refine ev_gR dX15_paintFrom_99 flRX15_101 gv61 ?_
          refine EV.iload 7 dX15_paintFrom_102 rfl ?_
          obtain ⟨v62, gv62, h⟩ := px_bs h
          refine ev_aI dX15_paintFrom_104 gv62 ?_
          refine EV.iload_n 2 dX15_paintFrom_105 rfl rfl ?_
          refine EV.icmp_ne 113 dX15_paintFrom_106 (by decide) (fun c63 => ?_) (fun c63 => ?_)
          · rw [if_neg c63] at h
            refine EV.sub [0, 1, 2, 3, 4, 5, 7] rfl ?_
            exact eX15_paintFrom_113 ih _ _ _ _ _ _ _ _ _ h
          · rw [if_pos c63] at h
            refine EV.iconst (1) dX15_paintFrom_109 (by decide) ?_
            refine EV.goto 114 dX15_paintFrom_110 (by decide) ?_
            refine EV.sub [0, 1, 2, 3, 4, 5, 7] rfl ?_
            exact eX15_paintFrom_114 ih _ _ _ _ _ _ _ _ _ _ h
set_option maxRecDepth 100000 in
set_option maxHeartbeats 4000000 in
theorem eX15_paintFrom_71 {X : px_X}  : ∀ (a0 : Nat) (a1 : Int32) (a2 : Int32) (a3 : Int32) (a4 : Int32) (a5 : Int32) (s0 : Int32) (w : px_W) (q : Int32 × px_W), fX15_paintFrom_71 X  a0 a1 a2 a3 a4 a5 s0 w = some q → EV X mX15_paintFrom 71 [(0, .ref a0), (1, .int a1), (2, .int a2), (3, .int a3), (4, .int a4), (5, .int a5)] [.int s0] w (some (.int q.1)) q.2 := by
  intro a0 a1 a2 a3 a4 a5 s0 w q h
  unfold fX15_paintFrom_71 at h
  refine EV.istore [(6, .int s0), (0, .ref a0), (1, .int a1), (2, .int a2), (3, .int a3), (4, .int a4), (5, .int a5)] dX15_paintFrom_71 (by decide) rfl ?_
  refine EV.iconst (0) dX15_paintFrom_73 (by decide) ?_
  refine EV.istore [(7, .int 0), (6, .int s0), (0, .ref a0), (1, .int a1), (2, .int a2), (3, .int a3), (4, .int a4), (5, .int a5)] dX15_paintFrom_74 (by decide) rfl ?_
  refine EV.sub [2, 3, 4, 5, 6, 7, 1, 0] rfl ?_
  exact eX15_paintFrom_76  FU _ _ _ _ _ _ _ _ _ _ h
set_option maxRecDepth 100000 in
set_option maxHeartbeats 4000000 in
theorem eX15_paintFrom_70 {X : px_X}  : ∀ (a0 : Nat) (a1 : Int32) (a2 : Int32) (a3 : Int32) (a4 : Int32) (a5 : Int32) (w : px_W) (q : Int32 × px_W), fX15_paintFrom_70 X  a0 a1 a2 a3 a4 a5 w = some q → EV X mX15_paintFrom 70 [(0, .ref a0), (1, .int a1), (2, .int a2), (3, .int a3), (4, .int a4), (5, .int a5)] [] w (some (.int q.1)) q.2 := by
  intro a0 a1 a2 a3 a4 a5 w q h
  unfold fX15_paintFrom_70 at h
  refine EV.iconst (0) dX15_paintFrom_70 (by decide) ?_
  refine EV.sub [0, 1, 2, 3, 4, 5] rfl ?_
  exact eX15_paintFrom_71  _ _ _ _ _ _ _ _ _ h
set_option maxRecDepth 100000 in
set_option maxHeartbeats 4000000 in
theorem eX15_paintFrom_61 {X : px_X}  : ∀ (a0 : Nat) (a1 : Int32) (a2 : Int32) (a3 : Int32) (a4 : Int32) (a5 : Int32) (s0 : Int32) (s1 : Int32) (s2 : Int32) (s3 : Int32) (w : px_W) (q : Int32 × px_W), fX15_paintFrom_61 X  a0 a1 a2 a3 a4 a5 s0 s1 s2 s3 w = some q → EV X mX15_paintFrom 61 [(0, .ref a0), (1, .int a1), (2, .int a2), (3, .int a3), (4, .int a4), (5, .int a5)] [.int s0, .int s1, .int s2, .int s3] w (some (.int q.1)) q.2 := by
  intro a0 a1 a2 a3 a4 a5 s0 s1 s2 s3 w q h
  unfold fX15_paintFrom_61 at h
  refine EV.imul dX15_paintFrom_61 ?_
  refine EV.ishl dX15_paintFrom_62 ?_
  refine EV.icmp_ge 70 dX15_paintFrom_63 (by decide) (fun c64 => ?_) (fun c64 => ?_)
  · rw [if_pos c64] at h
    refine EV.sub [0, 1, 2, 3, 4, 5] rfl ?_
    exact eX15_paintFrom_70  _ _ _ _ _ _ _ _ h
  · rw [if_neg c64] at h
    refine EV.iconst (1) dX15_paintFrom_66 (by decide) ?_
    refine EV.goto 71 dX15_paintFrom_67 (by decide) ?_
    refine EV.sub [0, 1, 2, 3, 4, 5] rfl ?_
    exact eX15_paintFrom_71  _ _ _ _ _ _ _ _ _ h
set_option maxRecDepth 100000 in
set_option maxHeartbeats 4000000 in
theorem eX15_paintFrom {X : px_X} {w : px_W} {a0 : Nat} {a1 : Int32} {a2 : Int32} {a3 : Int32} {a4 : Int32} {a5 : Int32} {q : Int32 × px_W} (h : fX15_paintFrom X w a0 a1 a2 a3 a4 a5 = some q) : EV X mX15_paintFrom 0 (lv_args 0 [.ref a0, .int a1, .int a2, .int a3, .int a4, .int a5]) [] w (some (.int q.1)) q.2 := by
  unfold fX15_paintFrom at h
  show EV X mX15_paintFrom 0 [(0, .ref a0), (1, .int a1), (2, .int a2), (3, .int a3), (4, .int a4), (5, .int a5)] [] w (some (.int q.1)) q.2
  refine EV.iload_n 1 dX15_paintFrom_0 rfl rfl ?_
  refine EV.if_le 70 dX15_paintFrom_1 (by decide) (fun c65 => ?_) (fun c65 => ?_)
  · rw [if_pos c65] at h
    refine EV.sub [0, 1, 2, 3, 4, 5] rfl ?_
    exact eX15_paintFrom_70  _ _ _ _ _ _ _ _ h
  · rw [if_neg c65] at h
    refine EV.iload_n 1 dX15_paintFrom_4 rfl rfl ?_
    refine EV.bipush (33) dX15_paintFrom_5 (by decide) ?_
    refine EV.icmp_ge 70 dX15_paintFrom_7 (by decide) (fun c66 => ?_) (fun c66 => ?_)
    · rw [if_pos c66] at h
      refine EV.sub [0, 1, 2, 3, 4, 5] rfl ?_
      exact eX15_paintFrom_70  _ _ _ _ _ _ _ _ h
    · rw [if_neg c66] at h
      refine EV.iload_n 2 dX15_paintFrom_10 rfl rfl ?_
      refine EV.if_le 70 dX15_paintFrom_11 (by decide) (fun c67 => ?_) (fun c67 => ?_)
      · rw [if_pos c67] at h
        refine EV.sub [0, 1, 2, 3, 4, 5] rfl ?_
        exact eX15_paintFrom_70  _ _ _ _ _ _ _ _ h
      · rw [if_neg c67] at h
        refine EV.iload_n 2 dX15_paintFrom_14 rfl rfl ?_
        refine EV.bipush (33) dX15_paintFrom_15 (by decide) ?_
        refine EV.icmp_ge 70 dX15_paintFrom_17 (by decide) (fun c68 => ?_) (fun c68 => ?_)
        · rw [if_pos c68] at h
          refine EV.sub [0, 1, 2, 3, 4, 5] rfl ?_
          exact eX15_paintFrom_70  _ _ _ _ _ _ _ _ h
        · rw [if_neg c68] at h
          refine EV.iload_n 3 dX15_paintFrom_20 rfl rfl ?_
          refine EV.if_le 70 dX15_paintFrom_21 (by decide) (fun c69 => ?_) (fun c69 => ?_)
          · rw [if_pos c69] at h
            refine EV.sub [0, 1, 2, 3, 4, 5] rfl ?_
            exact eX15_paintFrom_70  _ _ _ _ _ _ _ _ h
          · rw [if_neg c69] at h
            refine EV.iload_n 3 dX15_paintFrom_24 rfl rfl ?_
            refine EV.iconst (5) dX15_paintFrom_25 (by decide) ?_
            refine EV.icmp_ge 70 dX15_paintFrom_26 (by decide) (fun c70 => ?_) (fun c70 => ?_)
            · rw [if_pos c70] at h
              refine EV.sub [0, 1, 2, 3, 4, 5] rfl ?_
              exact eX15_paintFrom_70  _ _ _ _ _ _ _ _ h
            · rw [if_neg c70] at h
              refine EV.iload 5 dX15_paintFrom_29 rfl ?_
              refine EV.if_le 70 dX15_paintFrom_31 (by decide) (fun c71 => ?_) (fun c71 => ?_)
              · rw [if_pos c71] at h
                refine EV.sub [0, 1, 2, 3, 4, 5] rfl ?_
                exact eX15_paintFrom_70  _ _ _ _ _ _ _ _ h
              · rw [if_neg c71] at h
                refine EV.iload 5 dX15_paintFrom_34 rfl ?_
                refine EV.sipush (5001) dX15_paintFrom_36 (by decide) ?_
                refine EV.icmp_ge 70 dX15_paintFrom_39 (by decide) (fun c72 => ?_) (fun c72 => ?_)
                · rw [if_pos c72] at h
                  refine EV.sub [0, 1, 2, 3, 4, 5] rfl ?_
                  exact eX15_paintFrom_70  _ _ _ _ _ _ _ _ h
                · rw [if_neg c72] at h
                  refine EV.iload 4 dX15_paintFrom_42 rfl ?_
                  refine EV.if_lt 70 dX15_paintFrom_44 (by decide) (fun c73 => ?_) (fun c73 => ?_)
                  · rw [if_pos c73] at h
                    refine EV.sub [0, 1, 2, 3, 4, 5] rfl ?_
                    exact eX15_paintFrom_70  _ _ _ _ _ _ _ _ h
                  · rw [if_neg c73] at h
                    refine EV.iload 4 dX15_paintFrom_47 rfl ?_
                    refine EV.iconst (1) dX15_paintFrom_49 (by decide) ?_
                    refine EV.iconst (2) dX15_paintFrom_50 (by decide) ?_
                    refine EV.iload_n 3 dX15_paintFrom_51 rfl rfl ?_
                    refine EV.iconst (5) dX15_paintFrom_52 (by decide) ?_
                    refine EV.icmp_ge 60 dX15_paintFrom_53 (by decide) (fun c74 => ?_) (fun c74 => ?_)
                    · rw [if_pos c74] at h
                      refine EV.iconst (4) dX15_paintFrom_60 (by decide) ?_
                      refine EV.sub [0, 1, 2, 3, 4, 5] rfl ?_
                      exact eX15_paintFrom_61  _ _ _ _ _ _ _ _ _ _ _ _ h
                    · rw [if_neg c74] at h
                      refine EV.iload_n 3 dX15_paintFrom_56 rfl rfl ?_
                      refine EV.goto 61 dX15_paintFrom_57 (by decide) ?_
                      refine EV.sub [0, 1, 2, 3, 4, 5] rfl ?_
                      exact eX15_paintFrom_61  _ _ _ _ _ _ _ _ _ _ _ _ h
