/-! WavePictures$Plane.becomeGrownAcross(LWavePictures$Plane;Z)V -/
theorem dX3_becomeGrownAcross_0 : decode cX3_becomeGrownAcross 0 = .ok (.aload_n 0, 1) := by decide +kernel
theorem dX3_becomeGrownAcross_1 : decode cX3_becomeGrownAcross 1 = .ok (.bipush 32, 2) := by decide +kernel
theorem dX3_becomeGrownAcross_3 : decode cX3_becomeGrownAcross 3 = .ok (.iconst 2, 1) := by decide +kernel
theorem dX3_becomeGrownAcross_4 : decode cX3_becomeGrownAcross 4 = .ok (.aload_n 1, 1) := by decide +kernel
theorem dX3_becomeGrownAcross_5 : decode cX3_becomeGrownAcross 5 = .ok (.getfield 9, 3) := by decide +kernel
theorem dX3_becomeGrownAcross_8 : decode cX3_becomeGrownAcross 8 = .ok (.imul, 1) := by decide +kernel
theorem dX3_becomeGrownAcross_9 : decode cX3_becomeGrownAcross 9 = .ok (.invokestatic 28, 3) := by decide +kernel
theorem dX3_becomeGrownAcross_12 : decode cX3_becomeGrownAcross 12 = .ok (.putfield 9, 3) := by decide +kernel
theorem dX3_becomeGrownAcross_15 : decode cX3_becomeGrownAcross 15 = .ok (.aload_n 0, 1) := by decide +kernel
theorem dX3_becomeGrownAcross_16 : decode cX3_becomeGrownAcross 16 = .ok (.aload_n 1, 1) := by decide +kernel
theorem dX3_becomeGrownAcross_17 : decode cX3_becomeGrownAcross 17 = .ok (.getfield 15, 3) := by decide +kernel
theorem dX3_becomeGrownAcross_20 : decode cX3_becomeGrownAcross 20 = .ok (.putfield 15, 3) := by decide +kernel
theorem dX3_becomeGrownAcross_23 : decode cX3_becomeGrownAcross 23 = .ok (.iconst 0, 1) := by decide +kernel
theorem dX3_becomeGrownAcross_24 : decode cX3_becomeGrownAcross 24 = .ok (.istore_n 3, 1) := by decide +kernel
theorem dX3_becomeGrownAcross_25 : decode cX3_becomeGrownAcross 25 = .ok (.iload_n 3, 1) := by decide +kernel
theorem dX3_becomeGrownAcross_26 : decode cX3_becomeGrownAcross 26 = .ok (.aload_n 0, 1) := by decide +kernel
theorem dX3_becomeGrownAcross_27 : decode cX3_becomeGrownAcross 27 = .ok (.getfield 15, 3) := by decide +kernel
theorem dX3_becomeGrownAcross_30 : decode cX3_becomeGrownAcross 30 = .ok (.if_icmp .ge 99, 3) := by decide +kernel
theorem dX3_becomeGrownAcross_33 : decode cX3_becomeGrownAcross 33 = .ok (.iconst 0, 1) := by decide +kernel
theorem dX3_becomeGrownAcross_34 : decode cX3_becomeGrownAcross 34 = .ok (.istore 4, 2) := by decide +kernel
theorem dX3_becomeGrownAcross_36 : decode cX3_becomeGrownAcross 36 = .ok (.iload 4, 2) := by decide +kernel
theorem dX3_becomeGrownAcross_38 : decode cX3_becomeGrownAcross 38 = .ok (.aload_n 0, 1) := by decide +kernel
theorem dX3_becomeGrownAcross_39 : decode cX3_becomeGrownAcross 39 = .ok (.getfield 9, 3) := by decide +kernel
theorem dX3_becomeGrownAcross_42 : decode cX3_becomeGrownAcross 42 = .ok (.if_icmp .ge 81, 3) := by decide +kernel
theorem dX3_becomeGrownAcross_45 : decode cX3_becomeGrownAcross 45 = .ok (.aload_n 1, 1) := by decide +kernel
theorem dX3_becomeGrownAcross_46 : decode cX3_becomeGrownAcross 46 = .ok (.iload 4, 2) := by decide +kernel
theorem dX3_becomeGrownAcross_48 : decode cX3_becomeGrownAcross 48 = .ok (.iconst 2, 1) := by decide +kernel
theorem dX3_becomeGrownAcross_49 : decode cX3_becomeGrownAcross 49 = .ok (.idiv, 1) := by decide +kernel
theorem dX3_becomeGrownAcross_50 : decode cX3_becomeGrownAcross 50 = .ok (.iload_n 3, 1) := by decide +kernel
theorem dX3_becomeGrownAcross_51 : decode cX3_becomeGrownAcross 51 = .ok (.invokevirtual 43, 3) := by decide +kernel
theorem dX3_becomeGrownAcross_54 : decode cX3_becomeGrownAcross 54 = .ok (.istore 5, 2) := by decide +kernel
theorem dX3_becomeGrownAcross_56 : decode cX3_becomeGrownAcross 56 = .ok (.aload_n 1, 1) := by decide +kernel
theorem dX3_becomeGrownAcross_57 : decode cX3_becomeGrownAcross 57 = .ok (.iload 4, 2) := by decide +kernel
theorem dX3_becomeGrownAcross_59 : decode cX3_becomeGrownAcross 59 = .ok (.iconst 2, 1) := by decide +kernel
theorem dX3_becomeGrownAcross_60 : decode cX3_becomeGrownAcross 60 = .ok (.idiv, 1) := by decide +kernel
theorem dX3_becomeGrownAcross_61 : decode cX3_becomeGrownAcross 61 = .ok (.iload 4, 2) := by decide +kernel
theorem dX3_becomeGrownAcross_63 : decode cX3_becomeGrownAcross 63 = .ok (.iconst 2, 1) := by decide +kernel
theorem dX3_becomeGrownAcross_64 : decode cX3_becomeGrownAcross 64 = .ok (.irem, 1) := by decide +kernel
theorem dX3_becomeGrownAcross_65 : decode cX3_becomeGrownAcross 65 = .ok (.ifCond .ne 7, 3) := by decide +kernel
theorem dX3_becomeGrownAcross_68 : decode cX3_becomeGrownAcross 68 = .ok (.iconst (-1), 1) := by decide +kernel
theorem dX3_becomeGrownAcross_69 : decode cX3_becomeGrownAcross 69 = .ok (.goto 4, 3) := by decide +kernel
theorem dX3_becomeGrownAcross_72 : decode cX3_becomeGrownAcross 72 = .ok (.iconst 1, 1) := by decide +kernel
theorem dX3_becomeGrownAcross_73 : decode cX3_becomeGrownAcross 73 = .ok (.iadd, 1) := by decide +kernel
theorem dX3_becomeGrownAcross_74 : decode cX3_becomeGrownAcross 74 = .ok (.iload_n 3, 1) := by decide +kernel
theorem dX3_becomeGrownAcross_75 : decode cX3_becomeGrownAcross 75 = .ok (.invokevirtual 43, 3) := by decide +kernel
theorem dX3_becomeGrownAcross_78 : decode cX3_becomeGrownAcross 78 = .ok (.istore 6, 2) := by decide +kernel
theorem dX3_becomeGrownAcross_80 : decode cX3_becomeGrownAcross 80 = .ok (.aload_n 0, 1) := by decide +kernel
theorem dX3_becomeGrownAcross_81 : decode cX3_becomeGrownAcross 81 = .ok (.getfield 18, 3) := by decide +kernel
theorem dX3_becomeGrownAcross_84 : decode cX3_becomeGrownAcross 84 = .ok (.bipush 32, 2) := by decide +kernel
theorem dX3_becomeGrownAcross_86 : decode cX3_becomeGrownAcross 86 = .ok (.iload_n 3, 1) := by decide +kernel
theorem dX3_becomeGrownAcross_87 : decode cX3_becomeGrownAcross 87 = .ok (.imul, 1) := by decide +kernel
theorem dX3_becomeGrownAcross_88 : decode cX3_becomeGrownAcross 88 = .ok (.iload 4, 2) := by decide +kernel
theorem dX3_becomeGrownAcross_90 : decode cX3_becomeGrownAcross 90 = .ok (.iadd, 1) := by decide +kernel
theorem dX3_becomeGrownAcross_91 : decode cX3_becomeGrownAcross 91 = .ok (.iload_n 2, 1) := by decide +kernel
theorem dX3_becomeGrownAcross_92 : decode cX3_becomeGrownAcross 92 = .ok (.ifCond .eq 22, 3) := by decide +kernel
theorem dX3_becomeGrownAcross_95 : decode cX3_becomeGrownAcross 95 = .ok (.iconst 3, 1) := by decide +kernel
theorem dX3_becomeGrownAcross_96 : decode cX3_becomeGrownAcross 96 = .ok (.iload 5, 2) := by decide +kernel
theorem dX3_becomeGrownAcross_98 : decode cX3_becomeGrownAcross 98 = .ok (.imul, 1) := by decide +kernel
theorem dX3_becomeGrownAcross_99 : decode cX3_becomeGrownAcross 99 = .ok (.iload 6, 2) := by decide +kernel
theorem dX3_becomeGrownAcross_101 : decode cX3_becomeGrownAcross 101 = .ok (.iadd, 1) := by decide +kernel
theorem dX3_becomeGrownAcross_102 : decode cX3_becomeGrownAcross 102 = .ok (.iconst 1, 1) := by decide +kernel
theorem dX3_becomeGrownAcross_103 : decode cX3_becomeGrownAcross 103 = .ok (.iadd, 1) := by decide +kernel
theorem dX3_becomeGrownAcross_104 : decode cX3_becomeGrownAcross 104 = .ok (.iload 4, 2) := by decide +kernel
theorem dX3_becomeGrownAcross_106 : decode cX3_becomeGrownAcross 106 = .ok (.iconst 2, 1) := by decide +kernel
theorem dX3_becomeGrownAcross_107 : decode cX3_becomeGrownAcross 107 = .ok (.irem, 1) := by decide +kernel
theorem dX3_becomeGrownAcross_108 : decode cX3_becomeGrownAcross 108 = .ok (.iadd, 1) := by decide +kernel
theorem dX3_becomeGrownAcross_109 : decode cX3_becomeGrownAcross 109 = .ok (.iconst 2, 1) := by decide +kernel
theorem dX3_becomeGrownAcross_110 : decode cX3_becomeGrownAcross 110 = .ok (.ishr, 1) := by decide +kernel
theorem dX3_becomeGrownAcross_111 : decode cX3_becomeGrownAcross 111 = .ok (.goto 5, 3) := by decide +kernel
theorem dX3_becomeGrownAcross_114 : decode cX3_becomeGrownAcross 114 = .ok (.iload 5, 2) := by decide +kernel
theorem dX3_becomeGrownAcross_116 : decode cX3_becomeGrownAcross 116 = .ok (.iastore, 1) := by decide +kernel
theorem dX3_becomeGrownAcross_117 : decode cX3_becomeGrownAcross 117 = .ok (.iinc 4 1, 3) := by decide +kernel
theorem dX3_becomeGrownAcross_120 : decode cX3_becomeGrownAcross 120 = .ok (.goto (-84), 3) := by decide +kernel
theorem dX3_becomeGrownAcross_123 : decode cX3_becomeGrownAcross 123 = .ok (.iinc 3 1, 3) := by decide +kernel
theorem dX3_becomeGrownAcross_126 : decode cX3_becomeGrownAcross 126 = .ok (.goto (-101), 3) := by decide +kernel
theorem dX3_becomeGrownAcross_129 : decode cX3_becomeGrownAcross 129 = .ok (.return_, 1) := by decide +kernel
theorem mbX3_nearest : px_mB mX3_nearest 2 := ⟨tb5 (List.mem_of_getElem? (i := 135) rfl), by decide +kernel, tb1 (List.mem_of_getElem? (i := 4) rfl), by decide +kernel, by decide +kernel⟩
theorem vbX3_nearest : px_vB mX3_nearest := ⟨tb5 (List.mem_of_getElem? (i := 133) rfl), tb5 (List.mem_of_getElem? (i := 134) rfl)⟩
theorem kcX3_becomeGrownAcross_43 : px_cV mX3_becomeGrownAcross 43 mX3_nearest 2 := ⟨⟨mbX3_nearest, by decide, by decide⟩, Or.inl (tb5 (List.mem_of_getElem? (i := 132) rfl)), vbX3_nearest⟩
set_option maxRecDepth 100000 in
set_option maxHeartbeats 4000000 in
theorem eX3_becomeGrownAcross_116 {X : px_X} {k25 : Nat → Nat → Int32 → Int32 → px_W → Option (px_W)} (hk25 : ∀ (a0 : Nat) (a1 : Nat) (a2 : Int32) (a3 : Int32) (w : px_W) (q : px_W), k25 a0 a1 a2 a3 w = some q → EV X mX3_becomeGrownAcross 25 [(0, .ref a0), (1, .ref a1), (2, .int a2), (3, .int a3)] [] w none q) {k36 : Nat → Nat → Int32 → Int32 → Int32 → px_W → Option (px_W)} (hk36 : ∀ (a0 : Nat) (a1 : Nat) (a2 : Int32) (a3 : Int32) (a4 : Int32) (w : px_W) (q : px_W), k36 a0 a1 a2 a3 a4 w = some q → EV X mX3_becomeGrownAcross 36 [(0, .ref a0), (1, .ref a1), (2, .int a2), (3, .int a3), (4, .int a4)] [] w none q) : ∀ (a0 : Nat) (a1 : Nat) (a2 : Int32) (a3 : Int32) (a4 : Int32) (s0 : Int32) (s1 : Int32) (s2 : Nat) (w : px_W) (q : px_W), fX3_becomeGrownAcross_116 X k25 k36 a0 a1 a2 a3 a4 s0 s1 s2 w = some q → EV X mX3_becomeGrownAcross 116 [(0, .ref a0), (1, .ref a1), (2, .int a2), (3, .int a3), (4, .int a4)] [.int s0, .int s1, .ref s2] w none q := by
  intro a0 a1 a2 a3 a4 s0 s1 s2 w q h
  unfold fX3_becomeGrownAcross_116 at h
  obtain ⟨w17, gw17, h⟩ := px_bs h
  refine ev_sI dX3_becomeGrownAcross_116 gw17 ?_
  refine EV.iinc 4 (a4 + 1) [(4, .int (a4 + 1)), (0, .ref a0), (1, .ref a1), (2, .int a2), (3, .int a3)] dX3_becomeGrownAcross_117 rfl rfl (by decide) rfl ?_
  refine EV.goto 36 dX3_becomeGrownAcross_120 (by decide) ?_
  refine EV.sub [1, 2, 3, 4, 0] rfl ?_
  exact hk36 _ _ _ _ _ _ _ h
set_option maxRecDepth 100000 in
set_option maxHeartbeats 4000000 in
theorem eX3_becomeGrownAcross_73 {X : px_X} {k25 : Nat → Nat → Int32 → Int32 → px_W → Option (px_W)} (hk25 : ∀ (a0 : Nat) (a1 : Nat) (a2 : Int32) (a3 : Int32) (w : px_W) (q : px_W), k25 a0 a1 a2 a3 w = some q → EV X mX3_becomeGrownAcross 25 [(0, .ref a0), (1, .ref a1), (2, .int a2), (3, .int a3)] [] w none q) {k36 : Nat → Nat → Int32 → Int32 → Int32 → px_W → Option (px_W)} (hk36 : ∀ (a0 : Nat) (a1 : Nat) (a2 : Int32) (a3 : Int32) (a4 : Int32) (w : px_W) (q : px_W), k36 a0 a1 a2 a3 a4 w = some q → EV X mX3_becomeGrownAcross 36 [(0, .ref a0), (1, .ref a1), (2, .int a2), (3, .int a3), (4, .int a4)] [] w none q) : ∀ (a0 : Nat) (a1 : Nat) (a2 : Int32) (a3 : Int32) (a4 : Int32) (a5 : Int32) (s0 : Int32) (s1 : Int32) (s2 : Nat) (w : px_W) (q : px_W), fX3_becomeGrownAcross_73 X k25 k36 a0 a1 a2 a3 a4 a5 s0 s1 s2 w = some q → EV X mX3_becomeGrownAcross 73 [(0, .ref a0), (1, .ref a1), (2, .int a2), (3, .int a3), (4, .int a4), (5, .int a5)] [.int s0, .int s1, .ref s2] w none q := by
  intro a0 a1 a2 a3 a4 a5 s0 s1 s2 w q h
  unfold fX3_becomeGrownAcross_73 at h
  refine EV.iadd dX3_becomeGrownAcross_73 ?_
  refine EV.iload_n 3 dX3_becomeGrownAcross_74 rfl rfl ?_
  obtain ⟨o18, go18, h⟩ := px_bs h
  obtain ⟨q19, gq19, h⟩ := px_bs h
  refine EV.callV (As := [.int (s1 + s0), .int a3]) (rest := []) dX3_becomeGrownAcross_75 kcX3_becomeGrownAcross_43 (gO_ok go18) rfl rfl rfl (Nat.le_of_ble_eq_true rfl) (Nat.le_of_ble_eq_true rfl) (eX3_nearest gq19) ?_
  refine EV.istore [(6, .int q19.1), (0, .ref a0), (1, .ref a1), (2, .int a2), (3, .int a3), (4, .int a4), (5, .int a5)] dX3_becomeGrownAcross_78 (by decide) rfl ?_
  refine EV.aload_n 1 dX3_becomeGrownAcross_80 rfl rfl ?_
  obtain ⟨v20, gv20, h⟩ := px_bs h
  refine ev_gR dX3_becomeGrownAcross_81 flRX3_18 gv20 ?_
  refine EV.bipush (32) dX3_becomeGrownAcross_84 (by decide) ?_
  refine EV.iload_n 4 dX3_becomeGrownAcross_86 rfl rfl ?_
  refine EV.imul dX3_becomeGrownAcross_87 ?_
  refine EV.iload 5 dX3_becomeGrownAcross_88 rfl ?_
  refine EV.iadd dX3_becomeGrownAcross_90 ?_
  refine EV.iload_n 3 dX3_becomeGrownAcross_91 rfl rfl ?_
  refine EV.if_eq 114 dX3_becomeGrownAcross_92 (by decide) (fun c21 => ?_) (fun c21 => ?_)
  · rw [if_pos c21] at h
    refine EV.iload 6 dX3_becomeGrownAcross_114 rfl ?_
    refine EV.sub [1, 2, 3, 4, 5] rfl ?_
    exact eX3_becomeGrownAcross_116 hk25 hk36 _ _ _ _ _ _ _ _ _ _ h
  · rw [if_neg c21] at h
    refine EV.iconst (3) dX3_becomeGrownAcross_95 (by decide) ?_
    refine EV.iload 6 dX3_becomeGrownAcross_96 rfl ?_
    refine EV.imul dX3_becomeGrownAcross_98 ?_
    refine EV.iload 0 dX3_becomeGrownAcross_99 rfl ?_
    refine EV.iadd dX3_becomeGrownAcross_101 ?_
    refine EV.iconst (1) dX3_becomeGrownAcross_102 (by decide) ?_
    refine EV.iadd dX3_becomeGrownAcross_103 ?_
    refine EV.iload 5 dX3_becomeGrownAcross_104 rfl ?_
    refine EV.iconst (2) dX3_becomeGrownAcross_106 (by decide) ?_
    obtain ⟨v22, gv22, h⟩ := px_bs h
    refine ev_rI dX3_becomeGrownAcross_107 gv22 ?_
    refine EV.iadd dX3_becomeGrownAcross_108 ?_
    refine EV.iconst (2) dX3_becomeGrownAcross_109 (by decide) ?_
    refine EV.ishr dX3_becomeGrownAcross_110 ?_
    refine EV.goto 116 dX3_becomeGrownAcross_111 (by decide) ?_
    refine EV.sub [1, 2, 3, 4, 5] rfl ?_
    exact eX3_becomeGrownAcross_116 hk25 hk36 _ _ _ _ _ _ _ _ _ _ h
set_option maxRecDepth 100000 in
set_option maxHeartbeats 4000000 in
theorem eX3_becomeGrownAcross_123 {X : px_X} {k25 : Nat → Nat → Int32 → Int32 → px_W → Option (px_W)} (hk25 : ∀ (a0 : Nat) (a1 : Nat) (a2 : Int32) (a3 : Int32) (w : px_W) (q : px_W), k25 a0 a1 a2 a3 w = some q → EV X mX3_becomeGrownAcross 25 [(0, .ref a0), (1, .ref a1), (2, .int a2), (3, .int a3)] [] w none q) : ∀ (a0 : Nat) (a1 : Nat) (a2 : Int32) (a3 : Int32) (w : px_W) (q : px_W), fX3_becomeGrownAcross_123 X k25 a0 a1 a2 a3 w = some q → EV X mX3_becomeGrownAcross 123 [(0, .ref a0), (1, .ref a1), (2, .int a2), (3, .int a3)] [] w none q := by
  intro a0 a1 a2 a3 w q h
  unfold fX3_becomeGrownAcross_123 at h
  refine EV.iinc 3 (a3 + 1) [(3, .int (a3 + 1)), (0, .ref a0), (1, .ref a1), (2, .int a2)] dX3_becomeGrownAcross_123 rfl rfl (by decide) rfl ?_
  refine EV.goto 25 dX3_becomeGrownAcross_126 (by decide) ?_
  refine EV.sub [1, 2, 3, 0] rfl ?_
  exact hk25 _ _ _ _ _ _ h
set_option maxRecDepth 100000 in
set_option maxHeartbeats 4000000 in
theorem eX3_becomeGrownAcross_36 {X : px_X} {k25 : Nat → Nat → Int32 → Int32 → px_W → Option (px_W)} (hk25 : ∀ (a0 : Nat) (a1 : Nat) (a2 : Int32) (a3 : Int32) (w : px_W) (q : px_W), k25 a0 a1 a2 a3 w = some q → EV X mX3_becomeGrownAcross 25 [(0, .ref a0), (1, .ref a1), (2, .int a2), (3, .int a3)] [] w none q) : ∀ (m : Nat) (a0 : Nat) (a1 : Nat) (a2 : Int32) (a3 : Int32) (a4 : Int32) (w : px_W) (q : px_W), fX3_becomeGrownAcross_36 X k25 m a0 a1 a2 a3 a4 w = some q → EV X mX3_becomeGrownAcross 36 [(0, .ref a0), (1, .ref a1), (2, .int a2), (3, .int a3), (4, .int a4)] [] w none q := by
  intro m
  induction m with
  | zero => intro a0 a1 a2 a3 a4 w q h; cases h
  | succ m ih =>
    intro a0 a1 a2 a3 a4 w q h
    rw [fX3_becomeGrownAcross_36.eq_2] at h
    refine EV.iload 4 dX3_becomeGrownAcross_36 rfl ?_
    refine EV.aload_n 0 dX3_becomeGrownAcross_38 rfl rfl ?_
    obtain ⟨v23, gv23, h⟩ := px_bs h
    refine ev_gI dX3_becomeGrownAcross_39 flRX3_9 gv23 ?_
    refine EV.icmp_ge 123 dX3_becomeGrownAcross_42 (by decide) (fun c24 => ?_) (fun c24 => ?_)
    · rw [if_pos c24] at h
      refine EV.sub [0, 1, 2, 3] rfl ?_
      exact eX3_becomeGrownAcross_123 hk25 _ _ _ _ _ _ h
    · rw [if_neg c24] at h
      refine EV.aload_n 1 dX3_becomeGrownAcross_45 rfl rfl ?_
      refine EV.iload 4 dX3_becomeGrownAcross_46 rfl ?_
      refine EV.iconst (2) dX3_becomeGrownAcross_48 (by decide) ?_
      obtain ⟨v25, gv25, h⟩ := px_bs h
      refine ev_dI dX3_becomeGrownAcross_49 gv25 ?_
      refine EV.iload_n 3 dX3_becomeGrownAcross_50 rfl rfl ?_
      obtain ⟨o26, go26, h⟩ := px_bs h
      obtain ⟨q27, gq27, h⟩ := px_bs h
      refine EV.callV (As := [.int v25, .int a3]) (rest := []) dX3_becomeGrownAcross_51 kcX3_becomeGrownAcross_43 (gO_ok go26) rfl rfl rfl (Nat.le_of_ble_eq_true rfl) (Nat.le_of_ble_eq_true rfl) (eX3_nearest gq27) ?_
      refine EV.istore [(5, .int q27.1), (0, .ref a0), (1, .ref a1), (2, .int a2), (3, .int a3), (4, .int a4)] dX3_becomeGrownAcross_54 (by decide) rfl ?_
      refine EV.aload_n 2 dX3_becomeGrownAcross_56 rfl rfl ?_
      refine EV.iload 5 dX3_becomeGrownAcross_57 rfl ?_
      refine EV.iconst (2) dX3_becomeGrownAcross_59 (by decide) ?_
      obtain ⟨v28, gv28, h⟩ := px_bs h
      refine ev_dI dX3_becomeGrownAcross_60 gv28 ?_
      refine EV.iload 5 dX3_becomeGrownAcross_61 rfl ?_
      refine EV.iconst (2) dX3_becomeGrownAcross_63 (by decide) ?_
      obtain ⟨v29, gv29, h⟩ := px_bs h
      refine ev_rI dX3_becomeGrownAcross_64 gv29 ?_
      refine EV.if_ne 72 dX3_becomeGrownAcross_65 (by decide) (fun c30 => ?_) (fun c30 => ?_)
      · rw [if_neg c30] at h
        refine EV.iconst (1) dX3_becomeGrownAcross_72 (by decide) ?_
        refine EV.sub [1, 2, 3, 4, 5, 0] rfl ?_
        exact eX3_becomeGrownAcross_73 hk25 ih _ _ _ _ _ _ _ _ _ _ _ h
      · rw [if_pos c30] at h
        refine EV.iconst ((-1)) dX3_becomeGrownAcross_68 (by decide) ?_
        refine EV.goto 73 dX3_becomeGrownAcross_69 (by decide) ?_
        refine EV.sub [1, 2, 3, 4, 5, 0] rfl ?_
        exact eX3_becomeGrownAcross_73 hk25 ih _ _ _ _ _ _ _ _ _ _ _ h
set_option maxRecDepth 100000 in
set_option maxHeartbeats 4000000 in
theorem eX3_becomeGrownAcross_25 {X : px_X}  : ∀ (m : Nat) (a0 : Nat) (a1 : Nat) (a2 : Int32) (a3 : Int32) (w : px_W) (q : px_W), fX3_becomeGrownAcross_25 X  m a0 a1 a2 a3 w = some q → EV X mX3_becomeGrownAcross 25 [(0, .ref a0), (1, .ref a1), (2, .int a2), (3, .int a3)] [] w none q := by
  intro m
  induction m with
  | zero => intro a0 a1 a2 a3 w q h; cases h
  | succ m ih =>
    intro a0 a1 a2 a3 w q h
    rw [fX3_becomeGrownAcross_25.eq_2] at h
    refine EV.iload_n 3 dX3_becomeGrownAcross_25 rfl rfl ?_
    refine EV.aload_n 0 dX3_becomeGrownAcross_26 rfl rfl ?_
    obtain ⟨v31, gv31, h⟩ := px_bs h
    refine ev_gI dX3_becomeGrownAcross_27 flRX3_15 gv31 ?_
    refine EV.icmp_ge 129 dX3_becomeGrownAcross_30 (by decide) (fun c32 => ?_) (fun c32 => ?_)
    · rw [if_pos c32] at h
      cases h
      exact EV.ret0 dX3_becomeGrownAcross_129 trivial
    · rw [if_neg c32] at h
      refine EV.iconst (0) dX3_becomeGrownAcross_33 (by decide) ?_
      refine EV.istore [(4, .int 0), (0, .ref a0), (1, .ref a1), (2, .int a2), (3, .int a3)] dX3_becomeGrownAcross_34 (by decide) rfl ?_
      refine EV.sub [1, 2, 3, 4, 0] rfl ?_
      exact eX3_becomeGrownAcross_36 ih FU _ _ _ _ _ _ _ h
set_option maxRecDepth 100000 in
set_option maxHeartbeats 4000000 in
theorem eX3_becomeGrownAcross {X : px_X} {w : px_W} {a0 : Nat} {a1 : Nat} {a2 : Int32} {q : px_W} (h : fX3_becomeGrownAcross X w a0 a1 a2 = some q) : EV X mX3_becomeGrownAcross 0 (lv_args 0 [.ref a0, .ref a1, .int a2]) [] w none q := by
  unfold fX3_becomeGrownAcross at h
  show EV X mX3_becomeGrownAcross 0 [(0, .ref a0), (1, .ref a1), (2, .int a2)] [] w none q
  refine EV.aload_n 0 dX3_becomeGrownAcross_0 rfl rfl ?_
  refine EV.bipush (32) dX3_becomeGrownAcross_1 (by decide) ?_
  refine EV.iconst (2) dX3_becomeGrownAcross_3 (by decide) ?_
  refine EV.aload_n 1 dX3_becomeGrownAcross_4 rfl rfl ?_
  obtain ⟨v33, gv33, h⟩ := px_bs h
  refine ev_gI dX3_becomeGrownAcross_5 flRX3_9 gv33 ?_
  refine EV.imul dX3_becomeGrownAcross_8 ?_
  refine EV.mmin dX3_becomeGrownAcross_9 (tb5 (List.mem_of_getElem? (i := 136) rfl)) (by decide) (by decide) (Nat.le_of_ble_eq_true rfl) ?_
  obtain ⟨w34, gw34, h⟩ := px_bs h
  refine ev_pV dX3_becomeGrownAcross_12 flRX3_9 rfl rfl rfl rfl gw34 ?_
  refine EV.aload_n 0 dX3_becomeGrownAcross_15 rfl rfl ?_
  refine EV.aload_n 1 dX3_becomeGrownAcross_16 rfl rfl ?_
  obtain ⟨v35, gv35, h⟩ := px_bs h
  refine ev_gI dX3_becomeGrownAcross_17 flRX3_15 gv35 ?_
  obtain ⟨w36, gw36, h⟩ := px_bs h
  refine ev_pV dX3_becomeGrownAcross_20 flRX3_15 rfl rfl rfl rfl gw36 ?_
  refine EV.iconst (0) dX3_becomeGrownAcross_23 (by decide) ?_
  refine EV.istore_n [(3, .int 0), (0, .ref a0), (1, .ref a1), (2, .int a2)] dX3_becomeGrownAcross_24 rfl (by decide) rfl ?_
  refine EV.sub [1, 2, 3, 0] rfl ?_
  exact eX3_becomeGrownAcross_25  FU _ _ _ _ _ _ h
/-! WavePictures$Plane.becomeGrownDown(LWavePictures$Plane;Z)V -/
theorem dX3_becomeGrownDown_0 : decode cX3_becomeGrownDown 0 = .ok (.aload_n 0, 1) := by decide +kernel
theorem dX3_becomeGrownDown_1 : decode cX3_becomeGrownDown 1 = .ok (.aload_n 1, 1) := by decide +kernel
theorem dX3_becomeGrownDown_2 : decode cX3_becomeGrownDown 2 = .ok (.getfield 9, 3) := by decide +kernel
theorem dX3_becomeGrownDown_5 : decode cX3_becomeGrownDown 5 = .ok (.putfield 9, 3) := by decide +kernel
theorem dX3_becomeGrownDown_8 : decode cX3_becomeGrownDown 8 = .ok (.aload_n 0, 1) := by decide +kernel
theorem dX3_becomeGrownDown_9 : decode cX3_becomeGrownDown 9 = .ok (.bipush 32, 2) := by decide +kernel
theorem dX3_becomeGrownDown_11 : decode cX3_becomeGrownDown 11 = .ok (.iconst 2, 1) := by decide +kernel
theorem dX3_becomeGrownDown_12 : decode cX3_becomeGrownDown 12 = .ok (.aload_n 1, 1) := by decide +kernel
theorem dX3_becomeGrownDown_13 : decode cX3_becomeGrownDown 13 = .ok (.getfield 15, 3) := by decide +kernel
theorem dX3_becomeGrownDown_16 : decode cX3_becomeGrownDown 16 = .ok (.imul, 1) := by decide +kernel
theorem dX3_becomeGrownDown_17 : decode cX3_becomeGrownDown 17 = .ok (.invokestatic 28, 3) := by decide +kernel
theorem dX3_becomeGrownDown_20 : decode cX3_becomeGrownDown 20 = .ok (.putfield 15, 3) := by decide +kernel
theorem dX3_becomeGrownDown_23 : decode cX3_becomeGrownDown 23 = .ok (.iconst 0, 1) := by decide +kernel
theorem dX3_becomeGrownDown_24 : decode cX3_becomeGrownDown 24 = .ok (.istore_n 3, 1) := by decide +kernel
theorem dX3_becomeGrownDown_25 : decode cX3_becomeGrownDown 25 = .ok (.iload_n 3, 1) := by decide +kernel
theorem dX3_becomeGrownDown_26 : decode cX3_becomeGrownDown 26 = .ok (.aload_n 0, 1) := by decide +kernel
theorem dX3_becomeGrownDown_27 : decode cX3_becomeGrownDown 27 = .ok (.getfield 15, 3) := by decide +kernel
theorem dX3_becomeGrownDown_30 : decode cX3_becomeGrownDown 30 = .ok (.if_icmp .ge 97, 3) := by decide +kernel
theorem dX3_becomeGrownDown_33 : decode cX3_becomeGrownDown 33 = .ok (.iconst 0, 1) := by decide +kernel
theorem dX3_becomeGrownDown_34 : decode cX3_becomeGrownDown 34 = .ok (.istore 4, 2) := by decide +kernel
theorem dX3_becomeGrownDown_36 : decode cX3_becomeGrownDown 36 = .ok (.iload 4, 2) := by decide +kernel
theorem dX3_becomeGrownDown_38 : decode cX3_becomeGrownDown 38 = .ok (.aload_n 0, 1) := by decide +kernel
theorem dX3_becomeGrownDown_39 : decode cX3_becomeGrownDown 39 = .ok (.getfield 9, 3) := by decide +kernel
theorem dX3_becomeGrownDown_42 : decode cX3_becomeGrownDown 42 = .ok (.if_icmp .ge 79, 3) := by decide +kernel
theorem dX3_becomeGrownDown_45 : decode cX3_becomeGrownDown 45 = .ok (.aload_n 1, 1) := by decide +kernel
theorem dX3_becomeGrownDown_46 : decode cX3_becomeGrownDown 46 = .ok (.iload 4, 2) := by decide +kernel
theorem dX3_becomeGrownDown_48 : decode cX3_becomeGrownDown 48 = .ok (.iload_n 3, 1) := by decide +kernel
theorem dX3_becomeGrownDown_49 : decode cX3_becomeGrownDown 49 = .ok (.iconst 2, 1) := by decide +kernel
theorem dX3_becomeGrownDown_50 : decode cX3_becomeGrownDown 50 = .ok (.idiv, 1) := by decide +kernel
theorem dX3_becomeGrownDown_51 : decode cX3_becomeGrownDown 51 = .ok (.invokevirtual 43, 3) := by decide +kernel
theorem dX3_becomeGrownDown_54 : decode cX3_becomeGrownDown 54 = .ok (.istore 5, 2) := by decide +kernel
theorem dX3_becomeGrownDown_56 : decode cX3_becomeGrownDown 56 = .ok (.aload_n 1, 1) := by decide +kernel
theorem dX3_becomeGrownDown_57 : decode cX3_becomeGrownDown 57 = .ok (.iload 4, 2) := by decide +kernel
theorem dX3_becomeGrownDown_59 : decode cX3_becomeGrownDown 59 = .ok (.iload_n 3, 1) := by decide +kernel
theorem dX3_becomeGrownDown_60 : decode cX3_becomeGrownDown 60 = .ok (.iconst 2, 1) := by decide +kernel
theorem dX3_becomeGrownDown_61 : decode cX3_becomeGrownDown 61 = .ok (.idiv, 1) := by decide +kernel
theorem dX3_becomeGrownDown_62 : decode cX3_becomeGrownDown 62 = .ok (.iload_n 3, 1) := by decide +kernel
theorem dX3_becomeGrownDown_63 : decode cX3_becomeGrownDown 63 = .ok (.iconst 2, 1) := by decide +kernel
theorem dX3_becomeGrownDown_64 : decode cX3_becomeGrownDown 64 = .ok (.irem, 1) := by decide +kernel
theorem dX3_becomeGrownDown_65 : decode cX3_becomeGrownDown 65 = .ok (.ifCond .ne 7, 3) := by decide +kernel
theorem dX3_becomeGrownDown_68 : decode cX3_becomeGrownDown 68 = .ok (.iconst (-1), 1) := by decide +kernel
theorem dX3_becomeGrownDown_69 : decode cX3_becomeGrownDown 69 = .ok (.goto 4, 3) := by decide +kernel
theorem dX3_becomeGrownDown_72 : decode cX3_becomeGrownDown 72 = .ok (.iconst 1, 1) := by decide +kernel
theorem dX3_becomeGrownDown_73 : decode cX3_becomeGrownDown 73 = .ok (.iadd, 1) := by decide +kernel
theorem dX3_becomeGrownDown_74 : decode cX3_becomeGrownDown 74 = .ok (.invokevirtual 43, 3) := by decide +kernel
theorem dX3_becomeGrownDown_77 : decode cX3_becomeGrownDown 77 = .ok (.istore 6, 2) := by decide +kernel
theorem dX3_becomeGrownDown_79 : decode cX3_becomeGrownDown 79 = .ok (.aload_n 0, 1) := by decide +kernel
theorem dX3_becomeGrownDown_80 : decode cX3_becomeGrownDown 80 = .ok (.getfield 18, 3) := by decide +kernel
theorem dX3_becomeGrownDown_83 : decode cX3_becomeGrownDown 83 = .ok (.bipush 32, 2) := by decide +kernel
theorem dX3_becomeGrownDown_85 : decode cX3_becomeGrownDown 85 = .ok (.iload_n 3, 1) := by decide +kernel
theorem dX3_becomeGrownDown_86 : decode cX3_becomeGrownDown 86 = .ok (.imul, 1) := by decide +kernel
theorem dX3_becomeGrownDown_87 : decode cX3_becomeGrownDown 87 = .ok (.iload 4, 2) := by decide +kernel
theorem dX3_becomeGrownDown_89 : decode cX3_becomeGrownDown 89 = .ok (.iadd, 1) := by decide +kernel
theorem dX3_becomeGrownDown_90 : decode cX3_becomeGrownDown 90 = .ok (.iload_n 2, 1) := by decide +kernel
theorem dX3_becomeGrownDown_91 : decode cX3_becomeGrownDown 91 = .ok (.ifCond .eq 21, 3) := by decide +kernel
theorem dX3_becomeGrownDown_94 : decode cX3_becomeGrownDown 94 = .ok (.iconst 3, 1) := by decide +kernel
theorem dX3_becomeGrownDown_95 : decode cX3_becomeGrownDown 95 = .ok (.iload 5, 2) := by decide +kernel
theorem dX3_becomeGrownDown_97 : decode cX3_becomeGrownDown 97 = .ok (.imul, 1) := by decide +kernel
theorem dX3_becomeGrownDown_98 : decode cX3_becomeGrownDown 98 = .ok (.iload 6, 2) := by decide +kernel
theorem dX3_becomeGrownDown_100 : decode cX3_becomeGrownDown 100 = .ok (.iadd, 1) := by decide +kernel
theorem dX3_becomeGrownDown_101 : decode cX3_becomeGrownDown 101 = .ok (.iconst 1, 1) := by decide +kernel
theorem dX3_becomeGrownDown_102 : decode cX3_becomeGrownDown 102 = .ok (.iadd, 1) := by decide +kernel
theorem dX3_becomeGrownDown_103 : decode cX3_becomeGrownDown 103 = .ok (.iload_n 3, 1) := by decide +kernel
theorem dX3_becomeGrownDown_104 : decode cX3_becomeGrownDown 104 = .ok (.iconst 2, 1) := by decide +kernel
theorem dX3_becomeGrownDown_105 : decode cX3_becomeGrownDown 105 = .ok (.irem, 1) := by decide +kernel
theorem dX3_becomeGrownDown_106 : decode cX3_becomeGrownDown 106 = .ok (.iadd, 1) := by decide +kernel
theorem dX3_becomeGrownDown_107 : decode cX3_becomeGrownDown 107 = .ok (.iconst 2, 1) := by decide +kernel
theorem dX3_becomeGrownDown_108 : decode cX3_becomeGrownDown 108 = .ok (.ishr, 1) := by decide +kernel
theorem dX3_becomeGrownDown_109 : decode cX3_becomeGrownDown 109 = .ok (.goto 5, 3) := by decide +kernel
theorem dX3_becomeGrownDown_112 : decode cX3_becomeGrownDown 112 = .ok (.iload 5, 2) := by decide +kernel
theorem dX3_becomeGrownDown_114 : decode cX3_becomeGrownDown 114 = .ok (.iastore, 1) := by decide +kernel
theorem dX3_becomeGrownDown_115 : decode cX3_becomeGrownDown 115 = .ok (.iinc 4 1, 3) := by decide +kernel
theorem dX3_becomeGrownDown_118 : decode cX3_becomeGrownDown 118 = .ok (.goto (-82), 3) := by decide +kernel
theorem dX3_becomeGrownDown_121 : decode cX3_becomeGrownDown 121 = .ok (.iinc 3 1, 3) := by decide +kernel
theorem dX3_becomeGrownDown_124 : decode cX3_becomeGrownDown 124 = .ok (.goto (-99), 3) := by decide +kernel
theorem dX3_becomeGrownDown_127 : decode cX3_becomeGrownDown 127 = .ok (.return_, 1) := by decide +kernel
theorem kcX3_becomeGrownDown_43 : px_cV mX3_becomeGrownDown 43 mX3_nearest 2 := ⟨⟨mbX3_nearest, by decide, by decide⟩, Or.inl (tb5 (List.mem_of_getElem? (i := 132) rfl)), vbX3_nearest⟩
set_option maxRecDepth 100000 in
set_option maxHeartbeats 4000000 in
theorem eX3_becomeGrownDown_114 {X : px_X} {k25 : Nat → Nat → Int32 → Int32 → px_W → Option (px_W)} (hk25 : ∀ (a0 : Nat) (a1 : Nat) (a2 : Int32) (a3 : Int32) (w : px_W) (q : px_W), k25 a0 a1 a2 a3 w = some q → EV X mX3_becomeGrownDown 25 [(0, .ref a0), (1, .ref a1), (2, .int a2), (3, .int a3)] [] w none q) {k36 : Nat → Nat → Int32 → Int32 → Int32 → px_W → Option (px_W)} (hk36 : ∀ (a0 : Nat) (a1 : Nat) (a2 : Int32) (a3 : Int32) (a4 : Int32) (w : px_W) (q : px_W), k36 a0 a1 a2 a3 a4 w = some q → EV X mX3_becomeGrownDown 36 [(0, .ref a0), (1, .ref a1), (2, .int a2), (3, .int a3), (4, .int a4)] [] w none q) : ∀ (a0 : Nat) (a1 : Nat) (a2 : Int32) (a3 : Int32) (a4 : Int32) (s0 : Int32) (s1 : Int32) (s2 : Nat) (w : px_W) (q : px_W), fX3_becomeGrownDown_114 X k25 k36 a0 a1 a2 a3 a4 s0 s1 s2 w = some q → EV X mX3_becomeGrownDown 114 [(0, .ref a0), (1, .ref a1), (2, .int a2), (3, .int a3), (4, .int a4)] [.int s0, .int s1, .ref s2] w none q := by
  intro a0 a1 a2 a3 a4 s0 s1 s2 w q h
  unfold fX3_becomeGrownDown_114 at h
  obtain ⟨w17, gw17, h⟩ := px_bs h
  refine ev_sI dX3_becomeGrownDown_114 gw17 ?_
  refine EV.iinc 4 (a4 + 1) [(4, .int (a4 + 1)), (0, .ref a0), (1, .ref a1), (2, .int a2), (3, .int a3)] dX3_becomeGrownDown_115 rfl rfl (by decide) rfl ?_
  refine EV.goto 36 dX3_becomeGrownDown_118 (by decide) ?_
  refine EV.sub [1, 2, 3, 4, 0] rfl ?_
  exact hk36 _ _ _ _ _ _ _ h
set_option maxRecDepth 100000 in
set_option maxHeartbeats 4000000 in
theorem eX3_becomeGrownDown_73 {X : px_X} {k25 : Nat → Nat → Int32 → Int32 → px_W → Option (px_W)} (hk25 : ∀ (a0 : Nat) (a1 : Nat) (a2 : Int32) (a3 : Int32) (w : px_W) (q : px_W), k25 a0 a1 a2 a3 w = some q → EV X mX3_becomeGrownDown 25 [(0, .ref a0), (1, .ref a1), (2, .int a2), (3, .int a3)] [] w none q) {k36 : Nat → Nat → Int32 → Int32 → Int32 → px_W → Option (px_W)} (hk36 : ∀ (a0 : Nat) (a1 : Nat) (a2 : Int32) (a3 : Int32) (a4 : Int32) (w : px_W) (q : px_W), k36 a0 a1 a2 a3 a4 w = some q → EV X mX3_becomeGrownDown 36 [(0, .ref a0), (1, .ref a1), (2, .int a2), (3, .int a3), (4, .int a4)] [] w none q) : ∀ (a0 : Nat) (a1 : Nat) (a2 : Int32) (a3 : Int32) (a4 : Int32) (a5 : Int32) (s0 : Int32) (s1 : Int32) (s2 : Int32) (s3 : Nat) (w : px_W) (q : px_W), fX3_becomeGrownDown_73 X k25 k36 a0 a1 a2 a3 a4 a5 s0 s1 s2 s3 w = some q → EV X mX3_becomeGrownDown 73 [(0, .ref a0), (1, .ref a1), (2, .int a2), (3, .int a3), (4, .int a4), (5, .int a5)] [.int s0, .int s1, .int s2, .ref s3] w none q := by
  intro a0 a1 a2 a3 a4 a5 s0 s1 s2 s3 w q h
  unfold fX3_becomeGrownDown_73 at h
  refine EV.iadd dX3_becomeGrownDown_73 ?_
  obtain ⟨o18, go18, h⟩ := px_bs h
  obtain ⟨q19, gq19, h⟩ := px_bs h
  refine EV.callV (As := [.int s2, .int (s1 + s0)]) (rest := []) dX3_becomeGrownDown_74 kcX3_becomeGrownDown_43 (gO_ok go18) rfl rfl rfl (Nat.le_of_ble_eq_true rfl) (Nat.le_of_ble_eq_true rfl) (eX3_nearest gq19) ?_
  refine EV.istore [(6, .int q19.1), (0, .ref a0), (1, .ref a1), (2, .int a2), (3, .int a3), (4, .int a4), (5, .int a5)] dX3_becomeGrownDown_77 (by decide) rfl ?_
  refine EV.aload_n 1 dX3_becomeGrownDown_79 rfl rfl ?_
  obtain ⟨v20, gv20, h⟩ := px_bs h
  refine ev_gR dX3_becomeGrownDown_80 flRX3_18 gv20 ?_
  refine EV.bipush (32) dX3_becomeGrownDown_83 (by decide) ?_
  refine EV.iload_n 4 dX3_becomeGrownDown_85 rfl rfl ?_
  refine EV.imul dX3_becomeGrownDown_86 ?_
  refine EV.iload 5 dX3_becomeGrownDown_87 rfl ?_
  refine EV.iadd dX3_becomeGrownDown_89 ?_
  refine EV.iload_n 3 dX3_becomeGrownDown_90 rfl rfl ?_
  refine EV.if_eq 112 dX3_becomeGrownDown_91 (by decide) (fun c21 => ?_) (fun c21 => ?_)
  · rw [if_pos c21] at h
    refine EV.iload 6 dX3_becomeGrownDown_112 rfl ?_
    refine EV.sub [1, 2, 3, 4, 5] rfl ?_
    exact eX3_becomeGrownDown_114 hk25 hk36 _ _ _ _ _ _ _ _ _ _ h
  · rw [if_neg c21] at h
    refine EV.iconst (3) dX3_becomeGrownDown_94 (by decide) ?_
    refine EV.iload 6 dX3_becomeGrownDown_95 rfl ?_
    refine EV.imul dX3_becomeGrownDown_97 ?_
    refine EV.iload 0 dX3_becomeGrownDown_98 rfl ?_
    refine EV.iadd dX3_becomeGrownDown_100 ?_
    refine EV.iconst (1) dX3_becomeGrownDown_101 (by decide) ?_
    refine EV.iadd dX3_becomeGrownDown_102 ?_
    refine EV.iload_n 4 dX3_becomeGrownDown_103 rfl rfl ?_
    refine EV.iconst (2) dX3_becomeGrownDown_104 (by decide) ?_
    obtain ⟨v22, gv22, h⟩ := px_bs h
    refine ev_rI dX3_becomeGrownDown_105 gv22 ?_
    refine EV.iadd dX3_becomeGrownDown_106 ?_
    refine EV.iconst (2) dX3_becomeGrownDown_107 (by decide) ?_
    refine EV.ishr dX3_becomeGrownDown_108 ?_
    refine EV.goto 114 dX3_becomeGrownDown_109 (by decide) ?_
    refine EV.sub [1, 2, 3, 4, 5] rfl ?_
    exact eX3_becomeGrownDown_114 hk25 hk36 _ _ _ _ _ _ _ _ _ _ h
set_option maxRecDepth 100000 in
set_option maxHeartbeats 4000000 in
theorem eX3_becomeGrownDown_121 {X : px_X} {k25 : Nat → Nat → Int32 → Int32 → px_W → Option (px_W)} (hk25 : ∀ (a0 : Nat) (a1 : Nat) (a2 : Int32) (a3 : Int32) (w : px_W) (q : px_W), k25 a0 a1 a2 a3 w = some q → EV X mX3_becomeGrownDown 25 [(0, .ref a0), (1, .ref a1), (2, .int a2), (3, .int a3)] [] w none q) : ∀ (a0 : Nat) (a1 : Nat) (a2 : Int32) (a3 : Int32) (w : px_W) (q : px_W), fX3_becomeGrownDown_121 X k25 a0 a1 a2 a3 w = some q → EV X mX3_becomeGrownDown 121 [(0, .ref a0), (1, .ref a1), (2, .int a2), (3, .int a3)] [] w none q := by
  intro a0 a1 a2 a3 w q h
  unfold fX3_becomeGrownDown_121 at h
  refine EV.iinc 3 (a3 + 1) [(3, .int (a3 + 1)), (0, .ref a0), (1, .ref a1), (2, .int a2)] dX3_becomeGrownDown_121 rfl rfl (by decide) rfl ?_
  refine EV.goto 25 dX3_becomeGrownDown_124 (by decide) ?_
  refine EV.sub [1, 2, 3, 0] rfl ?_
  exact hk25 _ _ _ _ _ _ h
set_option maxRecDepth 100000 in
set_option maxHeartbeats 4000000 in
theorem eX3_becomeGrownDown_36 {X : px_X} {k25 : Nat → Nat → Int32 → Int32 → px_W → Option (px_W)} (hk25 : ∀ (a0 : Nat) (a1 : Nat) (a2 : Int32) (a3 : Int32) (w : px_W) (q : px_W), k25 a0 a1 a2 a3 w = some q → EV X mX3_becomeGrownDown 25 [(0, .ref a0), (1, .ref a1), (2, .int a2), (3, .int a3)] [] w none q) : ∀ (m : Nat) (a0 : Nat) (a1 : Nat) (a2 : Int32) (a3 : Int32) (a4 : Int32) (w : px_W) (q : px_W), fX3_becomeGrownDown_36 X k25 m a0 a1 a2 a3 a4 w = some q → EV X mX3_becomeGrownDown 36 [(0, .ref a0), (1, .ref a1), (2, .int a2), (3, .int a3), (4, .int a4)] [] w none q := by
  intro m
  induction m with
  | zero => intro a0 a1 a2 a3 a4 w q h; cases h
  | succ m ih =>
    intro a0 a1 a2 a3 a4 w q h
    rw [fX3_becomeGrownDown_36.eq_2] at h
    refine EV.iload 4 dX3_becomeGrownDown_36 rfl ?_
    refine EV.aload_n 0 dX3_becomeGrownDown_38 rfl rfl ?_
    obtain ⟨v23, gv23, h⟩ := px_bs h
    refine ev_gI dX3_becomeGrownDown_39 flRX3_9 gv23 ?_
    refine EV.icmp_ge 121 dX3_becomeGrownDown_42 (by decide) (fun c24 => ?_) (fun c24 => ?_)
    · rw [if_pos c24] at h
      refine EV.sub [0, 1, 2, 3] rfl ?_
      exact eX3_becomeGrownDown_121 hk25 _ _ _ _ _ _ h
    · rw [if_neg c24] at h
      refine EV.aload_n 1 dX3_becomeGrownDown_45 rfl rfl ?_
      refine EV.iload 4 dX3_becomeGrownDown_46 rfl ?_
      refine EV.iload_n 3 dX3_becomeGrownDown_48 rfl rfl ?_
      refine EV.iconst (2) dX3_becomeGrownDown_49 (by decide) ?_
      obtain ⟨v25, gv25, h⟩ := px_bs h
      refine ev_dI dX3_becomeGrownDown_50 gv25 ?_
      obtain ⟨o26, go26, h⟩ := px_bs h
      obtain ⟨q27, gq27, h⟩ := px_bs h
      refine EV.callV (As := [.int a4, .int v25]) (rest := []) dX3_becomeGrownDown_51 kcX3_becomeGrownDown_43 (gO_ok go26) rfl rfl rfl (Nat.le_of_ble_eq_true rfl) (Nat.le_of_ble_eq_true rfl) (eX3_nearest gq27) ?_
      refine EV.istore [(5, .int q27.1), (0, .ref a0), (1, .ref a1), (2, .int a2), (3, .int a3), (4, .int a4)] dX3_becomeGrownDown_54 (by decide) rfl ?_
      refine EV.aload_n 2 dX3_becomeGrownDown_56 rfl rfl ?_
      refine EV.iload 5 dX3_becomeGrownDown_57 rfl ?_
      refine EV.iload_n 4 dX3_becomeGrownDown_59 rfl rfl ?_
      refine EV.iconst (2) dX3_becomeGrownDown_60 (by decide) ?_
      obtain ⟨v28, gv28, h⟩ := px_bs h
      refine ev_dI dX3_becomeGrownDown_61 gv28 ?_
      refine EV.iload_n 4 dX3_becomeGrownDown_62 rfl rfl ?_
      refine EV.iconst (2) dX3_becomeGrownDown_63 (by decide) ?_
      obtain ⟨v29, gv29, h⟩ := px_bs h
      refine ev_rI dX3_becomeGrownDown_64 gv29 ?_
      refine EV.if_ne 72 dX3_becomeGrownDown_65 (by decide) (fun c30 => ?_) (fun c30 => ?_)
      · rw [if_neg c30] at h
        refine EV.iconst (1) dX3_becomeGrownDown_72 (by decide) ?_
        refine EV.sub [1, 2, 3, 4, 5, 0] rfl ?_
        exact eX3_becomeGrownDown_73 hk25 ih _ _ _ _ _ _ _ _ _ _ _ _ h
      · rw [if_pos c30] at h
        refine EV.iconst ((-1)) dX3_becomeGrownDown_68 (by decide) ?_
        refine EV.goto 73 dX3_becomeGrownDown_69 (by decide) ?_
        refine EV.sub [1, 2, 3, 4, 5, 0] rfl ?_
        exact eX3_becomeGrownDown_73 hk25 ih _ _ _ _ _ _ _ _ _ _ _ _ h
set_option maxRecDepth 100000 in
set_option maxHeartbeats 4000000 in
theorem eX3_becomeGrownDown_25 {X : px_X}  : ∀ (m : Nat) (a0 : Nat) (a1 : Nat) (a2 : Int32) (a3 : Int32) (w : px_W) (q : px_W), fX3_becomeGrownDown_25 X  m a0 a1 a2 a3 w = some q → EV X mX3_becomeGrownDown 25 [(0, .ref a0), (1, .ref a1), (2, .int a2), (3, .int a3)] [] w none q := by
  intro m
  induction m with
  | zero => intro a0 a1 a2 a3 w q h; cases h
  | succ m ih =>
    intro a0 a1 a2 a3 w q h
    rw [fX3_becomeGrownDown_25.eq_2] at h
    refine EV.iload_n 3 dX3_becomeGrownDown_25 rfl rfl ?_
    refine EV.aload_n 0 dX3_becomeGrownDown_26 rfl rfl ?_
    obtain ⟨v31, gv31, h⟩ := px_bs h
    refine ev_gI dX3_becomeGrownDown_27 flRX3_15 gv31 ?_
    refine EV.icmp_ge 127 dX3_becomeGrownDown_30 (by decide) (fun c32 => ?_) (fun c32 => ?_)
    · rw [if_pos c32] at h
      cases h
      exact EV.ret0 dX3_becomeGrownDown_127 trivial
    · rw [if_neg c32] at h
      refine EV.iconst (0) dX3_becomeGrownDown_33 (by decide) ?_
      refine EV.istore [(4, .int 0), (0, .ref a0), (1, .ref a1), (2, .int a2), (3, .int a3)] dX3_becomeGrownDown_34 (by decide) rfl ?_
      refine EV.sub [1, 2, 3, 4, 0] rfl ?_
      exact eX3_becomeGrownDown_36 ih FU _ _ _ _ _ _ _ h
set_option maxRecDepth 100000 in
set_option maxHeartbeats 4000000 in
theorem eX3_becomeGrownDown {X : px_X} {w : px_W} {a0 : Nat} {a1 : Nat} {a2 : Int32} {q : px_W} (h : fX3_becomeGrownDown X w a0 a1 a2 = some q) : EV X mX3_becomeGrownDown 0 (lv_args 0 [.ref a0, .ref a1, .int a2]) [] w none q := by
  unfold fX3_becomeGrownDown at h
  show EV X mX3_becomeGrownDown 0 [(0, .ref a0), (1, .ref a1), (2, .int a2)] [] w none q
  refine EV.aload_n 0 dX3_becomeGrownDown_0 rfl rfl ?_
  refine EV.aload_n 1 dX3_becomeGrownDown_1 rfl rfl ?_
  obtain ⟨v33, gv33, h⟩ := px_bs h
  refine ev_gI dX3_becomeGrownDown_2 flRX3_9 gv33 ?_
  obtain ⟨w34, gw34, h⟩ := px_bs h
  refine ev_pV dX3_becomeGrownDown_5 flRX3_9 rfl rfl rfl rfl gw34 ?_
  refine EV.aload_n 0 dX3_becomeGrownDown_8 rfl rfl ?_
  refine EV.bipush (32) dX3_becomeGrownDown_9 (by decide) ?_
  refine EV.iconst (2) dX3_becomeGrownDown_11 (by decide) ?_
  refine EV.aload_n 1 dX3_becomeGrownDown_12 rfl rfl ?_
  obtain ⟨v35, gv35, h⟩ := px_bs h
  refine ev_gI dX3_becomeGrownDown_13 flRX3_15 gv35 ?_
  refine EV.imul dX3_becomeGrownDown_16 ?_
  refine EV.mmin dX3_becomeGrownDown_17 (tb5 (List.mem_of_getElem? (i := 136) rfl)) (by decide) (by decide) (Nat.le_of_ble_eq_true rfl) ?_
  obtain ⟨w36, gw36, h⟩ := px_bs h
  refine ev_pV dX3_becomeGrownDown_20 flRX3_15 rfl rfl rfl rfl gw36 ?_
  refine EV.iconst (0) dX3_becomeGrownDown_23 (by decide) ?_
  refine EV.istore_n [(3, .int 0), (0, .ref a0), (1, .ref a1), (2, .int a2)] dX3_becomeGrownDown_24 rfl (by decide) rfl ?_
  refine EV.sub [1, 2, 3, 0] rfl ?_
  exact eX3_becomeGrownDown_25  FU _ _ _ _ _ _ h
/-! WavePictures$Plane.shrunkAt(LWavePictures$Plane;IIZZ)I -/
theorem dX3_shrunkAt_0 : decode cX3_shrunkAt 0 = .ok (.iload_n 3, 1) := by decide +kernel
theorem dX3_shrunkAt_1 : decode cX3_shrunkAt 1 = .ok (.ifCond .eq 72, 3) := by decide +kernel
theorem dX3_shrunkAt_4 : decode cX3_shrunkAt 4 = .ok (.iload 4, 2) := by decide +kernel
theorem dX3_shrunkAt_6 : decode cX3_shrunkAt 6 = .ok (.ifCond .eq 67, 3) := by decide +kernel
theorem dX3_shrunkAt_9 : decode cX3_shrunkAt 9 = .ok (.aload_n 0, 1) := by decide +kernel
theorem dX3_shrunkAt_10 : decode cX3_shrunkAt 10 = .ok (.iconst 2, 1) := by decide +kernel
theorem dX3_shrunkAt_11 : decode cX3_shrunkAt 11 = .ok (.iload_n 1, 1) := by decide +kernel
theorem dX3_shrunkAt_12 : decode cX3_shrunkAt 12 = .ok (.imul, 1) := by decide +kernel
theorem dX3_shrunkAt_13 : decode cX3_shrunkAt 13 = .ok (.iconst 2, 1) := by decide +kernel
theorem dX3_shrunkAt_14 : decode cX3_shrunkAt 14 = .ok (.iload_n 2, 1) := by decide +kernel
theorem dX3_shrunkAt_15 : decode cX3_shrunkAt 15 = .ok (.imul, 1) := by decide +kernel
theorem dX3_shrunkAt_16 : decode cX3_shrunkAt 16 = .ok (.invokevirtual 43, 3) := by decide +kernel
theorem dX3_shrunkAt_19 : decode cX3_shrunkAt 19 = .ok (.aload_n 0, 1) := by decide +kernel
theorem dX3_shrunkAt_20 : decode cX3_shrunkAt 20 = .ok (.iconst 2, 1) := by decide +kernel
theorem dX3_shrunkAt_21 : decode cX3_shrunkAt 21 = .ok (.iload_n 1, 1) := by decide +kernel
theorem dX3_shrunkAt_22 : decode cX3_shrunkAt 22 = .ok (.imul, 1) := by decide +kernel
theorem dX3_shrunkAt_23 : decode cX3_shrunkAt 23 = .ok (.iconst 1, 1) := by decide +kernel
theorem dX3_shrunkAt_24 : decode cX3_shrunkAt 24 = .ok (.iadd, 1) := by decide +kernel
theorem dX3_shrunkAt_25 : decode cX3_shrunkAt 25 = .ok (.iconst 2, 1) := by decide +kernel
theorem dX3_shrunkAt_26 : decode cX3_shrunkAt 26 = .ok (.iload_n 2, 1) := by decide +kernel
theorem dX3_shrunkAt_27 : decode cX3_shrunkAt 27 = .ok (.imul, 1) := by decide +kernel
theorem dX3_shrunkAt_28 : decode cX3_shrunkAt 28 = .ok (.invokevirtual 43, 3) := by decide +kernel
theorem dX3_shrunkAt_31 : decode cX3_shrunkAt 31 = .ok (.iadd, 1) := by decide +kernel
theorem dX3_shrunkAt_32 : decode cX3_shrunkAt 32 = .ok (.aload_n 0, 1) := by decide +kernel
theorem dX3_shrunkAt_33 : decode cX3_shrunkAt 33 = .ok (.iconst 2, 1) := by decide +kernel
theorem dX3_shrunkAt_34 : decode cX3_shrunkAt 34 = .ok (.iload_n 1, 1) := by decide +kernel
theorem dX3_shrunkAt_35 : decode cX3_shrunkAt 35 = .ok (.imul, 1) := by decide +kernel
theorem dX3_shrunkAt_36 : decode cX3_shrunkAt 36 = .ok (.iconst 2, 1) := by decide +kernel
theorem dX3_shrunkAt_37 : decode cX3_shrunkAt 37 = .ok (.iload_n 2, 1) := by decide +kernel
theorem dX3_shrunkAt_38 : decode cX3_shrunkAt 38 = .ok (.imul, 1) := by decide +kernel
theorem dX3_shrunkAt_39 : decode cX3_shrunkAt 39 = .ok (.iconst 1, 1) := by decide +kernel
theorem dX3_shrunkAt_40 : decode cX3_shrunkAt 40 = .ok (.iadd, 1) := by decide +kernel
theorem dX3_shrunkAt_41 : decode cX3_shrunkAt 41 = .ok (.invokevirtual 43, 3) := by decide +kernel
theorem dX3_shrunkAt_44 : decode cX3_shrunkAt 44 = .ok (.iadd, 1) := by decide +kernel
theorem dX3_shrunkAt_45 : decode cX3_shrunkAt 45 = .ok (.aload_n 0, 1) := by decide +kernel
theorem dX3_shrunkAt_46 : decode cX3_shrunkAt 46 = .ok (.iconst 2, 1) := by decide +kernel
theorem dX3_shrunkAt_47 : decode cX3_shrunkAt 47 = .ok (.iload_n 1, 1) := by decide +kernel
theorem dX3_shrunkAt_48 : decode cX3_shrunkAt 48 = .ok (.imul, 1) := by decide +kernel
theorem dX3_shrunkAt_49 : decode cX3_shrunkAt 49 = .ok (.iconst 1, 1) := by decide +kernel
theorem dX3_shrunkAt_50 : decode cX3_shrunkAt 50 = .ok (.iadd, 1) := by decide +kernel
theorem dX3_shrunkAt_51 : decode cX3_shrunkAt 51 = .ok (.iconst 2, 1) := by decide +kernel
theorem dX3_shrunkAt_52 : decode cX3_shrunkAt 52 = .ok (.iload_n 2, 1) := by decide +kernel
theorem dX3_shrunkAt_53 : decode cX3_shrunkAt 53 = .ok (.imul, 1) := by decide +kernel
theorem dX3_shrunkAt_54 : decode cX3_shrunkAt 54 = .ok (.iconst 1, 1) := by decide +kernel
theorem dX3_shrunkAt_55 : decode cX3_shrunkAt 55 = .ok (.iadd, 1) := by decide +kernel
theorem dX3_shrunkAt_56 : decode cX3_shrunkAt 56 = .ok (.invokevirtual 43, 3) := by decide +kernel
theorem dX3_shrunkAt_59 : decode cX3_shrunkAt 59 = .ok (.iadd, 1) := by decide +kernel
theorem dX3_shrunkAt_60 : decode cX3_shrunkAt 60 = .ok (.istore 5, 2) := by decide +kernel
theorem dX3_shrunkAt_62 : decode cX3_shrunkAt 62 = .ok (.iload 5, 2) := by decide +kernel
theorem dX3_shrunkAt_64 : decode cX3_shrunkAt 64 = .ok (.iconst 1, 1) := by decide +kernel
theorem dX3_shrunkAt_65 : decode cX3_shrunkAt 65 = .ok (.iadd, 1) := by decide +kernel
theorem dX3_shrunkAt_66 : decode cX3_shrunkAt 66 = .ok (.iload_n 1, 1) := by decide +kernel
theorem dX3_shrunkAt_67 : decode cX3_shrunkAt 67 = .ok (.iconst 2, 1) := by decide +kernel
theorem dX3_shrunkAt_68 : decode cX3_shrunkAt 68 = .ok (.irem, 1) := by decide +kernel
theorem dX3_shrunkAt_69 : decode cX3_shrunkAt 69 = .ok (.iadd, 1) := by decide +kernel
theorem dX3_shrunkAt_70 : decode cX3_shrunkAt 70 = .ok (.iconst 2, 1) := by decide +kernel
theorem dX3_shrunkAt_71 : decode cX3_shrunkAt 71 = .ok (.ishr, 1) := by decide +kernel
theorem dX3_shrunkAt_72 : decode cX3_shrunkAt 72 = .ok (.ireturn, 1) := by decide +kernel
theorem dX3_shrunkAt_73 : decode cX3_shrunkAt 73 = .ok (.iload_n 3, 1) := by decide +kernel
theorem dX3_shrunkAt_74 : decode cX3_shrunkAt 74 = .ok (.ifCond .eq 29, 3) := by decide +kernel
theorem dX3_shrunkAt_77 : decode cX3_shrunkAt 77 = .ok (.aload_n 0, 1) := by decide +kernel
theorem dX3_shrunkAt_78 : decode cX3_shrunkAt 78 = .ok (.iconst 2, 1) := by decide +kernel
theorem dX3_shrunkAt_79 : decode cX3_shrunkAt 79 = .ok (.iload_n 1, 1) := by decide +kernel
theorem dX3_shrunkAt_80 : decode cX3_shrunkAt 80 = .ok (.imul, 1) := by decide +kernel
theorem dX3_shrunkAt_81 : decode cX3_shrunkAt 81 = .ok (.iload_n 2, 1) := by decide +kernel
theorem dX3_shrunkAt_82 : decode cX3_shrunkAt 82 = .ok (.invokevirtual 43, 3) := by decide +kernel
theorem dX3_shrunkAt_85 : decode cX3_shrunkAt 85 = .ok (.aload_n 0, 1) := by decide +kernel
theorem dX3_shrunkAt_86 : decode cX3_shrunkAt 86 = .ok (.iconst 2, 1) := by decide +kernel
theorem dX3_shrunkAt_87 : decode cX3_shrunkAt 87 = .ok (.iload_n 1, 1) := by decide +kernel
theorem dX3_shrunkAt_88 : decode cX3_shrunkAt 88 = .ok (.imul, 1) := by decide +kernel
theorem dX3_shrunkAt_89 : decode cX3_shrunkAt 89 = .ok (.iconst 1, 1) := by decide +kernel
theorem dX3_shrunkAt_90 : decode cX3_shrunkAt 90 = .ok (.iadd, 1) := by decide +kernel
theorem dX3_shrunkAt_91 : decode cX3_shrunkAt 91 = .ok (.iload_n 2, 1) := by decide +kernel
theorem dX3_shrunkAt_92 : decode cX3_shrunkAt 92 = .ok (.invokevirtual 43, 3) := by decide +kernel
theorem dX3_shrunkAt_95 : decode cX3_shrunkAt 95 = .ok (.iadd, 1) := by decide +kernel
theorem dX3_shrunkAt_96 : decode cX3_shrunkAt 96 = .ok (.iload_n 1, 1) := by decide +kernel
theorem dX3_shrunkAt_97 : decode cX3_shrunkAt 97 = .ok (.iconst 2, 1) := by decide +kernel
theorem dX3_shrunkAt_98 : decode cX3_shrunkAt 98 = .ok (.irem, 1) := by decide +kernel
theorem dX3_shrunkAt_99 : decode cX3_shrunkAt 99 = .ok (.iadd, 1) := by decide +kernel
theorem dX3_shrunkAt_100 : decode cX3_shrunkAt 100 = .ok (.iconst 1, 1) := by decide +kernel
theorem dX3_shrunkAt_101 : decode cX3_shrunkAt 101 = .ok (.ishr, 1) := by decide +kernel
theorem dX3_shrunkAt_102 : decode cX3_shrunkAt 102 = .ok (.ireturn, 1) := by decide +kernel
theorem dX3_shrunkAt_103 : decode cX3_shrunkAt 103 = .ok (.iload 4, 2) := by decide +kernel
theorem dX3_shrunkAt_105 : decode cX3_shrunkAt 105 = .ok (.ifCond .eq 29, 3) := by decide +kernel
theorem dX3_shrunkAt_108 : decode cX3_shrunkAt 108 = .ok (.aload_n 0, 1) := by decide +kernel
theorem dX3_shrunkAt_109 : decode cX3_shrunkAt 109 = .ok (.iload_n 1, 1) := by decide +kernel
theorem dX3_shrunkAt_110 : decode cX3_shrunkAt 110 = .ok (.iconst 2, 1) := by decide +kernel
theorem dX3_shrunkAt_111 : decode cX3_shrunkAt 111 = .ok (.iload_n 2, 1) := by decide +kernel
theorem dX3_shrunkAt_112 : decode cX3_shrunkAt 112 = .ok (.imul, 1) := by decide +kernel
theorem dX3_shrunkAt_113 : decode cX3_shrunkAt 113 = .ok (.invokevirtual 43, 3) := by decide +kernel
theorem dX3_shrunkAt_116 : decode cX3_shrunkAt 116 = .ok (.aload_n 0, 1) := by decide +kernel
theorem dX3_shrunkAt_117 : decode cX3_shrunkAt 117 = .ok (.iload_n 1, 1) := by decide +kernel
theorem dX3_shrunkAt_118 : decode cX3_shrunkAt 118 = .ok (.iconst 2, 1) := by decide +kernel
theorem dX3_shrunkAt_119 : decode cX3_shrunkAt 119 = .ok (.iload_n 2, 1) := by decide +kernel
theorem dX3_shrunkAt_120 : decode cX3_shrunkAt 120 = .ok (.imul, 1) := by decide +kernel
theorem dX3_shrunkAt_121 : decode cX3_shrunkAt 121 = .ok (.iconst 1, 1) := by decide +kernel
theorem dX3_shrunkAt_122 : decode cX3_shrunkAt 122 = .ok (.iadd, 1) := by decide +kernel
theorem dX3_shrunkAt_123 : decode cX3_shrunkAt 123 = .ok (.invokevirtual 43, 3) := by decide +kernel
theorem dX3_shrunkAt_126 : decode cX3_shrunkAt 126 = .ok (.iadd, 1) := by decide +kernel
theorem dX3_shrunkAt_127 : decode cX3_shrunkAt 127 = .ok (.iload_n 2, 1) := by decide +kernel
theorem dX3_shrunkAt_128 : decode cX3_shrunkAt 128 = .ok (.iconst 2, 1) := by decide +kernel
theorem dX3_shrunkAt_129 : decode cX3_shrunkAt 129 = .ok (.irem, 1) := by decide +kernel
theorem dX3_shrunkAt_130 : decode cX3_shrunkAt 130 = .ok (.iadd, 1) := by decide +kernel
theorem dX3_shrunkAt_131 : decode cX3_shrunkAt 131 = .ok (.iconst 1, 1) := by decide +kernel
theorem dX3_shrunkAt_132 : decode cX3_shrunkAt 132 = .ok (.ishr, 1) := by decide +kernel
theorem dX3_shrunkAt_133 : decode cX3_shrunkAt 133 = .ok (.ireturn, 1) := by decide +kernel
theorem dX3_shrunkAt_134 : decode cX3_shrunkAt 134 = .ok (.aload_n 0, 1) := by decide +kernel
theorem dX3_shrunkAt_135 : decode cX3_shrunkAt 135 = .ok (.iload_n 1, 1) := by decide +kernel
theorem dX3_shrunkAt_136 : decode cX3_shrunkAt 136 = .ok (.iload_n 2, 1) := by decide +kernel
theorem dX3_shrunkAt_137 : decode cX3_shrunkAt 137 = .ok (.invokevirtual 43, 3) := by decide +kernel
theorem dX3_shrunkAt_140 : decode cX3_shrunkAt 140 = .ok (.ireturn, 1) := by decide +kernel
theorem kcX3_shrunkAt_43 : px_cV mX3_shrunkAt 43 mX3_nearest 2 := ⟨⟨mbX3_nearest, by decide, by decide⟩, Or.inl (tb5 (List.mem_of_getElem? (i := 132) rfl)), vbX3_nearest⟩
set_option maxRecDepth 100000 in
set_option maxHeartbeats 4000000 in
theorem eX3_shrunkAt_73 {X : px_X}  : ∀ (a0 : Nat) (a1 : Int32) (a2 : Int32) (a3 : Int32) (a4 : Int32) (w : px_W) (q : Int32 × px_W), fX3_shrunkAt_73 X  a0 a1 a2 a3 a4 w = some q → EV X mX3_shrunkAt 73 [(0, .ref a0), (1, .int a1), (2, .int a2), (3, .int a3), (4, .int a4)] [] w (some (.int q.1)) q.2 := by
  intro a0 a1 a2 a3 a4 w q h
  unfold fX3_shrunkAt_73 at h
  refine EV.iload_n 3 dX3_shrunkAt_73 rfl rfl ?_
  refine EV.if_eq 103 dX3_shrunkAt_74 (by decide) (fun c22 => ?_) (fun c22 => ?_)
  · rw [if_pos c22] at h
    refine EV.iload 4 dX3_shrunkAt_103 rfl ?_
    refine EV.if_eq 134 dX3_shrunkAt_105 (by decide) (fun c23 => ?_) (fun c23 => ?_)
    · rw [if_pos c23] at h
      refine EV.aload_n 0 dX3_shrunkAt_134 rfl rfl ?_
      refine EV.iload_n 1 dX3_shrunkAt_135 rfl rfl ?_
      refine EV.iload_n 2 dX3_shrunkAt_136 rfl rfl ?_
      obtain ⟨o24, go24, h⟩ := px_bs h
      obtain ⟨q25, gq25, h⟩ := px_bs h
      refine EV.callV (As := [.int a1, .int a2]) (rest := []) dX3_shrunkAt_137 kcX3_shrunkAt_43 (gO_ok go24) rfl rfl rfl (Nat.le_of_ble_eq_true rfl) (Nat.le_of_ble_eq_true rfl) (eX3_nearest gq25) ?_
      cases h
      exact EV.reti dX3_shrunkAt_140 rfl
    · rw [if_neg c23] at h
      refine EV.aload_n 0 dX3_shrunkAt_108 rfl rfl ?_
      refine EV.iload_n 1 dX3_shrunkAt_109 rfl rfl ?_
      refine EV.iconst (2) dX3_shrunkAt_110 (by decide) ?_
      refine EV.iload_n 2 dX3_shrunkAt_111 rfl rfl ?_
      refine EV.imul dX3_shrunkAt_112 ?_
      obtain ⟨o26, go26, h⟩ := px_bs h
      obtain ⟨q27, gq27, h⟩ := px_bs h
      refine EV.callV (As := [.int a1, .int (2 * a2)]) (rest := []) dX3_shrunkAt_113 kcX3_shrunkAt_43 (gO_ok go26) rfl rfl rfl (Nat.le_of_ble_eq_true rfl) (Nat.le_of_ble_eq_true rfl) (eX3_nearest gq27) ?_
      refine EV.aload_n 0 dX3_shrunkAt_116 rfl rfl ?_
      refine EV.iload_n 1 dX3_shrunkAt_117 rfl rfl ?_
      refine EV.iconst (2) dX3_shrunkAt_118 (by decide) ?_
      refine EV.iload_n 2 dX3_shrunkAt_119 rfl rfl ?_
      refine EV.imul dX3_shrunkAt_120 ?_
      refine EV.iconst (1) dX3_shrunkAt_121 (by decide) ?_
      refine EV.iadd dX3_shrunkAt_122 ?_
      obtain ⟨o28, go28, h⟩ := px_bs h
      obtain ⟨q29, gq29, h⟩ := px_bs h
      refine EV.callV (As := [.int a1, .int ((2 * a2) + 1)]) (rest := [.int q27.1]) dX3_shrunkAt_123 kcX3_shrunkAt_43 (gO_ok go28) rfl rfl rfl (Nat.le_of_ble_eq_true rfl) (Nat.le_of_ble_eq_true rfl) (eX3_nearest gq29) ?_
      refine EV.iadd dX3_shrunkAt_126 ?_
      refine EV.iload_n 2 dX3_shrunkAt_127 rfl rfl ?_
      refine EV.iconst (2) dX3_shrunkAt_128 (by decide) ?_
      obtain ⟨v30, gv30, h⟩ := px_bs h
      refine ev_rI dX3_shrunkAt_129 gv30 ?_
      refine EV.iadd dX3_shrunkAt_130 ?_
      refine EV.iconst (1) dX3_shrunkAt_131 (by decide) ?_
      refine EV.ishr dX3_shrunkAt_132 ?_
      cases h
      exact EV.reti dX3_shrunkAt_133 rfl
  · rw [if_neg c22] at h
    refine EV.aload_n 0 dX3_shrunkAt_77 rfl rfl ?_
    refine EV.iconst (2) dX3_shrunkAt_78 (by decide) ?_
    refine EV.iload_n 1 dX3_shrunkAt_79 rfl rfl ?_
    refine EV.imul dX3_shrunkAt_80 ?_
    refine EV.iload_n 2 dX3_shrunkAt_81 rfl rfl ?_
    obtain ⟨o31, go31, h⟩ := px_bs h
    obtain ⟨q32, gq32, h⟩ := px_bs h
    refine EV.callV (As := [.int (2 * a1), .int a2]) (rest := []) dX3_shrunkAt_82 kcX3_shrunkAt_43 (gO_ok go31) rfl rfl rfl (Nat.le_of_ble_eq_true rfl) (Nat.le_of_ble_eq_true rfl) (eX3_nearest gq32) ?_
    refine EV.aload_n 0 dX3_shrunkAt_85 rfl rfl ?_
    refine EV.iconst (2) dX3_shrunkAt_86 (by decide) ?_
    refine EV.iload_n 1 dX3_shrunkAt_87 rfl rfl ?_
    refine EV.imul dX3_shrunkAt_88 ?_
    refine EV.iconst (1) dX3_shrunkAt_89 (by decide) ?_
    refine EV.iadd dX3_shrunkAt_90 ?_
    refine EV.iload_n 2 dX3_shrunkAt_91 rfl rfl ?_
    obtain ⟨o33, go33, h⟩ := px_bs h
    obtain ⟨q34, gq34, h⟩ := px_bs h
    refine EV.callV (As := [.int ((2 * a1) + 1), .int a2]) (rest := [.int q32.1]) dX3_shrunkAt_92 kcX3_shrunkAt_43 (gO_ok go33) rfl rfl rfl (Nat.le_of_ble_eq_true rfl) (Nat.le_of_ble_eq_true rfl) (eX3_nearest gq34) ?_
    refine EV.iadd dX3_shrunkAt_95 ?_
    refine EV.iload_n 1 dX3_shrunkAt_96 rfl rfl ?_
    refine EV.iconst (2) dX3_shrunkAt_97 (by decide) ?_
    obtain ⟨v35, gv35, h⟩ := px_bs h
    refine ev_rI dX3_shrunkAt_98 gv35 ?_
    refine EV.iadd dX3_shrunkAt_99 ?_
    refine EV.iconst (1) dX3_shrunkAt_100 (by decide) ?_
    refine EV.ishr dX3_shrunkAt_101 ?_
    cases h
    exact EV.reti dX3_shrunkAt_102 rfl
set_option maxRecDepth 100000 in
set_option maxHeartbeats 4000000 in
theorem eX3_shrunkAt {X : px_X} {w : px_W} {a0 : Nat} {a1 : Int32} {a2 : Int32} {a3 : Int32} {a4 : Int32} {q : Int32 × px_W} (h : fX3_shrunkAt X w a0 a1 a2 a3 a4 = some q) : EV X mX3_shrunkAt 0 (lv_args 0 [.ref a0, .int a1, .int a2, .int a3, .int a4]) [] w (some (.int q.1)) q.2 := by
  unfold fX3_shrunkAt at h
  show EV X mX3_shrunkAt 0 [(0, .ref a0), (1, .int a1), (2, .int a2), (3, .int a3), (4, .int a4)] [] w (some (.int q.1)) q.2
  refine EV.iload_n 3 dX3_shrunkAt_0 rfl rfl ?_
  refine EV.if_eq 73 dX3_shrunkAt_1 (by decide) (fun c36 => ?_) (fun c36 => ?_)
  · rw [if_pos c36] at h
    refine EV.sub [0, 1, 2, 3, 4] rfl ?_
    exact eX3_shrunkAt_73  _ _ _ _ _ _ _ h
  · rw [if_neg c36] at h
    refine EV.iload 4 dX3_shrunkAt_4 rfl ?_
    refine EV.if_eq 73 dX3_shrunkAt_6 (by decide) (fun c37 => ?_) (fun c37 => ?_)
    · rw [if_pos c37] at h
      refine EV.sub [0, 1, 2, 3, 4] rfl ?_
      exact eX3_shrunkAt_73  _ _ _ _ _ _ _ h
    · rw [if_neg c37] at h
      refine EV.aload_n 0 dX3_shrunkAt_9 rfl rfl ?_
      refine EV.iconst (2) dX3_shrunkAt_10 (by decide) ?_
      refine EV.iload_n 1 dX3_shrunkAt_11 rfl rfl ?_
      refine EV.imul dX3_shrunkAt_12 ?_
      refine EV.iconst (2) dX3_shrunkAt_13 (by decide) ?_
      refine EV.iload_n 2 dX3_shrunkAt_14 rfl rfl ?_
      refine EV.imul dX3_shrunkAt_15 ?_
      obtain ⟨o38, go38, h⟩ := px_bs h
      obtain ⟨q39, gq39, h⟩ := px_bs h
      refine EV.callV (As := [.int (2 * a1), .int (2 * a2)]) (rest := []) dX3_shrunkAt_16 kcX3_shrunkAt_43 (gO_ok go38) rfl rfl rfl (Nat.le_of_ble_eq_true rfl) (Nat.le_of_ble_eq_true rfl) (eX3_nearest gq39) ?_
      refine EV.aload_n 0 dX3_shrunkAt_19 rfl rfl ?_
      refine EV.iconst (2) dX3_shrunkAt_20 (by decide) ?_
      refine EV.iload_n 1 dX3_shrunkAt_21 rfl rfl ?_
      refine EV.imul dX3_shrunkAt_22 ?_
      refine EV.iconst (1) dX3_shrunkAt_23 (by decide) ?_
      refine EV.iadd dX3_shrunkAt_24 ?_
      refine EV.iconst (2) dX3_shrunkAt_25 (by decide) ?_
      refine EV.iload_n 2 dX3_shrunkAt_26 rfl rfl ?_
      refine EV.imul dX3_shrunkAt_27 ?_
      obtain ⟨o40, go40, h⟩ := px_bs h
      obtain ⟨q41, gq41, h⟩ := px_bs h
      refine EV.callV (As := [.int ((2 * a1) + 1), .int (2 * a2)]) (rest := [.int q39.1]) dX3_shrunkAt_28 kcX3_shrunkAt_43 (gO_ok go40) rfl rfl rfl (Nat.le_of_ble_eq_true rfl) (Nat.le_of_ble_eq_true rfl) (eX3_nearest gq41) ?_
      refine EV.iadd dX3_shrunkAt_31 ?_
      refine EV.aload_n 0 dX3_shrunkAt_32 rfl rfl ?_
      refine EV.iconst (2) dX3_shrunkAt_33 (by decide) ?_
      refine EV.iload_n 1 dX3_shrunkAt_34 rfl rfl ?_
      refine EV.imul dX3_shrunkAt_35 ?_
      refine EV.iconst (2) dX3_shrunkAt_36 (by decide) ?_
      refine EV.iload_n 2 dX3_shrunkAt_37 rfl rfl ?_
      refine EV.imul dX3_shrunkAt_38 ?_
      refine EV.iconst (1) dX3_shrunkAt_39 (by decide) ?_
      refine EV.iadd dX3_shrunkAt_40 ?_
      obtain ⟨o42, go42, h⟩ := px_bs h
      obtain ⟨q43, gq43, h⟩ := px_bs h
      refine EV.callV (As := [.int (2 * a1), .int ((2 * a2) + 1)]) (rest := [.int (q39.1 + q41.1)]) dX3_shrunkAt_41 kcX3_shrunkAt_43 (gO_ok go42) rfl rfl rfl (Nat.le_of_ble_eq_true rfl) (Nat.le_of_ble_eq_true rfl) (eX3_nearest gq43) ?_
      refine EV.iadd dX3_shrunkAt_44 ?_
      refine EV.aload_n 0 dX3_shrunkAt_45 rfl rfl ?_
      refine EV.iconst (2) dX3_shrunkAt_46 (by decide) ?_
      refine EV.iload_n 1 dX3_shrunkAt_47 rfl rfl ?_
      refine EV.imul dX3_shrunkAt_48 ?_
      refine EV.iconst (1) dX3_shrunkAt_49 (by decide) ?_
      refine EV.iadd dX3_shrunkAt_50 ?_
      refine EV.iconst (2) dX3_shrunkAt_51 (by decide) ?_
      refine EV.iload_n 2 dX3_shrunkAt_52 rfl rfl ?_
      refine EV.imul dX3_shrunkAt_53 ?_
      refine EV.iconst (1) dX3_shrunkAt_54 (by decide) ?_
      refine EV.iadd dX3_shrunkAt_55 ?_
      obtain ⟨o44, go44, h⟩ := px_bs h
      obtain ⟨q45, gq45, h⟩ := px_bs h
      refine EV.callV (As := [.int ((2 * a1) + 1), .int ((2 * a2) + 1)]) (rest := [.int ((q39.1 + q41.1) + q43.1)]) dX3_shrunkAt_56 kcX3_shrunkAt_43 (gO_ok go44) rfl rfl rfl (Nat.le_of_ble_eq_true rfl) (Nat.le_of_ble_eq_true rfl) (eX3_nearest gq45) ?_
      refine EV.iadd dX3_shrunkAt_59 ?_
      refine EV.istore [(5, .int (((q39.1 + q41.1) + q43.1) + q45.1)), (0, .ref a0), (1, .int a1), (2, .int a2), (3, .int a3), (4, .int a4)] dX3_shrunkAt_60 (by decide) rfl ?_
      refine EV.iload 0 dX3_shrunkAt_62 rfl ?_
      refine EV.iconst (1) dX3_shrunkAt_64 (by decide) ?_
      refine EV.iadd dX3_shrunkAt_65 ?_
      refine EV.iload_n 2 dX3_shrunkAt_66 rfl rfl ?_
      refine EV.iconst (2) dX3_shrunkAt_67 (by decide) ?_
      obtain ⟨v46, gv46, h⟩ := px_bs h
      refine ev_rI dX3_shrunkAt_68 gv46 ?_
      refine EV.iadd dX3_shrunkAt_69 ?_
      refine EV.iconst (2) dX3_shrunkAt_70 (by decide) ?_
      refine EV.ishr dX3_shrunkAt_71 ?_
      cases h
      exact EV.reti dX3_shrunkAt_72 rfl
/-! WavePictures$Plane.becomeShrunk(LWavePictures$Plane;ZZ)V -/
theorem dX3_becomeShrunk_0 : decode cX3_becomeShrunk 0 = .ok (.aload_n 0, 1) := by decide +kernel
theorem dX3_becomeShrunk_1 : decode cX3_becomeShrunk 1 = .ok (.iload_n 2, 1) := by decide +kernel
theorem dX3_becomeShrunk_2 : decode cX3_becomeShrunk 2 = .ok (.ifCond .eq 14, 3) := by decide +kernel
theorem dX3_becomeShrunk_5 : decode cX3_becomeShrunk 5 = .ok (.aload_n 1, 1) := by decide +kernel
theorem dX3_becomeShrunk_6 : decode cX3_becomeShrunk 6 = .ok (.getfield 9, 3) := by decide +kernel
theorem dX3_becomeShrunk_9 : decode cX3_becomeShrunk 9 = .ok (.iconst 2, 1) := by decide +kernel
theorem dX3_becomeShrunk_10 : decode cX3_becomeShrunk 10 = .ok (.invokestatic 46, 3) := by decide +kernel
theorem dX3_becomeShrunk_13 : decode cX3_becomeShrunk 13 = .ok (.goto 7, 3) := by decide +kernel
theorem dX3_becomeShrunk_16 : decode cX3_becomeShrunk 16 = .ok (.aload_n 1, 1) := by decide +kernel
theorem dX3_becomeShrunk_17 : decode cX3_becomeShrunk 17 = .ok (.getfield 9, 3) := by decide +kernel
theorem dX3_becomeShrunk_20 : decode cX3_becomeShrunk 20 = .ok (.putfield 9, 3) := by decide +kernel
theorem dX3_becomeShrunk_23 : decode cX3_becomeShrunk 23 = .ok (.aload_n 0, 1) := by decide +kernel
theorem dX3_becomeShrunk_24 : decode cX3_becomeShrunk 24 = .ok (.iload_n 3, 1) := by decide +kernel
theorem dX3_becomeShrunk_25 : decode cX3_becomeShrunk 25 = .ok (.ifCond .eq 14, 3) := by decide +kernel
theorem dX3_becomeShrunk_28 : decode cX3_becomeShrunk 28 = .ok (.aload_n 1, 1) := by decide +kernel
theorem dX3_becomeShrunk_29 : decode cX3_becomeShrunk 29 = .ok (.getfield 15, 3) := by decide +kernel
theorem dX3_becomeShrunk_32 : decode cX3_becomeShrunk 32 = .ok (.iconst 2, 1) := by decide +kernel
theorem dX3_becomeShrunk_33 : decode cX3_becomeShrunk 33 = .ok (.invokestatic 46, 3) := by decide +kernel
theorem dX3_becomeShrunk_36 : decode cX3_becomeShrunk 36 = .ok (.goto 7, 3) := by decide +kernel
theorem dX3_becomeShrunk_39 : decode cX3_becomeShrunk 39 = .ok (.aload_n 1, 1) := by decide +kernel
theorem dX3_becomeShrunk_40 : decode cX3_becomeShrunk 40 = .ok (.getfield 15, 3) := by decide +kernel
theorem dX3_becomeShrunk_43 : decode cX3_becomeShrunk 43 = .ok (.putfield 15, 3) := by decide +kernel
theorem dX3_becomeShrunk_46 : decode cX3_becomeShrunk 46 = .ok (.iconst 0, 1) := by decide +kernel
theorem dX3_becomeShrunk_47 : decode cX3_becomeShrunk 47 = .ok (.istore 4, 2) := by decide +kernel
theorem dX3_becomeShrunk_49 : decode cX3_becomeShrunk 49 = .ok (.iload 4, 2) := by decide +kernel
theorem dX3_becomeShrunk_51 : decode cX3_becomeShrunk 51 = .ok (.aload_n 0, 1) := by decide +kernel
theorem dX3_becomeShrunk_52 : decode cX3_becomeShrunk 52 = .ok (.getfield 15, 3) := by decide +kernel
theorem dX3_becomeShrunk_55 : decode cX3_becomeShrunk 55 = .ok (.if_icmp .ge 50, 3) := by decide +kernel
theorem dX3_becomeShrunk_58 : decode cX3_becomeShrunk 58 = .ok (.iconst 0, 1) := by decide +kernel
theorem dX3_becomeShrunk_59 : decode cX3_becomeShrunk 59 = .ok (.istore 5, 2) := by decide +kernel
theorem dX3_becomeShrunk_61 : decode cX3_becomeShrunk 61 = .ok (.iload 5, 2) := by decide +kernel
theorem dX3_becomeShrunk_63 : decode cX3_becomeShrunk 63 = .ok (.aload_n 0, 1) := by decide +kernel
theorem dX3_becomeShrunk_64 : decode cX3_becomeShrunk 64 = .ok (.getfield 9, 3) := by decide +kernel
theorem dX3_becomeShrunk_67 : decode cX3_becomeShrunk 67 = .ok (.if_icmp .ge 32, 3) := by decide +kernel
theorem dX3_becomeShrunk_70 : decode cX3_becomeShrunk 70 = .ok (.aload_n 0, 1) := by decide +kernel
theorem dX3_becomeShrunk_71 : decode cX3_becomeShrunk 71 = .ok (.getfield 18, 3) := by decide +kernel
theorem dX3_becomeShrunk_74 : decode cX3_becomeShrunk 74 = .ok (.bipush 32, 2) := by decide +kernel
theorem dX3_becomeShrunk_76 : decode cX3_becomeShrunk 76 = .ok (.iload 4, 2) := by decide +kernel
theorem dX3_becomeShrunk_78 : decode cX3_becomeShrunk 78 = .ok (.imul, 1) := by decide +kernel
theorem dX3_becomeShrunk_79 : decode cX3_becomeShrunk 79 = .ok (.iload 5, 2) := by decide +kernel
theorem dX3_becomeShrunk_81 : decode cX3_becomeShrunk 81 = .ok (.iadd, 1) := by decide +kernel
theorem dX3_becomeShrunk_82 : decode cX3_becomeShrunk 82 = .ok (.aload_n 1, 1) := by decide +kernel
theorem dX3_becomeShrunk_83 : decode cX3_becomeShrunk 83 = .ok (.iload 5, 2) := by decide +kernel
theorem dX3_becomeShrunk_85 : decode cX3_becomeShrunk 85 = .ok (.iload 4, 2) := by decide +kernel
theorem dX3_becomeShrunk_87 : decode cX3_becomeShrunk 87 = .ok (.iload_n 2, 1) := by decide +kernel
theorem dX3_becomeShrunk_88 : decode cX3_becomeShrunk 88 = .ok (.iload_n 3, 1) := by decide +kernel
theorem dX3_becomeShrunk_89 : decode cX3_becomeShrunk 89 = .ok (.invokestatic 49, 3) := by decide +kernel
theorem dX3_becomeShrunk_92 : decode cX3_becomeShrunk 92 = .ok (.iastore, 1) := by decide +kernel
theorem dX3_becomeShrunk_93 : decode cX3_becomeShrunk 93 = .ok (.iinc 5 1, 3) := by decide +kernel
theorem dX3_becomeShrunk_96 : decode cX3_becomeShrunk 96 = .ok (.goto (-35), 3) := by decide +kernel
theorem dX3_becomeShrunk_99 : decode cX3_becomeShrunk 99 = .ok (.iinc 4 1, 3) := by decide +kernel
theorem dX3_becomeShrunk_102 : decode cX3_becomeShrunk 102 = .ok (.goto (-53), 3) := by decide +kernel
theorem dX3_becomeShrunk_105 : decode cX3_becomeShrunk 105 = .ok (.return_, 1) := by decide +kernel
theorem kcX3_becomeShrunk_46 : px_cS mX3_becomeShrunk 46 mX11_up 2 := ⟨⟨mbX11_up, by decide, by decide⟩, Or.inr ⟨"WavePictures", tT5 (List.mem_of_getElem? (i := 128) rfl)⟩, tb4 (List.mem_of_getElem? (i := 46) rfl)⟩
theorem mbX3_shrunkAt : px_mB mX3_shrunkAt 5 := ⟨tb5 (List.mem_of_getElem? (i := 131) rfl), by decide +kernel, tb1 (List.mem_of_getElem? (i := 4) rfl), by decide +kernel, by decide +kernel⟩
theorem kcX3_becomeShrunk_49 : px_cS mX3_becomeShrunk 49 mX3_shrunkAt 5 := ⟨⟨mbX3_shrunkAt, by decide, by decide⟩, Or.inl (tb5 (List.mem_of_getElem? (i := 129) rfl)), tb5 (List.mem_of_getElem? (i := 130) rfl)⟩
set_option maxRecDepth 100000 in
set_option maxHeartbeats 4000000 in
theorem eX3_becomeShrunk_99 {X : px_X} {k49 : Nat → Nat → Int32 → Int32 → Int32 → px_W → Option (px_W)} (hk49 : ∀ (a0 : Nat) (a1 : Nat) (a2 : Int32) (a3 : Int32) (a4 : Int32) (w : px_W) (q : px_W), k49 a0 a1 a2 a3 a4 w = some q → EV X mX3_becomeShrunk 49 [(0, .ref a0), (1, .ref a1), (2, .int a2), (3, .int a3), (4, .int a4)] [] w none q) : ∀ (a0 : Nat) (a1 : Nat) (a2 : Int32) (a3 : Int32) (a4 : Int32) (w : px_W) (q : px_W), fX3_becomeShrunk_99 X k49 a0 a1 a2 a3 a4 w = some q → EV X mX3_becomeShrunk 99 [(0, .ref a0), (1, .ref a1), (2, .int a2), (3, .int a3), (4, .int a4)] [] w none q := by
  intro a0 a1 a2 a3 a4 w q h
  unfold fX3_becomeShrunk_99 at h
  refine EV.iinc 4 (a4 + 1) [(4, .int (a4 + 1)), (0, .ref a0), (1, .ref a1), (2, .int a2), (3, .int a3)] dX3_becomeShrunk_99 rfl rfl (by decide) rfl ?_
  refine EV.goto 49 dX3_becomeShrunk_102 (by decide) ?_
  refine EV.sub [1, 2, 3, 4, 0] rfl ?_
  exact hk49 _ _ _ _ _ _ _ h
set_option maxRecDepth 100000 in
set_option maxHeartbeats 4000000 in
theorem eX3_becomeShrunk_61 {X : px_X} {k49 : Nat → Nat → Int32 → Int32 → Int32 → px_W → Option (px_W)} (hk49 : ∀ (a0 : Nat) (a1 : Nat) (a2 : Int32) (a3 : Int32) (a4 : Int32) (w : px_W) (q : px_W), k49 a0 a1 a2 a3 a4 w = some q → EV X mX3_becomeShrunk 49 [(0, .ref a0), (1, .ref a1), (2, .int a2), (3, .int a3), (4, .int a4)] [] w none q) : ∀ (m : Nat) (a0 : Nat) (a1 : Nat) (a2 : Int32) (a3 : Int32) (a4 : Int32) (a5 : Int32) (w : px_W) (q : px_W), fX3_becomeShrunk_61 X k49 m a0 a1 a2 a3 a4 a5 w = some q → EV X mX3_becomeShrunk 61 [(0, .ref a0), (1, .ref a1), (2, .int a2), (3, .int a3), (4, .int a4), (5, .int a5)] [] w none q := by
  intro m
  induction m with
  | zero => intro a0 a1 a2 a3 a4 a5 w q h; cases h
  | succ m ih =>
    intro a0 a1 a2 a3 a4 a5 w q h
    rw [fX3_becomeShrunk_61.eq_2] at h
    refine EV.iload 5 dX3_becomeShrunk_61 rfl ?_
    refine EV.aload_n 0 dX3_becomeShrunk_63 rfl rfl ?_
    obtain ⟨v14, gv14, h⟩ := px_bs h
    refine ev_gI dX3_becomeShrunk_64 flRX3_9 gv14 ?_
    refine EV.icmp_ge 99 dX3_becomeShrunk_67 (by decide) (fun c15 => ?_) (fun c15 => ?_)
    · rw [if_pos c15] at h
      refine EV.sub [0, 1, 2, 3, 4] rfl ?_
      exact eX3_becomeShrunk_99 hk49 _ _ _ _ _ _ _ h
    · rw [if_neg c15] at h
      refine EV.aload_n 0 dX3_becomeShrunk_70 rfl rfl ?_
      obtain ⟨v16, gv16, h⟩ := px_bs h
      refine ev_gR dX3_becomeShrunk_71 flRX3_18 gv16 ?_
      refine EV.bipush (32) dX3_becomeShrunk_74 (by decide) ?_
      refine EV.iload 4 dX3_becomeShrunk_76 rfl ?_
      refine EV.imul dX3_becomeShrunk_78 ?_
      refine EV.iload 5 dX3_becomeShrunk_79 rfl ?_
      refine EV.iadd dX3_becomeShrunk_81 ?_
      refine EV.aload_n 1 dX3_becomeShrunk_82 rfl rfl ?_
      refine EV.iload 5 dX3_becomeShrunk_83 rfl ?_
      refine EV.iload 4 dX3_becomeShrunk_85 rfl ?_
      refine EV.iload_n 2 dX3_becomeShrunk_87 rfl rfl ?_
      refine EV.iload_n 3 dX3_becomeShrunk_88 rfl rfl ?_
      obtain ⟨q17, gq17, h⟩ := px_bs h
      refine EV.callS (As := [.ref a1, .int a5, .int a4, .int a2, .int a3]) (rest := [.int ((32 * a4) + a5), .ref v16]) dX3_becomeShrunk_89 kcX3_becomeShrunk_49 rfl (Nat.le_of_ble_eq_true rfl) (Nat.le_of_ble_eq_true rfl) (eX3_shrunkAt gq17) ?_
      obtain ⟨w18, gw18, h⟩ := px_bs h
      refine ev_sI dX3_becomeShrunk_92 gw18 ?_
      refine EV.iinc 5 (a5 + 1) [(5, .int (a5 + 1)), (0, .ref a0), (1, .ref a1), (2, .int a2), (3, .int a3), (4, .int a4)] dX3_becomeShrunk_93 rfl rfl (by decide) rfl ?_
      refine EV.goto 61 dX3_becomeShrunk_96 (by decide) ?_
      refine EV.sub [1, 2, 3, 4, 5, 0] rfl ?_
      exact ih _ _ _ _ _ _ _ _ h
set_option maxRecDepth 100000 in
set_option maxHeartbeats 4000000 in
theorem eX3_becomeShrunk_49 {X : px_X}  : ∀ (m : Nat) (a0 : Nat) (a1 : Nat) (a2 : Int32) (a3 : Int32) (a4 : Int32) (w : px_W) (q : px_W), fX3_becomeShrunk_49 X  m a0 a1 a2 a3 a4 w = some q → EV X mX3_becomeShrunk 49 [(0, .ref a0), (1, .ref a1), (2, .int a2), (3, .int a3), (4, .int a4)] [] w none q := by
  intro m
  induction m with
  | zero => intro a0 a1 a2 a3 a4 w q h; cases h
  | succ m ih =>
    intro a0 a1 a2 a3 a4 w q h
    rw [fX3_becomeShrunk_49.eq_2] at h
    refine EV.iload 4 dX3_becomeShrunk_49 rfl ?_
    refine EV.aload_n 0 dX3_becomeShrunk_51 rfl rfl ?_
    obtain ⟨v19, gv19, h⟩ := px_bs h
    refine ev_gI dX3_becomeShrunk_52 flRX3_15 gv19 ?_
    refine EV.icmp_ge 105 dX3_becomeShrunk_55 (by decide) (fun c20 => ?_) (fun c20 => ?_)
    · rw [if_pos c20] at h
      cases h
      exact EV.ret0 dX3_becomeShrunk_105 trivial
    · rw [if_neg c20] at h
      refine EV.iconst (0) dX3_becomeShrunk_58 (by decide) ?_
      refine EV.istore [(5, .int 0), (0, .ref a0), (1, .ref a1), (2, .int a2), (3, .int a3), (4, .int a4)] dX3_becomeShrunk_59 (by decide) rfl ?_
      refine EV.sub [1, 2, 3, 4, 5, 0] rfl ?_
      exact eX3_becomeShrunk_61 ih FU _ _ _ _ _ _ _ _ h
set_option maxRecDepth 100000 in
set_option maxHeartbeats 4000000 in
theorem eX3_becomeShrunk_43 {X : px_X}  : ∀ (a0 : Nat) (a1 : Nat) (a2 : Int32) (a3 : Int32) (s0 : Int32) (s1 : Nat) (w : px_W) (q : px_W), fX3_becomeShrunk_43 X  a0 a1 a2 a3 s0 s1 w = some q → EV X mX3_becomeShrunk 43 [(0, .ref a0), (1, .ref a1), (2, .int a2), (3, .int a3)] [.int s0, .ref s1] w none q := by
  intro a0 a1 a2 a3 s0 s1 w q h
  unfold fX3_becomeShrunk_43 at h
  obtain ⟨w21, gw21, h⟩ := px_bs h
  refine ev_pV dX3_becomeShrunk_43 flRX3_15 rfl rfl rfl rfl gw21 ?_
  refine EV.iconst (0) dX3_becomeShrunk_46 (by decide) ?_
  refine EV.istore [(4, .int 0), (0, .ref a0), (1, .ref a1), (2, .int a2), (3, .int a3)] dX3_becomeShrunk_47 (by decide) rfl ?_
  refine EV.sub [1, 2, 3, 4, 0] rfl ?_
  exact eX3_becomeShrunk_49  FU _ _ _ _ _ _ _ h
set_option maxRecDepth 100000 in
set_option maxHeartbeats 4000000 in
theorem eX3_becomeShrunk_20 {X : px_X}  : ∀ (a0 : Nat) (a1 : Nat) (a2 : Int32) (a3 : Int32) (s0 : Int32) (s1 : Nat) (w : px_W) (q : px_W), fX3_becomeShrunk_20 X  a0 a1 a2 a3 s0 s1 w = some q → EV X mX3_becomeShrunk 20 [(0, .ref a0), (1, .ref a1), (2, .int a2), (3, .int a3)] [.int s0, .ref s1] w none q := by
  intro a0 a1 a2 a3 s0 s1 w q h
  unfold fX3_becomeShrunk_20 at h
  obtain ⟨w22, gw22, h⟩ := px_bs h
  refine ev_pV dX3_becomeShrunk_20 flRX3_9 rfl rfl rfl rfl gw22 ?_
  refine EV.aload_n 0 dX3_becomeShrunk_23 rfl rfl ?_
  refine EV.iload_n 3 dX3_becomeShrunk_24 rfl rfl ?_
  refine EV.if_eq 39 dX3_becomeShrunk_25 (by decide) (fun c23 => ?_) (fun c23 => ?_)
  · rw [if_pos c23] at h
    refine EV.aload_n 1 dX3_becomeShrunk_39 rfl rfl ?_
    obtain ⟨v24, gv24, h⟩ := px_bs h
    refine ev_gI dX3_becomeShrunk_40 flRX3_15 gv24 ?_
    refine EV.sub [0, 1, 2, 3] rfl ?_
    exact eX3_becomeShrunk_43  _ _ _ _ _ _ _ _ h
  · rw [if_neg c23] at h
    refine EV.aload_n 1 dX3_becomeShrunk_28 rfl rfl ?_
    obtain ⟨v25, gv25, h⟩ := px_bs h
    refine ev_gI dX3_becomeShrunk_29 flRX3_15 gv25 ?_
    refine EV.iconst (2) dX3_becomeShrunk_32 (by decide) ?_
    obtain ⟨q26, gq26, h⟩ := px_bs h
    refine EV.callS (As := [.int v25, .int 2]) (rest := [.ref a0]) dX3_becomeShrunk_33 kcX3_becomeShrunk_46 rfl (Nat.le_of_ble_eq_true rfl) (Nat.le_of_ble_eq_true rfl) (eX11_up gq26) ?_
    refine EV.goto 43 dX3_becomeShrunk_36 (by decide) ?_
    refine EV.sub [0, 1, 2, 3] rfl ?_
    exact eX3_becomeShrunk_43  _ _ _ _ _ _ _ _ h
set_option maxRecDepth 100000 in
set_option maxHeartbeats 4000000 in
theorem eX3_becomeShrunk {X : px_X} {w : px_W} {a0 : Nat} {a1 : Nat} {a2 : Int32} {a3 : Int32} {q : px_W} (h : fX3_becomeShrunk X w a0 a1 a2 a3 = some q) : EV X mX3_becomeShrunk 0 (lv_args 0 [.ref a0, .ref a1, .int a2, .int a3]) [] w none q := by
  unfold fX3_becomeShrunk at h
  show EV X mX3_becomeShrunk 0 [(0, .ref a0), (1, .ref a1), (2, .int a2), (3, .int a3)] [] w none q
  refine EV.aload_n 0 dX3_becomeShrunk_0 rfl rfl ?_
  refine EV.iload_n 2 dX3_becomeShrunk_1 rfl rfl ?_
  refine EV.if_eq 16 dX3_becomeShrunk_2 (by decide) (fun c27 => ?_) (fun c27 => ?_)
  · rw [if_pos c27] at h
    refine EV.aload_n 1 dX3_becomeShrunk_16 rfl rfl ?_
    obtain ⟨v28, gv28, h⟩ := px_bs h
    refine ev_gI dX3_becomeShrunk_17 flRX3_9 gv28 ?_
    refine EV.sub [0, 1, 2, 3] rfl ?_
    exact eX3_becomeShrunk_20  _ _ _ _ _ _ _ _ h
  · rw [if_neg c27] at h
    refine EV.aload_n 1 dX3_becomeShrunk_5 rfl rfl ?_
    obtain ⟨v29, gv29, h⟩ := px_bs h
    refine ev_gI dX3_becomeShrunk_6 flRX3_9 gv29 ?_
    refine EV.iconst (2) dX3_becomeShrunk_9 (by decide) ?_
    obtain ⟨q30, gq30, h⟩ := px_bs h
    refine EV.callS (As := [.int v29, .int 2]) (rest := [.ref a0]) dX3_becomeShrunk_10 kcX3_becomeShrunk_46 rfl (Nat.le_of_ble_eq_true rfl) (Nat.le_of_ble_eq_true rfl) (eX11_up gq30) ?_
    refine EV.goto 20 dX3_becomeShrunk_13 (by decide) ?_
    refine EV.sub [0, 1, 2, 3] rfl ?_
    exact eX3_becomeShrunk_20  _ _ _ _ _ _ _ _ h
/-! WavePictures$Scan.<init>()V -/
theorem dX5_init_0 : decode cX5_init 0 = .ok (.aload_n 0, 1) := by decide +kernel
theorem dX5_init_1 : decode cX5_init 1 = .ok (.invokespecial 3, 3) := by decide +kernel
theorem dX5_init_4 : decode cX5_init 4 = .ok (.aload_n 0, 1) := by decide +kernel
theorem dX5_init_5 : decode cX5_init 5 = .ok (.iconst 4, 1) := by decide +kernel
theorem dX5_init_6 : decode cX5_init 6 = .ok (.newarray .int, 2) := by decide +kernel
theorem dX5_init_8 : decode cX5_init 8 = .ok (.putfield 9, 3) := by decide +kernel
theorem dX5_init_11 : decode cX5_init 11 = .ok (.aload_n 0, 1) := by decide +kernel
theorem dX5_init_12 : decode cX5_init 12 = .ok (.iconst 4, 1) := by decide +kernel
theorem dX5_init_13 : decode cX5_init 13 = .ok (.newarray .int, 2) := by decide +kernel
theorem dX5_init_15 : decode cX5_init 15 = .ok (.putfield 15, 3) := by decide +kernel
theorem dX5_init_18 : decode cX5_init 18 = .ok (.aload_n 0, 1) := by decide +kernel
theorem dX5_init_19 : decode cX5_init 19 = .ok (.iconst 4, 1) := by decide +kernel
theorem dX5_init_20 : decode cX5_init 20 = .ok (.newarray .int, 2) := by decide +kernel
theorem dX5_init_22 : decode cX5_init 22 = .ok (.putfield 18, 3) := by decide +kernel
theorem dX5_init_25 : decode cX5_init 25 = .ok (.aload_n 0, 1) := by decide +kernel
theorem dX5_init_26 : decode cX5_init 26 = .ok (.iconst 4, 1) := by decide +kernel
theorem dX5_init_27 : decode cX5_init 27 = .ok (.newarray .int, 2) := by decide +kernel
theorem dX5_init_29 : decode cX5_init 29 = .ok (.putfield 21, 3) := by decide +kernel
theorem dX5_init_32 : decode cX5_init 32 = .ok (.aload_n 0, 1) := by decide +kernel
theorem dX5_init_33 : decode cX5_init 33 = .ok (.iconst 1, 1) := by decide +kernel
theorem dX5_init_34 : decode cX5_init 34 = .ok (.putfield 24, 3) := by decide +kernel
theorem dX5_init_37 : decode cX5_init 37 = .ok (.aload_n 0, 1) := by decide +kernel
theorem dX5_init_38 : decode cX5_init 38 = .ok (.bipush 10, 2) := by decide +kernel
theorem dX5_init_40 : decode cX5_init 40 = .ok (.newarray .int, 2) := by decide +kernel
theorem dX5_init_42 : decode cX5_init 42 = .ok (.putfield 28, 3) := by decide +kernel
theorem dX5_init_45 : decode cX5_init 45 = .ok (.aload_n 0, 1) := by decide +kernel
theorem dX5_init_46 : decode cX5_init 46 = .ok (.bipush 10, 2) := by decide +kernel
theorem dX5_init_48 : decode cX5_init 48 = .ok (.newarray .int, 2) := by decide +kernel
theorem dX5_init_50 : decode cX5_init 50 = .ok (.putfield 31, 3) := by decide +kernel
theorem dX5_init_53 : decode cX5_init 53 = .ok (.aload_n 0, 1) := by decide +kernel
theorem dX5_init_54 : decode cX5_init 54 = .ok (.bipush 10, 2) := by decide +kernel
theorem dX5_init_56 : decode cX5_init 56 = .ok (.newarray .int, 2) := by decide +kernel
theorem dX5_init_58 : decode cX5_init 58 = .ok (.putfield 34, 3) := by decide +kernel
theorem dX5_init_61 : decode cX5_init 61 = .ok (.return_, 1) := by decide +kernel
theorem flRX5_24 : px_f RX5 24 5 12 := ⟨_, rfl, by decide, Or.inl (tb1 (List.mem_of_getElem? (i := 224) rfl))⟩
set_option maxRecDepth 100000 in
set_option maxHeartbeats 4000000 in
theorem eX5_init {X : px_X} {w : px_W} {a0 : Nat} {q : px_W} (h : fX5_init X w a0 = some q) : EV X mX5_init 0 (lv_args 0 [.ref a0]) [] w none q := by
  unfold fX5_init at h
  show EV X mX5_init 0 [(0, .ref a0)] [] w none q
  refine EV.aload_n 0 dX5_init_0 rfl rfl ?_
  refine EV.objI dX5_init_1 (tb1 (List.mem_of_getElem? (i := 183) rfl)) (by decide) (by decide) (Nat.le_of_ble_eq_true rfl) ?_
  refine EV.aload_n 0 dX5_init_4 rfl rfl ?_
  refine EV.iconst (4) dX5_init_5 (by decide) ?_
  obtain ⟨q16, gq16, h⟩ := px_bs h
  refine ev_nI dX5_init_6 gq16 ?_
  obtain ⟨w17, gw17, h⟩ := px_bs h
  refine ev_pF dX5_init_8 (ci := 5) (k := 5) rfl (by decide) (tb1 (List.mem_of_getElem? (i := 205) rfl)) rfl rfl rfl rfl rfl gw17 ?_
  refine EV.aload_n 0 dX5_init_11 rfl rfl ?_
  refine EV.iconst (4) dX5_init_12 (by decide) ?_
  obtain ⟨q18, gq18, h⟩ := px_bs h
  refine ev_nI dX5_init_13 gq18 ?_
  obtain ⟨w19, gw19, h⟩ := px_bs h
  refine ev_pF dX5_init_15 (ci := 5) (k := 6) rfl (by decide) (tb1 (List.mem_of_getElem? (i := 209) rfl)) rfl rfl rfl rfl rfl gw19 ?_
  refine EV.aload_n 0 dX5_init_18 rfl rfl ?_
  refine EV.iconst (4) dX5_init_19 (by decide) ?_
  obtain ⟨q20, gq20, h⟩ := px_bs h
  refine ev_nI dX5_init_20 gq20 ?_
  obtain ⟨w21, gw21, h⟩ := px_bs h
  refine ev_pF dX5_init_22 (ci := 5) (k := 7) rfl (by decide) (tb1 (List.mem_of_getElem? (i := 212) rfl)) rfl rfl rfl rfl rfl gw21 ?_
  refine EV.aload_n 0 dX5_init_25 rfl rfl ?_
  refine EV.iconst (4) dX5_init_26 (by decide) ?_
  obtain ⟨q22, gq22, h⟩ := px_bs h
  refine ev_nI dX5_init_27 gq22 ?_
  obtain ⟨w23, gw23, h⟩ := px_bs h
  refine ev_pF dX5_init_29 (ci := 5) (k := 8) rfl (by decide) (tb1 (List.mem_of_getElem? (i := 215) rfl)) rfl rfl rfl rfl rfl gw23 ?_
  refine EV.aload_n 0 dX5_init_32 rfl rfl ?_
  refine EV.iconst (1) dX5_init_33 (by decide) ?_
  obtain ⟨w24, gw24, h⟩ := px_bs h
  refine ev_pV dX5_init_34 flRX5_24 rfl rfl rfl rfl gw24 ?_
  refine EV.aload_n 0 dX5_init_37 rfl rfl ?_
  refine EV.bipush (10) dX5_init_38 (by decide) ?_
  obtain ⟨q25, gq25, h⟩ := px_bs h
  refine ev_nI dX5_init_40 gq25 ?_
  obtain ⟨w26, gw26, h⟩ := px_bs h
  refine ev_pF dX5_init_42 (ci := 5) (k := 14) rfl (by decide) (tb1 (List.mem_of_getElem? (i := 228) rfl)) rfl rfl rfl rfl rfl gw26 ?_
  refine EV.aload_n 0 dX5_init_45 rfl rfl ?_
  refine EV.bipush (10) dX5_init_46 (by decide) ?_
  obtain ⟨q27, gq27, h⟩ := px_bs h
  refine ev_nI dX5_init_48 gq27 ?_
  obtain ⟨w28, gw28, h⟩ := px_bs h
  refine ev_pF dX5_init_50 (ci := 5) (k := 15) rfl (by decide) (tb1 (List.mem_of_getElem? (i := 231) rfl)) rfl rfl rfl rfl rfl gw28 ?_
  refine EV.aload_n 0 dX5_init_53 rfl rfl ?_
  refine EV.bipush (10) dX5_init_54 (by decide) ?_
  obtain ⟨q29, gq29, h⟩ := px_bs h
  refine ev_nI dX5_init_56 gq29 ?_
  obtain ⟨w30, gw30, h⟩ := px_bs h
  refine ev_pF dX5_init_58 (ci := 5) (k := 16) rfl (by decide) (tb1 (List.mem_of_getElem? (i := 232) rfl)) rfl rfl rfl rfl rfl gw30 ?_
  cases h
  exact EV.ret0 dX5_init_61 trivial
/-! WavePictures$ScanWriter.<init>(LWavePictures$Scan;[LWavePictures$BestTable;LWavePictures$Bytes;LWavePictures$Picture;)V -/
theorem dX7_init_0 : decode cX7_init 0 = .ok (.aload_n 0, 1) := by decide +kernel
theorem dX7_init_1 : decode cX7_init 1 = .ok (.invokespecial 3, 3) := by decide +kernel
theorem dX7_init_4 : decode cX7_init 4 = .ok (.aload_n 0, 1) := by decide +kernel
theorem dX7_init_5 : decode cX7_init 5 = .ok (.sipush 1024, 3) := by decide +kernel
theorem dX7_init_8 : decode cX7_init 8 = .ok (.newarray .int, 2) := by decide +kernel
theorem dX7_init_10 : decode cX7_init 10 = .ok (.putfield 9, 3) := by decide +kernel
theorem dX7_init_13 : decode cX7_init 13 = .ok (.aload_n 0, 1) := by decide +kernel
theorem dX7_init_14 : decode cX7_init 14 = .ok (.bipush 64, 2) := by decide +kernel
theorem dX7_init_16 : decode cX7_init 16 = .ok (.newarray .int, 2) := by decide +kernel
theorem dX7_init_18 : decode cX7_init 18 = .ok (.putfield 15, 3) := by decide +kernel
theorem dX7_init_21 : decode cX7_init 21 = .ok (.aload_n 0, 1) := by decide +kernel
theorem dX7_init_22 : decode cX7_init 22 = .ok (.iconst 4, 1) := by decide +kernel
theorem dX7_init_23 : decode cX7_init 23 = .ok (.newarray .int, 2) := by decide +kernel
theorem dX7_init_25 : decode cX7_init 25 = .ok (.putfield 18, 3) := by decide +kernel
theorem dX7_init_28 : decode cX7_init 28 = .ok (.aload_n 0, 1) := by decide +kernel
theorem dX7_init_29 : decode cX7_init 29 = .ok (.aload_n 1, 1) := by decide +kernel
theorem dX7_init_30 : decode cX7_init 30 = .ok (.putfield 21, 3) := by decide +kernel
theorem dX7_init_33 : decode cX7_init 33 = .ok (.aload_n 0, 1) := by decide +kernel
theorem dX7_init_34 : decode cX7_init 34 = .ok (.aload_n 2, 1) := by decide +kernel
theorem dX7_init_35 : decode cX7_init 35 = .ok (.putfield 25, 3) := by decide +kernel
theorem dX7_init_38 : decode cX7_init 38 = .ok (.aload_n 0, 1) := by decide +kernel
theorem dX7_init_39 : decode cX7_init 39 = .ok (.aload_n 3, 1) := by decide +kernel
theorem dX7_init_40 : decode cX7_init 40 = .ok (.putfield 29, 3) := by decide +kernel
theorem dX7_init_43 : decode cX7_init 43 = .ok (.aload_n 0, 1) := by decide +kernel
theorem dX7_init_44 : decode cX7_init 44 = .ok (.aload 4, 2) := by decide +kernel
theorem dX7_init_46 : decode cX7_init 46 = .ok (.putfield 33, 3) := by decide +kernel
theorem dX7_init_49 : decode cX7_init 49 = .ok (.return_, 1) := by decide +kernel
theorem flRX7_29 : px_f RX7 29 7 0 := ⟨_, rfl, by decide, Or.inl (tb2 (List.mem_of_getElem? (i := 219) rfl))⟩
theorem flRX7_33 : px_f RX7 33 7 1 := ⟨_, rfl, by decide, Or.inl (tb2 (List.mem_of_getElem? (i := 220) rfl))⟩
set_option maxRecDepth 100000 in
set_option maxHeartbeats 4000000 in
theorem eX7_init {X : px_X} {w : px_W} {a0 : Nat} {a1 : Nat} {a2 : Nat} {a3 : Nat} {a4 : Nat} {q : px_W} (h : fX7_init X w a0 a1 a2 a3 a4 = some q) : EV X mX7_init 0 (lv_args 0 [.ref a0, .ref a1, .ref a2, .ref a3, .ref a4]) [] w none q := by
  unfold fX7_init at h
  show EV X mX7_init 0 [(0, .ref a0), (1, .ref a1), (2, .ref a2), (3, .ref a3), (4, .ref a4)] [] w none q
  refine EV.aload_n 0 dX7_init_0 rfl rfl ?_
  refine EV.objI dX7_init_1 (tb2 (List.mem_of_getElem? (i := 218) rfl)) (by decide) (by decide) (Nat.le_of_ble_eq_true rfl) ?_
  refine EV.aload_n 0 dX7_init_4 rfl rfl ?_
  refine EV.sipush (1024) dX7_init_5 (by decide) ?_
  obtain ⟨q11, gq11, h⟩ := px_bs h
  refine ev_nI dX7_init_8 gq11 ?_
  obtain ⟨w12, gw12, h⟩ := px_bs h
  refine ev_pF dX7_init_10 (ci := 7) (k := 9) rfl (by decide) (tb2 (List.mem_of_getElem? (i := 228) rfl)) rfl rfl rfl rfl rfl gw12 ?_
  refine EV.aload_n 0 dX7_init_13 rfl rfl ?_
  refine EV.bipush (64) dX7_init_14 (by decide) ?_
  obtain ⟨q13, gq13, h⟩ := px_bs h
  refine ev_nI dX7_init_16 gq13 ?_
  obtain ⟨w14, gw14, h⟩ := px_bs h
  refine ev_pF dX7_init_18 (ci := 7) (k := 11) rfl (by decide) (tb2 (List.mem_of_getElem? (i := 230) rfl)) rfl rfl rfl rfl rfl gw14 ?_
  refine EV.aload_n 0 dX7_init_21 rfl rfl ?_
  refine EV.iconst (4) dX7_init_22 (by decide) ?_
  obtain ⟨q15, gq15, h⟩ := px_bs h
  refine ev_nI dX7_init_23 gq15 ?_
  obtain ⟨w16, gw16, h⟩ := px_bs h
  refine ev_pF dX7_init_25 (ci := 7) (k := 12) rfl (by decide) (tb2 (List.mem_of_getElem? (i := 231) rfl)) rfl rfl rfl rfl rfl gw16 ?_
  refine EV.aload_n 0 dX7_init_28 rfl rfl ?_
  refine EV.aload_n 1 dX7_init_29 rfl rfl ?_
  obtain ⟨w17, gw17, h⟩ := px_bs h
  refine ev_pF dX7_init_30 (ci := 7) (k := 2) rfl (by decide) (tb2 (List.mem_of_getElem? (i := 221) rfl)) rfl rfl rfl rfl rfl gw17 ?_
  refine EV.aload_n 0 dX7_init_33 rfl rfl ?_
  refine EV.aload_n 2 dX7_init_34 rfl rfl ?_
  obtain ⟨w18, gw18, h⟩ := px_bs h
  refine ev_pF dX7_init_35 (ci := 7) (k := 3) rfl (by decide) (tb2 (List.mem_of_getElem? (i := 222) rfl)) rfl rfl rfl rfl rfl gw18 ?_
  refine EV.aload_n 0 dX7_init_38 rfl rfl ?_
  refine EV.aload_n 3 dX7_init_39 rfl rfl ?_
  obtain ⟨w19, gw19, h⟩ := px_bs h
  refine ev_pV dX7_init_40 flRX7_29 rfl rfl rfl rfl gw19 ?_
  refine EV.aload_n 0 dX7_init_43 rfl rfl ?_
  refine EV.aload 4 dX7_init_44 rfl ?_
  obtain ⟨w20, gw20, h⟩ := px_bs h
  refine ev_pV dX7_init_46 flRX7_33 rfl rfl rfl rfl gw20 ?_
  cases h
  exact EV.ret0 dX7_init_49 trivial
/-! WavePictures$Saver.<init>(LWavePictures$Bytes;LWavePictures$Picture;)V -/
theorem dX4_init_0 : decode cX4_init 0 = .ok (.aload_n 0, 1) := by decide +kernel
theorem dX4_init_1 : decode cX4_init 1 = .ok (.invokespecial 3, 3) := by decide +kernel
theorem dX4_init_4 : decode cX4_init 4 = .ok (.aload_n 0, 1) := by decide +kernel
theorem dX4_init_5 : decode cX4_init 5 = .ok (.new 9, 3) := by decide +kernel
theorem dX4_init_8 : decode cX4_init 8 = .ok (.dup, 1) := by decide +kernel
theorem dX4_init_9 : decode cX4_init 9 = .ok (.invokespecial 11, 3) := by decide +kernel
theorem dX4_init_12 : decode cX4_init 12 = .ok (.putfield 12, 3) := by decide +kernel
theorem dX4_init_15 : decode cX4_init 15 = .ok (.aload_n 0, 1) := by decide +kernel
theorem dX4_init_16 : decode cX4_init 16 = .ok (.bipush 8, 2) := by decide +kernel
theorem dX4_init_18 : decode cX4_init 18 = .ok (.anewarray 18, 3) := by decide +kernel
theorem dX4_init_21 : decode cX4_init 21 = .ok (.putfield 20, 3) := by decide +kernel
theorem dX4_init_24 : decode cX4_init 24 = .ok (.aload_n 0, 1) := by decide +kernel
theorem dX4_init_25 : decode cX4_init 25 = .ok (.aload_n 1, 1) := by decide +kernel
theorem dX4_init_26 : decode cX4_init 26 = .ok (.putfield 24, 3) := by decide +kernel
theorem dX4_init_29 : decode cX4_init 29 = .ok (.aload_n 0, 1) := by decide +kernel
theorem dX4_init_30 : decode cX4_init 30 = .ok (.aload_n 2, 1) := by decide +kernel
theorem dX4_init_31 : decode cX4_init 31 = .ok (.putfield 28, 3) := by decide +kernel
theorem dX4_init_34 : decode cX4_init 34 = .ok (.iconst 0, 1) := by decide +kernel
theorem dX4_init_35 : decode cX4_init 35 = .ok (.istore_n 3, 1) := by decide +kernel
theorem dX4_init_36 : decode cX4_init 36 = .ok (.iload_n 3, 1) := by decide +kernel
theorem dX4_init_37 : decode cX4_init 37 = .ok (.bipush 8, 2) := by decide +kernel
theorem dX4_init_39 : decode cX4_init 39 = .ok (.if_icmp .ge 22, 3) := by decide +kernel
theorem dX4_init_42 : decode cX4_init 42 = .ok (.aload_n 0, 1) := by decide +kernel
theorem dX4_init_43 : decode cX4_init 43 = .ok (.getfield 20, 3) := by decide +kernel
theorem dX4_init_46 : decode cX4_init 46 = .ok (.iload_n 3, 1) := by decide +kernel
theorem dX4_init_47 : decode cX4_init 47 = .ok (.new 18, 3) := by decide +kernel
theorem dX4_init_50 : decode cX4_init 50 = .ok (.dup, 1) := by decide +kernel
theorem dX4_init_51 : decode cX4_init 51 = .ok (.invokespecial 32, 3) := by decide +kernel
theorem dX4_init_54 : decode cX4_init 54 = .ok (.aastore, 1) := by decide +kernel
theorem dX4_init_55 : decode cX4_init 55 = .ok (.iinc 3 1, 3) := by decide +kernel
theorem dX4_init_58 : decode cX4_init 58 = .ok (.goto (-22), 3) := by decide +kernel
theorem dX4_init_61 : decode cX4_init 61 = .ok (.aload_n 0, 1) := by decide +kernel
theorem dX4_init_62 : decode cX4_init 62 = .ok (.new 33, 3) := by decide +kernel
theorem dX4_init_65 : decode cX4_init 65 = .ok (.dup, 1) := by decide +kernel
theorem dX4_init_66 : decode cX4_init 66 = .ok (.aload_n 0, 1) := by decide +kernel
theorem dX4_init_67 : decode cX4_init 67 = .ok (.getfield 12, 3) := by decide +kernel
theorem dX4_init_70 : decode cX4_init 70 = .ok (.aload_n 0, 1) := by decide +kernel
theorem dX4_init_71 : decode cX4_init 71 = .ok (.getfield 20, 3) := by decide +kernel
theorem dX4_init_74 : decode cX4_init 74 = .ok (.aload_n 1, 1) := by decide +kernel
theorem dX4_init_75 : decode cX4_init 75 = .ok (.aload_n 2, 1) := by decide +kernel
theorem dX4_init_76 : decode cX4_init 76 = .ok (.invokespecial 35, 3) := by decide +kernel
theorem dX4_init_79 : decode cX4_init 79 = .ok (.putfield 38, 3) := by decide +kernel
theorem dX4_init_82 : decode cX4_init 82 = .ok (.return_, 1) := by decide +kernel
theorem flRX4_12 : px_f RX4 12 4 3 := ⟨_, rfl, by decide, Or.inl (tb3 (List.mem_of_getElem? (i := 22) rfl))⟩
theorem flRX4_20 : px_f RX4 20 4 4 := ⟨_, rfl, by decide, Or.inl (tb3 (List.mem_of_getElem? (i := 23) rfl))⟩
theorem flRX4_24 : px_f RX4 24 4 0 := ⟨_, rfl, by decide, Or.inl (tb3 (List.mem_of_getElem? (i := 19) rfl))⟩
theorem flRX4_28 : px_f RX4 28 4 1 := ⟨_, rfl, by decide, Or.inl (tb3 (List.mem_of_getElem? (i := 20) rfl))⟩
theorem nd0 : ∀ j, j < 10 → defaultValue (px_fty (RX0, TX0, 10) j) = vp_V [.null, .null, .null, .null, .null, .int 0, .null, .null, .null, .null] j := by decide +kernel
theorem nd5 : ∀ j, j < 17 → defaultValue (px_fty (RX5, TX5, 17) j) = vp_V [.int 0, .int 0, .int 0, .int 0, .int 0, .null, .null, .null, .null, .int 0, .int 0, .int 0, .int 0, .int 0, .null, .null, .null] j := by decide +kernel
theorem nd7 : ∀ j, j < 13 → defaultValue (px_fty (RX7, TX7, 13) j) = vp_V [.null, .null, .null, .null, .int 0, .int 0, .int 0, .int 0, .int 0, .null, .int 0, .null, .null] j := by decide +kernel
theorem mbX5_init : px_mB mX5_init 0 := ⟨tb1 (List.mem_of_getElem? (i := 182) rfl), by decide +kernel, tb1 (List.mem_of_getElem? (i := 7) rfl), by decide +kernel, by decide +kernel⟩
theorem kcX4_init_11 : px_cI mX4_init 11 mX5_init 0 := ⟨⟨mbX5_init, by decide, by decide⟩, Or.inr ⟨"WavePictures", tT2 (List.mem_of_getElem? (i := 168) rfl)⟩, rfl, tb1 (List.mem_of_getElem? (i := 181) rfl), rfl⟩
theorem mbX0_init : px_mB mX0_init 0 := ⟨tb2 (List.mem_of_getElem? (i := 174) rfl), by decide +kernel, tb1 (List.mem_of_getElem? (i := 11) rfl), by decide +kernel, by decide +kernel⟩
theorem kcX4_init_32 : px_cI mX4_init 32 mX0_init 0 := ⟨⟨mbX0_init, by decide, by decide⟩, Or.inr ⟨"WavePictures", tT2 (List.mem_of_getElem? (i := 172) rfl)⟩, rfl, tb2 (List.mem_of_getElem? (i := 173) rfl), rfl⟩
theorem mbX7_init : px_mB mX7_init 4 := ⟨tb2 (List.mem_of_getElem? (i := 217) rfl), by decide +kernel, tb1 (List.mem_of_getElem? (i := 12) rfl), by decide +kernel, by decide +kernel⟩
theorem kcX4_init_35 : px_cI mX4_init 35 mX7_init 4 := ⟨⟨mbX7_init, by decide, by decide⟩, Or.inl (tb2 (List.mem_of_getElem? (i := 215) rfl)), rfl, tb2 (List.mem_of_getElem? (i := 216) rfl), rfl⟩
set_option maxRecDepth 100000 in
set_option maxHeartbeats 4000000 in
theorem eX4_init_61 {X : px_X}  : ∀ (a0 : Nat) (a1 : Nat) (a2 : Nat) (w : px_W) (q : px_W), fX4_init_61 X  a0 a1 a2 w = some q → EV X mX4_init 61 [(0, .ref a0), (1, .ref a1), (2, .ref a2)] [] w none q := by
  intro a0 a1 a2 w q h
  unfold fX4_init_61 at h
  refine EV.aload_n 0 dX4_init_61 rfl rfl ?_
  obtain ⟨q17, gq17, h⟩ := px_bs h
  refine ev_nO (q := (RX7, TX7, 13)) dX4_init_62 rfl rfl (tb2 (List.mem_of_getElem? (i := 213) rfl)) (tb2 (List.mem_of_getElem? (i := 214) rfl)) (tb1 (List.mem_of_getElem? (i := 12) rfl)) nd7 gq17 ?_
  refine EV.dup dX4_init_65 rfl ?_
  refine EV.aload_n 0 dX4_init_66 rfl rfl ?_
  obtain ⟨v18, gv18, h⟩ := px_bs h
  refine ev_gR dX4_init_67 flRX4_12 gv18 ?_
  refine EV.aload_n 0 dX4_init_70 rfl rfl ?_
  obtain ⟨v19, gv19, h⟩ := px_bs h
  refine ev_gR dX4_init_71 flRX4_20 gv19 ?_
  refine EV.aload_n 1 dX4_init_74 rfl rfl ?_
  refine EV.aload_n 2 dX4_init_75 rfl rfl ?_
  obtain ⟨q20, gq20, h⟩ := px_bs h
  refine EV.callI (As := [.ref v18, .ref v19, .ref a1, .ref a2]) (rest := [.ref q17.1, .ref a0]) dX4_init_76 kcX4_init_35 rfl (Nat.le_of_ble_eq_true rfl) (Nat.le_of_ble_eq_true rfl) (eX7_init gq20) ?_
  obtain ⟨w21, gw21, h⟩ := px_bs h
  refine ev_pF dX4_init_79 (ci := 4) (k := 5) rfl (by decide) (tb3 (List.mem_of_getElem? (i := 24) rfl)) rfl rfl rfl rfl rfl gw21 ?_
  cases h
  exact EV.ret0 dX4_init_82 trivial
set_option maxRecDepth 100000 in
set_option maxHeartbeats 4000000 in
theorem eX4_init_36 {X : px_X}  : ∀ (m : Nat) (a0 : Nat) (a1 : Nat) (a2 : Nat) (a3 : Int32) (w : px_W) (q : px_W), fX4_init_36 X  m a0 a1 a2 a3 w = some q → EV X mX4_init 36 [(0, .ref a0), (1, .ref a1), (2, .ref a2), (3, .int a3)] [] w none q := by
  intro m
  induction m with
  | zero => intro a0 a1 a2 a3 w q h; cases h
  | succ m ih =>
    intro a0 a1 a2 a3 w q h
    rw [fX4_init_36.eq_2] at h
    refine EV.iload_n 3 dX4_init_36 rfl rfl ?_
    refine EV.bipush (8) dX4_init_37 (by decide) ?_
    refine EV.icmp_ge 61 dX4_init_39 (by decide) (fun c22 => ?_) (fun c22 => ?_)
    · rw [if_pos c22] at h
      refine EV.sub [0, 1, 2] rfl ?_
      exact eX4_init_61  _ _ _ _ _ h
    · rw [if_neg c22] at h
      refine EV.aload_n 0 dX4_init_42 rfl rfl ?_
      obtain ⟨v23, gv23, h⟩ := px_bs h
      refine ev_gR dX4_init_43 flRX4_20 gv23 ?_
      refine EV.iload_n 3 dX4_init_46 rfl rfl ?_
      obtain ⟨q24, gq24, h⟩ := px_bs h
      refine ev_nO (q := (RX0, TX0, 10)) dX4_init_47 rfl rfl (tb2 (List.mem_of_getElem? (i := 169) rfl)) (tb2 (List.mem_of_getElem? (i := 171) rfl)) (tb1 (List.mem_of_getElem? (i := 11) rfl)) nd0 gq24 ?_
      refine EV.dup dX4_init_50 rfl ?_
      obtain ⟨q25, gq25, h⟩ := px_bs h
      refine EV.callI (As := []) (rest := [.ref q24.1, .int a3, .ref v23]) dX4_init_51 kcX4_init_32 rfl (Nat.le_of_ble_eq_true rfl) (Nat.le_of_ble_eq_true rfl) (eX0_init gq25) ?_
      obtain ⟨w26, gw26, h⟩ := px_bs h
      refine ev_sQ dX4_init_54 (ci := 0) rfl rfl gw26 ?_
      refine EV.iinc 3 (a3 + 1) [(3, .int (a3 + 1)), (0, .ref a0), (1, .ref a1), (2, .ref a2)] dX4_init_55 rfl rfl (by decide) rfl ?_
      refine EV.goto 36 dX4_init_58 (by decide) ?_
      refine EV.sub [1, 2, 3, 0] rfl ?_
      exact ih _ _ _ _ _ _ h
set_option maxRecDepth 100000 in
set_option maxHeartbeats 4000000 in
theorem eX4_init {X : px_X} {w : px_W} {a0 : Nat} {a1 : Nat} {a2 : Nat} {q : px_W} (h : fX4_init X w a0 a1 a2 = some q) : EV X mX4_init 0 (lv_args 0 [.ref a0, .ref a1, .ref a2]) [] w none q := by
  unfold fX4_init at h
  show EV X mX4_init 0 [(0, .ref a0), (1, .ref a1), (2, .ref a2)] [] w none q
  refine EV.aload_n 0 dX4_init_0 rfl rfl ?_
  refine EV.objI dX4_init_1 (tb2 (List.mem_of_getElem? (i := 166) rfl)) (by decide) (by decide) (Nat.le_of_ble_eq_true rfl) ?_
  refine EV.aload_n 0 dX4_init_4 rfl rfl ?_
  obtain ⟨q27, gq27, h⟩ := px_bs h
  refine ev_nO (q := (RX5, TX5, 17)) dX4_init_5 rfl rfl (tb2 (List.mem_of_getElem? (i := 167) rfl)) (tb1 (List.mem_of_getElem? (i := 179) rfl)) (tb1 (List.mem_of_getElem? (i := 7) rfl)) nd5 gq27 ?_
  refine EV.dup dX4_init_8 rfl ?_
  obtain ⟨q28, gq28, h⟩ := px_bs h
  refine EV.callI (As := []) (rest := [.ref q27.1, .ref a0]) dX4_init_9 kcX4_init_11 rfl (Nat.le_of_ble_eq_true rfl) (Nat.le_of_ble_eq_true rfl) (eX5_init gq28) ?_
  obtain ⟨w29, gw29, h⟩ := px_bs h
  refine ev_pF dX4_init_12 (ci := 4) (k := 3) rfl (by decide) (tb3 (List.mem_of_getElem? (i := 22) rfl)) rfl rfl rfl rfl rfl gw29 ?_
  refine EV.aload_n 0 dX4_init_15 rfl rfl ?_
  refine EV.bipush (8) dX4_init_16 (by decide) ?_
  obtain ⟨q30, gq30, h⟩ := px_bs h
  refine ev_nQ dX4_init_18 (t := 5) rfl (tb2 (List.mem_of_getElem? (i := 169) rfl)) (List.mem_of_getElem? (i := 410) (by decide +kernel)) gq30 ?_
  obtain ⟨w31, gw31, h⟩ := px_bs h
  refine ev_pF dX4_init_21 (ci := 4) (k := 4) rfl (by decide) (tb3 (List.mem_of_getElem? (i := 23) rfl)) rfl rfl rfl rfl rfl gw31 ?_
  refine EV.aload_n 0 dX4_init_24 rfl rfl ?_
  refine EV.aload_n 1 dX4_init_25 rfl rfl ?_
  obtain ⟨w32, gw32, h⟩ := px_bs h
  refine ev_pV dX4_init_26 flRX4_24 rfl rfl rfl rfl gw32 ?_
  refine EV.aload_n 0 dX4_init_29 rfl rfl ?_
  refine EV.aload_n 2 dX4_init_30 rfl rfl ?_
  obtain ⟨w33, gw33, h⟩ := px_bs h
  refine ev_pV dX4_init_31 flRX4_28 rfl rfl rfl rfl gw33 ?_
  refine EV.iconst (0) dX4_init_34 (by decide) ?_
  refine EV.istore_n [(3, .int 0), (0, .ref a0), (1, .ref a1), (2, .ref a2)] dX4_init_35 rfl (by decide) rfl ?_
  refine EV.sub [1, 2, 3, 0] rfl ?_
  exact eX4_init_36  FU _ _ _ _ _ _ h
/-! WavePictures$ScanWriter.begin(LWavePictures$Bytes;LWavePictures$Picture;)V -/
theorem dX7_begin_0 : decode cX7_begin 0 = .ok (.aload_n 0, 1) := by decide +kernel
theorem dX7_begin_1 : decode cX7_begin 1 = .ok (.aload_n 1, 1) := by decide +kernel
theorem dX7_begin_2 : decode cX7_begin 2 = .ok (.putfield 29, 3) := by decide +kernel
theorem dX7_begin_5 : decode cX7_begin 5 = .ok (.aload_n 0, 1) := by decide +kernel
theorem dX7_begin_6 : decode cX7_begin 6 = .ok (.aload_n 2, 1) := by decide +kernel
theorem dX7_begin_7 : decode cX7_begin 7 = .ok (.putfield 33, 3) := by decide +kernel
theorem dX7_begin_10 : decode cX7_begin 10 = .ok (.return_, 1) := by decide +kernel
set_option maxRecDepth 100000 in
set_option maxHeartbeats 4000000 in
theorem eX7_begin {X : px_X} {w : px_W} {a0 : Nat} {a1 : Nat} {a2 : Nat} {q : px_W} (h : fX7_begin X w a0 a1 a2 = some q) : EV X mX7_begin 0 (lv_args 0 [.ref a0, .ref a1, .ref a2]) [] w none q := by
  unfold fX7_begin at h
  show EV X mX7_begin 0 [(0, .ref a0), (1, .ref a1), (2, .ref a2)] [] w none q
  refine EV.aload_n 0 dX7_begin_0 rfl rfl ?_
  refine EV.aload_n 1 dX7_begin_1 rfl rfl ?_
  obtain ⟨w3, gw3, h⟩ := px_bs h
  refine ev_pV dX7_begin_2 flRX7_29 rfl rfl rfl rfl gw3 ?_
  refine EV.aload_n 0 dX7_begin_5 rfl rfl ?_
  refine EV.aload_n 2 dX7_begin_6 rfl rfl ?_
  obtain ⟨w4, gw4, h⟩ := px_bs h
  refine ev_pV dX7_begin_7 flRX7_33 rfl rfl rfl rfl gw4 ?_
  cases h
  exact EV.ret0 dX7_begin_10 trivial
/-! WavePictures$Saver.tellMarker(I)V -/
theorem dX4_tellMarker_0 : decode cX4_tellMarker 0 = .ok (.aload_n 0, 1) := by decide +kernel
theorem dX4_tellMarker_1 : decode cX4_tellMarker 1 = .ok (.getfield 24, 3) := by decide +kernel
theorem dX4_tellMarker_4 : decode cX4_tellMarker 4 = .ok (.sipush 255, 3) := by decide +kernel
theorem dX4_tellMarker_7 : decode cX4_tellMarker 7 = .ok (.invokevirtual 59, 3) := by decide +kernel
theorem dX4_tellMarker_10 : decode cX4_tellMarker 10 = .ok (.aload_n 0, 1) := by decide +kernel
theorem dX4_tellMarker_11 : decode cX4_tellMarker 11 = .ok (.getfield 24, 3) := by decide +kernel
theorem dX4_tellMarker_14 : decode cX4_tellMarker 14 = .ok (.iload_n 1, 1) := by decide +kernel
theorem dX4_tellMarker_15 : decode cX4_tellMarker 15 = .ok (.invokevirtual 59, 3) := by decide +kernel
theorem dX4_tellMarker_18 : decode cX4_tellMarker 18 = .ok (.return_, 1) := by decide +kernel
theorem kcX4_tellMarker_59 : px_cV mX4_tellMarker 59 mX1_add 1 := ⟨⟨mbX1_add, by decide, by decide⟩, Or.inl (tb4 (List.mem_of_getElem? (i := 195) rfl)), vbX1_add⟩
set_option maxRecDepth 100000 in
set_option maxHeartbeats 4000000 in
theorem eX4_tellMarker {X : px_X} {w : px_W} {a0 : Nat} {a1 : Int32} {q : px_W} (h : fX4_tellMarker X w a0 a1 = some q) : EV X mX4_tellMarker 0 (lv_args 0 [.ref a0, .int a1]) [] w none q := by
  unfold fX4_tellMarker at h
  show EV X mX4_tellMarker 0 [(0, .ref a0), (1, .int a1)] [] w none q
  refine EV.aload_n 0 dX4_tellMarker_0 rfl rfl ?_
  obtain ⟨v7, gv7, h⟩ := px_bs h
  refine ev_gR dX4_tellMarker_1 flRX4_24 gv7 ?_
  refine EV.sipush (255) dX4_tellMarker_4 (by decide) ?_
  obtain ⟨o8, go8, h⟩ := px_bs h
  obtain ⟨q9, gq9, h⟩ := px_bs h
  refine EV.callV (As := [.int 255]) (rest := []) dX4_tellMarker_7 kcX4_tellMarker_59 (gO_ok go8) rfl rfl rfl (Nat.le_of_ble_eq_true rfl) (Nat.le_of_ble_eq_true rfl) (eX1_add gq9) ?_
  refine EV.aload_n 0 dX4_tellMarker_10 rfl rfl ?_
  obtain ⟨v10, gv10, h⟩ := px_bs h
  refine ev_gR dX4_tellMarker_11 flRX4_24 gv10 ?_
  refine EV.iload_n 1 dX4_tellMarker_14 rfl rfl ?_
  obtain ⟨o11, go11, h⟩ := px_bs h
  obtain ⟨q12, gq12, h⟩ := px_bs h
  refine EV.callV (As := [.int a1]) (rest := []) dX4_tellMarker_15 kcX4_tellMarker_59 (gO_ok go11) rfl rfl rfl (Nat.le_of_ble_eq_true rfl) (Nat.le_of_ble_eq_true rfl) (eX1_add gq12) ?_
  cases h
  exact EV.ret0 dX4_tellMarker_18 trivial
/-! WavePictures$Saver.begin(LWavePictures$Bytes;LWavePictures$Picture;I)V -/
theorem dX4_begin_0 : decode cX4_begin 0 = .ok (.aload_n 0, 1) := by decide +kernel
theorem dX4_begin_1 : decode cX4_begin 1 = .ok (.aload_n 1, 1) := by decide +kernel
theorem dX4_begin_2 : decode cX4_begin 2 = .ok (.putfield 24, 3) := by decide +kernel
theorem dX4_begin_5 : decode cX4_begin 5 = .ok (.aload_n 0, 1) := by decide +kernel
theorem dX4_begin_6 : decode cX4_begin 6 = .ok (.aload_n 2, 1) := by decide +kernel
theorem dX4_begin_7 : decode cX4_begin 7 = .ok (.putfield 28, 3) := by decide +kernel
theorem dX4_begin_10 : decode cX4_begin 10 = .ok (.aload_n 0, 1) := by decide +kernel
theorem dX4_begin_11 : decode cX4_begin 11 = .ok (.iload_n 3, 1) := by decide +kernel
theorem dX4_begin_12 : decode cX4_begin 12 = .ok (.putfield 42, 3) := by decide +kernel
theorem dX4_begin_15 : decode cX4_begin 15 = .ok (.aload_n 0, 1) := by decide +kernel
theorem dX4_begin_16 : decode cX4_begin 16 = .ok (.getfield 38, 3) := by decide +kernel
theorem dX4_begin_19 : decode cX4_begin 19 = .ok (.aload_n 1, 1) := by decide +kernel
theorem dX4_begin_20 : decode cX4_begin 20 = .ok (.aload_n 2, 1) := by decide +kernel
theorem dX4_begin_21 : decode cX4_begin 21 = .ok (.invokevirtual 46, 3) := by decide +kernel
theorem dX4_begin_24 : decode cX4_begin 24 = .ok (.aload_n 0, 1) := by decide +kernel
theorem dX4_begin_25 : decode cX4_begin 25 = .ok (.getfield 24, 3) := by decide +kernel
theorem dX4_begin_28 : decode cX4_begin 28 = .ok (.invokevirtual 50, 3) := by decide +kernel
theorem dX4_begin_31 : decode cX4_begin 31 = .ok (.aload_n 0, 1) := by decide +kernel
theorem dX4_begin_32 : decode cX4_begin 32 = .ok (.sipush 216, 3) := by decide +kernel
theorem dX4_begin_35 : decode cX4_begin 35 = .ok (.invokevirtual 55, 3) := by decide +kernel
theorem dX4_begin_38 : decode cX4_begin 38 = .ok (.return_, 1) := by decide +kernel
theorem flRX4_38 : px_f RX4 38 4 5 := ⟨_, rfl, by decide, Or.inl (tb3 (List.mem_of_getElem? (i := 24) rfl))⟩
theorem flRX4_42 : px_f RX4 42 4 2 := ⟨_, rfl, by decide, Or.inl (tb3 (List.mem_of_getElem? (i := 21) rfl))⟩
theorem mbX7_begin : px_mB mX7_begin 2 := ⟨tb4 (List.mem_of_getElem? (i := 189) rfl), by decide +kernel, tb1 (List.mem_of_getElem? (i := 12) rfl), by decide +kernel, by decide +kernel⟩
theorem vbX7_begin : px_vB mX7_begin := ⟨tb4 (List.mem_of_getElem? (i := 187) rfl), tb4 (List.mem_of_getElem? (i := 188) rfl)⟩
theorem kcX4_begin_46 : px_cV mX4_begin 46 mX7_begin 2 := ⟨⟨mbX7_begin, by decide, by decide⟩, Or.inl (tb4 (List.mem_of_getElem? (i := 186) rfl)), vbX7_begin⟩
theorem mbX1_clear : px_mB mX1_clear 0 := ⟨tb3 (List.mem_of_getElem? (i := 108) rfl), by decide +kernel, tb1 (List.mem_of_getElem? (i := 2) rfl), by decide +kernel, by decide +kernel⟩
theorem vbX1_clear : px_vB mX1_clear := ⟨tb3 (List.mem_of_getElem? (i := 106) rfl), tb3 (List.mem_of_getElem? (i := 107) rfl)⟩
theorem kcX4_begin_50 : px_cV mX4_begin 50 mX1_clear 0 := ⟨⟨mbX1_clear, by decide, by decide⟩, Or.inl (tb4 (List.mem_of_getElem? (i := 190) rfl)), vbX1_clear⟩
theorem mbX4_tellMarker : px_mB mX4_tellMarker 1 := ⟨tb4 (List.mem_of_getElem? (i := 194) rfl), by decide +kernel, tb1 (List.mem_of_getElem? (i := 10) rfl), by decide +kernel, by decide +kernel⟩
theorem vbX4_tellMarker : px_vB mX4_tellMarker := ⟨tb4 (List.mem_of_getElem? (i := 192) rfl), tb4 (List.mem_of_getElem? (i := 193) rfl)⟩
theorem kcX4_begin_55 : px_cV mX4_begin 55 mX4_tellMarker 1 := ⟨⟨mbX4_tellMarker, by decide, by decide⟩, Or.inl (tb4 (List.mem_of_getElem? (i := 191) rfl)), vbX4_tellMarker⟩
set_option maxRecDepth 100000 in
set_option maxHeartbeats 4000000 in
theorem eX4_begin {X : px_X} {w : px_W} {a0 : Nat} {a1 : Nat} {a2 : Nat} {a3 : Int32} {q : px_W} (h : fX4_begin X w a0 a1 a2 a3 = some q) : EV X mX4_begin 0 (lv_args 0 [.ref a0, .ref a1, .ref a2, .int a3]) [] w none q := by
  unfold fX4_begin at h
  show EV X mX4_begin 0 [(0, .ref a0), (1, .ref a1), (2, .ref a2), (3, .int a3)] [] w none q
  refine EV.aload_n 0 dX4_begin_0 rfl rfl ?_
  refine EV.aload_n 1 dX4_begin_1 rfl rfl ?_
  obtain ⟨w12, gw12, h⟩ := px_bs h
  refine ev_pV dX4_begin_2 flRX4_24 rfl rfl rfl rfl gw12 ?_
  refine EV.aload_n 0 dX4_begin_5 rfl rfl ?_
  refine EV.aload_n 2 dX4_begin_6 rfl rfl ?_
  obtain ⟨w13, gw13, h⟩ := px_bs h
  refine ev_pV dX4_begin_7 flRX4_28 rfl rfl rfl rfl gw13 ?_
  refine EV.aload_n 0 dX4_begin_10 rfl rfl ?_
  refine EV.iload_n 3 dX4_begin_11 rfl rfl ?_
  obtain ⟨w14, gw14, h⟩ := px_bs h
  refine ev_pV dX4_begin_12 flRX4_42 rfl rfl rfl rfl gw14 ?_
  refine EV.aload_n 0 dX4_begin_15 rfl rfl ?_
  obtain ⟨v15, gv15, h⟩ := px_bs h
  refine ev_gR dX4_begin_16 flRX4_38 gv15 ?_
  refine EV.aload_n 1 dX4_begin_19 rfl rfl ?_
  refine EV.aload_n 2 dX4_begin_20 rfl rfl ?_
  obtain ⟨o16, go16, h⟩ := px_bs h
  obtain ⟨q17, gq17, h⟩ := px_bs h
  refine EV.callV (As := [.ref a1, .ref a2]) (rest := []) dX4_begin_21 kcX4_begin_46 (gO_ok go16) rfl rfl rfl (Nat.le_of_ble_eq_true rfl) (Nat.le_of_ble_eq_true rfl) (eX7_begin gq17) ?_
  refine EV.aload_n 0 dX4_begin_24 rfl rfl ?_
  obtain ⟨v18, gv18, h⟩ := px_bs h
  refine ev_gR dX4_begin_25 flRX4_24 gv18 ?_
  obtain ⟨o19, go19, h⟩ := px_bs h
  obtain ⟨q20, gq20, h⟩ := px_bs h
  refine EV.callV (As := []) (rest := []) dX4_begin_28 kcX4_begin_50 (gO_ok go19) rfl rfl rfl (Nat.le_of_ble_eq_true rfl) (Nat.le_of_ble_eq_true rfl) (eX1_clear gq20) ?_
  refine EV.aload_n 0 dX4_begin_31 rfl rfl ?_
  refine EV.sipush (216) dX4_begin_32 (by decide) ?_
  obtain ⟨o21, go21, h⟩ := px_bs h
  obtain ⟨q22, gq22, h⟩ := px_bs h
  refine EV.callV (As := [.int 216]) (rest := []) dX4_begin_35 kcX4_begin_55 (gO_ok go21) rfl rfl rfl (Nat.le_of_ble_eq_true rfl) (Nat.le_of_ble_eq_true rfl) (eX4_tellMarker gq22) ?_
  cases h
  exact EV.ret0 dX4_begin_38 trivial
/-! WavePictures$Saver.tellSegment(II)V -/
theorem dX4_tellSegment_0 : decode cX4_tellSegment 0 = .ok (.aload_n 0, 1) := by decide +kernel
theorem dX4_tellSegment_1 : decode cX4_tellSegment 1 = .ok (.iload_n 1, 1) := by decide +kernel
theorem dX4_tellSegment_2 : decode cX4_tellSegment 2 = .ok (.invokevirtual 55, 3) := by decide +kernel
theorem dX4_tellSegment_5 : decode cX4_tellSegment 5 = .ok (.aload_n 0, 1) := by decide +kernel
theorem dX4_tellSegment_6 : decode cX4_tellSegment 6 = .ok (.getfield 24, 3) := by decide +kernel
theorem dX4_tellSegment_9 : decode cX4_tellSegment 9 = .ok (.iconst 2, 1) := by decide +kernel
theorem dX4_tellSegment_10 : decode cX4_tellSegment 10 = .ok (.iload_n 2, 1) := by decide +kernel
theorem dX4_tellSegment_11 : decode cX4_tellSegment 11 = .ok (.iadd, 1) := by decide +kernel
theorem dX4_tellSegment_12 : decode cX4_tellSegment 12 = .ok (.invokevirtual 62, 3) := by decide +kernel
theorem dX4_tellSegment_15 : decode cX4_tellSegment 15 = .ok (.return_, 1) := by decide +kernel
theorem kcX4_tellSegment_55 : px_cV mX4_tellSegment 55 mX4_tellMarker 1 := ⟨⟨mbX4_tellMarker, by decide, by decide⟩, Or.inl (tb4 (List.mem_of_getElem? (i := 191) rfl)), vbX4_tellMarker⟩
theorem mbX1_addTwo : px_mB mX1_addTwo 1 := ⟨tb4 (List.mem_of_getElem? (i := 207) rfl), by decide +kernel, tb1 (List.mem_of_getElem? (i := 2) rfl), by decide +kernel, by decide +kernel⟩
theorem vbX1_addTwo : px_vB mX1_addTwo := ⟨tb4 (List.mem_of_getElem? (i := 205) rfl), tb4 (List.mem_of_getElem? (i := 206) rfl)⟩
theorem kcX4_tellSegment_62 : px_cV mX4_tellSegment 62 mX1_addTwo 1 := ⟨⟨mbX1_addTwo, by decide, by decide⟩, Or.inl (tb4 (List.mem_of_getElem? (i := 204) rfl)), vbX1_addTwo⟩
set_option maxRecDepth 100000 in
set_option maxHeartbeats 4000000 in
theorem eX4_tellSegment {X : px_X} {w : px_W} {a0 : Nat} {a1 : Int32} {a2 : Int32} {q : px_W} (h : fX4_tellSegment X w a0 a1 a2 = some q) : EV X mX4_tellSegment 0 (lv_args 0 [.ref a0, .int a1, .int a2]) [] w none q := by
  unfold fX4_tellSegment at h
  show EV X mX4_tellSegment 0 [(0, .ref a0), (1, .int a1), (2, .int a2)] [] w none q
  refine EV.aload_n 0 dX4_tellSegment_0 rfl rfl ?_
  refine EV.iload_n 1 dX4_tellSegment_1 rfl rfl ?_
  obtain ⟨o6, go6, h⟩ := px_bs h
  obtain ⟨q7, gq7, h⟩ := px_bs h
  refine EV.callV (As := [.int a1]) (rest := []) dX4_tellSegment_2 kcX4_tellSegment_55 (gO_ok go6) rfl rfl rfl (Nat.le_of_ble_eq_true rfl) (Nat.le_of_ble_eq_true rfl) (eX4_tellMarker gq7) ?_
  refine EV.aload_n 0 dX4_tellSegment_5 rfl rfl ?_
  obtain ⟨v8, gv8, h⟩ := px_bs h
  refine ev_gR dX4_tellSegment_6 flRX4_24 gv8 ?_
  refine EV.iconst (2) dX4_tellSegment_9 (by decide) ?_
  refine EV.iload_n 2 dX4_tellSegment_10 rfl rfl ?_
  refine EV.iadd dX4_tellSegment_11 ?_
  obtain ⟨o9, go9, h⟩ := px_bs h
  obtain ⟨q10, gq10, h⟩ := px_bs h
  refine EV.callV (As := [.int (2 + a2)]) (rest := []) dX4_tellSegment_12 kcX4_tellSegment_62 (gO_ok go9) rfl rfl rfl (Nat.le_of_ble_eq_true rfl) (Nat.le_of_ble_eq_true rfl) (eX1_addTwo gq10) ?_
  cases h
  exact EV.ret0 dX4_tellSegment_15 trivial
/-! WavePictures$Saver.tellPicture(I)V -/
theorem dX4_tellPicture_0 : decode cX4_tellPicture 0 = .ok (.aload_n 0, 1) := by decide +kernel
theorem dX4_tellPicture_1 : decode cX4_tellPicture 1 = .ok (.sipush 219, 3) := by decide +kernel
theorem dX4_tellPicture_4 : decode cX4_tellPicture 4 = .ok (.bipush 65, 2) := by decide +kernel
theorem dX4_tellPicture_6 : decode cX4_tellPicture 6 = .ok (.aload_n 0, 1) := by decide +kernel
theorem dX4_tellPicture_7 : decode cX4_tellPicture 7 = .ok (.getfield 28, 3) := by decide +kernel
theorem dX4_tellPicture_10 : decode cX4_tellPicture 10 = .ok (.getfield 65, 3) := by decide +kernel
theorem dX4_tellPicture_13 : decode cX4_tellPicture 13 = .ok (.imul, 1) := by decide +kernel
theorem dX4_tellPicture_14 : decode cX4_tellPicture 14 = .ok (.invokevirtual 70, 3) := by decide +kernel
theorem dX4_tellPicture_17 : decode cX4_tellPicture 17 = .ok (.iconst 0, 1) := by decide +kernel
theorem dX4_tellPicture_18 : decode cX4_tellPicture 18 = .ok (.istore_n 2, 1) := by decide +kernel
theorem dX4_tellPicture_19 : decode cX4_tellPicture 19 = .ok (.iload_n 2, 1) := by decide +kernel
theorem dX4_tellPicture_20 : decode cX4_tellPicture 20 = .ok (.aload_n 0, 1) := by decide +kernel
theorem dX4_tellPicture_21 : decode cX4_tellPicture 21 = .ok (.getfield 28, 3) := by decide +kernel
theorem dX4_tellPicture_24 : decode cX4_tellPicture 24 = .ok (.getfield 65, 3) := by decide +kernel
theorem dX4_tellPicture_27 : decode cX4_tellPicture 27 = .ok (.if_icmp .ge 52, 3) := by decide +kernel
theorem dX4_tellPicture_30 : decode cX4_tellPicture 30 = .ok (.aload_n 0, 1) := by decide +kernel
theorem dX4_tellPicture_31 : decode cX4_tellPicture 31 = .ok (.getfield 24, 3) := by decide +kernel
theorem dX4_tellPicture_34 : decode cX4_tellPicture 34 = .ok (.iload_n 2, 1) := by decide +kernel
theorem dX4_tellPicture_35 : decode cX4_tellPicture 35 = .ok (.invokevirtual 59, 3) := by decide +kernel
theorem dX4_tellPicture_38 : decode cX4_tellPicture 38 = .ok (.iconst 0, 1) := by decide +kernel
theorem dX4_tellPicture_39 : decode cX4_tellPicture 39 = .ok (.istore_n 3, 1) := by decide +kernel
theorem dX4_tellPicture_40 : decode cX4_tellPicture 40 = .ok (.iload_n 3, 1) := by decide +kernel
theorem dX4_tellPicture_41 : decode cX4_tellPicture 41 = .ok (.bipush 64, 2) := by decide +kernel
theorem dX4_tellPicture_43 : decode cX4_tellPicture 43 = .ok (.if_icmp .ge 30, 3) := by decide +kernel
theorem dX4_tellPicture_46 : decode cX4_tellPicture 46 = .ok (.aload_n 0, 1) := by decide +kernel
theorem dX4_tellPicture_47 : decode cX4_tellPicture 47 = .ok (.getfield 24, 3) := by decide +kernel
theorem dX4_tellPicture_50 : decode cX4_tellPicture 50 = .ok (.aload_n 0, 1) := by decide +kernel
theorem dX4_tellPicture_51 : decode cX4_tellPicture 51 = .ok (.getfield 28, 3) := by decide +kernel
theorem dX4_tellPicture_54 : decode cX4_tellPicture 54 = .ok (.getfield 74, 3) := by decide +kernel
theorem dX4_tellPicture_57 : decode cX4_tellPicture 57 = .ok (.bipush 64, 2) := by decide +kernel
theorem dX4_tellPicture_59 : decode cX4_tellPicture 59 = .ok (.iload_n 2, 1) := by decide +kernel
theorem dX4_tellPicture_60 : decode cX4_tellPicture 60 = .ok (.imul, 1) := by decide +kernel
theorem dX4_tellPicture_61 : decode cX4_tellPicture 61 = .ok (.iload_n 3, 1) := by decide +kernel
theorem dX4_tellPicture_62 : decode cX4_tellPicture 62 = .ok (.iadd, 1) := by decide +kernel
theorem dX4_tellPicture_63 : decode cX4_tellPicture 63 = .ok (.iaload, 1) := by decide +kernel
theorem dX4_tellPicture_64 : decode cX4_tellPicture 64 = .ok (.invokevirtual 59, 3) := by decide +kernel
theorem dX4_tellPicture_67 : decode cX4_tellPicture 67 = .ok (.iinc 3 1, 3) := by decide +kernel
theorem dX4_tellPicture_70 : decode cX4_tellPicture 70 = .ok (.goto (-30), 3) := by decide +kernel
theorem dX4_tellPicture_73 : decode cX4_tellPicture 73 = .ok (.iinc 2 1, 3) := by decide +kernel
theorem dX4_tellPicture_76 : decode cX4_tellPicture 76 = .ok (.goto (-57), 3) := by decide +kernel
theorem dX4_tellPicture_79 : decode cX4_tellPicture 79 = .ok (.aload_n 0, 1) := by decide +kernel
theorem dX4_tellPicture_80 : decode cX4_tellPicture 80 = .ok (.iload_n 1, 1) := by decide +kernel
theorem dX4_tellPicture_81 : decode cX4_tellPicture 81 = .ok (.bipush 6, 2) := by decide +kernel
theorem dX4_tellPicture_83 : decode cX4_tellPicture 83 = .ok (.iconst 3, 1) := by decide +kernel
theorem dX4_tellPicture_84 : decode cX4_tellPicture 84 = .ok (.aload_n 0, 1) := by decide +kernel
theorem dX4_tellPicture_85 : decode cX4_tellPicture 85 = .ok (.getfield 28, 3) := by decide +kernel
theorem dX4_tellPicture_88 : decode cX4_tellPicture 88 = .ok (.getfield 65, 3) := by decide +kernel
theorem dX4_tellPicture_91 : decode cX4_tellPicture 91 = .ok (.imul, 1) := by decide +kernel
theorem dX4_tellPicture_92 : decode cX4_tellPicture 92 = .ok (.iadd, 1) := by decide +kernel
theorem dX4_tellPicture_93 : decode cX4_tellPicture 93 = .ok (.invokevirtual 70, 3) := by decide +kernel
theorem dX4_tellPicture_96 : decode cX4_tellPicture 96 = .ok (.aload_n 0, 1) := by decide +kernel
theorem dX4_tellPicture_97 : decode cX4_tellPicture 97 = .ok (.getfield 24, 3) := by decide +kernel
theorem dX4_tellPicture_100 : decode cX4_tellPicture 100 = .ok (.bipush 8, 2) := by decide +kernel
theorem dX4_tellPicture_102 : decode cX4_tellPicture 102 = .ok (.invokevirtual 59, 3) := by decide +kernel
theorem dX4_tellPicture_105 : decode cX4_tellPicture 105 = .ok (.aload_n 0, 1) := by decide +kernel
theorem dX4_tellPicture_106 : decode cX4_tellPicture 106 = .ok (.getfield 24, 3) := by decide +kernel
theorem dX4_tellPicture_109 : decode cX4_tellPicture 109 = .ok (.aload_n 0, 1) := by decide +kernel
theorem dX4_tellPicture_110 : decode cX4_tellPicture 110 = .ok (.getfield 28, 3) := by decide +kernel
theorem dX4_tellPicture_113 : decode cX4_tellPicture 113 = .ok (.getfield 78, 3) := by decide +kernel
theorem dX4_tellPicture_116 : decode cX4_tellPicture 116 = .ok (.invokevirtual 62, 3) := by decide +kernel
theorem dX4_tellPicture_119 : decode cX4_tellPicture 119 = .ok (.aload_n 0, 1) := by decide +kernel
theorem dX4_tellPicture_120 : decode cX4_tellPicture 120 = .ok (.getfield 24, 3) := by decide +kernel
theorem dX4_tellPicture_123 : decode cX4_tellPicture 123 = .ok (.aload_n 0, 1) := by decide +kernel
theorem dX4_tellPicture_124 : decode cX4_tellPicture 124 = .ok (.getfield 28, 3) := by decide +kernel
theorem dX4_tellPicture_127 : decode cX4_tellPicture 127 = .ok (.getfield 81, 3) := by decide +kernel
theorem dX4_tellPicture_130 : decode cX4_tellPicture 130 = .ok (.invokevirtual 62, 3) := by decide +kernel
theorem dX4_tellPicture_133 : decode cX4_tellPicture 133 = .ok (.aload_n 0, 1) := by decide +kernel
theorem dX4_tellPicture_134 : decode cX4_tellPicture 134 = .ok (.getfield 24, 3) := by decide +kernel
theorem dX4_tellPicture_137 : decode cX4_tellPicture 137 = .ok (.aload_n 0, 1) := by decide +kernel
theorem dX4_tellPicture_138 : decode cX4_tellPicture 138 = .ok (.getfield 28, 3) := by decide +kernel
theorem dX4_tellPicture_141 : decode cX4_tellPicture 141 = .ok (.getfield 65, 3) := by decide +kernel
theorem dX4_tellPicture_144 : decode cX4_tellPicture 144 = .ok (.invokevirtual 59, 3) := by decide +kernel
theorem dX4_tellPicture_147 : decode cX4_tellPicture 147 = .ok (.iconst 0, 1) := by decide +kernel
theorem dX4_tellPicture_148 : decode cX4_tellPicture 148 = .ok (.istore_n 2, 1) := by decide +kernel
theorem dX4_tellPicture_149 : decode cX4_tellPicture 149 = .ok (.iload_n 2, 1) := by decide +kernel
theorem dX4_tellPicture_150 : decode cX4_tellPicture 150 = .ok (.aload_n 0, 1) := by decide +kernel
theorem dX4_tellPicture_151 : decode cX4_tellPicture 151 = .ok (.getfield 28, 3) := by decide +kernel
theorem dX4_tellPicture_154 : decode cX4_tellPicture 154 = .ok (.getfield 65, 3) := by decide +kernel
theorem dX4_tellPicture_157 : decode cX4_tellPicture 157 = .ok (.if_icmp .ge 56, 3) := by decide +kernel
theorem dX4_tellPicture_160 : decode cX4_tellPicture 160 = .ok (.aload_n 0, 1) := by decide +kernel
theorem dX4_tellPicture_161 : decode cX4_tellPicture 161 = .ok (.getfield 24, 3) := by decide +kernel
theorem dX4_tellPicture_164 : decode cX4_tellPicture 164 = .ok (.iload_n 2, 1) := by decide +kernel
theorem dX4_tellPicture_165 : decode cX4_tellPicture 165 = .ok (.iconst 1, 1) := by decide +kernel
theorem dX4_tellPicture_166 : decode cX4_tellPicture 166 = .ok (.iadd, 1) := by decide +kernel
theorem dX4_tellPicture_167 : decode cX4_tellPicture 167 = .ok (.invokevirtual 59, 3) := by decide +kernel
theorem dX4_tellPicture_170 : decode cX4_tellPicture 170 = .ok (.aload_n 0, 1) := by decide +kernel
theorem dX4_tellPicture_171 : decode cX4_tellPicture 171 = .ok (.getfield 24, 3) := by decide +kernel
theorem dX4_tellPicture_174 : decode cX4_tellPicture 174 = .ok (.bipush 16, 2) := by decide +kernel
theorem dX4_tellPicture_176 : decode cX4_tellPicture 176 = .ok (.aload_n 0, 1) := by decide +kernel
theorem dX4_tellPicture_177 : decode cX4_tellPicture 177 = .ok (.getfield 28, 3) := by decide +kernel
theorem dX4_tellPicture_180 : decode cX4_tellPicture 180 = .ok (.getfield 84, 3) := by decide +kernel
theorem dX4_tellPicture_183 : decode cX4_tellPicture 183 = .ok (.iload_n 2, 1) := by decide +kernel
theorem dX4_tellPicture_184 : decode cX4_tellPicture 184 = .ok (.iaload, 1) := by decide +kernel
theorem dX4_tellPicture_185 : decode cX4_tellPicture 185 = .ok (.imul, 1) := by decide +kernel
theorem dX4_tellPicture_186 : decode cX4_tellPicture 186 = .ok (.aload_n 0, 1) := by decide +kernel
theorem dX4_tellPicture_187 : decode cX4_tellPicture 187 = .ok (.getfield 28, 3) := by decide +kernel
theorem dX4_tellPicture_190 : decode cX4_tellPicture 190 = .ok (.getfield 87, 3) := by decide +kernel
theorem dX4_tellPicture_193 : decode cX4_tellPicture 193 = .ok (.iload_n 2, 1) := by decide +kernel
theorem dX4_tellPicture_194 : decode cX4_tellPicture 194 = .ok (.iaload, 1) := by decide +kernel
theorem dX4_tellPicture_195 : decode cX4_tellPicture 195 = .ok (.iadd, 1) := by decide +kernel
theorem dX4_tellPicture_196 : decode cX4_tellPicture 196 = .ok (.invokevirtual 59, 3) := by decide +kernel
theorem dX4_tellPicture_199 : decode cX4_tellPicture 199 = .ok (.aload_n 0, 1) := by decide +kernel
theorem dX4_tellPicture_200 : decode cX4_tellPicture 200 = .ok (.getfield 24, 3) := by decide +kernel
theorem dX4_tellPicture_203 : decode cX4_tellPicture 203 = .ok (.iload_n 2, 1) := by decide +kernel
theorem dX4_tellPicture_204 : decode cX4_tellPicture 204 = .ok (.invokevirtual 59, 3) := by decide +kernel
theorem dX4_tellPicture_207 : decode cX4_tellPicture 207 = .ok (.iinc 2 1, 3) := by decide +kernel
theorem dX4_tellPicture_210 : decode cX4_tellPicture 210 = .ok (.goto (-61), 3) := by decide +kernel
theorem dX4_tellPicture_213 : decode cX4_tellPicture 213 = .ok (.aload_n 0, 1) := by decide +kernel
theorem dX4_tellPicture_214 : decode cX4_tellPicture 214 = .ok (.getfield 42, 3) := by decide +kernel
theorem dX4_tellPicture_217 : decode cX4_tellPicture 217 = .ok (.ifCond .le 22, 3) := by decide +kernel
theorem dX4_tellPicture_220 : decode cX4_tellPicture 220 = .ok (.aload_n 0, 1) := by decide +kernel
theorem dX4_tellPicture_221 : decode cX4_tellPicture 221 = .ok (.sipush 221, 3) := by decide +kernel
theorem dX4_tellPicture_224 : decode cX4_tellPicture 224 = .ok (.iconst 2, 1) := by decide +kernel
theorem dX4_tellPicture_225 : decode cX4_tellPicture 225 = .ok (.invokevirtual 70, 3) := by decide +kernel
theorem dX4_tellPicture_228 : decode cX4_tellPicture 228 = .ok (.aload_n 0, 1) := by decide +kernel
theorem dX4_tellPicture_229 : decode cX4_tellPicture 229 = .ok (.getfield 24, 3) := by decide +kernel
theorem dX4_tellPicture_232 : decode cX4_tellPicture 232 = .ok (.aload_n 0, 1) := by decide +kernel
theorem dX4_tellPicture_233 : decode cX4_tellPicture 233 = .ok (.getfield 42, 3) := by decide +kernel
theorem dX4_tellPicture_236 : decode cX4_tellPicture 236 = .ok (.invokevirtual 62, 3) := by decide +kernel
theorem dX4_tellPicture_239 : decode cX4_tellPicture 239 = .ok (.return_, 1) := by decide +kernel
theorem flRX4_65 : px_f RX4 65 2 2 := ⟨_, rfl, by decide, Or.inl (tb1 (List.mem_of_getElem? (i := 66) rfl))⟩
theorem flRX4_74 : px_f RX4 74 2 12 := ⟨_, rfl, by decide, Or.inl (tb1 (List.mem_of_getElem? (i := 98) rfl))⟩
theorem flRX4_78 : px_f RX4 78 2 1 := ⟨_, rfl, by decide, Or.inl (tb1 (List.mem_of_getElem? (i := 61) rfl))⟩
theorem flRX4_81 : px_f RX4 81 2 0 := ⟨_, rfl, by decide, Or.inl (tb1 (List.mem_of_getElem? (i := 57) rfl))⟩
theorem flRX4_84 : px_f RX4 84 2 6 := ⟨_, rfl, by decide, Or.inl (tb1 (List.mem_of_getElem? (i := 76) rfl))⟩
theorem flRX4_87 : px_f RX4 87 2 7 := ⟨_, rfl, by decide, Or.inl (tb1 (List.mem_of_getElem? (i := 81) rfl))⟩
theorem kcX4_tellPicture_59 : px_cV mX4_tellPicture 59 mX1_add 1 := ⟨⟨mbX1_add, by decide, by decide⟩, Or.inl (tb4 (List.mem_of_getElem? (i := 195) rfl)), vbX1_add⟩
theorem kcX4_tellPicture_62 : px_cV mX4_tellPicture 62 mX1_addTwo 1 := ⟨⟨mbX1_addTwo, by decide, by decide⟩, Or.inl (tb4 (List.mem_of_getElem? (i := 204) rfl)), vbX1_addTwo⟩
theorem mbX4_tellSegment : px_mB mX4_tellSegment 2 := ⟨tb4 (List.mem_of_getElem? (i := 203) rfl), by decide +kernel, tb1 (List.mem_of_getElem? (i := 10) rfl), by decide +kernel, by decide +kernel⟩
theorem vbX4_tellSegment : px_vB mX4_tellSegment := ⟨tb4 (List.mem_of_getElem? (i := 202) rfl), List.mem_append_left _ (List.mem_of_getElem? (i := 48) (by decide +kernel))⟩
theorem kcX4_tellPicture_70 : px_cV mX4_tellPicture 70 mX4_tellSegment 2 := ⟨⟨mbX4_tellSegment, by decide, by decide⟩, Or.inl (tb4 (List.mem_of_getElem? (i := 200) rfl)), vbX4_tellSegment⟩
set_option maxRecDepth 100000 in
set_option maxHeartbeats 4000000 in
theorem eX4_tellPicture_73 {X : px_X} {k19 : Nat → Int32 → Int32 → px_W → Option (px_W)} (hk19 : ∀ (a0 : Nat) (a1 : Int32) (a2 : Int32) (w : px_W) (q : px_W), k19 a0 a1 a2 w = some q → EV X mX4_tellPicture 19 [(0, .ref a0), (1, .int a1), (2, .int a2)] [] w none q) : ∀ (a0 : Nat) (a1 : Int32) (a2 : Int32) (w : px_W) (q : px_W), fX4_tellPicture_73 X k19 a0 a1 a2 w = some q → EV X mX4_tellPicture 73 [(0, .ref a0), (1, .int a1), (2, .int a2)] [] w none q := by
  intro a0 a1 a2 w q h
  unfold fX4_tellPicture_73 at h
  refine EV.iinc 2 (a2 + 1) [(2, .int (a2 + 1)), (0, .ref a0), (1, .int a1)] dX4_tellPicture_73 rfl rfl (by decide) rfl ?_
  refine EV.goto 19 dX4_tellPicture_76 (by decide) ?_
  refine EV.sub [1, 2, 0] rfl ?_
  exact hk19 _ _ _ _ _ h
set_option maxRecDepth 100000 in
set_option maxHeartbeats 4000000 in
theorem eX4_tellPicture_40 {X : px_X} {k19 : Nat → Int32 → Int32 → px_W → Option (px_W)} (hk19 : ∀ (a0 : Nat) (a1 : Int32) (a2 : Int32) (w : px_W) (q : px_W), k19 a0 a1 a2 w = some q → EV X mX4_tellPicture 19 [(0, .ref a0), (1, .int a1), (2, .int a2)] [] w none q) : ∀ (m : Nat) (a0 : Nat) (a1 : Int32) (a2 : Int32) (a3 : Int32) (w : px_W) (q : px_W), fX4_tellPicture_40 X k19 m a0 a1 a2 a3 w = some q → EV X mX4_tellPicture 40 [(0, .ref a0), (1, .int a1), (2, .int a2), (3, .int a3)] [] w none q := by
  intro m
  induction m with
  | zero => intro a0 a1 a2 a3 w q h; cases h
  | succ m ih =>
    intro a0 a1 a2 a3 w q h
    rw [fX4_tellPicture_40.eq_2] at h
    refine EV.iload_n 3 dX4_tellPicture_40 rfl rfl ?_
    refine EV.bipush (64) dX4_tellPicture_41 (by decide) ?_
    refine EV.icmp_ge 73 dX4_tellPicture_43 (by decide) (fun c62 => ?_) (fun c62 => ?_)
    · rw [if_pos c62] at h
      refine EV.sub [0, 1, 2] rfl ?_
      exact eX4_tellPicture_73 hk19 _ _ _ _ _ h
    · rw [if_neg c62] at h
      refine EV.aload_n 0 dX4_tellPicture_46 rfl rfl ?_
      obtain ⟨v63, gv63, h⟩ := px_bs h
      refine ev_gR dX4_tellPicture_47 flRX4_24 gv63 ?_
      refine EV.aload_n 0 dX4_tellPicture_50 rfl rfl ?_
      obtain ⟨v64, gv64, h⟩ := px_bs h
      refine ev_gR dX4_tellPicture_51 flRX4_28 gv64 ?_
      obtain ⟨v65, gv65, h⟩ := px_bs h
      refine ev_gR dX4_tellPicture_54 flRX4_74 gv65 ?_
      refine EV.bipush (64) dX4_tellPicture_57 (by decide) ?_
      refine EV.iload_n 2 dX4_tellPicture_59 rfl rfl ?_
      refine EV.imul dX4_tellPicture_60 ?_
      refine EV.iload_n 3 dX4_tellPicture_61 rfl rfl ?_
      refine EV.iadd dX4_tellPicture_62 ?_
      obtain ⟨v66, gv66, h⟩ := px_bs h
      refine ev_aI dX4_tellPicture_63 gv66 ?_
      obtain ⟨o67, go67, h⟩ := px_bs h
      obtain ⟨q68, gq68, h⟩ := px_bs h
      refine EV.callV (As := [.int v66]) (rest := []) dX4_tellPicture_64 kcX4_tellPicture_59 (gO_ok go67) rfl rfl rfl (Nat.le_of_ble_eq_true rfl) (Nat.le_of_ble_eq_true rfl) (eX1_add gq68) ?_
      refine EV.iinc 3 (a3 + 1) [(3, .int (a3 + 1)), (0, .ref a0), (1, .int a1), (2, .int a2)] dX4_tellPicture_67 rfl rfl (by decide) rfl ?_
      refine EV.goto 40 dX4_tellPicture_70 (by decide) ?_
      refine EV.sub [1, 2, 3, 0] rfl ?_
      exact ih _ _ _ _ _ _ h
set_option maxRecDepth 100000 in
set_option maxHeartbeats 4000000 in
theorem eX4_tellPicture_213 {X : px_X}  : ∀ (a0 : Nat) (w : px_W) (q : px_W), fX4_tellPicture_213 X  a0 w = some q → EV X mX4_tellPicture 213 [(0, .ref a0)] [] w none q := by
  intro a0 w q h
  unfold fX4_tellPicture_213 at h
  refine EV.aload_n 0 dX4_tellPicture_213 rfl rfl ?_
  obtain ⟨v69, gv69, h⟩ := px_bs h
  refine ev_gI dX4_tellPicture_214 flRX4_42 gv69 ?_
  refine EV.if_le 239 dX4_tellPicture_217 (by decide) (fun c70 => ?_) (fun c70 => ?_)
  · rw [if_pos c70] at h
    cases h
    exact EV.ret0 dX4_tellPicture_239 trivial
  · rw [if_neg c70] at h
    refine EV.aload_n 0 dX4_tellPicture_220 rfl rfl ?_
    refine EV.sipush (221) dX4_tellPicture_221 (by decide) ?_
    refine EV.iconst (2) dX4_tellPicture_224 (by decide) ?_
    obtain ⟨o71, go71, h⟩ := px_bs h
    obtain ⟨q72, gq72, h⟩ := px_bs h
    refine EV.callV (As := [.int 221, .int 2]) (rest := []) dX4_tellPicture_225 kcX4_tellPicture_70 (gO_ok go71) rfl rfl rfl (Nat.le_of_ble_eq_true rfl) (Nat.le_of_ble_eq_true rfl) (eX4_tellSegment gq72) ?_
    refine EV.aload_n 0 dX4_tellPicture_228 rfl rfl ?_
    obtain ⟨v73, gv73, h⟩ := px_bs h
    refine ev_gR dX4_tellPicture_229 flRX4_24 gv73 ?_
    refine EV.aload_n 0 dX4_tellPicture_232 rfl rfl ?_
    obtain ⟨v74, gv74, h⟩ := px_bs h
    refine ev_gI dX4_tellPicture_233 flRX4_42 gv74 ?_
    obtain ⟨o75, go75, h⟩ := px_bs h
    obtain ⟨q76, gq76, h⟩ := px_bs h
    refine EV.callV (As := [.int v74]) (rest := []) dX4_tellPicture_236 kcX4_tellPicture_62 (gO_ok go75) rfl rfl rfl (Nat.le_of_ble_eq_true rfl) (Nat.le_of_ble_eq_true rfl) (eX1_addTwo gq76) ?_
    cases h
    exact EV.ret0 dX4_tellPicture_239 trivial
set_option maxRecDepth 100000 in
set_option maxHeartbeats 4000000 in
theorem eX4_tellPicture_149 {X : px_X}  : ∀ (m : Nat) (a0 : Nat) (a2 : Int32) (w : px_W) (q : px_W), fX4_tellPicture_149 X  m a0 a2 w = some q → EV X mX4_tellPicture 149 [(0, .ref a0), (2, .int a2)] [] w none q := by
  intro m
  induction m with
  | zero => intro a0 a2 w q h; cases h
  | succ m ih =>
    intro a0 a2 w q h
    rw [fX4_tellPicture_149.eq_2] at h
    refine EV.iload_n 1 dX4_tellPicture_149 rfl rfl ?_
    refine EV.aload_n 0 dX4_tellPicture_150 rfl rfl ?_
    obtain ⟨v77, gv77, h⟩ := px_bs h
    refine ev_gR dX4_tellPicture_151 flRX4_28 gv77 ?_
    obtain ⟨v78, gv78, h⟩ := px_bs h
    refine ev_gI dX4_tellPicture_154 flRX4_65 gv78 ?_
    refine EV.icmp_ge 213 dX4_tellPicture_157 (by decide) (fun c79 => ?_) (fun c79 => ?_)
    · rw [if_pos c79] at h
      refine EV.sub [0] rfl ?_
      exact eX4_tellPicture_213  _ _ _ h
    · rw [if_neg c79] at h
      refine EV.aload_n 0 dX4_tellPicture_160 rfl rfl ?_
      obtain ⟨v80, gv80, h⟩ := px_bs h
      refine ev_gR dX4_tellPicture_161 flRX4_24 gv80 ?_
      refine EV.iload_n 1 dX4_tellPicture_164 rfl rfl ?_
      refine EV.iconst (1) dX4_tellPicture_165 (by decide) ?_
      refine EV.iadd dX4_tellPicture_166 ?_
      obtain ⟨o81, go81, h⟩ := px_bs h
      obtain ⟨q82, gq82, h⟩ := px_bs h
      refine EV.callV (As := [.int (a2 + 1)]) (rest := []) dX4_tellPicture_167 kcX4_tellPicture_59 (gO_ok go81) rfl rfl rfl (Nat.le_of_ble_eq_true rfl) (Nat.le_of_ble_eq_true rfl) (eX1_add gq82) ?_
      refine EV.aload_n 0 dX4_tellPicture_170 rfl rfl ?_
      obtain ⟨v83, gv83, h⟩ := px_bs h
      refine ev_gR dX4_tellPicture_171 flRX4_24 gv83 ?_
      refine EV.bipush (16) dX4_tellPicture_174 (by decide) ?_
      refine EV.aload_n 0 dX4_tellPicture_176 rfl rfl ?_
      obtain ⟨v84, gv84, h⟩ := px_bs h
      refine ev_gR dX4_tellPicture_177 flRX4_28 gv84 ?_
      obtain ⟨v85, gv85, h⟩ := px_bs h
      refine ev_gR dX4_tellPicture_180 flRX4_84 gv85 ?_
      refine EV.iload_n 1 dX4_tellPicture_183 rfl rfl ?_
      obtain ⟨v86, gv86, h⟩ := px_bs h
      refine ev_aI dX4_tellPicture_184 gv86 ?_
      refine EV.imul dX4_tellPicture_185 ?_
      refine EV.aload_n 0 dX4_tellPicture_186 rfl rfl ?_
      obtain ⟨v87, gv87, h⟩ := px_bs h
      refine ev_gR dX4_tellPicture_187 flRX4_28 gv87 ?_
      obtain ⟨v88, gv88, h⟩ := px_bs h
      refine ev_gR dX4_tellPicture_190 flRX4_87 gv88 ?_
      refine EV.iload_n 1 dX4_tellPicture_193 rfl rfl ?_
      obtain ⟨v89, gv89, h⟩ := px_bs h
      refine ev_aI dX4_tellPicture_194 gv89 ?_
      refine EV.iadd dX4_tellPicture_195 ?_
      obtain ⟨o90, go90, h⟩ := px_bs h
      obtain ⟨q91, gq91, h⟩ := px_bs h
      refine EV.callV (As := [.int ((16 * v86) + v89)]) (rest := []) dX4_tellPicture_196 kcX4_tellPicture_59 (gO_ok go90) rfl rfl rfl (Nat.le_of_ble_eq_true rfl) (Nat.le_of_ble_eq_true rfl) (eX1_add gq91) ?_
      refine EV.aload_n 0 dX4_tellPicture_199 rfl rfl ?_
      obtain ⟨v92, gv92, h⟩ := px_bs h
      refine ev_gR dX4_tellPicture_200 flRX4_24 gv92 ?_
      refine EV.iload_n 1 dX4_tellPicture_203 rfl rfl ?_
      obtain ⟨o93, go93, h⟩ := px_bs h
      obtain ⟨q94, gq94, h⟩ := px_bs h
      refine EV.callV (As := [.int a2]) (rest := []) dX4_tellPicture_204 kcX4_tellPicture_59 (gO_ok go93) rfl rfl rfl (Nat.le_of_ble_eq_true rfl) (Nat.le_of_ble_eq_true rfl) (eX1_add gq94) ?_
      refine EV.iinc 1 (a2 + 1) [(2, .int (a2 + 1)), (0, .ref a0)] dX4_tellPicture_207 rfl rfl (by decide) rfl ?_
      refine EV.goto 149 dX4_tellPicture_210 (by decide) ?_
      refine EV.sub [1, 0] rfl ?_
      exact ih _ _ _ _ h
set_option maxRecDepth 100000 in
set_option maxHeartbeats 4000000 in
theorem eX4_tellPicture_79 {X : px_X}  : ∀ (a0 : Nat) (a1 : Int32) (w : px_W) (q : px_W), fX4_tellPicture_79 X  a0 a1 w = some q → EV X mX4_tellPicture 79 [(0, .ref a0), (1, .int a1)] [] w none q := by
  intro a0 a1 w q h
  unfold fX4_tellPicture_79 at h
  refine EV.aload_n 0 dX4_tellPicture_79 rfl rfl ?_
  refine EV.iload_n 1 dX4_tellPicture_80 rfl rfl ?_
  refine EV.bipush (6) dX4_tellPicture_81 (by decide) ?_
  refine EV.iconst (3) dX4_tellPicture_83 (by decide) ?_
  refine EV.aload_n 0 dX4_tellPicture_84 rfl rfl ?_
  obtain ⟨v95, gv95, h⟩ := px_bs h
  refine ev_gR dX4_tellPicture_85 flRX4_28 gv95 ?_
  obtain ⟨v96, gv96, h⟩ := px_bs h
  refine ev_gI dX4_tellPicture_88 flRX4_65 gv96 ?_
  refine EV.imul dX4_tellPicture_91 ?_
  refine EV.iadd dX4_tellPicture_92 ?_
  obtain ⟨o97, go97, h⟩ := px_bs h
  obtain ⟨q98, gq98, h⟩ := px_bs h
  refine EV.callV (As := [.int a1, .int (6 + (3 * v96))]) (rest := []) dX4_tellPicture_93 kcX4_tellPicture_70 (gO_ok go97) rfl rfl rfl (Nat.le_of_ble_eq_true rfl) (Nat.le_of_ble_eq_true rfl) (eX4_tellSegment gq98) ?_
  refine EV.aload_n 0 dX4_tellPicture_96 rfl rfl ?_
  obtain ⟨v99, gv99, h⟩ := px_bs h
  refine ev_gR dX4_tellPicture_97 flRX4_24 gv99 ?_
  refine EV.bipush (8) dX4_tellPicture_100 (by decide) ?_
  obtain ⟨o100, go100, h⟩ := px_bs h
  obtain ⟨q101, gq101, h⟩ := px_bs h
  refine EV.callV (As := [.int 8]) (rest := []) dX4_tellPicture_102 kcX4_tellPicture_59 (gO_ok go100) rfl rfl rfl (Nat.le_of_ble_eq_true rfl) (Nat.le_of_ble_eq_true rfl) (eX1_add gq101) ?_
  refine EV.aload_n 0 dX4_tellPicture_105 rfl rfl ?_
  obtain ⟨v102, gv102, h⟩ := px_bs h
  refine ev_gR dX4_tellPicture_106 flRX4_24 gv102 ?_
  refine EV.aload_n 0 dX4_tellPicture_109 rfl rfl ?_
  obtain ⟨v103, gv103, h⟩ := px_bs h
  refine ev_gR dX4_tellPicture_110 flRX4_28 gv103 ?_
  obtain ⟨v104, gv104, h⟩ := px_bs h
  refine ev_gI dX4_tellPicture_113 flRX4_78 gv104 ?_
  obtain ⟨o105, go105, h⟩ := px_bs h
  obtain ⟨q106, gq106, h⟩ := px_bs h
  refine EV.callV (As := [.int v104]) (rest := []) dX4_tellPicture_116 kcX4_tellPicture_62 (gO_ok go105) rfl rfl rfl (Nat.le_of_ble_eq_true rfl) (Nat.le_of_ble_eq_true rfl) (eX1_addTwo gq106) ?_
  refine EV.aload_n 0 dX4_tellPicture_119 rfl rfl ?_
  obtain ⟨v107, gv107, h⟩ := px_bs h
  refine ev_gR dX4_tellPicture_120 flRX4_24 gv107 ?_
  refine EV.aload_n 0 dX4_tellPicture_123 rfl rfl ?_
  obtain ⟨v108, gv108, h⟩ := px_bs h
  refine ev_gR dX4_tellPicture_124 flRX4_28 gv108 ?_
  obtain ⟨v109, gv109, h⟩ := px_bs h
  refine ev_gI dX4_tellPicture_127 flRX4_81 gv109 ?_
  obtain ⟨o110, go110, h⟩ := px_bs h
  obtain ⟨q111, gq111, h⟩ := px_bs h
  refine EV.callV (As := [.int v109]) (rest := []) dX4_tellPicture_130 kcX4_tellPicture_62 (gO_ok go110) rfl rfl rfl (Nat.le_of_ble_eq_true rfl) (Nat.le_of_ble_eq_true rfl) (eX1_addTwo gq111) ?_
  refine EV.aload_n 0 dX4_tellPicture_133 rfl rfl ?_
  obtain ⟨v112, gv112, h⟩ := px_bs h
  refine ev_gR dX4_tellPicture_134 flRX4_24 gv112 ?_
  refine EV.aload_n 0 dX4_tellPicture_137 rfl rfl ?_
  obtain ⟨v113, gv113, h⟩ := px_bs h
  refine ev_gR dX4_tellPicture_138 flRX4_28 gv113 ?_
  obtain ⟨v114, gv114, h⟩ := px_bs h
  refine ev_gI dX4_tellPicture_141 flRX4_65 gv114 ?_
  obtain ⟨o115, go115, h⟩ := px_bs h
  obtain ⟨q116, gq116, h⟩ := px_bs h
  refine EV.callV (As := [.int v114]) (rest := []) dX4_tellPicture_144 kcX4_tellPicture_59 (gO_ok go115) rfl rfl rfl (Nat.le_of_ble_eq_true rfl) (Nat.le_of_ble_eq_true rfl) (eX1_add gq116) ?_
  refine EV.iconst (0) dX4_tellPicture_147 (by decide) ?_
  refine EV.istore_n [(2, .int 0), (0, .ref a0), (1, .int a1)] dX4_tellPicture_148 rfl (by decide) rfl ?_
  refine EV.sub [1, 0] rfl ?_
  exact eX4_tellPicture_149  FU _ _ _ _ h
set_option maxRecDepth 100000 in
set_option maxHeartbeats 4000000 in
theorem eX4_tellPicture_19 {X : px_X}  : ∀ (m : Nat) (a0 : Nat) (a1 : Int32) (a2 : Int32) (w : px_W) (q : px_W), fX4_tellPicture_19 X  m a0 a1 a2 w = some q → EV X mX4_tellPicture 19 [(0, .ref a0), (1, .int a1), (2, .int a2)] [] w none q := by
  intro m
  induction m with
  | zero => intro a0 a1 a2 w q h; cases h
  | succ m ih =>
    intro a0 a1 a2 w q h
    rw [fX4_tellPicture_19.eq_2] at h
    refine EV.iload_n 2 dX4_tellPicture_19 rfl rfl ?_
    refine EV.aload_n 0 dX4_tellPicture_20 rfl rfl ?_
    obtain ⟨v117, gv117, h⟩ := px_bs h
    refine ev_gR dX4_tellPicture_21 flRX4_28 gv117 ?_
    obtain ⟨v118, gv118, h⟩ := px_bs h
    refine ev_gI dX4_tellPicture_24 flRX4_65 gv118 ?_
    refine EV.icmp_ge 79 dX4_tellPicture_27 (by decide) (fun c119 => ?_) (fun c119 => ?_)
    · rw [if_pos c119] at h
      refine EV.sub [0, 1] rfl ?_
      exact eX4_tellPicture_79  _ _ _ _ h
    · rw [if_neg c119] at h
      refine EV.aload_n 0 dX4_tellPicture_30 rfl rfl ?_
      obtain ⟨v120, gv120, h⟩ := px_bs h
      refine ev_gR dX4_tellPicture_31 flRX4_24 gv120 ?_
      refine EV.iload_n 2 dX4_tellPicture_34 rfl rfl ?_
      obtain ⟨o121, go121, h⟩ := px_bs h
      obtain ⟨q122, gq122, h⟩ := px_bs h
      refine EV.callV (As := [.int a2]) (rest := []) dX4_tellPicture_35 kcX4_tellPicture_59 (gO_ok go121) rfl rfl rfl (Nat.le_of_ble_eq_true rfl) (Nat.le_of_ble_eq_true rfl) (eX1_add gq122) ?_
      refine EV.iconst (0) dX4_tellPicture_38 (by decide) ?_
      refine EV.istore_n [(3, .int 0), (0, .ref a0), (1, .int a1), (2, .int a2)] dX4_tellPicture_39 rfl (by decide) rfl ?_
      refine EV.sub [1, 2, 3, 0] rfl ?_
      exact eX4_tellPicture_40 ih FU _ _ _ _ _ _ h
set_option maxRecDepth 100000 in
set_option maxHeartbeats 4000000 in
theorem eX4_tellPicture {X : px_X} {w : px_W} {a0 : Nat} {a1 : Int32} {q : px_W} (h : fX4_tellPicture X w a0 a1 = some q) : EV X mX4_tellPicture 0 (lv_args 0 [.ref a0, .int a1]) [] w none q := by
  unfold fX4_tellPicture at h
  show EV X mX4_tellPicture 0 [(0, .ref a0), (1, .int a1)] [] w none q
  refine EV.aload_n 0 dX4_tellPicture_0 rfl rfl ?_
  refine EV.sipush (219) dX4_tellPicture_1 (by decide) ?_
  refine EV.bipush (65) dX4_tellPicture_4 (by decide) ?_
  refine EV.aload_n 0 dX4_tellPicture_6 rfl rfl ?_
  obtain ⟨v123, gv123, h⟩ := px_bs h
  refine ev_gR dX4_tellPicture_7 flRX4_28 gv123 ?_
  obtain ⟨v124, gv124, h⟩ := px_bs h
  refine ev_gI dX4_tellPicture_10 flRX4_65 gv124 ?_
  refine EV.imul dX4_tellPicture_13 ?_
  obtain ⟨o125, go125, h⟩ := px_bs h
  obtain ⟨q126, gq126, h⟩ := px_bs h
  refine EV.callV (As := [.int 219, .int (65 * v124)]) (rest := []) dX4_tellPicture_14 kcX4_tellPicture_70 (gO_ok go125) rfl rfl rfl (Nat.le_of_ble_eq_true rfl) (Nat.le_of_ble_eq_true rfl) (eX4_tellSegment gq126) ?_
  refine EV.iconst (0) dX4_tellPicture_17 (by decide) ?_
  refine EV.istore_n [(2, .int 0), (0, .ref a0), (1, .int a1)] dX4_tellPicture_18 rfl (by decide) rfl ?_
  refine EV.sub [1, 2, 0] rfl ?_
  exact eX4_tellPicture_19  FU _ _ _ _ _ h
/-! WavePictures$Saver.setBand(IIII)V -/
theorem dX4_setBand_0 : decode cX4_setBand 0 = .ok (.aload_n 0, 1) := by decide +kernel
theorem dX4_setBand_1 : decode cX4_setBand 1 = .ok (.getfield 12, 3) := by decide +kernel
theorem dX4_setBand_4 : decode cX4_setBand 4 = .ok (.iload_n 1, 1) := by decide +kernel
theorem dX4_setBand_5 : decode cX4_setBand 5 = .ok (.putfield 90, 3) := by decide +kernel
theorem dX4_setBand_8 : decode cX4_setBand 8 = .ok (.aload_n 0, 1) := by decide +kernel
theorem dX4_setBand_9 : decode cX4_setBand 9 = .ok (.getfield 12, 3) := by decide +kernel
theorem dX4_setBand_12 : decode cX4_setBand 12 = .ok (.iload_n 2, 1) := by decide +kernel
theorem dX4_setBand_13 : decode cX4_setBand 13 = .ok (.putfield 93, 3) := by decide +kernel
theorem dX4_setBand_16 : decode cX4_setBand 16 = .ok (.aload_n 0, 1) := by decide +kernel
theorem dX4_setBand_17 : decode cX4_setBand 17 = .ok (.getfield 12, 3) := by decide +kernel
theorem dX4_setBand_20 : decode cX4_setBand 20 = .ok (.iload_n 3, 1) := by decide +kernel
theorem dX4_setBand_21 : decode cX4_setBand 21 = .ok (.putfield 96, 3) := by decide +kernel
theorem dX4_setBand_24 : decode cX4_setBand 24 = .ok (.aload_n 0, 1) := by decide +kernel
theorem dX4_setBand_25 : decode cX4_setBand 25 = .ok (.getfield 12, 3) := by decide +kernel
theorem dX4_setBand_28 : decode cX4_setBand 28 = .ok (.iload 4, 2) := by decide +kernel
theorem dX4_setBand_30 : decode cX4_setBand 30 = .ok (.putfield 99, 3) := by decide +kernel
theorem dX4_setBand_33 : decode cX4_setBand 33 = .ok (.return_, 1) := by decide +kernel
theorem flRX4_90 : px_f RX4 90 5 1 := ⟨_, rfl, by decide, Or.inl (tb1 (List.mem_of_getElem? (i := 190) rfl))⟩
theorem flRX4_93 : px_f RX4 93 5 2 := ⟨_, rfl, by decide, Or.inl (tb1 (List.mem_of_getElem? (i := 195) rfl))⟩
theorem flRX4_96 : px_f RX4 96 5 3 := ⟨_, rfl, by decide, Or.inl (tb1 (List.mem_of_getElem? (i := 198) rfl))⟩
theorem flRX4_99 : px_f RX4 99 5 4 := ⟨_, rfl, by decide, Or.inl (tb1 (List.mem_of_getElem? (i := 200) rfl))⟩
set_option maxRecDepth 100000 in
set_option maxHeartbeats 4000000 in
theorem eX4_setBand {X : px_X} {w : px_W} {a0 : Nat} {a1 : Int32} {a2 : Int32} {a3 : Int32} {a4 : Int32} {q : px_W} (h : fX4_setBand X w a0 a1 a2 a3 a4 = some q) : EV X mX4_setBand 0 (lv_args 0 [.ref a0, .int a1, .int a2, .int a3, .int a4]) [] w none q := by
  unfold fX4_setBand at h
  show EV X mX4_setBand 0 [(0, .ref a0), (1, .int a1), (2, .int a2), (3, .int a3), (4, .int a4)] [] w none q
  refine EV.aload_n 0 dX4_setBand_0 rfl rfl ?_
  obtain ⟨v9, gv9, h⟩ := px_bs h
  refine ev_gR dX4_setBand_1 flRX4_12 gv9 ?_
  refine EV.iload_n 1 dX4_setBand_4 rfl rfl ?_
  obtain ⟨w10, gw10, h⟩ := px_bs h
  refine ev_pV dX4_setBand_5 flRX4_90 rfl rfl rfl rfl gw10 ?_
  refine EV.aload_n 0 dX4_setBand_8 rfl rfl ?_
  obtain ⟨v11, gv11, h⟩ := px_bs h
  refine ev_gR dX4_setBand_9 flRX4_12 gv11 ?_
  refine EV.iload_n 2 dX4_setBand_12 rfl rfl ?_
  obtain ⟨w12, gw12, h⟩ := px_bs h
  refine ev_pV dX4_setBand_13 flRX4_93 rfl rfl rfl rfl gw12 ?_
  refine EV.aload_n 0 dX4_setBand_16 rfl rfl ?_
  obtain ⟨v13, gv13, h⟩ := px_bs h
  refine ev_gR dX4_setBand_17 flRX4_12 gv13 ?_
  refine EV.iload_n 3 dX4_setBand_20 rfl rfl ?_
  obtain ⟨w14, gw14, h⟩ := px_bs h
  refine ev_pV dX4_setBand_21 flRX4_96 rfl rfl rfl rfl gw14 ?_
  refine EV.aload_n 0 dX4_setBand_24 rfl rfl ?_
  obtain ⟨v15, gv15, h⟩ := px_bs h
  refine ev_gR dX4_setBand_25 flRX4_12 gv15 ?_
  refine EV.iload 4 dX4_setBand_28 rfl ?_
  obtain ⟨w16, gw16, h⟩ := px_bs h
  refine ev_pV dX4_setBand_30 flRX4_99 rfl rfl rfl rfl gw16 ?_
  cases h
  exact EV.ret0 dX4_setBand_33 trivial
/-! WavePictures$Saver.canBeTogether()Z -/
theorem dX4_canBeTogether_0 : decode cX4_canBeTogether 0 = .ok (.iconst 0, 1) := by decide +kernel
theorem dX4_canBeTogether_1 : decode cX4_canBeTogether 1 = .ok (.istore_n 1, 1) := by decide +kernel
theorem dX4_canBeTogether_2 : decode cX4_canBeTogether 2 = .ok (.iconst 0, 1) := by decide +kernel
theorem dX4_canBeTogether_3 : decode cX4_canBeTogether 3 = .ok (.istore_n 2, 1) := by decide +kernel
theorem dX4_canBeTogether_4 : decode cX4_canBeTogether 4 = .ok (.iload_n 2, 1) := by decide +kernel
theorem dX4_canBeTogether_5 : decode cX4_canBeTogether 5 = .ok (.aload_n 0, 1) := by decide +kernel
theorem dX4_canBeTogether_6 : decode cX4_canBeTogether 6 = .ok (.getfield 28, 3) := by decide +kernel
theorem dX4_canBeTogether_9 : decode cX4_canBeTogether 9 = .ok (.getfield 65, 3) := by decide +kernel
theorem dX4_canBeTogether_12 : decode cX4_canBeTogether 12 = .ok (.if_icmp .ge 31, 3) := by decide +kernel
theorem dX4_canBeTogether_15 : decode cX4_canBeTogether 15 = .ok (.iload_n 1, 1) := by decide +kernel
theorem dX4_canBeTogether_16 : decode cX4_canBeTogether 16 = .ok (.aload_n 0, 1) := by decide +kernel
theorem dX4_canBeTogether_17 : decode cX4_canBeTogether 17 = .ok (.getfield 28, 3) := by decide +kernel
theorem dX4_canBeTogether_20 : decode cX4_canBeTogether 20 = .ok (.getfield 84, 3) := by decide +kernel
theorem dX4_canBeTogether_23 : decode cX4_canBeTogether 23 = .ok (.iload_n 2, 1) := by decide +kernel
theorem dX4_canBeTogether_24 : decode cX4_canBeTogether 24 = .ok (.iaload, 1) := by decide +kernel
theorem dX4_canBeTogether_25 : decode cX4_canBeTogether 25 = .ok (.aload_n 0, 1) := by decide +kernel
theorem dX4_canBeTogether_26 : decode cX4_canBeTogether 26 = .ok (.getfield 28, 3) := by decide +kernel
theorem dX4_canBeTogether_29 : decode cX4_canBeTogether 29 = .ok (.getfield 87, 3) := by decide +kernel
theorem dX4_canBeTogether_32 : decode cX4_canBeTogether 32 = .ok (.iload_n 2, 1) := by decide +kernel
theorem dX4_canBeTogether_33 : decode cX4_canBeTogether 33 = .ok (.iaload, 1) := by decide +kernel
theorem dX4_canBeTogether_34 : decode cX4_canBeTogether 34 = .ok (.imul, 1) := by decide +kernel
theorem dX4_canBeTogether_35 : decode cX4_canBeTogether 35 = .ok (.iadd, 1) := by decide +kernel
theorem dX4_canBeTogether_36 : decode cX4_canBeTogether 36 = .ok (.istore_n 1, 1) := by decide +kernel
theorem dX4_canBeTogether_37 : decode cX4_canBeTogether 37 = .ok (.iinc 2 1, 3) := by decide +kernel
theorem dX4_canBeTogether_40 : decode cX4_canBeTogether 40 = .ok (.goto (-36), 3) := by decide +kernel
theorem dX4_canBeTogether_43 : decode cX4_canBeTogether 43 = .ok (.iload_n 1, 1) := by decide +kernel
theorem dX4_canBeTogether_44 : decode cX4_canBeTogether 44 = .ok (.bipush 10, 2) := by decide +kernel
theorem dX4_canBeTogether_46 : decode cX4_canBeTogether 46 = .ok (.if_icmp .gt 7, 3) := by decide +kernel
theorem dX4_canBeTogether_49 : decode cX4_canBeTogether 49 = .ok (.iconst 1, 1) := by decide +kernel
theorem dX4_canBeTogether_50 : decode cX4_canBeTogether 50 = .ok (.goto 4, 3) := by decide +kernel
theorem dX4_canBeTogether_53 : decode cX4_canBeTogether 53 = .ok (.iconst 0, 1) := by decide +kernel
theorem dX4_canBeTogether_54 : decode cX4_canBeTogether 54 = .ok (.ireturn, 1) := by decide +kernel
set_option maxRecDepth 100000 in
set_option maxHeartbeats 4000000 in
theorem eX4_canBeTogether_43 {X : px_X}  : ∀ (a1 : Int32) (w : px_W) (q : Int32 × px_W), fX4_canBeTogether_43 X  a1 w = some q → EV X mX4_canBeTogether 43 [(1, .int a1)] [] w (some (.int q.1)) q.2 := by
  intro a1 w q h
  unfold fX4_canBeTogether_43 at h
  refine EV.iload_n 0 dX4_canBeTogether_43 rfl rfl ?_
  refine EV.bipush (10) dX4_canBeTogether_44 (by decide) ?_
  refine EV.icmp_gt 53 dX4_canBeTogether_46 (by decide) (fun c9 => ?_) (fun c9 => ?_)
  · rw [if_pos c9] at h
    refine EV.iconst (0) dX4_canBeTogether_53 (by decide) ?_
    cases h
    exact EV.reti dX4_canBeTogether_54 rfl
  · rw [if_neg c9] at h
    refine EV.iconst (1) dX4_canBeTogether_49 (by decide) ?_
    refine EV.goto 54 dX4_canBeTogether_50 (by decide) ?_
    cases h
    exact EV.reti dX4_canBeTogether_54 rfl
set_option maxRecDepth 100000 in
set_option maxHeartbeats 4000000 in
theorem eX4_canBeTogether_4 {X : px_X}  : ∀ (m : Nat) (a0 : Nat) (a1 : Int32) (a2 : Int32) (w : px_W) (q : Int32 × px_W), fX4_canBeTogether_4 X  m a0 a1 a2 w = some q → EV X mX4_canBeTogether 4 [(0, .ref a0), (1, .int a1), (2, .int a2)] [] w (some (.int q.1)) q.2 := by
  intro m
  induction m with
  | zero => intro a0 a1 a2 w q h; cases h
  | succ m ih =>
    intro a0 a1 a2 w q h
    rw [fX4_canBeTogether_4.eq_2] at h
    refine EV.iload_n 2 dX4_canBeTogether_4 rfl rfl ?_
    refine EV.aload_n 0 dX4_canBeTogether_5 rfl rfl ?_
    obtain ⟨v10, gv10, h⟩ := px_bs h
    refine ev_gR dX4_canBeTogether_6 flRX4_28 gv10 ?_
    obtain ⟨v11, gv11, h⟩ := px_bs h
    refine ev_gI dX4_canBeTogether_9 flRX4_65 gv11 ?_
    refine EV.icmp_ge 43 dX4_canBeTogether_12 (by decide) (fun c12 => ?_) (fun c12 => ?_)
    · rw [if_pos c12] at h
      refine EV.sub [1] rfl ?_
      exact eX4_canBeTogether_43  _ _ _ h
    · rw [if_neg c12] at h
      refine EV.iload_n 1 dX4_canBeTogether_15 rfl rfl ?_
      refine EV.aload_n 0 dX4_canBeTogether_16 rfl rfl ?_
      obtain ⟨v13, gv13, h⟩ := px_bs h
      refine ev_gR dX4_canBeTogether_17 flRX4_28 gv13 ?_
      obtain ⟨v14, gv14, h⟩ := px_bs h
      refine ev_gR dX4_canBeTogether_20 flRX4_84 gv14 ?_
      refine EV.iload_n 2 dX4_canBeTogether_23 rfl rfl ?_
      obtain ⟨v15, gv15, h⟩ := px_bs h
      refine ev_aI dX4_canBeTogether_24 gv15 ?_
      refine EV.aload_n 0 dX4_canBeTogether_25 rfl rfl ?_
      obtain ⟨v16, gv16, h⟩ := px_bs h
      refine ev_gR dX4_canBeTogether_26 flRX4_28 gv16 ?_
      obtain ⟨v17, gv17, h⟩ := px_bs h
      refine ev_gR dX4_canBeTogether_29 flRX4_87 gv17 ?_
      refine EV.iload_n 2 dX4_canBeTogether_32 rfl rfl ?_
      obtain ⟨v18, gv18, h⟩ := px_bs h
      refine ev_aI dX4_canBeTogether_33 gv18 ?_
      refine EV.imul dX4_canBeTogether_34 ?_
      refine EV.iadd dX4_canBeTogether_35 ?_
      refine EV.istore_n [(1, .int (a1 + (v15 * v18))), (0, .ref a0), (2, .int a2)] dX4_canBeTogether_36 rfl (by decide) rfl ?_
      refine EV.iinc 2 (a2 + 1) [(2, .int (a2 + 1)), (1, .int (a1 + (v15 * v18))), (0, .ref a0)] dX4_canBeTogether_37 rfl rfl (by decide) rfl ?_
      refine EV.goto 4 dX4_canBeTogether_40 (by decide) ?_
      refine EV.sub [2, 1, 0] rfl ?_
      exact ih _ _ _ _ _ h
set_option maxRecDepth 100000 in
set_option maxHeartbeats 4000000 in
theorem eX4_canBeTogether {X : px_X} {w : px_W} {a0 : Nat} {q : Int32 × px_W} (h : fX4_canBeTogether X w a0 = some q) : EV X mX4_canBeTogether 0 (lv_args 0 [.ref a0]) [] w (some (.int q.1)) q.2 := by
  unfold fX4_canBeTogether at h
  show EV X mX4_canBeTogether 0 [(0, .ref a0)] [] w (some (.int q.1)) q.2
  refine EV.iconst (0) dX4_canBeTogether_0 (by decide) ?_
  refine EV.istore_n [(1, .int 0), (0, .ref a0)] dX4_canBeTogether_1 rfl (by decide) rfl ?_
  refine EV.iconst (0) dX4_canBeTogether_2 (by decide) ?_
  refine EV.istore_n [(2, .int 0), (1, .int 0), (0, .ref a0)] dX4_canBeTogether_3 rfl (by decide) rfl ?_
  refine EV.sub [2, 1, 0] rfl ?_
  exact eX4_canBeTogether_4  FU _ _ _ _ _ h
/-! WavePictures$Scan.addPart(III)V -/
theorem dX5_addPart_0 : decode cX5_addPart 0 = .ok (.aload_n 0, 1) := by decide +kernel
theorem dX5_addPart_1 : decode cX5_addPart 1 = .ok (.getfield 46, 3) := by decide +kernel
theorem dX5_addPart_4 : decode cX5_addPart 4 = .ok (.bipush 10, 2) := by decide +kernel
theorem dX5_addPart_6 : decode cX5_addPart 6 = .ok (.if_icmp .ge 43, 3) := by decide +kernel
theorem dX5_addPart_9 : decode cX5_addPart 9 = .ok (.aload_n 0, 1) := by decide +kernel
theorem dX5_addPart_10 : decode cX5_addPart 10 = .ok (.getfield 28, 3) := by decide +kernel
theorem dX5_addPart_13 : decode cX5_addPart 13 = .ok (.aload_n 0, 1) := by decide +kernel
theorem dX5_addPart_14 : decode cX5_addPart 14 = .ok (.getfield 46, 3) := by decide +kernel
theorem dX5_addPart_17 : decode cX5_addPart 17 = .ok (.iload_n 1, 1) := by decide +kernel
theorem dX5_addPart_18 : decode cX5_addPart 18 = .ok (.iastore, 1) := by decide +kernel
theorem dX5_addPart_19 : decode cX5_addPart 19 = .ok (.aload_n 0, 1) := by decide +kernel
theorem dX5_addPart_20 : decode cX5_addPart 20 = .ok (.getfield 31, 3) := by decide +kernel
theorem dX5_addPart_23 : decode cX5_addPart 23 = .ok (.aload_n 0, 1) := by decide +kernel
theorem dX5_addPart_24 : decode cX5_addPart 24 = .ok (.getfield 46, 3) := by decide +kernel
theorem dX5_addPart_27 : decode cX5_addPart 27 = .ok (.iload_n 2, 1) := by decide +kernel
theorem dX5_addPart_28 : decode cX5_addPart 28 = .ok (.iastore, 1) := by decide +kernel
theorem dX5_addPart_29 : decode cX5_addPart 29 = .ok (.aload_n 0, 1) := by decide +kernel
theorem dX5_addPart_30 : decode cX5_addPart 30 = .ok (.getfield 34, 3) := by decide +kernel
theorem dX5_addPart_33 : decode cX5_addPart 33 = .ok (.aload_n 0, 1) := by decide +kernel
theorem dX5_addPart_34 : decode cX5_addPart 34 = .ok (.getfield 46, 3) := by decide +kernel
theorem dX5_addPart_37 : decode cX5_addPart 37 = .ok (.iload_n 3, 1) := by decide +kernel
theorem dX5_addPart_38 : decode cX5_addPart 38 = .ok (.iastore, 1) := by decide +kernel
theorem dX5_addPart_39 : decode cX5_addPart 39 = .ok (.aload_n 0, 1) := by decide +kernel
theorem dX5_addPart_40 : decode cX5_addPart 40 = .ok (.dup, 1) := by decide +kernel
theorem dX5_addPart_41 : decode cX5_addPart 41 = .ok (.getfield 46, 3) := by decide +kernel
theorem dX5_addPart_44 : decode cX5_addPart 44 = .ok (.iconst 1, 1) := by decide +kernel
theorem dX5_addPart_45 : decode cX5_addPart 45 = .ok (.iadd, 1) := by decide +kernel
theorem dX5_addPart_46 : decode cX5_addPart 46 = .ok (.putfield 46, 3) := by decide +kernel
theorem dX5_addPart_49 : decode cX5_addPart 49 = .ok (.return_, 1) := by decide +kernel
theorem flRX5_28 : px_f RX5 28 5 14 := ⟨_, rfl, by decide, Or.inl (tb1 (List.mem_of_getElem? (i := 228) rfl))⟩
theorem flRX5_31 : px_f RX5 31 5 15 := ⟨_, rfl, by decide, Or.inl (tb1 (List.mem_of_getElem? (i := 231) rfl))⟩
theorem flRX5_34 : px_f RX5 34 5 16 := ⟨_, rfl, by decide, Or.inl (tb1 (List.mem_of_getElem? (i := 232) rfl))⟩
theorem flRX5_46 : px_f RX5 46 5 13 := ⟨_, rfl, by decide, Or.inl (tb1 (List.mem_of_getElem? (i := 227) rfl))⟩
set_option maxRecDepth 100000 in
set_option maxHeartbeats 4000000 in
theorem eX5_addPart {X : px_X} {w : px_W} {a0 : Nat} {a1 : Int32} {a2 : Int32} {a3 : Int32} {q : px_W} (h : fX5_addPart X w a0 a1 a2 a3 = some q) : EV X mX5_addPart 0 (lv_args 0 [.ref a0, .int a1, .int a2, .int a3]) [] w none q := by
  unfold fX5_addPart at h
  show EV X mX5_addPart 0 [(0, .ref a0), (1, .int a1), (2, .int a2), (3, .int a3)] [] w none q
  refine EV.aload_n 0 dX5_addPart_0 rfl rfl ?_
  obtain ⟨v13, gv13, h⟩ := px_bs h
  refine ev_gI dX5_addPart_1 flRX5_46 gv13 ?_
  refine EV.bipush (10) dX5_addPart_4 (by decide) ?_
  refine EV.icmp_ge 49 dX5_addPart_6 (by decide) (fun c14 => ?_) (fun c14 => ?_)
  · rw [if_pos c14] at h
    cases h
    exact EV.ret0 dX5_addPart_49 trivial
  · rw [if_neg c14] at h
    refine EV.aload_n 0 dX5_addPart_9 rfl rfl ?_
    obtain ⟨v15, gv15, h⟩ := px_bs h
    refine ev_gR dX5_addPart_10 flRX5_28 gv15 ?_
    refine EV.aload_n 0 dX5_addPart_13 rfl rfl ?_
    obtain ⟨v16, gv16, h⟩ := px_bs h
    refine ev_gI dX5_addPart_14 flRX5_46 gv16 ?_
    refine EV.iload_n 1 dX5_addPart_17 rfl rfl ?_
    obtain ⟨w17, gw17, h⟩ := px_bs h
    refine ev_sI dX5_addPart_18 gw17 ?_
    refine EV.aload_n 0 dX5_addPart_19 rfl rfl ?_
    obtain ⟨v18, gv18, h⟩ := px_bs h
    refine ev_gR dX5_addPart_20 flRX5_31 gv18 ?_
    refine EV.aload_n 0 dX5_addPart_23 rfl rfl ?_
    obtain ⟨v19, gv19, h⟩ := px_bs h
    refine ev_gI dX5_addPart_24 flRX5_46 gv19 ?_
    refine EV.iload_n 2 dX5_addPart_27 rfl rfl ?_
    obtain ⟨w20, gw20, h⟩ := px_bs h
    refine ev_sI dX5_addPart_28 gw20 ?_
    refine EV.aload_n 0 dX5_addPart_29 rfl rfl ?_
    obtain ⟨v21, gv21, h⟩ := px_bs h
    refine ev_gR dX5_addPart_30 flRX5_34 gv21 ?_
    refine EV.aload_n 0 dX5_addPart_33 rfl rfl ?_
    obtain ⟨v22, gv22, h⟩ := px_bs h
    refine ev_gI dX5_addPart_34 flRX5_46 gv22 ?_
    refine EV.iload_n 3 dX5_addPart_37 rfl rfl ?_
    obtain ⟨w23, gw23, h⟩ := px_bs h
    refine ev_sI dX5_addPart_38 gw23 ?_
    refine EV.aload_n 0 dX5_addPart_39 rfl rfl ?_
    refine EV.dup dX5_addPart_40 rfl ?_
    obtain ⟨v24, gv24, h⟩ := px_bs h
    refine ev_gI dX5_addPart_41 flRX5_46 gv24 ?_
    refine EV.iconst (1) dX5_addPart_44 (by decide) ?_
    refine EV.iadd dX5_addPart_45 ?_
    obtain ⟨w25, gw25, h⟩ := px_bs h
    refine ev_pV dX5_addPart_46 flRX5_46 rfl rfl rfl rfl gw25 ?_
    cases h
    exact EV.ret0 dX5_addPart_49 trivial
