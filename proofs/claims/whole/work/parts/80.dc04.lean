/-! WavePictures$Scan.layOut(LWavePictures$Picture;)V -/
theorem dX5_layOut_0 : decode cX5_layOut 0 = .ok (.aload_n 0, 1) := by decide +kernel
theorem dX5_layOut_1 : decode cX5_layOut 1 = .ok (.iconst 0, 1) := by decide +kernel
theorem dX5_layOut_2 : decode cX5_layOut 2 = .ok (.putfield 46, 3) := by decide +kernel
theorem dX5_layOut_5 : decode cX5_layOut 5 = .ok (.aload_n 0, 1) := by decide +kernel
theorem dX5_layOut_6 : decode cX5_layOut 6 = .ok (.getfield 49, 3) := by decide +kernel
theorem dX5_layOut_9 : decode cX5_layOut 9 = .ok (.iconst 1, 1) := by decide +kernel
theorem dX5_layOut_10 : decode cX5_layOut 10 = .ok (.if_icmp .ne 54, 3) := by decide +kernel
theorem dX5_layOut_13 : decode cX5_layOut 13 = .ok (.aload_n 0, 1) := by decide +kernel
theorem dX5_layOut_14 : decode cX5_layOut 14 = .ok (.aload_n 1, 1) := by decide +kernel
theorem dX5_layOut_15 : decode cX5_layOut 15 = .ok (.aload_n 0, 1) := by decide +kernel
theorem dX5_layOut_16 : decode cX5_layOut 16 = .ok (.getfield 9, 3) := by decide +kernel
theorem dX5_layOut_19 : decode cX5_layOut 19 = .ok (.iconst 0, 1) := by decide +kernel
theorem dX5_layOut_20 : decode cX5_layOut 20 = .ok (.iaload, 1) := by decide +kernel
theorem dX5_layOut_21 : decode cX5_layOut 21 = .ok (.invokevirtual 52, 3) := by decide +kernel
theorem dX5_layOut_24 : decode cX5_layOut 24 = .ok (.bipush 8, 2) := by decide +kernel
theorem dX5_layOut_26 : decode cX5_layOut 26 = .ok (.invokestatic 58, 3) := by decide +kernel
theorem dX5_layOut_29 : decode cX5_layOut 29 = .ok (.putfield 24, 3) := by decide +kernel
theorem dX5_layOut_32 : decode cX5_layOut 32 = .ok (.aload_n 0, 1) := by decide +kernel
theorem dX5_layOut_33 : decode cX5_layOut 33 = .ok (.aload_n 0, 1) := by decide +kernel
theorem dX5_layOut_34 : decode cX5_layOut 34 = .ok (.getfield 24, 3) := by decide +kernel
theorem dX5_layOut_37 : decode cX5_layOut 37 = .ok (.aload_n 1, 1) := by decide +kernel
theorem dX5_layOut_38 : decode cX5_layOut 38 = .ok (.aload_n 0, 1) := by decide +kernel
theorem dX5_layOut_39 : decode cX5_layOut 39 = .ok (.getfield 9, 3) := by decide +kernel
theorem dX5_layOut_42 : decode cX5_layOut 42 = .ok (.iconst 0, 1) := by decide +kernel
theorem dX5_layOut_43 : decode cX5_layOut 43 = .ok (.iaload, 1) := by decide +kernel
theorem dX5_layOut_44 : decode cX5_layOut 44 = .ok (.invokevirtual 62, 3) := by decide +kernel
theorem dX5_layOut_47 : decode cX5_layOut 47 = .ok (.bipush 8, 2) := by decide +kernel
theorem dX5_layOut_49 : decode cX5_layOut 49 = .ok (.invokestatic 58, 3) := by decide +kernel
theorem dX5_layOut_52 : decode cX5_layOut 52 = .ok (.imul, 1) := by decide +kernel
theorem dX5_layOut_53 : decode cX5_layOut 53 = .ok (.putfield 65, 3) := by decide +kernel
theorem dX5_layOut_56 : decode cX5_layOut 56 = .ok (.aload_n 0, 1) := by decide +kernel
theorem dX5_layOut_57 : decode cX5_layOut 57 = .ok (.iconst 0, 1) := by decide +kernel
theorem dX5_layOut_58 : decode cX5_layOut 58 = .ok (.iconst 0, 1) := by decide +kernel
theorem dX5_layOut_59 : decode cX5_layOut 59 = .ok (.iconst 0, 1) := by decide +kernel
theorem dX5_layOut_60 : decode cX5_layOut 60 = .ok (.invokevirtual 68, 3) := by decide +kernel
theorem dX5_layOut_63 : decode cX5_layOut 63 = .ok (.return_, 1) := by decide +kernel
theorem dX5_layOut_64 : decode cX5_layOut 64 = .ok (.aload_n 0, 1) := by decide +kernel
theorem dX5_layOut_65 : decode cX5_layOut 65 = .ok (.aload_n 1, 1) := by decide +kernel
theorem dX5_layOut_66 : decode cX5_layOut 66 = .ok (.invokevirtual 72, 3) := by decide +kernel
theorem dX5_layOut_69 : decode cX5_layOut 69 = .ok (.putfield 24, 3) := by decide +kernel
theorem dX5_layOut_72 : decode cX5_layOut 72 = .ok (.aload_n 0, 1) := by decide +kernel
theorem dX5_layOut_73 : decode cX5_layOut 73 = .ok (.aload_n 0, 1) := by decide +kernel
theorem dX5_layOut_74 : decode cX5_layOut 74 = .ok (.getfield 24, 3) := by decide +kernel
theorem dX5_layOut_77 : decode cX5_layOut 77 = .ok (.aload_n 1, 1) := by decide +kernel
theorem dX5_layOut_78 : decode cX5_layOut 78 = .ok (.invokevirtual 75, 3) := by decide +kernel
theorem dX5_layOut_81 : decode cX5_layOut 81 = .ok (.imul, 1) := by decide +kernel
theorem dX5_layOut_82 : decode cX5_layOut 82 = .ok (.putfield 65, 3) := by decide +kernel
theorem dX5_layOut_85 : decode cX5_layOut 85 = .ok (.iconst 0, 1) := by decide +kernel
theorem dX5_layOut_86 : decode cX5_layOut 86 = .ok (.istore_n 2, 1) := by decide +kernel
theorem dX5_layOut_87 : decode cX5_layOut 87 = .ok (.iload_n 2, 1) := by decide +kernel
theorem dX5_layOut_88 : decode cX5_layOut 88 = .ok (.aload_n 0, 1) := by decide +kernel
theorem dX5_layOut_89 : decode cX5_layOut 89 = .ok (.getfield 49, 3) := by decide +kernel
theorem dX5_layOut_92 : decode cX5_layOut 92 = .ok (.if_icmp .ge 65, 3) := by decide +kernel
theorem dX5_layOut_95 : decode cX5_layOut 95 = .ok (.iconst 0, 1) := by decide +kernel
theorem dX5_layOut_96 : decode cX5_layOut 96 = .ok (.istore_n 3, 1) := by decide +kernel
theorem dX5_layOut_97 : decode cX5_layOut 97 = .ok (.iload_n 3, 1) := by decide +kernel
theorem dX5_layOut_98 : decode cX5_layOut 98 = .ok (.aload_n 1, 1) := by decide +kernel
theorem dX5_layOut_99 : decode cX5_layOut 99 = .ok (.getfield 78, 3) := by decide +kernel
theorem dX5_layOut_102 : decode cX5_layOut 102 = .ok (.aload_n 0, 1) := by decide +kernel
theorem dX5_layOut_103 : decode cX5_layOut 103 = .ok (.getfield 9, 3) := by decide +kernel
theorem dX5_layOut_106 : decode cX5_layOut 106 = .ok (.iload_n 2, 1) := by decide +kernel
theorem dX5_layOut_107 : decode cX5_layOut 107 = .ok (.iaload, 1) := by decide +kernel
theorem dX5_layOut_108 : decode cX5_layOut 108 = .ok (.iaload, 1) := by decide +kernel
theorem dX5_layOut_109 : decode cX5_layOut 109 = .ok (.if_icmp .ge 42, 3) := by decide +kernel
theorem dX5_layOut_112 : decode cX5_layOut 112 = .ok (.iconst 0, 1) := by decide +kernel
theorem dX5_layOut_113 : decode cX5_layOut 113 = .ok (.istore 4, 2) := by decide +kernel
theorem dX5_layOut_115 : decode cX5_layOut 115 = .ok (.iload 4, 2) := by decide +kernel
theorem dX5_layOut_117 : decode cX5_layOut 117 = .ok (.aload_n 1, 1) := by decide +kernel
theorem dX5_layOut_118 : decode cX5_layOut 118 = .ok (.getfield 81, 3) := by decide +kernel
theorem dX5_layOut_121 : decode cX5_layOut 121 = .ok (.aload_n 0, 1) := by decide +kernel
theorem dX5_layOut_122 : decode cX5_layOut 122 = .ok (.getfield 9, 3) := by decide +kernel
theorem dX5_layOut_125 : decode cX5_layOut 125 = .ok (.iload_n 2, 1) := by decide +kernel
theorem dX5_layOut_126 : decode cX5_layOut 126 = .ok (.iaload, 1) := by decide +kernel
theorem dX5_layOut_127 : decode cX5_layOut 127 = .ok (.iaload, 1) := by decide +kernel
theorem dX5_layOut_128 : decode cX5_layOut 128 = .ok (.if_icmp .ge 17, 3) := by decide +kernel
theorem dX5_layOut_131 : decode cX5_layOut 131 = .ok (.aload_n 0, 1) := by decide +kernel
theorem dX5_layOut_132 : decode cX5_layOut 132 = .ok (.iload_n 2, 1) := by decide +kernel
theorem dX5_layOut_133 : decode cX5_layOut 133 = .ok (.iload 4, 2) := by decide +kernel
theorem dX5_layOut_135 : decode cX5_layOut 135 = .ok (.iload_n 3, 1) := by decide +kernel
theorem dX5_layOut_136 : decode cX5_layOut 136 = .ok (.invokevirtual 68, 3) := by decide +kernel
theorem dX5_layOut_139 : decode cX5_layOut 139 = .ok (.iinc 4 1, 3) := by decide +kernel
theorem dX5_layOut_142 : decode cX5_layOut 142 = .ok (.goto (-27), 3) := by decide +kernel
theorem dX5_layOut_145 : decode cX5_layOut 145 = .ok (.iinc 3 1, 3) := by decide +kernel
theorem dX5_layOut_148 : decode cX5_layOut 148 = .ok (.goto (-51), 3) := by decide +kernel
theorem dX5_layOut_151 : decode cX5_layOut 151 = .ok (.iinc 2 1, 3) := by decide +kernel
theorem dX5_layOut_154 : decode cX5_layOut 154 = .ok (.goto (-67), 3) := by decide +kernel
theorem dX5_layOut_157 : decode cX5_layOut 157 = .ok (.return_, 1) := by decide +kernel
theorem flRX5_9 : px_f RX5 9 5 5 := ⟨_, rfl, by decide, Or.inl (tb1 (List.mem_of_getElem? (i := 205) rfl))⟩
theorem flRX5_49 : px_f RX5 49 5 0 := ⟨_, rfl, by decide, Or.inl (tb1 (List.mem_of_getElem? (i := 184) rfl))⟩
theorem flRX5_65 : px_f RX5 65 5 11 := ⟨_, rfl, by decide, Or.inl (tb1 (List.mem_of_getElem? (i := 223) rfl))⟩
theorem flRX5_78 : px_f RX5 78 2 7 := ⟨_, rfl, by decide, Or.inl (tb1 (List.mem_of_getElem? (i := 80) rfl))⟩
theorem flRX5_81 : px_f RX5 81 2 6 := ⟨_, rfl, by decide, Or.inl (tb1 (List.mem_of_getElem? (i := 75) rfl))⟩
theorem mbX2_samplesAcross : px_mB mX2_samplesAcross 1 := ⟨tb4 (List.mem_of_getElem? (i := 65) rfl), by decide +kernel, tb1 (List.mem_of_getElem? (i := 3) rfl), by decide +kernel, by decide +kernel⟩
theorem vbX2_samplesAcross : px_vB mX2_samplesAcross := ⟨tb4 (List.mem_of_getElem? (i := 63) rfl), tb4 (List.mem_of_getElem? (i := 64) rfl)⟩
theorem kcX5_layOut_52 : px_cV mX5_layOut 52 mX2_samplesAcross 1 := ⟨⟨mbX2_samplesAcross, by decide, by decide⟩, Or.inl (tb4 (List.mem_of_getElem? (i := 62) rfl)), vbX2_samplesAcross⟩
theorem kcX5_layOut_58 : px_cS mX5_layOut 58 mX11_up 2 := ⟨⟨mbX11_up, by decide, by decide⟩, Or.inr ⟨"WavePictures", tT4 (List.mem_of_getElem? (i := 66) rfl)⟩, tb4 (List.mem_of_getElem? (i := 46) rfl)⟩
theorem mbX2_samplesDown : px_mB mX2_samplesDown 1 := ⟨tb4 (List.mem_of_getElem? (i := 70) rfl), by decide +kernel, tb1 (List.mem_of_getElem? (i := 3) rfl), by decide +kernel, by decide +kernel⟩
theorem vbX2_samplesDown : px_vB mX2_samplesDown := ⟨tb4 (List.mem_of_getElem? (i := 68) rfl), tb4 (List.mem_of_getElem? (i := 69) rfl)⟩
theorem kcX5_layOut_62 : px_cV mX5_layOut 62 mX2_samplesDown 1 := ⟨⟨mbX2_samplesDown, by decide, by decide⟩, Or.inl (tb4 (List.mem_of_getElem? (i := 67) rfl)), vbX2_samplesDown⟩
theorem mbX5_addPart : px_mB mX5_addPart 3 := ⟨tb4 (List.mem_of_getElem? (i := 74) rfl), by decide +kernel, tb1 (List.mem_of_getElem? (i := 7) rfl), by decide +kernel, by decide +kernel⟩
theorem vbX5_addPart : px_vB mX5_addPart := ⟨tb4 (List.mem_of_getElem? (i := 73) rfl), List.mem_append_left _ (List.mem_of_getElem? (i := 30) (by decide +kernel))⟩
theorem kcX5_layOut_68 : px_cV mX5_layOut 68 mX5_addPart 3 := ⟨⟨mbX5_addPart, by decide, by decide⟩, Or.inl (tb4 (List.mem_of_getElem? (i := 71) rfl)), vbX5_addPart⟩
theorem kcX5_layOut_72 : px_cV mX5_layOut 72 mX2_unitsAcross 0 := ⟨⟨mbX2_unitsAcross, by decide, by decide⟩, Or.inl (tb4 (List.mem_of_getElem? (i := 75) rfl)), vbX2_unitsAcross⟩
theorem kcX5_layOut_75 : px_cV mX5_layOut 75 mX2_unitsDown 0 := ⟨⟨mbX2_unitsDown, by decide, by decide⟩, Or.inl (tb4 (List.mem_of_getElem? (i := 76) rfl)), vbX2_unitsDown⟩
set_option maxRecDepth 100000 in
set_option maxHeartbeats 4000000 in
theorem eX5_layOut_145 {X : px_X} {k87 : Nat → Nat → Int32 → px_W → Option (px_W)} (hk87 : ∀ (a0 : Nat) (a1 : Nat) (a2 : Int32) (w : px_W) (q : px_W), k87 a0 a1 a2 w = some q → EV X mX5_layOut 87 [(0, .ref a0), (1, .ref a1), (2, .int a2)] [] w none q) {k97 : Nat → Nat → Int32 → Int32 → px_W → Option (px_W)} (hk97 : ∀ (a0 : Nat) (a1 : Nat) (a2 : Int32) (a3 : Int32) (w : px_W) (q : px_W), k97 a0 a1 a2 a3 w = some q → EV X mX5_layOut 97 [(0, .ref a0), (1, .ref a1), (2, .int a2), (3, .int a3)] [] w none q) : ∀ (a0 : Nat) (a1 : Nat) (a2 : Int32) (a3 : Int32) (w : px_W) (q : px_W), fX5_layOut_145 X k87 k97 a0 a1 a2 a3 w = some q → EV X mX5_layOut 145 [(0, .ref a0), (1, .ref a1), (2, .int a2), (3, .int a3)] [] w none q := by
  intro a0 a1 a2 a3 w q h
  unfold fX5_layOut_145 at h
  refine EV.iinc 3 (a3 + 1) [(3, .int (a3 + 1)), (0, .ref a0), (1, .ref a1), (2, .int a2)] dX5_layOut_145 rfl rfl (by decide) rfl ?_
  refine EV.goto 97 dX5_layOut_148 (by decide) ?_
  refine EV.sub [1, 2, 3, 0] rfl ?_
  exact hk97 _ _ _ _ _ _ h
set_option maxRecDepth 100000 in
set_option maxHeartbeats 4000000 in
theorem eX5_layOut_115 {X : px_X} {k87 : Nat → Nat → Int32 → px_W → Option (px_W)} (hk87 : ∀ (a0 : Nat) (a1 : Nat) (a2 : Int32) (w : px_W) (q : px_W), k87 a0 a1 a2 w = some q → EV X mX5_layOut 87 [(0, .ref a0), (1, .ref a1), (2, .int a2)] [] w none q) {k97 : Nat → Nat → Int32 → Int32 → px_W → Option (px_W)} (hk97 : ∀ (a0 : Nat) (a1 : Nat) (a2 : Int32) (a3 : Int32) (w : px_W) (q : px_W), k97 a0 a1 a2 a3 w = some q → EV X mX5_layOut 97 [(0, .ref a0), (1, .ref a1), (2, .int a2), (3, .int a3)] [] w none q) : ∀ (m : Nat) (a0 : Nat) (a1 : Nat) (a2 : Int32) (a3 : Int32) (a4 : Int32) (w : px_W) (q : px_W), fX5_layOut_115 X k87 k97 m a0 a1 a2 a3 a4 w = some q → EV X mX5_layOut 115 [(0, .ref a0), (1, .ref a1), (2, .int a2), (3, .int a3), (4, .int a4)] [] w none q := by
  intro m
  induction m with
  | zero => intro a0 a1 a2 a3 a4 w q h; cases h
  | succ m ih =>
    intro a0 a1 a2 a3 a4 w q h
    rw [fX5_layOut_115.eq_2] at h
    refine EV.iload 4 dX5_layOut_115 rfl ?_
    refine EV.aload_n 1 dX5_layOut_117 rfl rfl ?_
    obtain ⟨v36, gv36, h⟩ := px_bs h
    refine ev_gR dX5_layOut_118 flRX5_81 gv36 ?_
    refine EV.aload_n 0 dX5_layOut_121 rfl rfl ?_
    obtain ⟨v37, gv37, h⟩ := px_bs h
    refine ev_gR dX5_layOut_122 flRX5_9 gv37 ?_
    refine EV.iload_n 2 dX5_layOut_125 rfl rfl ?_
    obtain ⟨v38, gv38, h⟩ := px_bs h
    refine ev_aI dX5_layOut_126 gv38 ?_
    obtain ⟨v39, gv39, h⟩ := px_bs h
    refine ev_aI dX5_layOut_127 gv39 ?_
    refine EV.icmp_ge 145 dX5_layOut_128 (by decide) (fun c40 => ?_) (fun c40 => ?_)
    · rw [if_pos c40] at h
      refine EV.sub [0, 1, 2, 3] rfl ?_
      exact eX5_layOut_145 hk87 hk97 _ _ _ _ _ _ h
    · rw [if_neg c40] at h
      refine EV.aload_n 0 dX5_layOut_131 rfl rfl ?_
      refine EV.iload_n 2 dX5_layOut_132 rfl rfl ?_
      refine EV.iload 4 dX5_layOut_133 rfl ?_
      refine EV.iload_n 3 dX5_layOut_135 rfl rfl ?_
      obtain ⟨o41, go41, h⟩ := px_bs h
      obtain ⟨q42, gq42, h⟩ := px_bs h
      refine EV.callV (As := [.int a2, .int a4, .int a3]) (rest := []) dX5_layOut_136 kcX5_layOut_68 (gO_ok go41) rfl rfl rfl (Nat.le_of_ble_eq_true rfl) (Nat.le_of_ble_eq_true rfl) (eX5_addPart gq42) ?_
      refine EV.iinc 4 (a4 + 1) [(4, .int (a4 + 1)), (0, .ref a0), (1, .ref a1), (2, .int a2), (3, .int a3)] dX5_layOut_139 rfl rfl (by decide) rfl ?_
      refine EV.goto 115 dX5_layOut_142 (by decide) ?_
      refine EV.sub [1, 2, 3, 4, 0] rfl ?_
      exact ih _ _ _ _ _ _ _ h
set_option maxRecDepth 100000 in
set_option maxHeartbeats 4000000 in
theorem eX5_layOut_151 {X : px_X} {k87 : Nat → Nat → Int32 → px_W → Option (px_W)} (hk87 : ∀ (a0 : Nat) (a1 : Nat) (a2 : Int32) (w : px_W) (q : px_W), k87 a0 a1 a2 w = some q → EV X mX5_layOut 87 [(0, .ref a0), (1, .ref a1), (2, .int a2)] [] w none q) : ∀ (a0 : Nat) (a1 : Nat) (a2 : Int32) (w : px_W) (q : px_W), fX5_layOut_151 X k87 a0 a1 a2 w = some q → EV X mX5_layOut 151 [(0, .ref a0), (1, .ref a1), (2, .int a2)] [] w none q := by
  intro a0 a1 a2 w q h
  unfold fX5_layOut_151 at h
  refine EV.iinc 2 (a2 + 1) [(2, .int (a2 + 1)), (0, .ref a0), (1, .ref a1)] dX5_layOut_151 rfl rfl (by decide) rfl ?_
  refine EV.goto 87 dX5_layOut_154 (by decide) ?_
  refine EV.sub [1, 2, 0] rfl ?_
  exact hk87 _ _ _ _ _ h
set_option maxRecDepth 100000 in
set_option maxHeartbeats 4000000 in
theorem eX5_layOut_97 {X : px_X} {k87 : Nat → Nat → Int32 → px_W → Option (px_W)} (hk87 : ∀ (a0 : Nat) (a1 : Nat) (a2 : Int32) (w : px_W) (q : px_W), k87 a0 a1 a2 w = some q → EV X mX5_layOut 87 [(0, .ref a0), (1, .ref a1), (2, .int a2)] [] w none q) : ∀ (m : Nat) (a0 : Nat) (a1 : Nat) (a2 : Int32) (a3 : Int32) (w : px_W) (q : px_W), fX5_layOut_97 X k87 m a0 a1 a2 a3 w = some q → EV X mX5_layOut 97 [(0, .ref a0), (1, .ref a1), (2, .int a2), (3, .int a3)] [] w none q := by
  intro m
  induction m with
  | zero => intro a0 a1 a2 a3 w q h; cases h
  | succ m ih =>
    intro a0 a1 a2 a3 w q h
    rw [fX5_layOut_97.eq_2] at h
    refine EV.iload_n 3 dX5_layOut_97 rfl rfl ?_
    refine EV.aload_n 1 dX5_layOut_98 rfl rfl ?_
    obtain ⟨v43, gv43, h⟩ := px_bs h
    refine ev_gR dX5_layOut_99 flRX5_78 gv43 ?_
    refine EV.aload_n 0 dX5_layOut_102 rfl rfl ?_
    obtain ⟨v44, gv44, h⟩ := px_bs h
    refine ev_gR dX5_layOut_103 flRX5_9 gv44 ?_
    refine EV.iload_n 2 dX5_layOut_106 rfl rfl ?_
    obtain ⟨v45, gv45, h⟩ := px_bs h
    refine ev_aI dX5_layOut_107 gv45 ?_
    obtain ⟨v46, gv46, h⟩ := px_bs h
    refine ev_aI dX5_layOut_108 gv46 ?_
    refine EV.icmp_ge 151 dX5_layOut_109 (by decide) (fun c47 => ?_) (fun c47 => ?_)
    · rw [if_pos c47] at h
      refine EV.sub [0, 1, 2] rfl ?_
      exact eX5_layOut_151 hk87 _ _ _ _ _ h
    · rw [if_neg c47] at h
      refine EV.iconst (0) dX5_layOut_112 (by decide) ?_
      refine EV.istore [(4, .int 0), (0, .ref a0), (1, .ref a1), (2, .int a2), (3, .int a3)] dX5_layOut_113 (by decide) rfl ?_
      refine EV.sub [1, 2, 3, 4, 0] rfl ?_
      exact eX5_layOut_115 hk87 ih FU _ _ _ _ _ _ _ h
set_option maxRecDepth 100000 in
set_option maxHeartbeats 4000000 in
theorem eX5_layOut_87 {X : px_X}  : ∀ (m : Nat) (a0 : Nat) (a1 : Nat) (a2 : Int32) (w : px_W) (q : px_W), fX5_layOut_87 X  m a0 a1 a2 w = some q → EV X mX5_layOut 87 [(0, .ref a0), (1, .ref a1), (2, .int a2)] [] w none q := by
  intro m
  induction m with
  | zero => intro a0 a1 a2 w q h; cases h
  | succ m ih =>
    intro a0 a1 a2 w q h
    rw [fX5_layOut_87.eq_2] at h
    refine EV.iload_n 2 dX5_layOut_87 rfl rfl ?_
    refine EV.aload_n 0 dX5_layOut_88 rfl rfl ?_
    obtain ⟨v48, gv48, h⟩ := px_bs h
    refine ev_gI dX5_layOut_89 flRX5_49 gv48 ?_
    refine EV.icmp_ge 157 dX5_layOut_92 (by decide) (fun c49 => ?_) (fun c49 => ?_)
    · rw [if_pos c49] at h
      cases h
      exact EV.ret0 dX5_layOut_157 trivial
    · rw [if_neg c49] at h
      refine EV.iconst (0) dX5_layOut_95 (by decide) ?_
      refine EV.istore_n [(3, .int 0), (0, .ref a0), (1, .ref a1), (2, .int a2)] dX5_layOut_96 rfl (by decide) rfl ?_
      refine EV.sub [1, 2, 3, 0] rfl ?_
      exact eX5_layOut_97 ih FU _ _ _ _ _ _ h
set_option maxRecDepth 100000 in
set_option maxHeartbeats 4000000 in
theorem eX5_layOut {X : px_X} {w : px_W} {a0 : Nat} {a1 : Nat} {q : px_W} (h : fX5_layOut X w a0 a1 = some q) : EV X mX5_layOut 0 (lv_args 0 [.ref a0, .ref a1]) [] w none q := by
  unfold fX5_layOut at h
  show EV X mX5_layOut 0 [(0, .ref a0), (1, .ref a1)] [] w none q
  refine EV.aload_n 0 dX5_layOut_0 rfl rfl ?_
  refine EV.iconst (0) dX5_layOut_1 (by decide) ?_
  obtain ⟨w50, gw50, h⟩ := px_bs h
  refine ev_pV dX5_layOut_2 flRX5_46 rfl rfl rfl rfl gw50 ?_
  refine EV.aload_n 0 dX5_layOut_5 rfl rfl ?_
  obtain ⟨v51, gv51, h⟩ := px_bs h
  refine ev_gI dX5_layOut_6 flRX5_49 gv51 ?_
  refine EV.iconst (1) dX5_layOut_9 (by decide) ?_
  refine EV.icmp_ne 64 dX5_layOut_10 (by decide) (fun c52 => ?_) (fun c52 => ?_)
  · rw [if_neg c52] at h
    refine EV.aload_n 0 dX5_layOut_64 rfl rfl ?_
    refine EV.aload_n 1 dX5_layOut_65 rfl rfl ?_
    obtain ⟨o53, go53, h⟩ := px_bs h
    obtain ⟨q54, gq54, h⟩ := px_bs h
    refine EV.callV (As := []) (rest := [.ref a0]) dX5_layOut_66 kcX5_layOut_72 (gO_ok go53) rfl rfl rfl (Nat.le_of_ble_eq_true rfl) (Nat.le_of_ble_eq_true rfl) (eX2_unitsAcross gq54) ?_
    obtain ⟨w55, gw55, h⟩ := px_bs h
    refine ev_pV dX5_layOut_69 flRX5_24 rfl rfl rfl rfl gw55 ?_
    refine EV.aload_n 0 dX5_layOut_72 rfl rfl ?_
    refine EV.aload_n 0 dX5_layOut_73 rfl rfl ?_
    obtain ⟨v56, gv56, h⟩ := px_bs h
    refine ev_gI dX5_layOut_74 flRX5_24 gv56 ?_
    refine EV.aload_n 1 dX5_layOut_77 rfl rfl ?_
    obtain ⟨o57, go57, h⟩ := px_bs h
    obtain ⟨q58, gq58, h⟩ := px_bs h
    refine EV.callV (As := []) (rest := [.int v56, .ref a0]) dX5_layOut_78 kcX5_layOut_75 (gO_ok go57) rfl rfl rfl (Nat.le_of_ble_eq_true rfl) (Nat.le_of_ble_eq_true rfl) (eX2_unitsDown gq58) ?_
    refine EV.imul dX5_layOut_81 ?_
    obtain ⟨w59, gw59, h⟩ := px_bs h
    refine ev_pV dX5_layOut_82 flRX5_65 rfl rfl rfl rfl gw59 ?_
    refine EV.iconst (0) dX5_layOut_85 (by decide) ?_
    refine EV.istore_n [(2, .int 0), (0, .ref a0), (1, .ref a1)] dX5_layOut_86 rfl (by decide) rfl ?_
    refine EV.sub [1, 2, 0] rfl ?_
    exact eX5_layOut_87  FU _ _ _ _ _ h
  · rw [if_pos c52] at h
    refine EV.aload_n 0 dX5_layOut_13 rfl rfl ?_
    refine EV.aload_n 1 dX5_layOut_14 rfl rfl ?_
    refine EV.aload_n 0 dX5_layOut_15 rfl rfl ?_
    obtain ⟨v60, gv60, h⟩ := px_bs h
    refine ev_gR dX5_layOut_16 flRX5_9 gv60 ?_
    refine EV.iconst (0) dX5_layOut_19 (by decide) ?_
    obtain ⟨v61, gv61, h⟩ := px_bs h
    refine ev_aI dX5_layOut_20 gv61 ?_
    obtain ⟨o62, go62, h⟩ := px_bs h
    obtain ⟨q63, gq63, h⟩ := px_bs h
    refine EV.callV (As := [.int v61]) (rest := [.ref a0]) dX5_layOut_21 kcX5_layOut_52 (gO_ok go62) rfl rfl rfl (Nat.le_of_ble_eq_true rfl) (Nat.le_of_ble_eq_true rfl) (eX2_samplesAcross gq63) ?_
    refine EV.bipush (8) dX5_layOut_24 (by decide) ?_
    obtain ⟨q64, gq64, h⟩ := px_bs h
    refine EV.callS (As := [.int q63.1, .int 8]) (rest := [.ref a0]) dX5_layOut_26 kcX5_layOut_58 rfl (Nat.le_of_ble_eq_true rfl) (Nat.le_of_ble_eq_true rfl) (eX11_up gq64) ?_
    obtain ⟨w65, gw65, h⟩ := px_bs h
    refine ev_pV dX5_layOut_29 flRX5_24 rfl rfl rfl rfl gw65 ?_
    refine EV.aload_n 0 dX5_layOut_32 rfl rfl ?_
    refine EV.aload_n 0 dX5_layOut_33 rfl rfl ?_
    obtain ⟨v66, gv66, h⟩ := px_bs h
    refine ev_gI dX5_layOut_34 flRX5_24 gv66 ?_
    refine EV.aload_n 1 dX5_layOut_37 rfl rfl ?_
    refine EV.aload_n 0 dX5_layOut_38 rfl rfl ?_
    obtain ⟨v67, gv67, h⟩ := px_bs h
    refine ev_gR dX5_layOut_39 flRX5_9 gv67 ?_
    refine EV.iconst (0) dX5_layOut_42 (by decide) ?_
    obtain ⟨v68, gv68, h⟩ := px_bs h
    refine ev_aI dX5_layOut_43 gv68 ?_
    obtain ⟨o69, go69, h⟩ := px_bs h
    obtain ⟨q70, gq70, h⟩ := px_bs h
    refine EV.callV (As := [.int v68]) (rest := [.int v66, .ref a0]) dX5_layOut_44 kcX5_layOut_62 (gO_ok go69) rfl rfl rfl (Nat.le_of_ble_eq_true rfl) (Nat.le_of_ble_eq_true rfl) (eX2_samplesDown gq70) ?_
    refine EV.bipush (8) dX5_layOut_47 (by decide) ?_
    obtain ⟨q71, gq71, h⟩ := px_bs h
    refine EV.callS (As := [.int q70.1, .int 8]) (rest := [.int v66, .ref a0]) dX5_layOut_49 kcX5_layOut_58 rfl (Nat.le_of_ble_eq_true rfl) (Nat.le_of_ble_eq_true rfl) (eX11_up gq71) ?_
    refine EV.imul dX5_layOut_52 ?_
    obtain ⟨w72, gw72, h⟩ := px_bs h
    refine ev_pV dX5_layOut_53 flRX5_65 rfl rfl rfl rfl gw72 ?_
    refine EV.aload_n 0 dX5_layOut_56 rfl rfl ?_
    refine EV.iconst (0) dX5_layOut_57 (by decide) ?_
    refine EV.iconst (0) dX5_layOut_58 (by decide) ?_
    refine EV.iconst (0) dX5_layOut_59 (by decide) ?_
    obtain ⟨o73, go73, h⟩ := px_bs h
    obtain ⟨q74, gq74, h⟩ := px_bs h
    refine EV.callV (As := [.int 0, .int 0, .int 0]) (rest := []) dX5_layOut_60 kcX5_layOut_68 (gO_ok go73) rfl rfl rfl (Nat.le_of_ble_eq_true rfl) (Nat.le_of_ble_eq_true rfl) (eX5_addPart gq74) ?_
    cases h
    exact EV.ret0 dX5_layOut_63 trivial
/-! java/lang/Integer.numberOfLeadingZeros(I)I -/
theorem dJ6_numberOfLeadingZeros_0f7a4_0 : decode cJ6_numberOfLeadingZeros_0f7a4 0 = .ok (.iload_n 0, 1) := by decide +kernel
theorem dJ6_numberOfLeadingZeros_0f7a4_1 : decode cJ6_numberOfLeadingZeros_0f7a4 1 = .ok (.ifCond .gt 14, 3) := by decide +kernel
theorem dJ6_numberOfLeadingZeros_0f7a4_4 : decode cJ6_numberOfLeadingZeros_0f7a4 4 = .ok (.iload_n 0, 1) := by decide +kernel
theorem dJ6_numberOfLeadingZeros_0f7a4_5 : decode cJ6_numberOfLeadingZeros_0f7a4 5 = .ok (.ifCond .ne 8, 3) := by decide +kernel
theorem dJ6_numberOfLeadingZeros_0f7a4_8 : decode cJ6_numberOfLeadingZeros_0f7a4 8 = .ok (.bipush 32, 2) := by decide +kernel
theorem dJ6_numberOfLeadingZeros_0f7a4_10 : decode cJ6_numberOfLeadingZeros_0f7a4 10 = .ok (.goto 4, 3) := by decide +kernel
theorem dJ6_numberOfLeadingZeros_0f7a4_13 : decode cJ6_numberOfLeadingZeros_0f7a4 13 = .ok (.iconst 0, 1) := by decide +kernel
theorem dJ6_numberOfLeadingZeros_0f7a4_14 : decode cJ6_numberOfLeadingZeros_0f7a4 14 = .ok (.ireturn, 1) := by decide +kernel
theorem dJ6_numberOfLeadingZeros_0f7a4_15 : decode cJ6_numberOfLeadingZeros_0f7a4 15 = .ok (.bipush 31, 2) := by decide +kernel
theorem dJ6_numberOfLeadingZeros_0f7a4_17 : decode cJ6_numberOfLeadingZeros_0f7a4 17 = .ok (.istore_n 1, 1) := by decide +kernel
theorem dJ6_numberOfLeadingZeros_0f7a4_18 : decode cJ6_numberOfLeadingZeros_0f7a4 18 = .ok (.iload_n 0, 1) := by decide +kernel
theorem dJ6_numberOfLeadingZeros_0f7a4_19 : decode cJ6_numberOfLeadingZeros_0f7a4 19 = .ok (.ldc_w 264, 3) := by decide +kernel
theorem dJ6_numberOfLeadingZeros_0f7a4_22 : decode cJ6_numberOfLeadingZeros_0f7a4 22 = .ok (.if_icmp .lt 11, 3) := by decide +kernel
theorem dJ6_numberOfLeadingZeros_0f7a4_25 : decode cJ6_numberOfLeadingZeros_0f7a4 25 = .ok (.iinc 1 (-16), 3) := by decide +kernel
theorem dJ6_numberOfLeadingZeros_0f7a4_28 : decode cJ6_numberOfLeadingZeros_0f7a4 28 = .ok (.iload_n 0, 1) := by decide +kernel
theorem dJ6_numberOfLeadingZeros_0f7a4_29 : decode cJ6_numberOfLeadingZeros_0f7a4 29 = .ok (.bipush 16, 2) := by decide +kernel
theorem dJ6_numberOfLeadingZeros_0f7a4_31 : decode cJ6_numberOfLeadingZeros_0f7a4 31 = .ok (.iushr, 1) := by decide +kernel
theorem dJ6_numberOfLeadingZeros_0f7a4_32 : decode cJ6_numberOfLeadingZeros_0f7a4 32 = .ok (.istore_n 0, 1) := by decide +kernel
theorem dJ6_numberOfLeadingZeros_0f7a4_33 : decode cJ6_numberOfLeadingZeros_0f7a4 33 = .ok (.iload_n 0, 1) := by decide +kernel
theorem dJ6_numberOfLeadingZeros_0f7a4_34 : decode cJ6_numberOfLeadingZeros_0f7a4 34 = .ok (.sipush 256, 3) := by decide +kernel
theorem dJ6_numberOfLeadingZeros_0f7a4_37 : decode cJ6_numberOfLeadingZeros_0f7a4 37 = .ok (.if_icmp .lt 11, 3) := by decide +kernel
theorem dJ6_numberOfLeadingZeros_0f7a4_40 : decode cJ6_numberOfLeadingZeros_0f7a4 40 = .ok (.iinc 1 (-8), 3) := by decide +kernel
theorem dJ6_numberOfLeadingZeros_0f7a4_43 : decode cJ6_numberOfLeadingZeros_0f7a4 43 = .ok (.iload_n 0, 1) := by decide +kernel
theorem dJ6_numberOfLeadingZeros_0f7a4_44 : decode cJ6_numberOfLeadingZeros_0f7a4 44 = .ok (.bipush 8, 2) := by decide +kernel
theorem dJ6_numberOfLeadingZeros_0f7a4_46 : decode cJ6_numberOfLeadingZeros_0f7a4 46 = .ok (.iushr, 1) := by decide +kernel
theorem dJ6_numberOfLeadingZeros_0f7a4_47 : decode cJ6_numberOfLeadingZeros_0f7a4 47 = .ok (.istore_n 0, 1) := by decide +kernel
theorem dJ6_numberOfLeadingZeros_0f7a4_48 : decode cJ6_numberOfLeadingZeros_0f7a4 48 = .ok (.iload_n 0, 1) := by decide +kernel
theorem dJ6_numberOfLeadingZeros_0f7a4_49 : decode cJ6_numberOfLeadingZeros_0f7a4 49 = .ok (.bipush 16, 2) := by decide +kernel
theorem dJ6_numberOfLeadingZeros_0f7a4_51 : decode cJ6_numberOfLeadingZeros_0f7a4 51 = .ok (.if_icmp .lt 10, 3) := by decide +kernel
theorem dJ6_numberOfLeadingZeros_0f7a4_54 : decode cJ6_numberOfLeadingZeros_0f7a4 54 = .ok (.iinc 1 (-4), 3) := by decide +kernel
theorem dJ6_numberOfLeadingZeros_0f7a4_57 : decode cJ6_numberOfLeadingZeros_0f7a4 57 = .ok (.iload_n 0, 1) := by decide +kernel
theorem dJ6_numberOfLeadingZeros_0f7a4_58 : decode cJ6_numberOfLeadingZeros_0f7a4 58 = .ok (.iconst 4, 1) := by decide +kernel
theorem dJ6_numberOfLeadingZeros_0f7a4_59 : decode cJ6_numberOfLeadingZeros_0f7a4 59 = .ok (.iushr, 1) := by decide +kernel
theorem dJ6_numberOfLeadingZeros_0f7a4_60 : decode cJ6_numberOfLeadingZeros_0f7a4 60 = .ok (.istore_n 0, 1) := by decide +kernel
theorem dJ6_numberOfLeadingZeros_0f7a4_61 : decode cJ6_numberOfLeadingZeros_0f7a4 61 = .ok (.iload_n 0, 1) := by decide +kernel
theorem dJ6_numberOfLeadingZeros_0f7a4_62 : decode cJ6_numberOfLeadingZeros_0f7a4 62 = .ok (.iconst 4, 1) := by decide +kernel
theorem dJ6_numberOfLeadingZeros_0f7a4_63 : decode cJ6_numberOfLeadingZeros_0f7a4 63 = .ok (.if_icmp .lt 10, 3) := by decide +kernel
theorem dJ6_numberOfLeadingZeros_0f7a4_66 : decode cJ6_numberOfLeadingZeros_0f7a4 66 = .ok (.iinc 1 (-2), 3) := by decide +kernel
theorem dJ6_numberOfLeadingZeros_0f7a4_69 : decode cJ6_numberOfLeadingZeros_0f7a4 69 = .ok (.iload_n 0, 1) := by decide +kernel
theorem dJ6_numberOfLeadingZeros_0f7a4_70 : decode cJ6_numberOfLeadingZeros_0f7a4 70 = .ok (.iconst 2, 1) := by decide +kernel
theorem dJ6_numberOfLeadingZeros_0f7a4_71 : decode cJ6_numberOfLeadingZeros_0f7a4 71 = .ok (.iushr, 1) := by decide +kernel
theorem dJ6_numberOfLeadingZeros_0f7a4_72 : decode cJ6_numberOfLeadingZeros_0f7a4 72 = .ok (.istore_n 0, 1) := by decide +kernel
theorem dJ6_numberOfLeadingZeros_0f7a4_73 : decode cJ6_numberOfLeadingZeros_0f7a4 73 = .ok (.iload_n 1, 1) := by decide +kernel
theorem dJ6_numberOfLeadingZeros_0f7a4_74 : decode cJ6_numberOfLeadingZeros_0f7a4 74 = .ok (.iload_n 0, 1) := by decide +kernel
theorem dJ6_numberOfLeadingZeros_0f7a4_75 : decode cJ6_numberOfLeadingZeros_0f7a4 75 = .ok (.iconst 1, 1) := by decide +kernel
theorem dJ6_numberOfLeadingZeros_0f7a4_76 : decode cJ6_numberOfLeadingZeros_0f7a4 76 = .ok (.iushr, 1) := by decide +kernel
theorem dJ6_numberOfLeadingZeros_0f7a4_77 : decode cJ6_numberOfLeadingZeros_0f7a4 77 = .ok (.isub, 1) := by decide +kernel
theorem dJ6_numberOfLeadingZeros_0f7a4_78 : decode cJ6_numberOfLeadingZeros_0f7a4 78 = .ok (.ireturn, 1) := by decide +kernel
set_option maxRecDepth 100000 in
set_option maxHeartbeats 4000000 in
theorem eJ6_numberOfLeadingZeros_0f7a4_73 {X : px_X}  : ∀ (a0 : Int32) (a1 : Int32) (w : px_W) (q : Int32 × px_W), fJ6_numberOfLeadingZeros_0f7a4_73 X  a0 a1 w = some q → EV X mJ6_numberOfLeadingZeros_0f7a4 73 [(0, .int a0), (1, .int a1)] [] w (some (.int q.1)) q.2 := by
  intro a0 a1 w q h
  unfold fJ6_numberOfLeadingZeros_0f7a4_73 at h
  refine EV.iload_n 1 dJ6_numberOfLeadingZeros_0f7a4_73 rfl rfl ?_
  refine EV.iload_n 0 dJ6_numberOfLeadingZeros_0f7a4_74 rfl rfl ?_
  refine EV.iconst (1) dJ6_numberOfLeadingZeros_0f7a4_75 (by decide) ?_
  refine EV.iushr dJ6_numberOfLeadingZeros_0f7a4_76 ?_
  refine EV.isub dJ6_numberOfLeadingZeros_0f7a4_77 ?_
  cases h
  exact EV.reti dJ6_numberOfLeadingZeros_0f7a4_78 rfl
set_option maxRecDepth 100000 in
set_option maxHeartbeats 4000000 in
theorem eJ6_numberOfLeadingZeros_0f7a4_61 {X : px_X}  : ∀ (a0 : Int32) (a1 : Int32) (w : px_W) (q : Int32 × px_W), fJ6_numberOfLeadingZeros_0f7a4_61 X  a0 a1 w = some q → EV X mJ6_numberOfLeadingZeros_0f7a4 61 [(0, .int a0), (1, .int a1)] [] w (some (.int q.1)) q.2 := by
  intro a0 a1 w q h
  unfold fJ6_numberOfLeadingZeros_0f7a4_61 at h
  refine EV.iload_n 0 dJ6_numberOfLeadingZeros_0f7a4_61 rfl rfl ?_
  refine EV.iconst (4) dJ6_numberOfLeadingZeros_0f7a4_62 (by decide) ?_
  refine EV.icmp_lt 73 dJ6_numberOfLeadingZeros_0f7a4_63 (by decide) (fun c1 => ?_) (fun c1 => ?_)
  · rw [if_pos c1] at h
    refine EV.sub [0, 1] rfl ?_
    exact eJ6_numberOfLeadingZeros_0f7a4_73  _ _ _ _ h
  · rw [if_neg c1] at h
    refine EV.iinc 1 (a1 + (-2)) [(1, .int (a1 + (-2))), (0, .int a0)] dJ6_numberOfLeadingZeros_0f7a4_66 rfl rfl (by decide) rfl ?_
    refine EV.iload_n 1 dJ6_numberOfLeadingZeros_0f7a4_69 rfl rfl ?_
    refine EV.iconst (2) dJ6_numberOfLeadingZeros_0f7a4_70 (by decide) ?_
    refine EV.iushr dJ6_numberOfLeadingZeros_0f7a4_71 ?_
    refine EV.istore_n [(0, .int ((a0.toUInt32 >>> ((2 : Int32).toUInt32 &&& Int32.toUInt32 31)).toInt32)), (1, .int (a1 + (-2)))] dJ6_numberOfLeadingZeros_0f7a4_72 rfl (by decide) rfl ?_
    refine EV.sub [0, 1] rfl ?_
    exact eJ6_numberOfLeadingZeros_0f7a4_73  _ _ _ _ h
set_option maxRecDepth 100000 in
set_option maxHeartbeats 4000000 in
theorem eJ6_numberOfLeadingZeros_0f7a4_48 {X : px_X}  : ∀ (a0 : Int32) (a1 : Int32) (w : px_W) (q : Int32 × px_W), fJ6_numberOfLeadingZeros_0f7a4_48 X  a0 a1 w = some q → EV X mJ6_numberOfLeadingZeros_0f7a4 48 [(0, .int a0), (1, .int a1)] [] w (some (.int q.1)) q.2 := by
  intro a0 a1 w q h
  unfold fJ6_numberOfLeadingZeros_0f7a4_48 at h
  refine EV.iload_n 0 dJ6_numberOfLeadingZeros_0f7a4_48 rfl rfl ?_
  refine EV.bipush (16) dJ6_numberOfLeadingZeros_0f7a4_49 (by decide) ?_
  refine EV.icmp_lt 61 dJ6_numberOfLeadingZeros_0f7a4_51 (by decide) (fun c2 => ?_) (fun c2 => ?_)
  · rw [if_pos c2] at h
    refine EV.sub [0, 1] rfl ?_
    exact eJ6_numberOfLeadingZeros_0f7a4_61  _ _ _ _ h
  · rw [if_neg c2] at h
    refine EV.iinc 1 (a1 + (-4)) [(1, .int (a1 + (-4))), (0, .int a0)] dJ6_numberOfLeadingZeros_0f7a4_54 rfl rfl (by decide) rfl ?_
    refine EV.iload_n 1 dJ6_numberOfLeadingZeros_0f7a4_57 rfl rfl ?_
    refine EV.iconst (4) dJ6_numberOfLeadingZeros_0f7a4_58 (by decide) ?_
    refine EV.iushr dJ6_numberOfLeadingZeros_0f7a4_59 ?_
    refine EV.istore_n [(0, .int ((a0.toUInt32 >>> ((4 : Int32).toUInt32 &&& Int32.toUInt32 31)).toInt32)), (1, .int (a1 + (-4)))] dJ6_numberOfLeadingZeros_0f7a4_60 rfl (by decide) rfl ?_
    refine EV.sub [0, 1] rfl ?_
    exact eJ6_numberOfLeadingZeros_0f7a4_61  _ _ _ _ h
set_option maxRecDepth 100000 in
set_option maxHeartbeats 4000000 in
theorem eJ6_numberOfLeadingZeros_0f7a4_33 {X : px_X}  : ∀ (a0 : Int32) (a1 : Int32) (w : px_W) (q : Int32 × px_W), fJ6_numberOfLeadingZeros_0f7a4_33 X  a0 a1 w = some q → EV X mJ6_numberOfLeadingZeros_0f7a4 33 [(0, .int a0), (1, .int a1)] [] w (some (.int q.1)) q.2 := by
  intro a0 a1 w q h
  unfold fJ6_numberOfLeadingZeros_0f7a4_33 at h
  refine EV.iload_n 0 dJ6_numberOfLeadingZeros_0f7a4_33 rfl rfl ?_
  refine EV.sipush (256) dJ6_numberOfLeadingZeros_0f7a4_34 (by decide) ?_
  refine EV.icmp_lt 48 dJ6_numberOfLeadingZeros_0f7a4_37 (by decide) (fun c3 => ?_) (fun c3 => ?_)
  · rw [if_pos c3] at h
    refine EV.sub [0, 1] rfl ?_
    exact eJ6_numberOfLeadingZeros_0f7a4_48  _ _ _ _ h
  · rw [if_neg c3] at h
    refine EV.iinc 1 (a1 + (-8)) [(1, .int (a1 + (-8))), (0, .int a0)] dJ6_numberOfLeadingZeros_0f7a4_40 rfl rfl (by decide) rfl ?_
    refine EV.iload_n 1 dJ6_numberOfLeadingZeros_0f7a4_43 rfl rfl ?_
    refine EV.bipush (8) dJ6_numberOfLeadingZeros_0f7a4_44 (by decide) ?_
    refine EV.iushr dJ6_numberOfLeadingZeros_0f7a4_46 ?_
    refine EV.istore_n [(0, .int ((a0.toUInt32 >>> ((8 : Int32).toUInt32 &&& Int32.toUInt32 31)).toInt32)), (1, .int (a1 + (-8)))] dJ6_numberOfLeadingZeros_0f7a4_47 rfl (by decide) rfl ?_
    refine EV.sub [0, 1] rfl ?_
    exact eJ6_numberOfLeadingZeros_0f7a4_48  _ _ _ _ h
set_option maxRecDepth 100000 in
set_option maxHeartbeats 4000000 in
theorem eJ6_numberOfLeadingZeros_0f7a4 {X : px_X} {w : px_W} {a0 : Int32} {q : Int32 × px_W} (h : fJ6_numberOfLeadingZeros_0f7a4 X w a0 = some q) : EV X mJ6_numberOfLeadingZeros_0f7a4 0 (lv_args 0 [.int a0]) [] w (some (.int q.1)) q.2 := by
  unfold fJ6_numberOfLeadingZeros_0f7a4 at h
  show EV X mJ6_numberOfLeadingZeros_0f7a4 0 [(0, .int a0)] [] w (some (.int q.1)) q.2
  refine EV.iload_n 0 dJ6_numberOfLeadingZeros_0f7a4_0 rfl rfl ?_
  refine EV.if_gt 15 dJ6_numberOfLeadingZeros_0f7a4_1 (by decide) (fun c4 => ?_) (fun c4 => ?_)
  · rw [if_pos c4] at h
    refine EV.bipush (31) dJ6_numberOfLeadingZeros_0f7a4_15 (by decide) ?_
    refine EV.istore_n [(1, .int 31), (0, .int a0)] dJ6_numberOfLeadingZeros_0f7a4_17 rfl (by decide) rfl ?_
    refine EV.iload_n 1 dJ6_numberOfLeadingZeros_0f7a4_18 rfl rfl ?_
    refine EV.ldcw (v := 65536) dJ6_numberOfLeadingZeros_0f7a4_19 (tb5 (List.mem_of_getElem? (i := 7) rfl)) ?_
    refine EV.icmp_lt 33 dJ6_numberOfLeadingZeros_0f7a4_22 (by decide) (fun c5 => ?_) (fun c5 => ?_)
    · rw [if_pos c5] at h
      refine EV.sub [1, 0] rfl ?_
      exact eJ6_numberOfLeadingZeros_0f7a4_33  _ _ _ _ h
    · rw [if_neg c5] at h
      refine EV.iinc 0 (31 + (-16)) [(1, .int (31 + (-16))), (0, .int a0)] dJ6_numberOfLeadingZeros_0f7a4_25 rfl rfl (by decide) rfl ?_
      refine EV.iload_n 1 dJ6_numberOfLeadingZeros_0f7a4_28 rfl rfl ?_
      refine EV.bipush (16) dJ6_numberOfLeadingZeros_0f7a4_29 (by decide) ?_
      refine EV.iushr dJ6_numberOfLeadingZeros_0f7a4_31 ?_
      refine EV.istore_n [(0, .int ((a0.toUInt32 >>> ((16 : Int32).toUInt32 &&& Int32.toUInt32 31)).toInt32)), (1, .int (31 + (-16)))] dJ6_numberOfLeadingZeros_0f7a4_32 rfl (by decide) rfl ?_
      refine EV.sub [0, 1] rfl ?_
      exact eJ6_numberOfLeadingZeros_0f7a4_33  _ _ _ _ h
  · rw [if_neg c4] at h
    refine EV.iload_n 0 dJ6_numberOfLeadingZeros_0f7a4_4 rfl rfl ?_
    refine EV.if_ne 13 dJ6_numberOfLeadingZeros_0f7a4_5 (by decide) (fun c6 => ?_) (fun c6 => ?_)
    · rw [if_neg c6] at h
      refine EV.iconst (0) dJ6_numberOfLeadingZeros_0f7a4_13 (by decide) ?_
      cases h
      exact EV.reti dJ6_numberOfLeadingZeros_0f7a4_14 rfl
    · rw [if_pos c6] at h
      refine EV.bipush (32) dJ6_numberOfLeadingZeros_0f7a4_8 (by decide) ?_
      refine EV.goto 14 dJ6_numberOfLeadingZeros_0f7a4_10 (by decide) ?_
      cases h
      exact EV.reti dJ6_numberOfLeadingZeros_0f7a4_14 rfl
/-! WavePictures.sizeOf(I)I -/
theorem dX11_sizeOf_0 : decode cX11_sizeOf 0 = .ok (.bipush 32, 2) := by decide +kernel
theorem dX11_sizeOf_2 : decode cX11_sizeOf 2 = .ok (.iload_n 0, 1) := by decide +kernel
theorem dX11_sizeOf_3 : decode cX11_sizeOf 3 = .ok (.invokestatic 365, 3) := by decide +kernel
theorem dX11_sizeOf_6 : decode cX11_sizeOf 6 = .ok (.invokestatic 368, 3) := by decide +kernel
theorem dX11_sizeOf_9 : decode cX11_sizeOf 9 = .ok (.isub, 1) := by decide +kernel
theorem dX11_sizeOf_10 : decode cX11_sizeOf 10 = .ok (.ireturn, 1) := by decide +kernel
theorem mbJ6_numberOfLeadingZeros_0f7a4 : px_mB mJ6_numberOfLeadingZeros_0f7a4 1 := ⟨tb5 (List.mem_of_getElem? (i := 6) rfl), by decide +kernel, tb1 (List.mem_of_getElem? (i := 20) rfl), by decide +kernel, by decide +kernel⟩
theorem kcX11_sizeOf_368 : px_cS mX11_sizeOf 368 mJ6_numberOfLeadingZeros_0f7a4 1 := ⟨⟨mbJ6_numberOfLeadingZeros_0f7a4, by decide, by decide⟩, Or.inl (tb5 (List.mem_of_getElem? (i := 4) rfl)), tb5 (List.mem_of_getElem? (i := 5) rfl)⟩
set_option maxRecDepth 100000 in
set_option maxHeartbeats 4000000 in
theorem eX11_sizeOf {X : px_X} {w : px_W} {a0 : Int32} {q : Int32 × px_W} (h : fX11_sizeOf X w a0 = some q) : EV X mX11_sizeOf 0 (lv_args 0 [.int a0]) [] w (some (.int q.1)) q.2 := by
  unfold fX11_sizeOf at h
  show EV X mX11_sizeOf 0 [(0, .int a0)] [] w (some (.int q.1)) q.2
  refine EV.bipush (32) dX11_sizeOf_0 (by decide) ?_
  refine EV.iload_n 0 dX11_sizeOf_2 rfl rfl ?_
  refine EV.mabs dX11_sizeOf_3 (tb5 (List.mem_of_getElem? (i := 3) rfl)) (by decide) (by decide) (Nat.le_of_ble_eq_true rfl) ?_
  obtain ⟨q2, gq2, h⟩ := px_bs h
  refine EV.callS (As := [.int (mabs a0)]) (rest := [.int 32]) dX11_sizeOf_6 kcX11_sizeOf_368 rfl (Nat.le_of_ble_eq_true rfl) (Nat.le_of_ble_eq_true rfl) (eJ6_numberOfLeadingZeros_0f7a4 gq2) ?_
  refine EV.isub dX11_sizeOf_9 ?_
  cases h
  exact EV.reti dX11_sizeOf_10 rfl
/-! WavePictures$ScanWriter.putBits(II)V -/
theorem dX7_putBits_0 : decode cX7_putBits 0 = .ok (.aload_n 0, 1) := by decide +kernel
theorem dX7_putBits_1 : decode cX7_putBits 1 = .ok (.getfield 37, 3) := by decide +kernel
theorem dX7_putBits_4 : decode cX7_putBits 4 = .ok (.ifCond .eq 4, 3) := by decide +kernel
theorem dX7_putBits_7 : decode cX7_putBits 7 = .ok (.return_, 1) := by decide +kernel
theorem dX7_putBits_8 : decode cX7_putBits 8 = .ok (.iload_n 2, 1) := by decide +kernel
theorem dX7_putBits_9 : decode cX7_putBits 9 = .ok (.iconst 1, 1) := by decide +kernel
theorem dX7_putBits_10 : decode cX7_putBits 10 = .ok (.isub, 1) := by decide +kernel
theorem dX7_putBits_11 : decode cX7_putBits 11 = .ok (.istore_n 3, 1) := by decide +kernel
theorem dX7_putBits_12 : decode cX7_putBits 12 = .ok (.iload_n 3, 1) := by decide +kernel
theorem dX7_putBits_13 : decode cX7_putBits 13 = .ok (.ifCond .lt 83, 3) := by decide +kernel
theorem dX7_putBits_16 : decode cX7_putBits 16 = .ok (.aload_n 0, 1) := by decide +kernel
theorem dX7_putBits_17 : decode cX7_putBits 17 = .ok (.iconst 2, 1) := by decide +kernel
theorem dX7_putBits_18 : decode cX7_putBits 18 = .ok (.aload_n 0, 1) := by decide +kernel
theorem dX7_putBits_19 : decode cX7_putBits 19 = .ok (.getfield 41, 3) := by decide +kernel
theorem dX7_putBits_22 : decode cX7_putBits 22 = .ok (.imul, 1) := by decide +kernel
theorem dX7_putBits_23 : decode cX7_putBits 23 = .ok (.iload_n 1, 1) := by decide +kernel
theorem dX7_putBits_24 : decode cX7_putBits 24 = .ok (.iload_n 3, 1) := by decide +kernel
theorem dX7_putBits_25 : decode cX7_putBits 25 = .ok (.ishr, 1) := by decide +kernel
theorem dX7_putBits_26 : decode cX7_putBits 26 = .ok (.iconst 1, 1) := by decide +kernel
theorem dX7_putBits_27 : decode cX7_putBits 27 = .ok (.iand, 1) := by decide +kernel
theorem dX7_putBits_28 : decode cX7_putBits 28 = .ok (.iadd, 1) := by decide +kernel
theorem dX7_putBits_29 : decode cX7_putBits 29 = .ok (.putfield 41, 3) := by decide +kernel
theorem dX7_putBits_32 : decode cX7_putBits 32 = .ok (.aload_n 0, 1) := by decide +kernel
theorem dX7_putBits_33 : decode cX7_putBits 33 = .ok (.dup, 1) := by decide +kernel
theorem dX7_putBits_34 : decode cX7_putBits 34 = .ok (.getfield 45, 3) := by decide +kernel
theorem dX7_putBits_37 : decode cX7_putBits 37 = .ok (.iconst 1, 1) := by decide +kernel
theorem dX7_putBits_38 : decode cX7_putBits 38 = .ok (.iadd, 1) := by decide +kernel
theorem dX7_putBits_39 : decode cX7_putBits 39 = .ok (.putfield 45, 3) := by decide +kernel
theorem dX7_putBits_42 : decode cX7_putBits 42 = .ok (.aload_n 0, 1) := by decide +kernel
theorem dX7_putBits_43 : decode cX7_putBits 43 = .ok (.getfield 45, 3) := by decide +kernel
theorem dX7_putBits_46 : decode cX7_putBits 46 = .ok (.bipush 8, 2) := by decide +kernel
theorem dX7_putBits_48 : decode cX7_putBits 48 = .ok (.if_icmp .ne 42, 3) := by decide +kernel
theorem dX7_putBits_51 : decode cX7_putBits 51 = .ok (.aload_n 0, 1) := by decide +kernel
theorem dX7_putBits_52 : decode cX7_putBits 52 = .ok (.getfield 29, 3) := by decide +kernel
theorem dX7_putBits_55 : decode cX7_putBits 55 = .ok (.aload_n 0, 1) := by decide +kernel
theorem dX7_putBits_56 : decode cX7_putBits 56 = .ok (.getfield 41, 3) := by decide +kernel
theorem dX7_putBits_59 : decode cX7_putBits 59 = .ok (.invokevirtual 107, 3) := by decide +kernel
theorem dX7_putBits_62 : decode cX7_putBits 62 = .ok (.aload_n 0, 1) := by decide +kernel
theorem dX7_putBits_63 : decode cX7_putBits 63 = .ok (.getfield 41, 3) := by decide +kernel
theorem dX7_putBits_66 : decode cX7_putBits 66 = .ok (.sipush 255, 3) := by decide +kernel
theorem dX7_putBits_69 : decode cX7_putBits 69 = .ok (.if_icmp .ne 11, 3) := by decide +kernel
theorem dX7_putBits_72 : decode cX7_putBits 72 = .ok (.aload_n 0, 1) := by decide +kernel
theorem dX7_putBits_73 : decode cX7_putBits 73 = .ok (.getfield 29, 3) := by decide +kernel
theorem dX7_putBits_76 : decode cX7_putBits 76 = .ok (.iconst 0, 1) := by decide +kernel
theorem dX7_putBits_77 : decode cX7_putBits 77 = .ok (.invokevirtual 107, 3) := by decide +kernel
theorem dX7_putBits_80 : decode cX7_putBits 80 = .ok (.aload_n 0, 1) := by decide +kernel
theorem dX7_putBits_81 : decode cX7_putBits 81 = .ok (.iconst 0, 1) := by decide +kernel
theorem dX7_putBits_82 : decode cX7_putBits 82 = .ok (.putfield 41, 3) := by decide +kernel
theorem dX7_putBits_85 : decode cX7_putBits 85 = .ok (.aload_n 0, 1) := by decide +kernel
theorem dX7_putBits_86 : decode cX7_putBits 86 = .ok (.iconst 0, 1) := by decide +kernel
theorem dX7_putBits_87 : decode cX7_putBits 87 = .ok (.putfield 45, 3) := by decide +kernel
theorem dX7_putBits_90 : decode cX7_putBits 90 = .ok (.iinc 3 (-1), 3) := by decide +kernel
theorem dX7_putBits_93 : decode cX7_putBits 93 = .ok (.goto (-81), 3) := by decide +kernel
theorem dX7_putBits_96 : decode cX7_putBits 96 = .ok (.return_, 1) := by decide +kernel
theorem flRX7_37 : px_f RX7 37 7 4 := ⟨_, rfl, by decide, Or.inl (tb2 (List.mem_of_getElem? (i := 223) rfl))⟩
theorem flRX7_41 : px_f RX7 41 7 5 := ⟨_, rfl, by decide, Or.inl (tb2 (List.mem_of_getElem? (i := 224) rfl))⟩
theorem flRX7_45 : px_f RX7 45 7 6 := ⟨_, rfl, by decide, Or.inl (tb2 (List.mem_of_getElem? (i := 225) rfl))⟩
theorem kcX7_putBits_107 : px_cV mX7_putBits 107 mX1_add 1 := ⟨⟨mbX1_add, by decide, by decide⟩, Or.inl (tb5 (List.mem_of_getElem? (i := 16) rfl)), vbX1_add⟩
set_option maxRecDepth 100000 in
set_option maxHeartbeats 4000000 in
theorem eX7_putBits_90 {X : px_X} {k12 : Nat → Int32 → Int32 → px_W → Option (px_W)} (hk12 : ∀ (a0 : Nat) (a1 : Int32) (a3 : Int32) (w : px_W) (q : px_W), k12 a0 a1 a3 w = some q → EV X mX7_putBits 12 [(0, .ref a0), (1, .int a1), (3, .int a3)] [] w none q) : ∀ (a0 : Nat) (a1 : Int32) (a3 : Int32) (w : px_W) (q : px_W), fX7_putBits_90 X k12 a0 a1 a3 w = some q → EV X mX7_putBits 90 [(0, .ref a0), (1, .int a1), (3, .int a3)] [] w none q := by
  intro a0 a1 a3 w q h
  unfold fX7_putBits_90 at h
  refine EV.iinc 2 (a3 + (-1)) [(3, .int (a3 + (-1))), (0, .ref a0), (1, .int a1)] dX7_putBits_90 rfl rfl (by decide) rfl ?_
  refine EV.goto 12 dX7_putBits_93 (by decide) ?_
  refine EV.sub [1, 2, 0] rfl ?_
  exact hk12 _ _ _ _ _ h
set_option maxRecDepth 100000 in
set_option maxHeartbeats 4000000 in
theorem eX7_putBits_80 {X : px_X} {k12 : Nat → Int32 → Int32 → px_W → Option (px_W)} (hk12 : ∀ (a0 : Nat) (a1 : Int32) (a3 : Int32) (w : px_W) (q : px_W), k12 a0 a1 a3 w = some q → EV X mX7_putBits 12 [(0, .ref a0), (1, .int a1), (3, .int a3)] [] w none q) : ∀ (a0 : Nat) (a1 : Int32) (a3 : Int32) (w : px_W) (q : px_W), fX7_putBits_80 X k12 a0 a1 a3 w = some q → EV X mX7_putBits 80 [(0, .ref a0), (1, .int a1), (3, .int a3)] [] w none q := by
  intro a0 a1 a3 w q h
  unfold fX7_putBits_80 at h
  refine EV.aload_n 0 dX7_putBits_80 rfl rfl ?_
  refine EV.iconst (0) dX7_putBits_81 (by decide) ?_
  obtain ⟨w17, gw17, h⟩ := px_bs h
  refine ev_pV dX7_putBits_82 flRX7_41 rfl rfl rfl rfl gw17 ?_
  refine EV.aload_n 0 dX7_putBits_85 rfl rfl ?_
  refine EV.iconst (0) dX7_putBits_86 (by decide) ?_
  obtain ⟨w18, gw18, h⟩ := px_bs h
  refine ev_pV dX7_putBits_87 flRX7_45 rfl rfl rfl rfl gw18 ?_
  refine EV.sub [0, 1, 2] rfl ?_
  exact eX7_putBits_90 hk12 _ _ _ _ _ h
set_option maxRecDepth 100000 in
set_option maxHeartbeats 4000000 in
theorem eX7_putBits_12 {X : px_X}  : ∀ (m : Nat) (a0 : Nat) (a1 : Int32) (a3 : Int32) (w : px_W) (q : px_W), fX7_putBits_12 X  m a0 a1 a3 w = some q → EV X mX7_putBits 12 [(0, .ref a0), (1, .int a1), (3, .int a3)] [] w none q := by
  intro m
  induction m with
  | zero => intro a0 a1 a3 w q h; cases h
  | succ m ih =>
    intro a0 a1 a3 w q h
    rw [fX7_putBits_12.eq_2] at h
    refine EV.iload_n 2 dX7_putBits_12 rfl rfl ?_
    refine EV.if_lt 96 dX7_putBits_13 (by decide) (fun c19 => ?_) (fun c19 => ?_)
    · rw [if_pos c19] at h
      cases h
      exact EV.ret0 dX7_putBits_96 trivial
    · rw [if_neg c19] at h
      refine EV.aload_n 0 dX7_putBits_16 rfl rfl ?_
      refine EV.iconst (2) dX7_putBits_17 (by decide) ?_
      refine EV.aload_n 0 dX7_putBits_18 rfl rfl ?_
      obtain ⟨v20, gv20, h⟩ := px_bs h
      refine ev_gI dX7_putBits_19 flRX7_41 gv20 ?_
      refine EV.imul dX7_putBits_22 ?_
      refine EV.iload_n 1 dX7_putBits_23 rfl rfl ?_
      refine EV.iload_n 2 dX7_putBits_24 rfl rfl ?_
      refine EV.ishr dX7_putBits_25 ?_
      refine EV.iconst (1) dX7_putBits_26 (by decide) ?_
      refine EV.iand dX7_putBits_27 ?_
      refine EV.iadd dX7_putBits_28 ?_
      obtain ⟨w21, gw21, h⟩ := px_bs h
      refine ev_pV dX7_putBits_29 flRX7_41 rfl rfl rfl rfl gw21 ?_
      refine EV.aload_n 0 dX7_putBits_32 rfl rfl ?_
      refine EV.dup dX7_putBits_33 rfl ?_
      obtain ⟨v22, gv22, h⟩ := px_bs h
      refine ev_gI dX7_putBits_34 flRX7_45 gv22 ?_
      refine EV.iconst (1) dX7_putBits_37 (by decide) ?_
      refine EV.iadd dX7_putBits_38 ?_
      obtain ⟨w23, gw23, h⟩ := px_bs h
      refine ev_pV dX7_putBits_39 flRX7_45 rfl rfl rfl rfl gw23 ?_
      refine EV.aload_n 0 dX7_putBits_42 rfl rfl ?_
      obtain ⟨v24, gv24, h⟩ := px_bs h
      refine ev_gI dX7_putBits_43 flRX7_45 gv24 ?_
      refine EV.bipush (8) dX7_putBits_46 (by decide) ?_
      refine EV.icmp_ne 90 dX7_putBits_48 (by decide) (fun c25 => ?_) (fun c25 => ?_)
      · rw [if_neg c25] at h
        refine EV.sub [0, 1, 2] rfl ?_
        exact eX7_putBits_90 ih _ _ _ _ _ h
      · rw [if_pos c25] at h
        refine EV.aload_n 0 dX7_putBits_51 rfl rfl ?_
        obtain ⟨v26, gv26, h⟩ := px_bs h
        refine ev_gR dX7_putBits_52 flRX7_29 gv26 ?_
        refine EV.aload_n 0 dX7_putBits_55 rfl rfl ?_
        obtain ⟨v27, gv27, h⟩ := px_bs h
        refine ev_gI dX7_putBits_56 flRX7_41 gv27 ?_
        obtain ⟨o28, go28, h⟩ := px_bs h
        obtain ⟨q29, gq29, h⟩ := px_bs h
        refine EV.callV (As := [.int v27]) (rest := []) dX7_putBits_59 kcX7_putBits_107 (gO_ok go28) rfl rfl rfl (Nat.le_of_ble_eq_true rfl) (Nat.le_of_ble_eq_true rfl) (eX1_add gq29) ?_
        refine EV.aload_n 0 dX7_putBits_62 rfl rfl ?_
        obtain ⟨v30, gv30, h⟩ := px_bs h
        refine ev_gI dX7_putBits_63 flRX7_41 gv30 ?_
        refine EV.sipush (255) dX7_putBits_66 (by decide) ?_
        refine EV.icmp_ne 80 dX7_putBits_69 (by decide) (fun c31 => ?_) (fun c31 => ?_)
        · rw [if_neg c31] at h
          refine EV.sub [0, 1, 2] rfl ?_
          exact eX7_putBits_80 ih _ _ _ _ _ h
        · rw [if_pos c31] at h
          refine EV.aload_n 0 dX7_putBits_72 rfl rfl ?_
          obtain ⟨v32, gv32, h⟩ := px_bs h
          refine ev_gR dX7_putBits_73 flRX7_29 gv32 ?_
          refine EV.iconst (0) dX7_putBits_76 (by decide) ?_
          obtain ⟨o33, go33, h⟩ := px_bs h
          obtain ⟨q34, gq34, h⟩ := px_bs h
          refine EV.callV (As := [.int 0]) (rest := []) dX7_putBits_77 kcX7_putBits_107 (gO_ok go33) rfl rfl rfl (Nat.le_of_ble_eq_true rfl) (Nat.le_of_ble_eq_true rfl) (eX1_add gq34) ?_
          refine EV.sub [0, 1, 2] rfl ?_
          exact eX7_putBits_80 ih _ _ _ _ _ h
set_option maxRecDepth 100000 in
set_option maxHeartbeats 4000000 in
theorem eX7_putBits {X : px_X} {w : px_W} {a0 : Nat} {a1 : Int32} {a2 : Int32} {q : px_W} (h : fX7_putBits X w a0 a1 a2 = some q) : EV X mX7_putBits 0 (lv_args 0 [.ref a0, .int a1, .int a2]) [] w none q := by
  unfold fX7_putBits at h
  show EV X mX7_putBits 0 [(0, .ref a0), (1, .int a1), (2, .int a2)] [] w none q
  refine EV.aload_n 0 dX7_putBits_0 rfl rfl ?_
  obtain ⟨v35, gv35, h⟩ := px_bs h
  refine ev_gI dX7_putBits_1 flRX7_37 gv35 ?_
  refine EV.if_eq 8 dX7_putBits_4 (by decide) (fun c36 => ?_) (fun c36 => ?_)
  · rw [if_pos c36] at h
    refine EV.iload_n 2 dX7_putBits_8 rfl rfl ?_
    refine EV.iconst (1) dX7_putBits_9 (by decide) ?_
    refine EV.isub dX7_putBits_10 ?_
    refine EV.istore_n [(3, .int (a2 - 1)), (0, .ref a0), (1, .int a1), (2, .int a2)] dX7_putBits_11 rfl (by decide) rfl ?_
    refine EV.sub [1, 2, 0] rfl ?_
    exact eX7_putBits_12  FU _ _ _ _ _ h
  · rw [if_neg c36] at h
    cases h
    exact EV.ret0 dX7_putBits_7 trivial
/-! WavePictures$ScanWriter.putWord(LWavePictures$BestTable;I)V -/
theorem dX7_putWord_0 : decode cX7_putWord 0 = .ok (.aload_n 0, 1) := by decide +kernel
theorem dX7_putWord_1 : decode cX7_putWord 1 = .ok (.getfield 37, 3) := by decide +kernel
theorem dX7_putWord_4 : decode cX7_putWord 4 = .ok (.ifCond .eq 16, 3) := by decide +kernel
theorem dX7_putWord_7 : decode cX7_putWord 7 = .ok (.aload_n 1, 1) := by decide +kernel
theorem dX7_putWord_8 : decode cX7_putWord 8 = .ok (.getfield 112, 3) := by decide +kernel
theorem dX7_putWord_11 : decode cX7_putWord 11 = .ok (.iload_n 2, 1) := by decide +kernel
theorem dX7_putWord_12 : decode cX7_putWord 12 = .ok (.dup2, 1) := by decide +kernel
theorem dX7_putWord_13 : decode cX7_putWord 13 = .ok (.iaload, 1) := by decide +kernel
theorem dX7_putWord_14 : decode cX7_putWord 14 = .ok (.iconst 1, 1) := by decide +kernel
theorem dX7_putWord_15 : decode cX7_putWord 15 = .ok (.iadd, 1) := by decide +kernel
theorem dX7_putWord_16 : decode cX7_putWord 16 = .ok (.iastore, 1) := by decide +kernel
theorem dX7_putWord_17 : decode cX7_putWord 17 = .ok (.goto 19, 3) := by decide +kernel
theorem dX7_putWord_20 : decode cX7_putWord 20 = .ok (.aload_n 0, 1) := by decide +kernel
theorem dX7_putWord_21 : decode cX7_putWord 21 = .ok (.aload_n 1, 1) := by decide +kernel
theorem dX7_putWord_22 : decode cX7_putWord 22 = .ok (.getfield 117, 3) := by decide +kernel
theorem dX7_putWord_25 : decode cX7_putWord 25 = .ok (.iload_n 2, 1) := by decide +kernel
theorem dX7_putWord_26 : decode cX7_putWord 26 = .ok (.iaload, 1) := by decide +kernel
theorem dX7_putWord_27 : decode cX7_putWord 27 = .ok (.aload_n 1, 1) := by decide +kernel
theorem dX7_putWord_28 : decode cX7_putWord 28 = .ok (.getfield 120, 3) := by decide +kernel
theorem dX7_putWord_31 : decode cX7_putWord 31 = .ok (.iload_n 2, 1) := by decide +kernel
theorem dX7_putWord_32 : decode cX7_putWord 32 = .ok (.iaload, 1) := by decide +kernel
theorem dX7_putWord_33 : decode cX7_putWord 33 = .ok (.invokevirtual 104, 3) := by decide +kernel
theorem dX7_putWord_36 : decode cX7_putWord 36 = .ok (.return_, 1) := by decide +kernel
theorem flRX7_112 : px_f RX7 112 0 0 := ⟨_, rfl, by decide, Or.inl (tb2 (List.mem_of_getElem? (i := 177) rfl))⟩
theorem flRX7_117 : px_f RX7 117 0 1 := ⟨_, rfl, by decide, Or.inl (tb2 (List.mem_of_getElem? (i := 179) rfl))⟩
theorem flRX7_120 : px_f RX7 120 0 2 := ⟨_, rfl, by decide, Or.inl (tb2 (List.mem_of_getElem? (i := 181) rfl))⟩
theorem mbX7_putBits : px_mB mX7_putBits 2 := ⟨tb5 (List.mem_of_getElem? (i := 15) rfl), by decide +kernel, tb1 (List.mem_of_getElem? (i := 12) rfl), by decide +kernel, by decide +kernel⟩
theorem vbX7_putBits : px_vB mX7_putBits := ⟨tb5 (List.mem_of_getElem? (i := 14) rfl), List.mem_append_left _ (List.mem_of_getElem? (i := 52) (by decide +kernel))⟩
theorem kcX7_putWord_104 : px_cV mX7_putWord 104 mX7_putBits 2 := ⟨⟨mbX7_putBits, by decide, by decide⟩, Or.inl (tb5 (List.mem_of_getElem? (i := 12) rfl)), vbX7_putBits⟩
set_option maxRecDepth 100000 in
set_option maxHeartbeats 4000000 in
theorem eX7_putWord {X : px_X} {w : px_W} {a0 : Nat} {a1 : Nat} {a2 : Int32} {q : px_W} (h : fX7_putWord X w a0 a1 a2 = some q) : EV X mX7_putWord 0 (lv_args 0 [.ref a0, .ref a1, .int a2]) [] w none q := by
  unfold fX7_putWord at h
  show EV X mX7_putWord 0 [(0, .ref a0), (1, .ref a1), (2, .int a2)] [] w none q
  refine EV.aload_n 0 dX7_putWord_0 rfl rfl ?_
  obtain ⟨v11, gv11, h⟩ := px_bs h
  refine ev_gI dX7_putWord_1 flRX7_37 gv11 ?_
  refine EV.if_eq 20 dX7_putWord_4 (by decide) (fun c12 => ?_) (fun c12 => ?_)
  · rw [if_pos c12] at h
    refine EV.aload_n 0 dX7_putWord_20 rfl rfl ?_
    refine EV.aload_n 1 dX7_putWord_21 rfl rfl ?_
    obtain ⟨v13, gv13, h⟩ := px_bs h
    refine ev_gR dX7_putWord_22 flRX7_117 gv13 ?_
    refine EV.iload_n 2 dX7_putWord_25 rfl rfl ?_
    obtain ⟨v14, gv14, h⟩ := px_bs h
    refine ev_aI dX7_putWord_26 gv14 ?_
    refine EV.aload_n 1 dX7_putWord_27 rfl rfl ?_
    obtain ⟨v15, gv15, h⟩ := px_bs h
    refine ev_gR dX7_putWord_28 flRX7_120 gv15 ?_
    refine EV.iload_n 2 dX7_putWord_31 rfl rfl ?_
    obtain ⟨v16, gv16, h⟩ := px_bs h
    refine ev_aI dX7_putWord_32 gv16 ?_
    obtain ⟨o17, go17, h⟩ := px_bs h
    obtain ⟨q18, gq18, h⟩ := px_bs h
    refine EV.callV (As := [.int v14, .int v16]) (rest := []) dX7_putWord_33 kcX7_putWord_104 (gO_ok go17) rfl rfl rfl (Nat.le_of_ble_eq_true rfl) (Nat.le_of_ble_eq_true rfl) (eX7_putBits gq18) ?_
    cases h
    exact EV.ret0 dX7_putWord_36 trivial
  · rw [if_neg c12] at h
    refine EV.aload_n 1 dX7_putWord_7 rfl rfl ?_
    obtain ⟨v19, gv19, h⟩ := px_bs h
    refine ev_gR dX7_putWord_8 flRX7_112 gv19 ?_
    refine EV.iload_n 2 dX7_putWord_11 rfl rfl ?_
    refine EV.dup2 dX7_putWord_12 rfl rfl ?_
    obtain ⟨v20, gv20, h⟩ := px_bs h
    refine ev_aI dX7_putWord_13 gv20 ?_
    refine EV.iconst (1) dX7_putWord_14 (by decide) ?_
    refine EV.iadd dX7_putWord_15 ?_
    obtain ⟨w21, gw21, h⟩ := px_bs h
    refine ev_sI dX7_putWord_16 gw21 ?_
    refine EV.goto 36 dX7_putWord_17 (by decide) ?_
    cases h
    exact EV.ret0 dX7_putWord_36 trivial
/-! WavePictures$ScanWriter.sendRun(LWavePictures$BestTable;)V -/
theorem dX7_sendRun_0 : decode cX7_sendRun 0 = .ok (.aload_n 0, 1) := by decide +kernel
theorem dX7_sendRun_1 : decode cX7_sendRun 1 = .ok (.getfield 169, 3) := by decide +kernel
theorem dX7_sendRun_4 : decode cX7_sendRun 4 = .ok (.ifCond .ne 4, 3) := by decide +kernel
theorem dX7_sendRun_7 : decode cX7_sendRun 7 = .ok (.return_, 1) := by decide +kernel
theorem dX7_sendRun_8 : decode cX7_sendRun 8 = .ok (.aload_n 0, 1) := by decide +kernel
theorem dX7_sendRun_9 : decode cX7_sendRun 9 = .ok (.getfield 169, 3) := by decide +kernel
theorem dX7_sendRun_12 : decode cX7_sendRun 12 = .ok (.invokestatic 131, 3) := by decide +kernel
theorem dX7_sendRun_15 : decode cX7_sendRun 15 = .ok (.iconst 1, 1) := by decide +kernel
theorem dX7_sendRun_16 : decode cX7_sendRun 16 = .ok (.isub, 1) := by decide +kernel
theorem dX7_sendRun_17 : decode cX7_sendRun 17 = .ok (.istore_n 2, 1) := by decide +kernel
theorem dX7_sendRun_18 : decode cX7_sendRun 18 = .ok (.aload_n 0, 1) := by decide +kernel
theorem dX7_sendRun_19 : decode cX7_sendRun 19 = .ok (.aload_n 1, 1) := by decide +kernel
theorem dX7_sendRun_20 : decode cX7_sendRun 20 = .ok (.bipush 16, 2) := by decide +kernel
theorem dX7_sendRun_22 : decode cX7_sendRun 22 = .ok (.iload_n 2, 1) := by decide +kernel
theorem dX7_sendRun_23 : decode cX7_sendRun 23 = .ok (.imul, 1) := by decide +kernel
theorem dX7_sendRun_24 : decode cX7_sendRun 24 = .ok (.invokevirtual 135, 3) := by decide +kernel
theorem dX7_sendRun_27 : decode cX7_sendRun 27 = .ok (.aload_n 0, 1) := by decide +kernel
theorem dX7_sendRun_28 : decode cX7_sendRun 28 = .ok (.aload_n 0, 1) := by decide +kernel
theorem dX7_sendRun_29 : decode cX7_sendRun 29 = .ok (.getfield 169, 3) := by decide +kernel
theorem dX7_sendRun_32 : decode cX7_sendRun 32 = .ok (.iload_n 2, 1) := by decide +kernel
theorem dX7_sendRun_33 : decode cX7_sendRun 33 = .ok (.invokevirtual 104, 3) := by decide +kernel
theorem dX7_sendRun_36 : decode cX7_sendRun 36 = .ok (.iconst 0, 1) := by decide +kernel
theorem dX7_sendRun_37 : decode cX7_sendRun 37 = .ok (.istore_n 3, 1) := by decide +kernel
theorem dX7_sendRun_38 : decode cX7_sendRun 38 = .ok (.iload_n 3, 1) := by decide +kernel
theorem dX7_sendRun_39 : decode cX7_sendRun 39 = .ok (.aload_n 0, 1) := by decide +kernel
theorem dX7_sendRun_40 : decode cX7_sendRun 40 = .ok (.getfield 172, 3) := by decide +kernel
theorem dX7_sendRun_43 : decode cX7_sendRun 43 = .ok (.if_icmp .ge 20, 3) := by decide +kernel
theorem dX7_sendRun_46 : decode cX7_sendRun 46 = .ok (.aload_n 0, 1) := by decide +kernel
theorem dX7_sendRun_47 : decode cX7_sendRun 47 = .ok (.aload_n 0, 1) := by decide +kernel
theorem dX7_sendRun_48 : decode cX7_sendRun 48 = .ok (.getfield 9, 3) := by decide +kernel
theorem dX7_sendRun_51 : decode cX7_sendRun 51 = .ok (.iload_n 3, 1) := by decide +kernel
theorem dX7_sendRun_52 : decode cX7_sendRun 52 = .ok (.iaload, 1) := by decide +kernel
theorem dX7_sendRun_53 : decode cX7_sendRun 53 = .ok (.iconst 1, 1) := by decide +kernel
theorem dX7_sendRun_54 : decode cX7_sendRun 54 = .ok (.invokevirtual 104, 3) := by decide +kernel
theorem dX7_sendRun_57 : decode cX7_sendRun 57 = .ok (.iinc 3 1, 3) := by decide +kernel
theorem dX7_sendRun_60 : decode cX7_sendRun 60 = .ok (.goto (-22), 3) := by decide +kernel
theorem dX7_sendRun_63 : decode cX7_sendRun 63 = .ok (.aload_n 0, 1) := by decide +kernel
theorem dX7_sendRun_64 : decode cX7_sendRun 64 = .ok (.iconst 0, 1) := by decide +kernel
theorem dX7_sendRun_65 : decode cX7_sendRun 65 = .ok (.putfield 169, 3) := by decide +kernel
theorem dX7_sendRun_68 : decode cX7_sendRun 68 = .ok (.aload_n 0, 1) := by decide +kernel
theorem dX7_sendRun_69 : decode cX7_sendRun 69 = .ok (.iconst 0, 1) := by decide +kernel
theorem dX7_sendRun_70 : decode cX7_sendRun 70 = .ok (.putfield 172, 3) := by decide +kernel
theorem dX7_sendRun_73 : decode cX7_sendRun 73 = .ok (.return_, 1) := by decide +kernel
theorem flRX7_9 : px_f RX7 9 7 9 := ⟨_, rfl, by decide, Or.inl (tb2 (List.mem_of_getElem? (i := 228) rfl))⟩
theorem flRX7_169 : px_f RX7 169 7 7 := ⟨_, rfl, by decide, Or.inl (tb2 (List.mem_of_getElem? (i := 226) rfl))⟩
theorem flRX7_172 : px_f RX7 172 7 8 := ⟨_, rfl, by decide, Or.inl (tb2 (List.mem_of_getElem? (i := 227) rfl))⟩
theorem kcX7_sendRun_104 : px_cV mX7_sendRun 104 mX7_putBits 2 := ⟨⟨mbX7_putBits, by decide, by decide⟩, Or.inl (tb5 (List.mem_of_getElem? (i := 12) rfl)), vbX7_putBits⟩
theorem mbX11_sizeOf : px_mB mX11_sizeOf 1 := ⟨tb5 (List.mem_of_getElem? (i := 2) rfl), by decide +kernel, tb1 (List.mem_of_getElem? (i := 1) rfl), by decide +kernel, by decide +kernel⟩
theorem kcX7_sendRun_131 : px_cS mX7_sendRun 131 mX11_sizeOf 1 := ⟨⟨mbX11_sizeOf, by decide, by decide⟩, Or.inr ⟨"WavePictures", tT5 (List.mem_of_getElem? (i := 0) rfl)⟩, tb5 (List.mem_of_getElem? (i := 1) rfl)⟩
theorem mbX7_putWord : px_mB mX7_putWord 2 := ⟨tb5 (List.mem_of_getElem? (i := 11) rfl), by decide +kernel, tb1 (List.mem_of_getElem? (i := 12) rfl), by decide +kernel, by decide +kernel⟩
theorem vbX7_putWord : px_vB mX7_putWord := ⟨tb5 (List.mem_of_getElem? (i := 10) rfl), List.mem_append_left _ (List.mem_of_getElem? (i := 51) (by decide +kernel))⟩
theorem kcX7_sendRun_135 : px_cV mX7_sendRun 135 mX7_putWord 2 := ⟨⟨mbX7_putWord, by decide, by decide⟩, Or.inl (tb5 (List.mem_of_getElem? (i := 8) rfl)), vbX7_putWord⟩
set_option maxRecDepth 100000 in
set_option maxHeartbeats 4000000 in
theorem eX7_sendRun_63 {X : px_X}  : ∀ (a0 : Nat) (w : px_W) (q : px_W), fX7_sendRun_63 X  a0 w = some q → EV X mX7_sendRun 63 [(0, .ref a0)] [] w none q := by
  intro a0 w q h
  unfold fX7_sendRun_63 at h
  refine EV.aload_n 0 dX7_sendRun_63 rfl rfl ?_
  refine EV.iconst (0) dX7_sendRun_64 (by decide) ?_
  obtain ⟨w16, gw16, h⟩ := px_bs h
  refine ev_pV dX7_sendRun_65 flRX7_169 rfl rfl rfl rfl gw16 ?_
  refine EV.aload_n 0 dX7_sendRun_68 rfl rfl ?_
  refine EV.iconst (0) dX7_sendRun_69 (by decide) ?_
  obtain ⟨w17, gw17, h⟩ := px_bs h
  refine ev_pV dX7_sendRun_70 flRX7_172 rfl rfl rfl rfl gw17 ?_
  cases h
  exact EV.ret0 dX7_sendRun_73 trivial
set_option maxRecDepth 100000 in
set_option maxHeartbeats 4000000 in
theorem eX7_sendRun_38 {X : px_X}  : ∀ (m : Nat) (a0 : Nat) (a3 : Int32) (w : px_W) (q : px_W), fX7_sendRun_38 X  m a0 a3 w = some q → EV X mX7_sendRun 38 [(0, .ref a0), (3, .int a3)] [] w none q := by
  intro m
  induction m with
  | zero => intro a0 a3 w q h; cases h
  | succ m ih =>
    intro a0 a3 w q h
    rw [fX7_sendRun_38.eq_2] at h
    refine EV.iload_n 1 dX7_sendRun_38 rfl rfl ?_
    refine EV.aload_n 0 dX7_sendRun_39 rfl rfl ?_
    obtain ⟨v18, gv18, h⟩ := px_bs h
    refine ev_gI dX7_sendRun_40 flRX7_172 gv18 ?_
    refine EV.icmp_ge 63 dX7_sendRun_43 (by decide) (fun c19 => ?_) (fun c19 => ?_)
    · rw [if_pos c19] at h
      refine EV.sub [0] rfl ?_
      exact eX7_sendRun_63  _ _ _ h
    · rw [if_neg c19] at h
      refine EV.aload_n 0 dX7_sendRun_46 rfl rfl ?_
      refine EV.aload_n 0 dX7_sendRun_47 rfl rfl ?_
      obtain ⟨v20, gv20, h⟩ := px_bs h
      refine ev_gR dX7_sendRun_48 flRX7_9 gv20 ?_
      refine EV.iload_n 1 dX7_sendRun_51 rfl rfl ?_
      obtain ⟨v21, gv21, h⟩ := px_bs h
      refine ev_aI dX7_sendRun_52 gv21 ?_
      refine EV.iconst (1) dX7_sendRun_53 (by decide) ?_
      obtain ⟨o22, go22, h⟩ := px_bs h
      obtain ⟨q23, gq23, h⟩ := px_bs h
      refine EV.callV (As := [.int v21, .int 1]) (rest := []) dX7_sendRun_54 kcX7_sendRun_104 (gO_ok go22) rfl rfl rfl (Nat.le_of_ble_eq_true rfl) (Nat.le_of_ble_eq_true rfl) (eX7_putBits gq23) ?_
      refine EV.iinc 1 (a3 + 1) [(3, .int (a3 + 1)), (0, .ref a0)] dX7_sendRun_57 rfl rfl (by decide) rfl ?_
      refine EV.goto 38 dX7_sendRun_60 (by decide) ?_
      refine EV.sub [1, 0] rfl ?_
      exact ih _ _ _ _ h
set_option maxRecDepth 100000 in
set_option maxHeartbeats 4000000 in
theorem eX7_sendRun {X : px_X} {w : px_W} {a0 : Nat} {a1 : Nat} {q : px_W} (h : fX7_sendRun X w a0 a1 = some q) : EV X mX7_sendRun 0 (lv_args 0 [.ref a0, .ref a1]) [] w none q := by
  unfold fX7_sendRun at h
  show EV X mX7_sendRun 0 [(0, .ref a0), (1, .ref a1)] [] w none q
  refine EV.aload_n 0 dX7_sendRun_0 rfl rfl ?_
  obtain ⟨v24, gv24, h⟩ := px_bs h
  refine ev_gI dX7_sendRun_1 flRX7_169 gv24 ?_
  refine EV.if_ne 8 dX7_sendRun_4 (by decide) (fun c25 => ?_) (fun c25 => ?_)
  · rw [if_neg c25] at h
    refine EV.aload_n 0 dX7_sendRun_8 rfl rfl ?_
    obtain ⟨v26, gv26, h⟩ := px_bs h
    refine ev_gI dX7_sendRun_9 flRX7_169 gv26 ?_
    obtain ⟨q27, gq27, h⟩ := px_bs h
    refine EV.callS (As := [.int v26]) (rest := []) dX7_sendRun_12 kcX7_sendRun_131 rfl (Nat.le_of_ble_eq_true rfl) (Nat.le_of_ble_eq_true rfl) (eX11_sizeOf gq27) ?_
    refine EV.iconst (1) dX7_sendRun_15 (by decide) ?_
    refine EV.isub dX7_sendRun_16 ?_
    refine EV.istore_n [(2, .int (q27.1 - 1)), (0, .ref a0), (1, .ref a1)] dX7_sendRun_17 rfl (by decide) rfl ?_
    refine EV.aload_n 1 dX7_sendRun_18 rfl rfl ?_
    refine EV.aload_n 2 dX7_sendRun_19 rfl rfl ?_
    refine EV.bipush (16) dX7_sendRun_20 (by decide) ?_
    refine EV.iload_n 0 dX7_sendRun_22 rfl rfl ?_
    refine EV.imul dX7_sendRun_23 ?_
    obtain ⟨o28, go28, h⟩ := px_bs h
    obtain ⟨q29, gq29, h⟩ := px_bs h
    refine EV.callV (As := [.ref a1, .int (16 * (q27.1 - 1))]) (rest := []) dX7_sendRun_24 kcX7_sendRun_135 (gO_ok go28) rfl rfl rfl (Nat.le_of_ble_eq_true rfl) (Nat.le_of_ble_eq_true rfl) (eX7_putWord gq29) ?_
    refine EV.aload_n 1 dX7_sendRun_27 rfl rfl ?_
    refine EV.aload_n 1 dX7_sendRun_28 rfl rfl ?_
    obtain ⟨v30, gv30, h⟩ := px_bs h
    refine ev_gI dX7_sendRun_29 flRX7_169 gv30 ?_
    refine EV.iload_n 0 dX7_sendRun_32 rfl rfl ?_
    obtain ⟨o31, go31, h⟩ := px_bs h
    obtain ⟨q32, gq32, h⟩ := px_bs h
    refine EV.callV (As := [.int v30, .int (q27.1 - 1)]) (rest := []) dX7_sendRun_33 kcX7_sendRun_104 (gO_ok go31) rfl rfl rfl (Nat.le_of_ble_eq_true rfl) (Nat.le_of_ble_eq_true rfl) (eX7_putBits gq32) ?_
    refine EV.iconst (0) dX7_sendRun_36 (by decide) ?_
    refine EV.istore_n [(3, .int 0), (2, .int (q27.1 - 1)), (0, .ref a0), (1, .ref a1)] dX7_sendRun_37 rfl (by decide) rfl ?_
    refine EV.sub [2, 0] rfl ?_
    exact eX7_sendRun_38  FU _ _ _ _ h
  · rw [if_pos c25] at h
    cases h
    exact EV.ret0 dX7_sendRun_7 trivial
/-! WavePictures$ScanWriter.endBits()V -/
theorem dX7_endBits_0 : decode cX7_endBits 0 = .ok (.aload_n 0, 1) := by decide +kernel
theorem dX7_endBits_1 : decode cX7_endBits 1 = .ok (.aload_n 0, 1) := by decide +kernel
theorem dX7_endBits_2 : decode cX7_endBits 2 = .ok (.getfield 25, 3) := by decide +kernel
theorem dX7_endBits_5 : decode cX7_endBits 5 = .ok (.iconst 4, 1) := by decide +kernel
theorem dX7_endBits_6 : decode cX7_endBits 6 = .ok (.aload_n 0, 1) := by decide +kernel
theorem dX7_endBits_7 : decode cX7_endBits 7 = .ok (.getfield 21, 3) := by decide +kernel
theorem dX7_endBits_10 : decode cX7_endBits 10 = .ok (.getfield 69, 3) := by decide +kernel
theorem dX7_endBits_13 : decode cX7_endBits 13 = .ok (.iconst 0, 1) := by decide +kernel
theorem dX7_endBits_14 : decode cX7_endBits 14 = .ok (.iaload, 1) := by decide +kernel
theorem dX7_endBits_15 : decode cX7_endBits 15 = .ok (.iadd, 1) := by decide +kernel
theorem dX7_endBits_16 : decode cX7_endBits 16 = .ok (.aaload, 1) := by decide +kernel
theorem dX7_endBits_17 : decode cX7_endBits 17 = .ok (.invokevirtual 100, 3) := by decide +kernel
theorem dX7_endBits_20 : decode cX7_endBits 20 = .ok (.aload_n 0, 1) := by decide +kernel
theorem dX7_endBits_21 : decode cX7_endBits 21 = .ok (.getfield 45, 3) := by decide +kernel
theorem dX7_endBits_24 : decode cX7_endBits 24 = .ok (.ifCond .le 25, 3) := by decide +kernel
theorem dX7_endBits_27 : decode cX7_endBits 27 = .ok (.aload_n 0, 1) := by decide +kernel
theorem dX7_endBits_28 : decode cX7_endBits 28 = .ok (.iconst 1, 1) := by decide +kernel
theorem dX7_endBits_29 : decode cX7_endBits 29 = .ok (.bipush 8, 2) := by decide +kernel
theorem dX7_endBits_31 : decode cX7_endBits 31 = .ok (.aload_n 0, 1) := by decide +kernel
theorem dX7_endBits_32 : decode cX7_endBits 32 = .ok (.getfield 45, 3) := by decide +kernel
theorem dX7_endBits_35 : decode cX7_endBits 35 = .ok (.isub, 1) := by decide +kernel
theorem dX7_endBits_36 : decode cX7_endBits 36 = .ok (.ishl, 1) := by decide +kernel
theorem dX7_endBits_37 : decode cX7_endBits 37 = .ok (.iconst 1, 1) := by decide +kernel
theorem dX7_endBits_38 : decode cX7_endBits 38 = .ok (.isub, 1) := by decide +kernel
theorem dX7_endBits_39 : decode cX7_endBits 39 = .ok (.bipush 8, 2) := by decide +kernel
theorem dX7_endBits_41 : decode cX7_endBits 41 = .ok (.aload_n 0, 1) := by decide +kernel
theorem dX7_endBits_42 : decode cX7_endBits 42 = .ok (.getfield 45, 3) := by decide +kernel
theorem dX7_endBits_45 : decode cX7_endBits 45 = .ok (.isub, 1) := by decide +kernel
theorem dX7_endBits_46 : decode cX7_endBits 46 = .ok (.invokevirtual 104, 3) := by decide +kernel
theorem dX7_endBits_49 : decode cX7_endBits 49 = .ok (.return_, 1) := by decide +kernel
theorem flRX7_21 : px_f RX7 21 7 2 := ⟨_, rfl, by decide, Or.inl (tb2 (List.mem_of_getElem? (i := 221) rfl))⟩
theorem flRX7_25 : px_f RX7 25 7 3 := ⟨_, rfl, by decide, Or.inl (tb2 (List.mem_of_getElem? (i := 222) rfl))⟩
theorem flRX7_69 : px_f RX7 69 5 5 := ⟨_, rfl, by decide, Or.inl (tb1 (List.mem_of_getElem? (i := 206) rfl))⟩
theorem mbX7_sendRun : px_mB mX7_sendRun 1 := ⟨tb4 (List.mem_of_getElem? (i := 239) rfl), by decide +kernel, tb1 (List.mem_of_getElem? (i := 12) rfl), by decide +kernel, by decide +kernel⟩
theorem vbX7_sendRun : px_vB mX7_sendRun := ⟨tb4 (List.mem_of_getElem? (i := 238) rfl), List.mem_append_left _ (List.mem_of_getElem? (i := 50) (by decide +kernel))⟩
theorem kcX7_endBits_100 : px_cV mX7_endBits 100 mX7_sendRun 1 := ⟨⟨mbX7_sendRun, by decide, by decide⟩, Or.inl (tb4 (List.mem_of_getElem? (i := 236) rfl)), vbX7_sendRun⟩
theorem kcX7_endBits_104 : px_cV mX7_endBits 104 mX7_putBits 2 := ⟨⟨mbX7_putBits, by decide, by decide⟩, Or.inl (tb5 (List.mem_of_getElem? (i := 12) rfl)), vbX7_putBits⟩
set_option maxRecDepth 100000 in
set_option maxHeartbeats 4000000 in
theorem eX7_endBits {X : px_X} {w : px_W} {a0 : Nat} {q : px_W} (h : fX7_endBits X w a0 = some q) : EV X mX7_endBits 0 (lv_args 0 [.ref a0]) [] w none q := by
  unfold fX7_endBits at h
  show EV X mX7_endBits 0 [(0, .ref a0)] [] w none q
  refine EV.aload_n 0 dX7_endBits_0 rfl rfl ?_
  refine EV.aload_n 0 dX7_endBits_1 rfl rfl ?_
  obtain ⟨v13, gv13, h⟩ := px_bs h
  refine ev_gR dX7_endBits_2 flRX7_25 gv13 ?_
  refine EV.iconst (4) dX7_endBits_5 (by decide) ?_
  refine EV.aload_n 0 dX7_endBits_6 rfl rfl ?_
  obtain ⟨v14, gv14, h⟩ := px_bs h
  refine ev_gR dX7_endBits_7 flRX7_21 gv14 ?_
  obtain ⟨v15, gv15, h⟩ := px_bs h
  refine ev_gR dX7_endBits_10 flRX7_69 gv15 ?_
  refine EV.iconst (0) dX7_endBits_13 (by decide) ?_
  obtain ⟨v16, gv16, h⟩ := px_bs h
  refine ev_aI dX7_endBits_14 gv16 ?_
  refine EV.iadd dX7_endBits_15 ?_
  obtain ⟨v17, gv17, h⟩ := px_bs h
  refine ev_aQ dX7_endBits_16 (t := 5) rfl gv17 ?_
  obtain ⟨o18, go18, h⟩ := px_bs h
  obtain ⟨q19, gq19, h⟩ := px_bs h
  refine EV.callV (As := [.ref v17]) (rest := []) dX7_endBits_17 kcX7_endBits_100 (gO_ok go18) rfl rfl rfl (Nat.le_of_ble_eq_true rfl) (Nat.le_of_ble_eq_true rfl) (eX7_sendRun gq19) ?_
  refine EV.aload_n 0 dX7_endBits_20 rfl rfl ?_
  obtain ⟨v20, gv20, h⟩ := px_bs h
  refine ev_gI dX7_endBits_21 flRX7_45 gv20 ?_
  refine EV.if_le 49 dX7_endBits_24 (by decide) (fun c21 => ?_) (fun c21 => ?_)
  · rw [if_pos c21] at h
    cases h
    exact EV.ret0 dX7_endBits_49 trivial
  · rw [if_neg c21] at h
    refine EV.aload_n 0 dX7_endBits_27 rfl rfl ?_
    refine EV.iconst (1) dX7_endBits_28 (by decide) ?_
    refine EV.bipush (8) dX7_endBits_29 (by decide) ?_
    refine EV.aload_n 0 dX7_endBits_31 rfl rfl ?_
    obtain ⟨v22, gv22, h⟩ := px_bs h
    refine ev_gI dX7_endBits_32 flRX7_45 gv22 ?_
    refine EV.isub dX7_endBits_35 ?_
    refine EV.ishl dX7_endBits_36 ?_
    refine EV.iconst (1) dX7_endBits_37 (by decide) ?_
    refine EV.isub dX7_endBits_38 ?_
    refine EV.bipush (8) dX7_endBits_39 (by decide) ?_
    refine EV.aload_n 0 dX7_endBits_41 rfl rfl ?_
    obtain ⟨v23, gv23, h⟩ := px_bs h
    refine ev_gI dX7_endBits_42 flRX7_45 gv23 ?_
    refine EV.isub dX7_endBits_45 ?_
    obtain ⟨o24, go24, h⟩ := px_bs h
    obtain ⟨q25, gq25, h⟩ := px_bs h
    refine EV.callV (As := [.int (((1 : Int32) <<< ((8 - v22) &&& 31)) - 1), .int (8 - v23)]) (rest := []) dX7_endBits_46 kcX7_endBits_104 (gO_ok go24) rfl rfl rfl (Nat.le_of_ble_eq_true rfl) (Nat.le_of_ble_eq_true rfl) (eX7_putBits gq25) ?_
    cases h
    exact EV.ret0 dX7_endBits_49 trivial
/-! WavePictures$ScanWriter.writeRestart(I)V -/
theorem dX7_writeRestart_0 : decode cX7_writeRestart 0 = .ok (.aload_n 0, 1) := by decide +kernel
theorem dX7_writeRestart_1 : decode cX7_writeRestart 1 = .ok (.getfield 37, 3) := by decide +kernel
theorem dX7_writeRestart_4 : decode cX7_writeRestart 4 = .ok (.ifCond .ne 21, 3) := by decide +kernel
theorem dX7_writeRestart_7 : decode cX7_writeRestart 7 = .ok (.aload_n 0, 1) := by decide +kernel
theorem dX7_writeRestart_8 : decode cX7_writeRestart 8 = .ok (.getfield 29, 3) := by decide +kernel
theorem dX7_writeRestart_11 : decode cX7_writeRestart 11 = .ok (.sipush 255, 3) := by decide +kernel
theorem dX7_writeRestart_14 : decode cX7_writeRestart 14 = .ok (.invokevirtual 107, 3) := by decide +kernel
theorem dX7_writeRestart_17 : decode cX7_writeRestart 17 = .ok (.aload_n 0, 1) := by decide +kernel
theorem dX7_writeRestart_18 : decode cX7_writeRestart 18 = .ok (.getfield 29, 3) := by decide +kernel
theorem dX7_writeRestart_21 : decode cX7_writeRestart 21 = .ok (.iload_n 1, 1) := by decide +kernel
theorem dX7_writeRestart_22 : decode cX7_writeRestart 22 = .ok (.invokevirtual 107, 3) := by decide +kernel
theorem dX7_writeRestart_25 : decode cX7_writeRestart 25 = .ok (.aload_n 0, 1) := by decide +kernel
theorem dX7_writeRestart_26 : decode cX7_writeRestart 26 = .ok (.getfield 18, 3) := by decide +kernel
theorem dX7_writeRestart_29 : decode cX7_writeRestart 29 = .ok (.iconst 0, 1) := by decide +kernel
theorem dX7_writeRestart_30 : decode cX7_writeRestart 30 = .ok (.invokestatic 48, 3) := by decide +kernel
theorem dX7_writeRestart_33 : decode cX7_writeRestart 33 = .ok (.return_, 1) := by decide +kernel
theorem flRX7_18 : px_f RX7 18 7 12 := ⟨_, rfl, by decide, Or.inl (tb2 (List.mem_of_getElem? (i := 231) rfl))⟩
theorem kcX7_writeRestart_48 : px_cS mX7_writeRestart 48 mJ7_fill_53178 2 := ⟨⟨mbJ7_fill_53178, by decide, by decide⟩, Or.inl (tb4 (List.mem_of_getElem? (i := 231) rfl)), tb3 (List.mem_of_getElem? (i := 141) rfl)⟩
theorem kcX7_writeRestart_107 : px_cV mX7_writeRestart 107 mX1_add 1 := ⟨⟨mbX1_add, by decide, by decide⟩, Or.inl (tb5 (List.mem_of_getElem? (i := 16) rfl)), vbX1_add⟩
set_option maxRecDepth 100000 in
set_option maxHeartbeats 4000000 in
theorem eX7_writeRestart_25 {X : px_X}  : ∀ (a0 : Nat) (w : px_W) (q : px_W), fX7_writeRestart_25 X  a0 w = some q → EV X mX7_writeRestart 25 [(0, .ref a0)] [] w none q := by
  intro a0 w q h
  unfold fX7_writeRestart_25 at h
  refine EV.aload_n 0 dX7_writeRestart_25 rfl rfl ?_
  obtain ⟨v10, gv10, h⟩ := px_bs h
  refine ev_gR dX7_writeRestart_26 flRX7_18 gv10 ?_
  refine EV.iconst (0) dX7_writeRestart_29 (by decide) ?_
  obtain ⟨q11, gq11, h⟩ := px_bs h
  refine EV.callS (As := [.ref v10, .int 0]) (rest := []) dX7_writeRestart_30 kcX7_writeRestart_48 rfl (Nat.le_of_ble_eq_true rfl) (Nat.le_of_ble_eq_true rfl) (eJ7_fill_53178 gq11) ?_
  cases h
  exact EV.ret0 dX7_writeRestart_33 trivial
set_option maxRecDepth 100000 in
set_option maxHeartbeats 4000000 in
theorem eX7_writeRestart {X : px_X} {w : px_W} {a0 : Nat} {a1 : Int32} {q : px_W} (h : fX7_writeRestart X w a0 a1 = some q) : EV X mX7_writeRestart 0 (lv_args 0 [.ref a0, .int a1]) [] w none q := by
  unfold fX7_writeRestart at h
  show EV X mX7_writeRestart 0 [(0, .ref a0), (1, .int a1)] [] w none q
  refine EV.aload_n 0 dX7_writeRestart_0 rfl rfl ?_
  obtain ⟨v12, gv12, h⟩ := px_bs h
  refine ev_gI dX7_writeRestart_1 flRX7_37 gv12 ?_
  refine EV.if_ne 25 dX7_writeRestart_4 (by decide) (fun c13 => ?_) (fun c13 => ?_)
  · rw [if_neg c13] at h
    refine EV.sub [0] rfl ?_
    exact eX7_writeRestart_25  _ _ _ h
  · rw [if_pos c13] at h
    refine EV.aload_n 0 dX7_writeRestart_7 rfl rfl ?_
    obtain ⟨v14, gv14, h⟩ := px_bs h
    refine ev_gR dX7_writeRestart_8 flRX7_29 gv14 ?_
    refine EV.sipush (255) dX7_writeRestart_11 (by decide) ?_
    obtain ⟨o15, go15, h⟩ := px_bs h
    obtain ⟨q16, gq16, h⟩ := px_bs h
    refine EV.callV (As := [.int 255]) (rest := []) dX7_writeRestart_14 kcX7_writeRestart_107 (gO_ok go15) rfl rfl rfl (Nat.le_of_ble_eq_true rfl) (Nat.le_of_ble_eq_true rfl) (eX1_add gq16) ?_
    refine EV.aload_n 0 dX7_writeRestart_17 rfl rfl ?_
    obtain ⟨v17, gv17, h⟩ := px_bs h
    refine ev_gR dX7_writeRestart_18 flRX7_29 gv17 ?_
    refine EV.iload_n 1 dX7_writeRestart_21 rfl rfl ?_
    obtain ⟨o18, go18, h⟩ := px_bs h
    obtain ⟨q19, gq19, h⟩ := px_bs h
    refine EV.callV (As := [.int a1]) (rest := []) dX7_writeRestart_22 kcX7_writeRestart_107 (gO_ok go18) rfl rfl rfl (Nat.le_of_ble_eq_true rfl) (Nat.le_of_ble_eq_true rfl) (eX1_add gq19) ?_
    refine EV.sub [0] rfl ?_
    exact eX7_writeRestart_25  _ _ _ h
/-! WavePictures$Scan.blockAt(LWavePictures$Picture;II)I -/
theorem dX5_blockAt_0 : decode cX5_blockAt 0 = .ok (.aload_n 0, 1) := by decide +kernel
theorem dX5_blockAt_1 : decode cX5_blockAt 1 = .ok (.getfield 9, 3) := by decide +kernel
theorem dX5_blockAt_4 : decode cX5_blockAt 4 = .ok (.aload_n 0, 1) := by decide +kernel
theorem dX5_blockAt_5 : decode cX5_blockAt 5 = .ok (.getfield 28, 3) := by decide +kernel
theorem dX5_blockAt_8 : decode cX5_blockAt 8 = .ok (.iload_n 3, 1) := by decide +kernel
theorem dX5_blockAt_9 : decode cX5_blockAt 9 = .ok (.iaload, 1) := by decide +kernel
theorem dX5_blockAt_10 : decode cX5_blockAt 10 = .ok (.iaload, 1) := by decide +kernel
theorem dX5_blockAt_11 : decode cX5_blockAt 11 = .ok (.istore 4, 2) := by decide +kernel
theorem dX5_blockAt_13 : decode cX5_blockAt 13 = .ok (.aload_n 0, 1) := by decide +kernel
theorem dX5_blockAt_14 : decode cX5_blockAt 14 = .ok (.getfield 49, 3) := by decide +kernel
theorem dX5_blockAt_17 : decode cX5_blockAt 17 = .ok (.iconst 1, 1) := by decide +kernel
theorem dX5_blockAt_18 : decode cX5_blockAt 18 = .ok (.if_icmp .ne 7, 3) := by decide +kernel
theorem dX5_blockAt_21 : decode cX5_blockAt 21 = .ok (.iconst 1, 1) := by decide +kernel
theorem dX5_blockAt_22 : decode cX5_blockAt 22 = .ok (.goto 10, 3) := by decide +kernel
theorem dX5_blockAt_25 : decode cX5_blockAt 25 = .ok (.aload_n 1, 1) := by decide +kernel
theorem dX5_blockAt_26 : decode cX5_blockAt 26 = .ok (.getfield 81, 3) := by decide +kernel
theorem dX5_blockAt_29 : decode cX5_blockAt 29 = .ok (.iload 4, 2) := by decide +kernel
theorem dX5_blockAt_31 : decode cX5_blockAt 31 = .ok (.iaload, 1) := by decide +kernel
theorem dX5_blockAt_32 : decode cX5_blockAt 32 = .ok (.istore 5, 2) := by decide +kernel
theorem dX5_blockAt_34 : decode cX5_blockAt 34 = .ok (.aload_n 0, 1) := by decide +kernel
theorem dX5_blockAt_35 : decode cX5_blockAt 35 = .ok (.getfield 49, 3) := by decide +kernel
theorem dX5_blockAt_38 : decode cX5_blockAt 38 = .ok (.iconst 1, 1) := by decide +kernel
theorem dX5_blockAt_39 : decode cX5_blockAt 39 = .ok (.if_icmp .ne 7, 3) := by decide +kernel
theorem dX5_blockAt_42 : decode cX5_blockAt 42 = .ok (.iconst 1, 1) := by decide +kernel
theorem dX5_blockAt_43 : decode cX5_blockAt 43 = .ok (.goto 10, 3) := by decide +kernel
theorem dX5_blockAt_46 : decode cX5_blockAt 46 = .ok (.aload_n 1, 1) := by decide +kernel
theorem dX5_blockAt_47 : decode cX5_blockAt 47 = .ok (.getfield 78, 3) := by decide +kernel
theorem dX5_blockAt_50 : decode cX5_blockAt 50 = .ok (.iload 4, 2) := by decide +kernel
theorem dX5_blockAt_52 : decode cX5_blockAt 52 = .ok (.iaload, 1) := by decide +kernel
theorem dX5_blockAt_53 : decode cX5_blockAt 53 = .ok (.istore 6, 2) := by decide +kernel
theorem dX5_blockAt_55 : decode cX5_blockAt 55 = .ok (.iload_n 2, 1) := by decide +kernel
theorem dX5_blockAt_56 : decode cX5_blockAt 56 = .ok (.aload_n 0, 1) := by decide +kernel
theorem dX5_blockAt_57 : decode cX5_blockAt 57 = .ok (.getfield 24, 3) := by decide +kernel
theorem dX5_blockAt_60 : decode cX5_blockAt 60 = .ok (.irem, 1) := by decide +kernel
theorem dX5_blockAt_61 : decode cX5_blockAt 61 = .ok (.iload 5, 2) := by decide +kernel
theorem dX5_blockAt_63 : decode cX5_blockAt 63 = .ok (.imul, 1) := by decide +kernel
theorem dX5_blockAt_64 : decode cX5_blockAt 64 = .ok (.aload_n 0, 1) := by decide +kernel
theorem dX5_blockAt_65 : decode cX5_blockAt 65 = .ok (.getfield 31, 3) := by decide +kernel
theorem dX5_blockAt_68 : decode cX5_blockAt 68 = .ok (.iload_n 3, 1) := by decide +kernel
theorem dX5_blockAt_69 : decode cX5_blockAt 69 = .ok (.iaload, 1) := by decide +kernel
theorem dX5_blockAt_70 : decode cX5_blockAt 70 = .ok (.iadd, 1) := by decide +kernel
theorem dX5_blockAt_71 : decode cX5_blockAt 71 = .ok (.istore 7, 2) := by decide +kernel
theorem dX5_blockAt_73 : decode cX5_blockAt 73 = .ok (.iload_n 2, 1) := by decide +kernel
theorem dX5_blockAt_74 : decode cX5_blockAt 74 = .ok (.aload_n 0, 1) := by decide +kernel
theorem dX5_blockAt_75 : decode cX5_blockAt 75 = .ok (.getfield 24, 3) := by decide +kernel
theorem dX5_blockAt_78 : decode cX5_blockAt 78 = .ok (.idiv, 1) := by decide +kernel
theorem dX5_blockAt_79 : decode cX5_blockAt 79 = .ok (.iload 6, 2) := by decide +kernel
theorem dX5_blockAt_81 : decode cX5_blockAt 81 = .ok (.imul, 1) := by decide +kernel
theorem dX5_blockAt_82 : decode cX5_blockAt 82 = .ok (.aload_n 0, 1) := by decide +kernel
theorem dX5_blockAt_83 : decode cX5_blockAt 83 = .ok (.getfield 34, 3) := by decide +kernel
theorem dX5_blockAt_86 : decode cX5_blockAt 86 = .ok (.iload_n 3, 1) := by decide +kernel
theorem dX5_blockAt_87 : decode cX5_blockAt 87 = .ok (.iaload, 1) := by decide +kernel
theorem dX5_blockAt_88 : decode cX5_blockAt 88 = .ok (.iadd, 1) := by decide +kernel
theorem dX5_blockAt_89 : decode cX5_blockAt 89 = .ok (.istore 8, 2) := by decide +kernel
theorem dX5_blockAt_91 : decode cX5_blockAt 91 = .ok (.aload_n 1, 1) := by decide +kernel
theorem dX5_blockAt_92 : decode cX5_blockAt 92 = .ok (.getfield 84, 3) := by decide +kernel
theorem dX5_blockAt_95 : decode cX5_blockAt 95 = .ok (.iload 4, 2) := by decide +kernel
theorem dX5_blockAt_97 : decode cX5_blockAt 97 = .ok (.iaload, 1) := by decide +kernel
theorem dX5_blockAt_98 : decode cX5_blockAt 98 = .ok (.iload 8, 2) := by decide +kernel
theorem dX5_blockAt_100 : decode cX5_blockAt 100 = .ok (.aload_n 1, 1) := by decide +kernel
theorem dX5_blockAt_101 : decode cX5_blockAt 101 = .ok (.getfield 87, 3) := by decide +kernel
theorem dX5_blockAt_104 : decode cX5_blockAt 104 = .ok (.iload 4, 2) := by decide +kernel
theorem dX5_blockAt_106 : decode cX5_blockAt 106 = .ok (.iaload, 1) := by decide +kernel
theorem dX5_blockAt_107 : decode cX5_blockAt 107 = .ok (.imul, 1) := by decide +kernel
theorem dX5_blockAt_108 : decode cX5_blockAt 108 = .ok (.iadd, 1) := by decide +kernel
theorem dX5_blockAt_109 : decode cX5_blockAt 109 = .ok (.iload 7, 2) := by decide +kernel
theorem dX5_blockAt_111 : decode cX5_blockAt 111 = .ok (.iadd, 1) := by decide +kernel
theorem dX5_blockAt_112 : decode cX5_blockAt 112 = .ok (.ireturn, 1) := by decide +kernel
theorem flRX5_84 : px_f RX5 84 2 10 := ⟨_, rfl, by decide, Or.inl (tb1 (List.mem_of_getElem? (i := 90) rfl))⟩
theorem flRX5_87 : px_f RX5 87 2 8 := ⟨_, rfl, by decide, Or.inl (tb1 (List.mem_of_getElem? (i := 85) rfl))⟩
set_option maxRecDepth 100000 in
set_option maxHeartbeats 4000000 in
theorem eX5_blockAt_53 {X : px_X}  : ∀ (a0 : Nat) (a1 : Nat) (a2 : Int32) (a3 : Int32) (a4 : Int32) (a5 : Int32) (s0 : Int32) (w : px_W) (q : Int32 × px_W), fX5_blockAt_53 X  a0 a1 a2 a3 a4 a5 s0 w = some q → EV X mX5_blockAt 53 [(0, .ref a0), (1, .ref a1), (2, .int a2), (3, .int a3), (4, .int a4), (5, .int a5)] [.int s0] w (some (.int q.1)) q.2 := by
  intro a0 a1 a2 a3 a4 a5 s0 w q h
  unfold fX5_blockAt_53 at h
  refine EV.istore [(6, .int s0), (0, .ref a0), (1, .ref a1), (2, .int a2), (3, .int a3), (4, .int a4), (5, .int a5)] dX5_blockAt_53 (by decide) rfl ?_
  refine EV.iload_n 3 dX5_blockAt_55 rfl rfl ?_
  refine EV.aload_n 1 dX5_blockAt_56 rfl rfl ?_
  obtain ⟨v23, gv23, h⟩ := px_bs h
  refine ev_gI dX5_blockAt_57 flRX5_24 gv23 ?_
  obtain ⟨v24, gv24, h⟩ := px_bs h
  refine ev_rI dX5_blockAt_60 gv24 ?_
  refine EV.iload 6 dX5_blockAt_61 rfl ?_
  refine EV.imul dX5_blockAt_63 ?_
  refine EV.aload_n 1 dX5_blockAt_64 rfl rfl ?_
  obtain ⟨v25, gv25, h⟩ := px_bs h
  refine ev_gR dX5_blockAt_65 flRX5_31 gv25 ?_
  refine EV.iload_n 4 dX5_blockAt_68 rfl rfl ?_
  obtain ⟨v26, gv26, h⟩ := px_bs h
  refine ev_aI dX5_blockAt_69 gv26 ?_
  refine EV.iadd dX5_blockAt_70 ?_
  refine EV.istore [(7, .int ((v24 * a5) + v26)), (6, .int s0), (0, .ref a0), (1, .ref a1), (2, .int a2), (3, .int a3), (4, .int a4), (5, .int a5)] dX5_blockAt_71 (by decide) rfl ?_
  refine EV.iload_n 4 dX5_blockAt_73 rfl rfl ?_
  refine EV.aload_n 2 dX5_blockAt_74 rfl rfl ?_
  obtain ⟨v27, gv27, h⟩ := px_bs h
  refine ev_gI dX5_blockAt_75 flRX5_24 gv27 ?_
  obtain ⟨v28, gv28, h⟩ := px_bs h
  refine ev_dI dX5_blockAt_78 gv28 ?_
  refine EV.iload 1 dX5_blockAt_79 rfl ?_
  refine EV.imul dX5_blockAt_81 ?_
  refine EV.aload_n 2 dX5_blockAt_82 rfl rfl ?_
  obtain ⟨v29, gv29, h⟩ := px_bs h
  refine ev_gR dX5_blockAt_83 flRX5_34 gv29 ?_
  refine EV.iload_n 5 dX5_blockAt_86 rfl rfl ?_
  obtain ⟨v30, gv30, h⟩ := px_bs h
  refine ev_aI dX5_blockAt_87 gv30 ?_
  refine EV.iadd dX5_blockAt_88 ?_
  refine EV.istore [(8, .int ((v28 * s0) + v30)), (7, .int ((v24 * a5) + v26)), (6, .int s0), (0, .ref a0), (1, .ref a1), (2, .int a2), (3, .int a3), (4, .int a4), (5, .int a5)] dX5_blockAt_89 (by decide) rfl ?_
  refine EV.aload_n 4 dX5_blockAt_91 rfl rfl ?_
  obtain ⟨v31, gv31, h⟩ := px_bs h
  refine ev_gR dX5_blockAt_92 flRX5_84 gv31 ?_
  refine EV.iload 7 dX5_blockAt_95 rfl ?_
  obtain ⟨v32, gv32, h⟩ := px_bs h
  refine ev_aI dX5_blockAt_97 gv32 ?_
  refine EV.iload 0 dX5_blockAt_98 rfl ?_
  refine EV.aload_n 4 dX5_blockAt_100 rfl rfl ?_
  obtain ⟨v33, gv33, h⟩ := px_bs h
  refine ev_gR dX5_blockAt_101 flRX5_87 gv33 ?_
  refine EV.iload 7 dX5_blockAt_104 rfl ?_
  obtain ⟨v34, gv34, h⟩ := px_bs h
  refine ev_aI dX5_blockAt_106 gv34 ?_
  refine EV.imul dX5_blockAt_107 ?_
  refine EV.iadd dX5_blockAt_108 ?_
  refine EV.iload 1 dX5_blockAt_109 rfl ?_
  refine EV.iadd dX5_blockAt_111 ?_
  cases h
  exact EV.reti dX5_blockAt_112 rfl
set_option maxRecDepth 100000 in
set_option maxHeartbeats 4000000 in
theorem eX5_blockAt_32 {X : px_X}  : ∀ (a0 : Nat) (a1 : Nat) (a2 : Int32) (a3 : Int32) (a4 : Int32) (s0 : Int32) (w : px_W) (q : Int32 × px_W), fX5_blockAt_32 X  a0 a1 a2 a3 a4 s0 w = some q → EV X mX5_blockAt 32 [(0, .ref a0), (1, .ref a1), (2, .int a2), (3, .int a3), (4, .int a4)] [.int s0] w (some (.int q.1)) q.2 := by
  intro a0 a1 a2 a3 a4 s0 w q h
  unfold fX5_blockAt_32 at h
  refine EV.istore [(5, .int s0), (0, .ref a0), (1, .ref a1), (2, .int a2), (3, .int a3), (4, .int a4)] dX5_blockAt_32 (by decide) rfl ?_
  refine EV.aload_n 1 dX5_blockAt_34 rfl rfl ?_
  obtain ⟨v35, gv35, h⟩ := px_bs h
  refine ev_gI dX5_blockAt_35 flRX5_49 gv35 ?_
  refine EV.iconst (1) dX5_blockAt_38 (by decide) ?_
  refine EV.icmp_ne 46 dX5_blockAt_39 (by decide) (fun c36 => ?_) (fun c36 => ?_)
  · rw [if_neg c36] at h
    refine EV.aload_n 2 dX5_blockAt_46 rfl rfl ?_
    obtain ⟨v37, gv37, h⟩ := px_bs h
    refine ev_gR dX5_blockAt_47 flRX5_78 gv37 ?_
    refine EV.iload 5 dX5_blockAt_50 rfl ?_
    obtain ⟨v38, gv38, h⟩ := px_bs h
    refine ev_aI dX5_blockAt_52 gv38 ?_
    refine EV.sub [1, 2, 3, 4, 5, 0] rfl ?_
    exact eX5_blockAt_53  _ _ _ _ _ _ _ _ _ h
  · rw [if_pos c36] at h
    refine EV.iconst (1) dX5_blockAt_42 (by decide) ?_
    refine EV.goto 53 dX5_blockAt_43 (by decide) ?_
    refine EV.sub [1, 2, 3, 4, 5, 0] rfl ?_
    exact eX5_blockAt_53  _ _ _ _ _ _ _ _ _ h
set_option maxRecDepth 100000 in
set_option maxHeartbeats 4000000 in
theorem eX5_blockAt {X : px_X} {w : px_W} {a0 : Nat} {a1 : Nat} {a2 : Int32} {a3 : Int32} {q : Int32 × px_W} (h : fX5_blockAt X w a0 a1 a2 a3 = some q) : EV X mX5_blockAt 0 (lv_args 0 [.ref a0, .ref a1, .int a2, .int a3]) [] w (some (.int q.1)) q.2 := by
  unfold fX5_blockAt at h
  show EV X mX5_blockAt 0 [(0, .ref a0), (1, .ref a1), (2, .int a2), (3, .int a3)] [] w (some (.int q.1)) q.2
  refine EV.aload_n 0 dX5_blockAt_0 rfl rfl ?_
  obtain ⟨v39, gv39, h⟩ := px_bs h
  refine ev_gR dX5_blockAt_1 flRX5_9 gv39 ?_
  refine EV.aload_n 0 dX5_blockAt_4 rfl rfl ?_
  obtain ⟨v40, gv40, h⟩ := px_bs h
  refine ev_gR dX5_blockAt_5 flRX5_28 gv40 ?_
  refine EV.iload_n 3 dX5_blockAt_8 rfl rfl ?_
  obtain ⟨v41, gv41, h⟩ := px_bs h
  refine ev_aI dX5_blockAt_9 gv41 ?_
  obtain ⟨v42, gv42, h⟩ := px_bs h
  refine ev_aI dX5_blockAt_10 gv42 ?_
  refine EV.istore [(4, .int v42), (0, .ref a0), (1, .ref a1), (2, .int a2), (3, .int a3)] dX5_blockAt_11 (by decide) rfl ?_
  refine EV.aload_n 1 dX5_blockAt_13 rfl rfl ?_
  obtain ⟨v43, gv43, h⟩ := px_bs h
  refine ev_gI dX5_blockAt_14 flRX5_49 gv43 ?_
  refine EV.iconst (1) dX5_blockAt_17 (by decide) ?_
  refine EV.icmp_ne 25 dX5_blockAt_18 (by decide) (fun c44 => ?_) (fun c44 => ?_)
  · rw [if_neg c44] at h
    refine EV.aload_n 2 dX5_blockAt_25 rfl rfl ?_
    obtain ⟨v45, gv45, h⟩ := px_bs h
    refine ev_gR dX5_blockAt_26 flRX5_81 gv45 ?_
    refine EV.iload 0 dX5_blockAt_29 rfl ?_
    obtain ⟨v46, gv46, h⟩ := px_bs h
    refine ev_aI dX5_blockAt_31 gv46 ?_
    refine EV.sub [1, 2, 3, 4, 0] rfl ?_
    exact eX5_blockAt_32  _ _ _ _ _ _ _ _ h
  · rw [if_pos c44] at h
    refine EV.iconst (1) dX5_blockAt_21 (by decide) ?_
    refine EV.goto 32 dX5_blockAt_22 (by decide) ?_
    refine EV.sub [1, 2, 3, 4, 0] rfl ?_
    exact eX5_blockAt_32  _ _ _ _ _ _ _ _ h
/-! WavePictures$Scan.isRefinement()Z -/
theorem dX5_isRefinement_0 : decode cX5_isRefinement 0 = .ok (.aload_n 0, 1) := by decide +kernel
theorem dX5_isRefinement_1 : decode cX5_isRefinement 1 = .ok (.getfield 43, 3) := by decide +kernel
theorem dX5_isRefinement_4 : decode cX5_isRefinement 4 = .ok (.ifCond .le 7, 3) := by decide +kernel
theorem dX5_isRefinement_7 : decode cX5_isRefinement 7 = .ok (.iconst 1, 1) := by decide +kernel
theorem dX5_isRefinement_8 : decode cX5_isRefinement 8 = .ok (.goto 4, 3) := by decide +kernel
theorem dX5_isRefinement_11 : decode cX5_isRefinement 11 = .ok (.iconst 0, 1) := by decide +kernel
theorem dX5_isRefinement_12 : decode cX5_isRefinement 12 = .ok (.ireturn, 1) := by decide +kernel
theorem flRX5_43 : px_f RX5 43 5 3 := ⟨_, rfl, by decide, Or.inl (tb1 (List.mem_of_getElem? (i := 197) rfl))⟩
set_option maxRecDepth 100000 in
set_option maxHeartbeats 4000000 in
theorem eX5_isRefinement {X : px_X} {w : px_W} {a0 : Nat} {q : Int32 × px_W} (h : fX5_isRefinement X w a0 = some q) : EV X mX5_isRefinement 0 (lv_args 0 [.ref a0]) [] w (some (.int q.1)) q.2 := by
  unfold fX5_isRefinement at h
  show EV X mX5_isRefinement 0 [(0, .ref a0)] [] w (some (.int q.1)) q.2
  refine EV.aload_n 0 dX5_isRefinement_0 rfl rfl ?_
  obtain ⟨v2, gv2, h⟩ := px_bs h
  refine ev_gI dX5_isRefinement_1 flRX5_43 gv2 ?_
  refine EV.if_le 11 dX5_isRefinement_4 (by decide) (fun c3 => ?_) (fun c3 => ?_)
  · rw [if_pos c3] at h
    refine EV.iconst (0) dX5_isRefinement_11 (by decide) ?_
    cases h
    exact EV.reti dX5_isRefinement_12 rfl
  · rw [if_neg c3] at h
    refine EV.iconst (1) dX5_isRefinement_7 (by decide) ?_
    refine EV.goto 12 dX5_isRefinement_8 (by decide) ?_
    cases h
    exact EV.reti dX5_isRefinement_12 rfl
/-! WavePictures$ScanWriter.putNumber(II)V -/
theorem dX7_putNumber_0 : decode cX7_putNumber 0 = .ok (.aload_n 0, 1) := by decide +kernel
theorem dX7_putNumber_1 : decode cX7_putNumber 1 = .ok (.iload_n 1, 1) := by decide +kernel
theorem dX7_putNumber_2 : decode cX7_putNumber 2 = .ok (.ifCond .le 7, 3) := by decide +kernel
theorem dX7_putNumber_5 : decode cX7_putNumber 5 = .ok (.iload_n 1, 1) := by decide +kernel
theorem dX7_putNumber_6 : decode cX7_putNumber 6 = .ok (.goto 6, 3) := by decide +kernel
theorem dX7_putNumber_9 : decode cX7_putNumber 9 = .ok (.iload_n 1, 1) := by decide +kernel
theorem dX7_putNumber_10 : decode cX7_putNumber 10 = .ok (.iconst 1, 1) := by decide +kernel
theorem dX7_putNumber_11 : decode cX7_putNumber 11 = .ok (.isub, 1) := by decide +kernel
theorem dX7_putNumber_12 : decode cX7_putNumber 12 = .ok (.iload_n 2, 1) := by decide +kernel
theorem dX7_putNumber_13 : decode cX7_putNumber 13 = .ok (.invokevirtual 104, 3) := by decide +kernel
theorem dX7_putNumber_16 : decode cX7_putNumber 16 = .ok (.return_, 1) := by decide +kernel
theorem kcX7_putNumber_104 : px_cV mX7_putNumber 104 mX7_putBits 2 := ⟨⟨mbX7_putBits, by decide, by decide⟩, Or.inl (tb5 (List.mem_of_getElem? (i := 12) rfl)), vbX7_putBits⟩
set_option maxRecDepth 100000 in
set_option maxHeartbeats 4000000 in
theorem eX7_putNumber_12 {X : px_X}  : ∀ (a2 : Int32) (s0 : Int32) (s1 : Nat) (w : px_W) (q : px_W), fX7_putNumber_12 X  a2 s0 s1 w = some q → EV X mX7_putNumber 12 [(2, .int a2)] [.int s0, .ref s1] w none q := by
  intro a2 s0 s1 w q h
  unfold fX7_putNumber_12 at h
  refine EV.iload_n 0 dX7_putNumber_12 rfl rfl ?_
  obtain ⟨o3, go3, h⟩ := px_bs h
  obtain ⟨q4, gq4, h⟩ := px_bs h
  refine EV.callV (As := [.int s0, .int a2]) (rest := []) dX7_putNumber_13 kcX7_putNumber_104 (gO_ok go3) rfl rfl rfl (Nat.le_of_ble_eq_true rfl) (Nat.le_of_ble_eq_true rfl) (eX7_putBits gq4) ?_
  cases h
  exact EV.ret0 dX7_putNumber_16 trivial
set_option maxRecDepth 100000 in
set_option maxHeartbeats 4000000 in
theorem eX7_putNumber {X : px_X} {w : px_W} {a0 : Nat} {a1 : Int32} {a2 : Int32} {q : px_W} (h : fX7_putNumber X w a0 a1 a2 = some q) : EV X mX7_putNumber 0 (lv_args 0 [.ref a0, .int a1, .int a2]) [] w none q := by
  unfold fX7_putNumber at h
  show EV X mX7_putNumber 0 [(0, .ref a0), (1, .int a1), (2, .int a2)] [] w none q
  refine EV.aload_n 0 dX7_putNumber_0 rfl rfl ?_
  refine EV.iload_n 1 dX7_putNumber_1 rfl rfl ?_
  refine EV.if_le 9 dX7_putNumber_2 (by decide) (fun c5 => ?_) (fun c5 => ?_)
  · rw [if_pos c5] at h
    refine EV.iload_n 1 dX7_putNumber_9 rfl rfl ?_
    refine EV.iconst (1) dX7_putNumber_10 (by decide) ?_
    refine EV.isub dX7_putNumber_11 ?_
    refine EV.sub [2] rfl ?_
    exact eX7_putNumber_12  _ _ _ _ _ h
  · rw [if_neg c5] at h
    refine EV.iload_n 1 dX7_putNumber_5 rfl rfl ?_
    refine EV.goto 12 dX7_putNumber_6 (by decide) ?_
    refine EV.sub [2] rfl ?_
    exact eX7_putNumber_12  _ _ _ _ _ h
/-! WavePictures$ScanWriter.writeDirect(II)V -/
theorem dX7_writeDirect_0 : decode cX7_writeDirect 0 = .ok (.aload_n 0, 1) := by decide +kernel
theorem dX7_writeDirect_1 : decode cX7_writeDirect 1 = .ok (.getfield 33, 3) := by decide +kernel
theorem dX7_writeDirect_4 : decode cX7_writeDirect 4 = .ok (.getfield 123, 3) := by decide +kernel
theorem dX7_writeDirect_7 : decode cX7_writeDirect 7 = .ok (.iload_n 1, 1) := by decide +kernel
theorem dX7_writeDirect_8 : decode cX7_writeDirect 8 = .ok (.iaload, 1) := by decide +kernel
theorem dX7_writeDirect_9 : decode cX7_writeDirect 9 = .ok (.aload_n 0, 1) := by decide +kernel
theorem dX7_writeDirect_10 : decode cX7_writeDirect 10 = .ok (.getfield 21, 3) := by decide +kernel
theorem dX7_writeDirect_13 : decode cX7_writeDirect 13 = .ok (.getfield 128, 3) := by decide +kernel
theorem dX7_writeDirect_16 : decode cX7_writeDirect 16 = .ok (.ishr, 1) := by decide +kernel
theorem dX7_writeDirect_17 : decode cX7_writeDirect 17 = .ok (.istore_n 3, 1) := by decide +kernel
theorem dX7_writeDirect_18 : decode cX7_writeDirect 18 = .ok (.aload_n 0, 1) := by decide +kernel
theorem dX7_writeDirect_19 : decode cX7_writeDirect 19 = .ok (.getfield 21, 3) := by decide +kernel
theorem dX7_writeDirect_22 : decode cX7_writeDirect 22 = .ok (.invokevirtual 89, 3) := by decide +kernel
theorem dX7_writeDirect_25 : decode cX7_writeDirect 25 = .ok (.ifCond .eq 10, 3) := by decide +kernel
theorem dX7_writeDirect_28 : decode cX7_writeDirect 28 = .ok (.aload_n 0, 1) := by decide +kernel
theorem dX7_writeDirect_29 : decode cX7_writeDirect 29 = .ok (.iload_n 3, 1) := by decide +kernel
theorem dX7_writeDirect_30 : decode cX7_writeDirect 30 = .ok (.iconst 1, 1) := by decide +kernel
theorem dX7_writeDirect_31 : decode cX7_writeDirect 31 = .ok (.invokevirtual 104, 3) := by decide +kernel
theorem dX7_writeDirect_34 : decode cX7_writeDirect 34 = .ok (.return_, 1) := by decide +kernel
theorem dX7_writeDirect_35 : decode cX7_writeDirect 35 = .ok (.iload_n 3, 1) := by decide +kernel
theorem dX7_writeDirect_36 : decode cX7_writeDirect 36 = .ok (.aload_n 0, 1) := by decide +kernel
theorem dX7_writeDirect_37 : decode cX7_writeDirect 37 = .ok (.getfield 18, 3) := by decide +kernel
theorem dX7_writeDirect_40 : decode cX7_writeDirect 40 = .ok (.iload_n 2, 1) := by decide +kernel
theorem dX7_writeDirect_41 : decode cX7_writeDirect 41 = .ok (.iaload, 1) := by decide +kernel
theorem dX7_writeDirect_42 : decode cX7_writeDirect 42 = .ok (.isub, 1) := by decide +kernel
theorem dX7_writeDirect_43 : decode cX7_writeDirect 43 = .ok (.istore 4, 2) := by decide +kernel
theorem dX7_writeDirect_45 : decode cX7_writeDirect 45 = .ok (.aload_n 0, 1) := by decide +kernel
theorem dX7_writeDirect_46 : decode cX7_writeDirect 46 = .ok (.getfield 18, 3) := by decide +kernel
theorem dX7_writeDirect_49 : decode cX7_writeDirect 49 = .ok (.iload_n 2, 1) := by decide +kernel
theorem dX7_writeDirect_50 : decode cX7_writeDirect 50 = .ok (.iload_n 3, 1) := by decide +kernel
theorem dX7_writeDirect_51 : decode cX7_writeDirect 51 = .ok (.iastore, 1) := by decide +kernel
theorem dX7_writeDirect_52 : decode cX7_writeDirect 52 = .ok (.aload_n 0, 1) := by decide +kernel
theorem dX7_writeDirect_53 : decode cX7_writeDirect 53 = .ok (.aload_n 0, 1) := by decide +kernel
theorem dX7_writeDirect_54 : decode cX7_writeDirect 54 = .ok (.getfield 25, 3) := by decide +kernel
theorem dX7_writeDirect_57 : decode cX7_writeDirect 57 = .ok (.iload_n 2, 1) := by decide +kernel
theorem dX7_writeDirect_58 : decode cX7_writeDirect 58 = .ok (.aaload, 1) := by decide +kernel
theorem dX7_writeDirect_59 : decode cX7_writeDirect 59 = .ok (.iload 4, 2) := by decide +kernel
theorem dX7_writeDirect_61 : decode cX7_writeDirect 61 = .ok (.invokestatic 131, 3) := by decide +kernel
theorem dX7_writeDirect_64 : decode cX7_writeDirect 64 = .ok (.invokevirtual 135, 3) := by decide +kernel
theorem dX7_writeDirect_67 : decode cX7_writeDirect 67 = .ok (.aload_n 0, 1) := by decide +kernel
theorem dX7_writeDirect_68 : decode cX7_writeDirect 68 = .ok (.iload 4, 2) := by decide +kernel
theorem dX7_writeDirect_70 : decode cX7_writeDirect 70 = .ok (.iload 4, 2) := by decide +kernel
theorem dX7_writeDirect_72 : decode cX7_writeDirect 72 = .ok (.invokestatic 131, 3) := by decide +kernel
theorem dX7_writeDirect_75 : decode cX7_writeDirect 75 = .ok (.invokevirtual 139, 3) := by decide +kernel
theorem dX7_writeDirect_78 : decode cX7_writeDirect 78 = .ok (.return_, 1) := by decide +kernel
theorem flRX7_123 : px_f RX7 123 2 11 := ⟨_, rfl, by decide, Or.inl (tb1 (List.mem_of_getElem? (i := 94) rfl))⟩
theorem flRX7_128 : px_f RX7 128 5 4 := ⟨_, rfl, by decide, Or.inl (tb1 (List.mem_of_getElem? (i := 202) rfl))⟩
theorem mbX5_isRefinement : px_mB mX5_isRefinement 0 := ⟨tb4 (List.mem_of_getElem? (i := 102) rfl), by decide +kernel, tb1 (List.mem_of_getElem? (i := 7) rfl), by decide +kernel, by decide +kernel⟩
theorem vbX5_isRefinement : px_vB mX5_isRefinement := ⟨tb4 (List.mem_of_getElem? (i := 100) rfl), tb4 (List.mem_of_getElem? (i := 101) rfl)⟩
theorem kcX7_writeDirect_89 : px_cV mX7_writeDirect 89 mX5_isRefinement 0 := ⟨⟨mbX5_isRefinement, by decide, by decide⟩, Or.inl (tb5 (List.mem_of_getElem? (i := 26) rfl)), vbX5_isRefinement⟩
theorem kcX7_writeDirect_104 : px_cV mX7_writeDirect 104 mX7_putBits 2 := ⟨⟨mbX7_putBits, by decide, by decide⟩, Or.inl (tb5 (List.mem_of_getElem? (i := 12) rfl)), vbX7_putBits⟩
theorem kcX7_writeDirect_131 : px_cS mX7_writeDirect 131 mX11_sizeOf 1 := ⟨⟨mbX11_sizeOf, by decide, by decide⟩, Or.inr ⟨"WavePictures", tT5 (List.mem_of_getElem? (i := 0) rfl)⟩, tb5 (List.mem_of_getElem? (i := 1) rfl)⟩
theorem kcX7_writeDirect_135 : px_cV mX7_writeDirect 135 mX7_putWord 2 := ⟨⟨mbX7_putWord, by decide, by decide⟩, Or.inl (tb5 (List.mem_of_getElem? (i := 8) rfl)), vbX7_putWord⟩
theorem mbX7_putNumber : px_mB mX7_putNumber 2 := ⟨tb5 (List.mem_of_getElem? (i := 30) rfl), by decide +kernel, tb1 (List.mem_of_getElem? (i := 12) rfl), by decide +kernel, by decide +kernel⟩
theorem vbX7_putNumber : px_vB mX7_putNumber := ⟨tb5 (List.mem_of_getElem? (i := 29) rfl), List.mem_append_left _ (List.mem_of_getElem? (i := 55) (by decide +kernel))⟩
theorem kcX7_writeDirect_139 : px_cV mX7_writeDirect 139 mX7_putNumber 2 := ⟨⟨mbX7_putNumber, by decide, by decide⟩, Or.inl (tb5 (List.mem_of_getElem? (i := 27) rfl)), vbX7_putNumber⟩
set_option maxRecDepth 100000 in
set_option maxHeartbeats 4000000 in
theorem eX7_writeDirect {X : px_X} {w : px_W} {a0 : Nat} {a1 : Int32} {a2 : Int32} {q : px_W} (h : fX7_writeDirect X w a0 a1 a2 = some q) : EV X mX7_writeDirect 0 (lv_args 0 [.ref a0, .int a1, .int a2]) [] w none q := by
  unfold fX7_writeDirect at h
  show EV X mX7_writeDirect 0 [(0, .ref a0), (1, .int a1), (2, .int a2)] [] w none q
  refine EV.aload_n 0 dX7_writeDirect_0 rfl rfl ?_
  obtain ⟨v23, gv23, h⟩ := px_bs h
  refine ev_gR dX7_writeDirect_1 flRX7_33 gv23 ?_
  obtain ⟨v24, gv24, h⟩ := px_bs h
  refine ev_gR dX7_writeDirect_4 flRX7_123 gv24 ?_
  refine EV.iload_n 1 dX7_writeDirect_7 rfl rfl ?_
  obtain ⟨v25, gv25, h⟩ := px_bs h
  refine ev_aI dX7_writeDirect_8 gv25 ?_
  refine EV.aload_n 0 dX7_writeDirect_9 rfl rfl ?_
  obtain ⟨v26, gv26, h⟩ := px_bs h
  refine ev_gR dX7_writeDirect_10 flRX7_21 gv26 ?_
  obtain ⟨v27, gv27, h⟩ := px_bs h
  refine ev_gI dX7_writeDirect_13 flRX7_128 gv27 ?_
  refine EV.ishr dX7_writeDirect_16 ?_
  refine EV.istore_n [(3, .int (v25 >>> (v27 &&& 31))), (0, .ref a0), (1, .int a1), (2, .int a2)] dX7_writeDirect_17 rfl (by decide) rfl ?_
  refine EV.aload_n 1 dX7_writeDirect_18 rfl rfl ?_
  obtain ⟨v28, gv28, h⟩ := px_bs h
  refine ev_gR dX7_writeDirect_19 flRX7_21 gv28 ?_
  obtain ⟨o29, go29, h⟩ := px_bs h
  obtain ⟨q30, gq30, h⟩ := px_bs h
  refine EV.callV (As := []) (rest := []) dX7_writeDirect_22 kcX7_writeDirect_89 (gO_ok go29) rfl rfl rfl (Nat.le_of_ble_eq_true rfl) (Nat.le_of_ble_eq_true rfl) (eX5_isRefinement gq30) ?_
  refine EV.if_eq 35 dX7_writeDirect_25 (by decide) (fun c31 => ?_) (fun c31 => ?_)
  · rw [if_pos c31] at h
    refine EV.iload_n 0 dX7_writeDirect_35 rfl rfl ?_
    refine EV.aload_n 1 dX7_writeDirect_36 rfl rfl ?_
    obtain ⟨v32, gv32, h⟩ := px_bs h
    refine ev_gR dX7_writeDirect_37 flRX7_18 gv32 ?_
    refine EV.iload_n 3 dX7_writeDirect_40 rfl rfl ?_
    obtain ⟨v33, gv33, h⟩ := px_bs h
    refine ev_aI dX7_writeDirect_41 gv33 ?_
    refine EV.isub dX7_writeDirect_42 ?_
    refine EV.istore [(4, .int ((v25 >>> (v27 &&& 31)) - v33)), (3, .int (v25 >>> (v27 &&& 31))), (0, .ref a0), (1, .int a1), (2, .int a2)] dX7_writeDirect_43 (by decide) rfl ?_
    refine EV.aload_n 2 dX7_writeDirect_45 rfl rfl ?_
    obtain ⟨v34, gv34, h⟩ := px_bs h
    refine ev_gR dX7_writeDirect_46 flRX7_18 gv34 ?_
    refine EV.iload_n 4 dX7_writeDirect_49 rfl rfl ?_
    refine EV.iload_n 1 dX7_writeDirect_50 rfl rfl ?_
    obtain ⟨w35, gw35, h⟩ := px_bs h
    refine ev_sI dX7_writeDirect_51 gw35 ?_
    refine EV.aload_n 2 dX7_writeDirect_52 rfl rfl ?_
    refine EV.aload_n 2 dX7_writeDirect_53 rfl rfl ?_
    obtain ⟨v36, gv36, h⟩ := px_bs h
    refine ev_gR dX7_writeDirect_54 flRX7_25 gv36 ?_
    refine EV.iload_n 4 dX7_writeDirect_57 rfl rfl ?_
    obtain ⟨v37, gv37, h⟩ := px_bs h
    refine ev_aQ dX7_writeDirect_58 (t := 5) rfl gv37 ?_
    refine EV.iload 0 dX7_writeDirect_59 rfl ?_
    obtain ⟨q38, gq38, h⟩ := px_bs h
    refine EV.callS (As := [.int ((v25 >>> (v27 &&& 31)) - v33)]) (rest := [.ref v37, .ref a0]) dX7_writeDirect_61 kcX7_writeDirect_131 rfl (Nat.le_of_ble_eq_true rfl) (Nat.le_of_ble_eq_true rfl) (eX11_sizeOf gq38) ?_
    obtain ⟨o39, go39, h⟩ := px_bs h
    obtain ⟨q40, gq40, h⟩ := px_bs h
    refine EV.callV (As := [.ref v37, .int q38.1]) (rest := []) dX7_writeDirect_64 kcX7_writeDirect_135 (gO_ok go39) rfl rfl rfl (Nat.le_of_ble_eq_true rfl) (Nat.le_of_ble_eq_true rfl) (eX7_putWord gq40) ?_
    refine EV.aload_n 2 dX7_writeDirect_67 rfl rfl ?_
    refine EV.iload 0 dX7_writeDirect_68 rfl ?_
    refine EV.iload 0 dX7_writeDirect_70 rfl ?_
    obtain ⟨q41, gq41, h⟩ := px_bs h
    refine EV.callS (As := [.int ((v25 >>> (v27 &&& 31)) - v33)]) (rest := [.int ((v25 >>> (v27 &&& 31)) - v33), .ref a0]) dX7_writeDirect_72 kcX7_writeDirect_131 rfl (Nat.le_of_ble_eq_true rfl) (Nat.le_of_ble_eq_true rfl) (eX11_sizeOf gq41) ?_
    obtain ⟨o42, go42, h⟩ := px_bs h
    obtain ⟨q43, gq43, h⟩ := px_bs h
    refine EV.callV (As := [.int ((v25 >>> (v27 &&& 31)) - v33), .int q41.1]) (rest := []) dX7_writeDirect_75 kcX7_writeDirect_139 (gO_ok go42) rfl rfl rfl (Nat.le_of_ble_eq_true rfl) (Nat.le_of_ble_eq_true rfl) (eX7_putNumber gq43) ?_
    cases h
    exact EV.ret0 dX7_writeDirect_78 trivial
  · rw [if_neg c31] at h
    refine EV.aload_n 1 dX7_writeDirect_28 rfl rfl ?_
    refine EV.iload_n 0 dX7_writeDirect_29 rfl rfl ?_
    refine EV.iconst (1) dX7_writeDirect_30 (by decide) ?_
    obtain ⟨o44, go44, h⟩ := px_bs h
    obtain ⟨q45, gq45, h⟩ := px_bs h
    refine EV.callV (As := [.int (v25 >>> (v27 &&& 31)), .int 1]) (rest := []) dX7_writeDirect_31 kcX7_writeDirect_104 (gO_ok go44) rfl rfl rfl (Nat.le_of_ble_eq_true rfl) (Nat.le_of_ble_eq_true rfl) (eX7_putBits gq45) ?_
    cases h
    exact EV.ret0 dX7_writeDirect_34 trivial
/-! WavePictures$ScanWriter.lastNewOne(I)I -/
theorem dX7_lastNewOne_0 : decode cX7_lastNewOne 0 = .ok (.aload_n 0, 1) := by decide +kernel
theorem dX7_lastNewOne_1 : decode cX7_lastNewOne 1 = .ok (.getfield 21, 3) := by decide +kernel
theorem dX7_lastNewOne_4 : decode cX7_lastNewOne 4 = .ok (.getfield 86, 3) := by decide +kernel
theorem dX7_lastNewOne_7 : decode cX7_lastNewOne 7 = .ok (.istore_n 2, 1) := by decide +kernel
theorem dX7_lastNewOne_8 : decode cX7_lastNewOne 8 = .ok (.iload_n 2, 1) := by decide +kernel
theorem dX7_lastNewOne_9 : decode cX7_lastNewOne 9 = .ok (.aload_n 0, 1) := by decide +kernel
theorem dX7_lastNewOne_10 : decode cX7_lastNewOne 10 = .ok (.getfield 21, 3) := by decide +kernel
theorem dX7_lastNewOne_13 : decode cX7_lastNewOne 13 = .ok (.getfield 79, 3) := by decide +kernel
theorem dX7_lastNewOne_16 : decode cX7_lastNewOne 16 = .ok (.if_icmp .lt 35, 3) := by decide +kernel
theorem dX7_lastNewOne_19 : decode cX7_lastNewOne 19 = .ok (.aload_n 0, 1) := by decide +kernel
theorem dX7_lastNewOne_20 : decode cX7_lastNewOne 20 = .ok (.getfield 33, 3) := by decide +kernel
theorem dX7_lastNewOne_23 : decode cX7_lastNewOne 23 = .ok (.getfield 123, 3) := by decide +kernel
theorem dX7_lastNewOne_26 : decode cX7_lastNewOne 26 = .ok (.iload_n 1, 1) := by decide +kernel
theorem dX7_lastNewOne_27 : decode cX7_lastNewOne 27 = .ok (.iload_n 2, 1) := by decide +kernel
theorem dX7_lastNewOne_28 : decode cX7_lastNewOne 28 = .ok (.iadd, 1) := by decide +kernel
theorem dX7_lastNewOne_29 : decode cX7_lastNewOne 29 = .ok (.iaload, 1) := by decide +kernel
theorem dX7_lastNewOne_30 : decode cX7_lastNewOne 30 = .ok (.invokestatic 148, 3) := by decide +kernel
theorem dX7_lastNewOne_33 : decode cX7_lastNewOne 33 = .ok (.aload_n 0, 1) := by decide +kernel
theorem dX7_lastNewOne_34 : decode cX7_lastNewOne 34 = .ok (.getfield 21, 3) := by decide +kernel
theorem dX7_lastNewOne_37 : decode cX7_lastNewOne 37 = .ok (.getfield 128, 3) := by decide +kernel
theorem dX7_lastNewOne_40 : decode cX7_lastNewOne 40 = .ok (.ishr, 1) := by decide +kernel
theorem dX7_lastNewOne_41 : decode cX7_lastNewOne 41 = .ok (.iconst 1, 1) := by decide +kernel
theorem dX7_lastNewOne_42 : decode cX7_lastNewOne 42 = .ok (.if_icmp .eq 9, 3) := by decide +kernel
theorem dX7_lastNewOne_45 : decode cX7_lastNewOne 45 = .ok (.iinc 2 (-1), 3) := by decide +kernel
theorem dX7_lastNewOne_48 : decode cX7_lastNewOne 48 = .ok (.goto (-40), 3) := by decide +kernel
theorem dX7_lastNewOne_51 : decode cX7_lastNewOne 51 = .ok (.iload_n 2, 1) := by decide +kernel
theorem dX7_lastNewOne_52 : decode cX7_lastNewOne 52 = .ok (.ireturn, 1) := by decide +kernel
theorem flRX7_79 : px_f RX7 79 5 1 := ⟨_, rfl, by decide, Or.inl (tb1 (List.mem_of_getElem? (i := 189) rfl))⟩
theorem flRX7_86 : px_f RX7 86 5 2 := ⟨_, rfl, by decide, Or.inl (tb1 (List.mem_of_getElem? (i := 194) rfl))⟩
set_option maxRecDepth 100000 in
set_option maxHeartbeats 4000000 in
theorem eX7_lastNewOne_8 {X : px_X}  : ∀ (m : Nat) (a0 : Nat) (a1 : Int32) (a2 : Int32) (w : px_W) (q : Int32 × px_W), fX7_lastNewOne_8 X  m a0 a1 a2 w = some q → EV X mX7_lastNewOne 8 [(0, .ref a0), (1, .int a1), (2, .int a2)] [] w (some (.int q.1)) q.2 := by
  intro m
  induction m with
  | zero => intro a0 a1 a2 w q h; cases h
  | succ m ih =>
    intro a0 a1 a2 w q h
    rw [fX7_lastNewOne_8.eq_2] at h
    refine EV.iload_n 2 dX7_lastNewOne_8 rfl rfl ?_
    refine EV.aload_n 0 dX7_lastNewOne_9 rfl rfl ?_
    obtain ⟨v10, gv10, h⟩ := px_bs h
    refine ev_gR dX7_lastNewOne_10 flRX7_21 gv10 ?_
    obtain ⟨v11, gv11, h⟩ := px_bs h
    refine ev_gI dX7_lastNewOne_13 flRX7_79 gv11 ?_
    refine EV.icmp_lt 51 dX7_lastNewOne_16 (by decide) (fun c12 => ?_) (fun c12 => ?_)
    · rw [if_pos c12] at h
      refine EV.iload_n 2 dX7_lastNewOne_51 rfl rfl ?_
      cases h
      exact EV.reti dX7_lastNewOne_52 rfl
    · rw [if_neg c12] at h
      refine EV.aload_n 0 dX7_lastNewOne_19 rfl rfl ?_
      obtain ⟨v13, gv13, h⟩ := px_bs h
      refine ev_gR dX7_lastNewOne_20 flRX7_33 gv13 ?_
      obtain ⟨v14, gv14, h⟩ := px_bs h
      refine ev_gR dX7_lastNewOne_23 flRX7_123 gv14 ?_
      refine EV.iload_n 1 dX7_lastNewOne_26 rfl rfl ?_
      refine EV.iload_n 2 dX7_lastNewOne_27 rfl rfl ?_
      refine EV.iadd dX7_lastNewOne_28 ?_
      obtain ⟨v15, gv15, h⟩ := px_bs h
      refine ev_aI dX7_lastNewOne_29 gv15 ?_
      refine EV.mabs dX7_lastNewOne_30 (tb5 (List.mem_of_getElem? (i := 39) rfl)) (by decide) (by decide) (Nat.le_of_ble_eq_true rfl) ?_
      refine EV.aload_n 0 dX7_lastNewOne_33 rfl rfl ?_
      obtain ⟨v16, gv16, h⟩ := px_bs h
      refine ev_gR dX7_lastNewOne_34 flRX7_21 gv16 ?_
      obtain ⟨v17, gv17, h⟩ := px_bs h
      refine ev_gI dX7_lastNewOne_37 flRX7_128 gv17 ?_
      refine EV.ishr dX7_lastNewOne_40 ?_
      refine EV.iconst (1) dX7_lastNewOne_41 (by decide) ?_
      refine EV.icmp_eq 51 dX7_lastNewOne_42 (by decide) (fun c18 => ?_) (fun c18 => ?_)
      · rw [if_pos c18] at h
        refine EV.iload_n 2 dX7_lastNewOne_51 rfl rfl ?_
        cases h
        exact EV.reti dX7_lastNewOne_52 rfl
      · rw [if_neg c18] at h
        refine EV.iinc 2 (a2 + (-1)) [(2, .int (a2 + (-1))), (0, .ref a0), (1, .int a1)] dX7_lastNewOne_45 rfl rfl (by decide) rfl ?_
        refine EV.goto 8 dX7_lastNewOne_48 (by decide) ?_
        refine EV.sub [1, 2, 0] rfl ?_
        exact ih _ _ _ _ _ h
set_option maxRecDepth 100000 in
set_option maxHeartbeats 4000000 in
theorem eX7_lastNewOne {X : px_X} {w : px_W} {a0 : Nat} {a1 : Int32} {q : Int32 × px_W} (h : fX7_lastNewOne X w a0 a1 = some q) : EV X mX7_lastNewOne 0 (lv_args 0 [.ref a0, .int a1]) [] w (some (.int q.1)) q.2 := by
  unfold fX7_lastNewOne at h
  show EV X mX7_lastNewOne 0 [(0, .ref a0), (1, .int a1)] [] w (some (.int q.1)) q.2
  refine EV.aload_n 0 dX7_lastNewOne_0 rfl rfl ?_
  obtain ⟨v19, gv19, h⟩ := px_bs h
  refine ev_gR dX7_lastNewOne_1 flRX7_21 gv19 ?_
  obtain ⟨v20, gv20, h⟩ := px_bs h
  refine ev_gI dX7_lastNewOne_4 flRX7_86 gv20 ?_
  refine EV.istore_n [(2, .int v20), (0, .ref a0), (1, .int a1)] dX7_lastNewOne_7 rfl (by decide) rfl ?_
  refine EV.sub [1, 2, 0] rfl ?_
  exact eX7_lastNewOne_8  FU _ _ _ _ _ h
/-! WavePictures$ScanWriter.sendBitsToCome()V -/
theorem dX7_sendBitsToCome_0 : decode cX7_sendBitsToCome 0 = .ok (.iconst 0, 1) := by decide +kernel
theorem dX7_sendBitsToCome_1 : decode cX7_sendBitsToCome 1 = .ok (.istore_n 1, 1) := by decide +kernel
theorem dX7_sendBitsToCome_2 : decode cX7_sendBitsToCome 2 = .ok (.iload_n 1, 1) := by decide +kernel
theorem dX7_sendBitsToCome_3 : decode cX7_sendBitsToCome 3 = .ok (.aload_n 0, 1) := by decide +kernel
theorem dX7_sendBitsToCome_4 : decode cX7_sendBitsToCome 4 = .ok (.getfield 166, 3) := by decide +kernel
theorem dX7_sendBitsToCome_7 : decode cX7_sendBitsToCome 7 = .ok (.if_icmp .ge 20, 3) := by decide +kernel
theorem dX7_sendBitsToCome_10 : decode cX7_sendBitsToCome 10 = .ok (.aload_n 0, 1) := by decide +kernel
theorem dX7_sendBitsToCome_11 : decode cX7_sendBitsToCome 11 = .ok (.aload_n 0, 1) := by decide +kernel
theorem dX7_sendBitsToCome_12 : decode cX7_sendBitsToCome 12 = .ok (.getfield 15, 3) := by decide +kernel
theorem dX7_sendBitsToCome_15 : decode cX7_sendBitsToCome 15 = .ok (.iload_n 1, 1) := by decide +kernel
theorem dX7_sendBitsToCome_16 : decode cX7_sendBitsToCome 16 = .ok (.iaload, 1) := by decide +kernel
theorem dX7_sendBitsToCome_17 : decode cX7_sendBitsToCome 17 = .ok (.iconst 1, 1) := by decide +kernel
theorem dX7_sendBitsToCome_18 : decode cX7_sendBitsToCome 18 = .ok (.invokevirtual 104, 3) := by decide +kernel
theorem dX7_sendBitsToCome_21 : decode cX7_sendBitsToCome 21 = .ok (.iinc 1 1, 3) := by decide +kernel
theorem dX7_sendBitsToCome_24 : decode cX7_sendBitsToCome 24 = .ok (.goto (-22), 3) := by decide +kernel
theorem dX7_sendBitsToCome_27 : decode cX7_sendBitsToCome 27 = .ok (.aload_n 0, 1) := by decide +kernel
theorem dX7_sendBitsToCome_28 : decode cX7_sendBitsToCome 28 = .ok (.iconst 0, 1) := by decide +kernel
theorem dX7_sendBitsToCome_29 : decode cX7_sendBitsToCome 29 = .ok (.putfield 166, 3) := by decide +kernel
theorem dX7_sendBitsToCome_32 : decode cX7_sendBitsToCome 32 = .ok (.return_, 1) := by decide +kernel
theorem flRX7_15 : px_f RX7 15 7 11 := ⟨_, rfl, by decide, Or.inl (tb2 (List.mem_of_getElem? (i := 230) rfl))⟩
theorem flRX7_166 : px_f RX7 166 7 10 := ⟨_, rfl, by decide, Or.inl (tb2 (List.mem_of_getElem? (i := 229) rfl))⟩
theorem kcX7_sendBitsToCome_104 : px_cV mX7_sendBitsToCome 104 mX7_putBits 2 := ⟨⟨mbX7_putBits, by decide, by decide⟩, Or.inl (tb5 (List.mem_of_getElem? (i := 12) rfl)), vbX7_putBits⟩
set_option maxRecDepth 100000 in
set_option maxHeartbeats 4000000 in
theorem eX7_sendBitsToCome_27 {X : px_X}  : ∀ (a0 : Nat) (w : px_W) (q : px_W), fX7_sendBitsToCome_27 X  a0 w = some q → EV X mX7_sendBitsToCome 27 [(0, .ref a0)] [] w none q := by
  intro a0 w q h
  unfold fX7_sendBitsToCome_27 at h
  refine EV.aload_n 0 dX7_sendBitsToCome_27 rfl rfl ?_
  refine EV.iconst (0) dX7_sendBitsToCome_28 (by decide) ?_
  obtain ⟨w7, gw7, h⟩ := px_bs h
  refine ev_pV dX7_sendBitsToCome_29 flRX7_166 rfl rfl rfl rfl gw7 ?_
  cases h
  exact EV.ret0 dX7_sendBitsToCome_32 trivial
set_option maxRecDepth 100000 in
set_option maxHeartbeats 4000000 in
theorem eX7_sendBitsToCome_2 {X : px_X}  : ∀ (m : Nat) (a0 : Nat) (a1 : Int32) (w : px_W) (q : px_W), fX7_sendBitsToCome_2 X  m a0 a1 w = some q → EV X mX7_sendBitsToCome 2 [(0, .ref a0), (1, .int a1)] [] w none q := by
  intro m
  induction m with
  | zero => intro a0 a1 w q h; cases h
  | succ m ih =>
    intro a0 a1 w q h
    rw [fX7_sendBitsToCome_2.eq_2] at h
    refine EV.iload_n 1 dX7_sendBitsToCome_2 rfl rfl ?_
    refine EV.aload_n 0 dX7_sendBitsToCome_3 rfl rfl ?_
    obtain ⟨v8, gv8, h⟩ := px_bs h
    refine ev_gI dX7_sendBitsToCome_4 flRX7_166 gv8 ?_
    refine EV.icmp_ge 27 dX7_sendBitsToCome_7 (by decide) (fun c9 => ?_) (fun c9 => ?_)
    · rw [if_pos c9] at h
      refine EV.sub [0] rfl ?_
      exact eX7_sendBitsToCome_27  _ _ _ h
    · rw [if_neg c9] at h
      refine EV.aload_n 0 dX7_sendBitsToCome_10 rfl rfl ?_
      refine EV.aload_n 0 dX7_sendBitsToCome_11 rfl rfl ?_
      obtain ⟨v10, gv10, h⟩ := px_bs h
      refine ev_gR dX7_sendBitsToCome_12 flRX7_15 gv10 ?_
      refine EV.iload_n 1 dX7_sendBitsToCome_15 rfl rfl ?_
      obtain ⟨v11, gv11, h⟩ := px_bs h
      refine ev_aI dX7_sendBitsToCome_16 gv11 ?_
      refine EV.iconst (1) dX7_sendBitsToCome_17 (by decide) ?_
      obtain ⟨o12, go12, h⟩ := px_bs h
      obtain ⟨q13, gq13, h⟩ := px_bs h
      refine EV.callV (As := [.int v11, .int 1]) (rest := []) dX7_sendBitsToCome_18 kcX7_sendBitsToCome_104 (gO_ok go12) rfl rfl rfl (Nat.le_of_ble_eq_true rfl) (Nat.le_of_ble_eq_true rfl) (eX7_putBits gq13) ?_
      refine EV.iinc 1 (a1 + 1) [(1, .int (a1 + 1)), (0, .ref a0)] dX7_sendBitsToCome_21 rfl rfl (by decide) rfl ?_
      refine EV.goto 2 dX7_sendBitsToCome_24 (by decide) ?_
      refine EV.sub [1, 0] rfl ?_
      exact ih _ _ _ _ h
set_option maxRecDepth 100000 in
set_option maxHeartbeats 4000000 in
theorem eX7_sendBitsToCome {X : px_X} {w : px_W} {a0 : Nat} {q : px_W} (h : fX7_sendBitsToCome X w a0 = some q) : EV X mX7_sendBitsToCome 0 (lv_args 0 [.ref a0]) [] w none q := by
  unfold fX7_sendBitsToCome at h
  show EV X mX7_sendBitsToCome 0 [(0, .ref a0)] [] w none q
  refine EV.iconst (0) dX7_sendBitsToCome_0 (by decide) ?_
  refine EV.istore_n [(1, .int 0), (0, .ref a0)] dX7_sendBitsToCome_1 rfl (by decide) rfl ?_
  refine EV.sub [1, 0] rfl ?_
  exact eX7_sendBitsToCome_2  FU _ _ _ _ h
/-! WavePictures$ScanWriter.lengthenRun()V -/
theorem dX7_lengthenRun_0 : decode cX7_lengthenRun 0 = .ok (.aload_n 0, 1) := by decide +kernel
theorem dX7_lengthenRun_1 : decode cX7_lengthenRun 1 = .ok (.dup, 1) := by decide +kernel
theorem dX7_lengthenRun_2 : decode cX7_lengthenRun 2 = .ok (.getfield 169, 3) := by decide +kernel
theorem dX7_lengthenRun_5 : decode cX7_lengthenRun 5 = .ok (.iconst 1, 1) := by decide +kernel
theorem dX7_lengthenRun_6 : decode cX7_lengthenRun 6 = .ok (.iadd, 1) := by decide +kernel
theorem dX7_lengthenRun_7 : decode cX7_lengthenRun 7 = .ok (.putfield 169, 3) := by decide +kernel
theorem dX7_lengthenRun_10 : decode cX7_lengthenRun 10 = .ok (.iconst 0, 1) := by decide +kernel
theorem dX7_lengthenRun_11 : decode cX7_lengthenRun 11 = .ok (.istore_n 1, 1) := by decide +kernel
theorem dX7_lengthenRun_12 : decode cX7_lengthenRun 12 = .ok (.iload_n 1, 1) := by decide +kernel
theorem dX7_lengthenRun_13 : decode cX7_lengthenRun 13 = .ok (.aload_n 0, 1) := by decide +kernel
theorem dX7_lengthenRun_14 : decode cX7_lengthenRun 14 = .ok (.getfield 166, 3) := by decide +kernel
theorem dX7_lengthenRun_17 : decode cX7_lengthenRun 17 = .ok (.if_icmp .ge 34, 3) := by decide +kernel
theorem dX7_lengthenRun_20 : decode cX7_lengthenRun 20 = .ok (.aload_n 0, 1) := by decide +kernel
theorem dX7_lengthenRun_21 : decode cX7_lengthenRun 21 = .ok (.getfield 9, 3) := by decide +kernel
theorem dX7_lengthenRun_24 : decode cX7_lengthenRun 24 = .ok (.aload_n 0, 1) := by decide +kernel
theorem dX7_lengthenRun_25 : decode cX7_lengthenRun 25 = .ok (.getfield 172, 3) := by decide +kernel
theorem dX7_lengthenRun_28 : decode cX7_lengthenRun 28 = .ok (.aload_n 0, 1) := by decide +kernel
theorem dX7_lengthenRun_29 : decode cX7_lengthenRun 29 = .ok (.getfield 15, 3) := by decide +kernel
theorem dX7_lengthenRun_32 : decode cX7_lengthenRun 32 = .ok (.iload_n 1, 1) := by decide +kernel
theorem dX7_lengthenRun_33 : decode cX7_lengthenRun 33 = .ok (.iaload, 1) := by decide +kernel
theorem dX7_lengthenRun_34 : decode cX7_lengthenRun 34 = .ok (.iastore, 1) := by decide +kernel
theorem dX7_lengthenRun_35 : decode cX7_lengthenRun 35 = .ok (.aload_n 0, 1) := by decide +kernel
theorem dX7_lengthenRun_36 : decode cX7_lengthenRun 36 = .ok (.dup, 1) := by decide +kernel
theorem dX7_lengthenRun_37 : decode cX7_lengthenRun 37 = .ok (.getfield 172, 3) := by decide +kernel
theorem dX7_lengthenRun_40 : decode cX7_lengthenRun 40 = .ok (.iconst 1, 1) := by decide +kernel
theorem dX7_lengthenRun_41 : decode cX7_lengthenRun 41 = .ok (.iadd, 1) := by decide +kernel
theorem dX7_lengthenRun_42 : decode cX7_lengthenRun 42 = .ok (.putfield 172, 3) := by decide +kernel
theorem dX7_lengthenRun_45 : decode cX7_lengthenRun 45 = .ok (.iinc 1 1, 3) := by decide +kernel
theorem dX7_lengthenRun_48 : decode cX7_lengthenRun 48 = .ok (.goto (-36), 3) := by decide +kernel
theorem dX7_lengthenRun_51 : decode cX7_lengthenRun 51 = .ok (.aload_n 0, 1) := by decide +kernel
theorem dX7_lengthenRun_52 : decode cX7_lengthenRun 52 = .ok (.iconst 0, 1) := by decide +kernel
theorem dX7_lengthenRun_53 : decode cX7_lengthenRun 53 = .ok (.putfield 166, 3) := by decide +kernel
theorem dX7_lengthenRun_56 : decode cX7_lengthenRun 56 = .ok (.return_, 1) := by decide +kernel
set_option maxRecDepth 100000 in
set_option maxHeartbeats 4000000 in
theorem eX7_lengthenRun_51 {X : px_X}  : ∀ (a0 : Nat) (w : px_W) (q : px_W), fX7_lengthenRun_51 X  a0 w = some q → EV X mX7_lengthenRun 51 [(0, .ref a0)] [] w none q := by
  intro a0 w q h
  unfold fX7_lengthenRun_51 at h
  refine EV.aload_n 0 dX7_lengthenRun_51 rfl rfl ?_
  refine EV.iconst (0) dX7_lengthenRun_52 (by decide) ?_
  obtain ⟨w12, gw12, h⟩ := px_bs h
  refine ev_pV dX7_lengthenRun_53 flRX7_166 rfl rfl rfl rfl gw12 ?_
  cases h
  exact EV.ret0 dX7_lengthenRun_56 trivial
set_option maxRecDepth 100000 in
set_option maxHeartbeats 4000000 in
theorem eX7_lengthenRun_12 {X : px_X}  : ∀ (m : Nat) (a0 : Nat) (a1 : Int32) (w : px_W) (q : px_W), fX7_lengthenRun_12 X  m a0 a1 w = some q → EV X mX7_lengthenRun 12 [(0, .ref a0), (1, .int a1)] [] w none q := by
  intro m
  induction m with
  | zero => intro a0 a1 w q h; cases h
  | succ m ih =>
    intro a0 a1 w q h
    rw [fX7_lengthenRun_12.eq_2] at h
    refine EV.iload_n 1 dX7_lengthenRun_12 rfl rfl ?_
    refine EV.aload_n 0 dX7_lengthenRun_13 rfl rfl ?_
    obtain ⟨v13, gv13, h⟩ := px_bs h
    refine ev_gI dX7_lengthenRun_14 flRX7_166 gv13 ?_
    refine EV.icmp_ge 51 dX7_lengthenRun_17 (by decide) (fun c14 => ?_) (fun c14 => ?_)
    · rw [if_pos c14] at h
      refine EV.sub [0] rfl ?_
      exact eX7_lengthenRun_51  _ _ _ h
    · rw [if_neg c14] at h
      refine EV.aload_n 0 dX7_lengthenRun_20 rfl rfl ?_
      obtain ⟨v15, gv15, h⟩ := px_bs h
      refine ev_gR dX7_lengthenRun_21 flRX7_9 gv15 ?_
      refine EV.aload_n 0 dX7_lengthenRun_24 rfl rfl ?_
      obtain ⟨v16, gv16, h⟩ := px_bs h
      refine ev_gI dX7_lengthenRun_25 flRX7_172 gv16 ?_
      refine EV.aload_n 0 dX7_lengthenRun_28 rfl rfl ?_
      obtain ⟨v17, gv17, h⟩ := px_bs h
      refine ev_gR dX7_lengthenRun_29 flRX7_15 gv17 ?_
      refine EV.iload_n 1 dX7_lengthenRun_32 rfl rfl ?_
      obtain ⟨v18, gv18, h⟩ := px_bs h
      refine ev_aI dX7_lengthenRun_33 gv18 ?_
      obtain ⟨w19, gw19, h⟩ := px_bs h
      refine ev_sI dX7_lengthenRun_34 gw19 ?_
      refine EV.aload_n 0 dX7_lengthenRun_35 rfl rfl ?_
      refine EV.dup dX7_lengthenRun_36 rfl ?_
      obtain ⟨v20, gv20, h⟩ := px_bs h
      refine ev_gI dX7_lengthenRun_37 flRX7_172 gv20 ?_
      refine EV.iconst (1) dX7_lengthenRun_40 (by decide) ?_
      refine EV.iadd dX7_lengthenRun_41 ?_
      obtain ⟨w21, gw21, h⟩ := px_bs h
      refine ev_pV dX7_lengthenRun_42 flRX7_172 rfl rfl rfl rfl gw21 ?_
      refine EV.iinc 1 (a1 + 1) [(1, .int (a1 + 1)), (0, .ref a0)] dX7_lengthenRun_45 rfl rfl (by decide) rfl ?_
      refine EV.goto 12 dX7_lengthenRun_48 (by decide) ?_
      refine EV.sub [1, 0] rfl ?_
      exact ih _ _ _ _ h
set_option maxRecDepth 100000 in
set_option maxHeartbeats 4000000 in
theorem eX7_lengthenRun {X : px_X} {w : px_W} {a0 : Nat} {q : px_W} (h : fX7_lengthenRun X w a0 = some q) : EV X mX7_lengthenRun 0 (lv_args 0 [.ref a0]) [] w none q := by
  unfold fX7_lengthenRun at h
  show EV X mX7_lengthenRun 0 [(0, .ref a0)] [] w none q
  refine EV.aload_n 0 dX7_lengthenRun_0 rfl rfl ?_
  refine EV.dup dX7_lengthenRun_1 rfl ?_
  obtain ⟨v22, gv22, h⟩ := px_bs h
  refine ev_gI dX7_lengthenRun_2 flRX7_169 gv22 ?_
  refine EV.iconst (1) dX7_lengthenRun_5 (by decide) ?_
  refine EV.iadd dX7_lengthenRun_6 ?_
  obtain ⟨w23, gw23, h⟩ := px_bs h
  refine ev_pV dX7_lengthenRun_7 flRX7_169 rfl rfl rfl rfl gw23 ?_
  refine EV.iconst (0) dX7_lengthenRun_10 (by decide) ?_
  refine EV.istore_n [(1, .int 0), (0, .ref a0)] dX7_lengthenRun_11 rfl (by decide) rfl ?_
  refine EV.sub [1, 0] rfl ?_
  exact eX7_lengthenRun_12  FU _ _ _ _ h
/-! WavePictures$ScanWriter.isRunFull()Z -/
theorem dX7_isRunFull_0 : decode cX7_isRunFull 0 = .ok (.aload_n 0, 1) := by decide +kernel
theorem dX7_isRunFull_1 : decode cX7_isRunFull 1 = .ok (.getfield 169, 3) := by decide +kernel
theorem dX7_isRunFull_4 : decode cX7_isRunFull 4 = .ok (.sipush 32767, 3) := by decide +kernel
theorem dX7_isRunFull_7 : decode cX7_isRunFull 7 = .ok (.if_icmp .eq 13, 3) := by decide +kernel
theorem dX7_isRunFull_10 : decode cX7_isRunFull 10 = .ok (.aload_n 0, 1) := by decide +kernel
theorem dX7_isRunFull_11 : decode cX7_isRunFull 11 = .ok (.getfield 172, 3) := by decide +kernel
theorem dX7_isRunFull_14 : decode cX7_isRunFull 14 = .ok (.sipush 900, 3) := by decide +kernel
theorem dX7_isRunFull_17 : decode cX7_isRunFull 17 = .ok (.if_icmp .le 7, 3) := by decide +kernel
theorem dX7_isRunFull_20 : decode cX7_isRunFull 20 = .ok (.iconst 1, 1) := by decide +kernel
theorem dX7_isRunFull_21 : decode cX7_isRunFull 21 = .ok (.goto 4, 3) := by decide +kernel
theorem dX7_isRunFull_24 : decode cX7_isRunFull 24 = .ok (.iconst 0, 1) := by decide +kernel
theorem dX7_isRunFull_25 : decode cX7_isRunFull 25 = .ok (.ireturn, 1) := by decide +kernel
set_option maxRecDepth 100000 in
set_option maxHeartbeats 4000000 in
theorem eX7_isRunFull {X : px_X} {w : px_W} {a0 : Nat} {q : Int32 × px_W} (h : fX7_isRunFull X w a0 = some q) : EV X mX7_isRunFull 0 (lv_args 0 [.ref a0]) [] w (some (.int q.1)) q.2 := by
  unfold fX7_isRunFull at h
  show EV X mX7_isRunFull 0 [(0, .ref a0)] [] w (some (.int q.1)) q.2
  refine EV.aload_n 0 dX7_isRunFull_0 rfl rfl ?_
  obtain ⟨v3, gv3, h⟩ := px_bs h
  refine ev_gI dX7_isRunFull_1 flRX7_169 gv3 ?_
  refine EV.sipush (32767) dX7_isRunFull_4 (by decide) ?_
  refine EV.icmp_eq 20 dX7_isRunFull_7 (by decide) (fun c4 => ?_) (fun c4 => ?_)
  · rw [if_pos c4] at h
    refine EV.iconst (1) dX7_isRunFull_20 (by decide) ?_
    refine EV.goto 25 dX7_isRunFull_21 (by decide) ?_
    cases h
    exact EV.reti dX7_isRunFull_25 rfl
  · rw [if_neg c4] at h
    refine EV.aload_n 0 dX7_isRunFull_10 rfl rfl ?_
    obtain ⟨v5, gv5, h⟩ := px_bs h
    refine ev_gI dX7_isRunFull_11 flRX7_172 gv5 ?_
    refine EV.sipush (900) dX7_isRunFull_14 (by decide) ?_
    refine EV.icmp_le 24 dX7_isRunFull_17 (by decide) (fun c6 => ?_) (fun c6 => ?_)
    · rw [if_pos c6] at h
      refine EV.iconst (0) dX7_isRunFull_24 (by decide) ?_
      cases h
      exact EV.reti dX7_isRunFull_25 rfl
    · rw [if_neg c6] at h
      refine EV.iconst (1) dX7_isRunFull_20 (by decide) ?_
      refine EV.goto 25 dX7_isRunFull_21 (by decide) ?_
      cases h
      exact EV.reti dX7_isRunFull_25 rfl
/-! WavePictures$ScanWriter.refineOthers(ILWavePictures$BestTable;)V -/
theorem dX7_refineOthers_0 : decode cX7_refineOthers 0 = .ok (.aload_n 0, 1) := by decide +kernel
theorem dX7_refineOthers_1 : decode cX7_refineOthers 1 = .ok (.iload_n 1, 1) := by decide +kernel
theorem dX7_refineOthers_2 : decode cX7_refineOthers 2 = .ok (.invokevirtual 160, 3) := by decide +kernel
theorem dX7_refineOthers_5 : decode cX7_refineOthers 5 = .ok (.istore_n 3, 1) := by decide +kernel
theorem dX7_refineOthers_6 : decode cX7_refineOthers 6 = .ok (.iconst 0, 1) := by decide +kernel
theorem dX7_refineOthers_7 : decode cX7_refineOthers 7 = .ok (.istore 4, 2) := by decide +kernel
theorem dX7_refineOthers_9 : decode cX7_refineOthers 9 = .ok (.aload_n 0, 1) := by decide +kernel
theorem dX7_refineOthers_10 : decode cX7_refineOthers 10 = .ok (.getfield 21, 3) := by decide +kernel
theorem dX7_refineOthers_13 : decode cX7_refineOthers 13 = .ok (.getfield 79, 3) := by decide +kernel
theorem dX7_refineOthers_16 : decode cX7_refineOthers 16 = .ok (.istore 5, 2) := by decide +kernel
theorem dX7_refineOthers_18 : decode cX7_refineOthers 18 = .ok (.iload 5, 2) := by decide +kernel
theorem dX7_refineOthers_20 : decode cX7_refineOthers 20 = .ok (.aload_n 0, 1) := by decide +kernel
theorem dX7_refineOthers_21 : decode cX7_refineOthers 21 = .ok (.getfield 21, 3) := by decide +kernel
theorem dX7_refineOthers_24 : decode cX7_refineOthers 24 = .ok (.getfield 86, 3) := by decide +kernel
theorem dX7_refineOthers_27 : decode cX7_refineOthers 27 = .ok (.if_icmp .gt 161, 3) := by decide +kernel
theorem dX7_refineOthers_30 : decode cX7_refineOthers 30 = .ok (.aload_n 0, 1) := by decide +kernel
theorem dX7_refineOthers_31 : decode cX7_refineOthers 31 = .ok (.getfield 33, 3) := by decide +kernel
theorem dX7_refineOthers_34 : decode cX7_refineOthers 34 = .ok (.getfield 123, 3) := by decide +kernel
theorem dX7_refineOthers_37 : decode cX7_refineOthers 37 = .ok (.iload_n 1, 1) := by decide +kernel
theorem dX7_refineOthers_38 : decode cX7_refineOthers 38 = .ok (.iload 5, 2) := by decide +kernel
theorem dX7_refineOthers_40 : decode cX7_refineOthers 40 = .ok (.iadd, 1) := by decide +kernel
theorem dX7_refineOthers_41 : decode cX7_refineOthers 41 = .ok (.iaload, 1) := by decide +kernel
theorem dX7_refineOthers_42 : decode cX7_refineOthers 42 = .ok (.istore 6, 2) := by decide +kernel
theorem dX7_refineOthers_44 : decode cX7_refineOthers 44 = .ok (.iload 6, 2) := by decide +kernel
theorem dX7_refineOthers_46 : decode cX7_refineOthers 46 = .ok (.invokestatic 148, 3) := by decide +kernel
theorem dX7_refineOthers_49 : decode cX7_refineOthers 49 = .ok (.aload_n 0, 1) := by decide +kernel
theorem dX7_refineOthers_50 : decode cX7_refineOthers 50 = .ok (.getfield 21, 3) := by decide +kernel
theorem dX7_refineOthers_53 : decode cX7_refineOthers 53 = .ok (.getfield 128, 3) := by decide +kernel
theorem dX7_refineOthers_56 : decode cX7_refineOthers 56 = .ok (.ishr, 1) := by decide +kernel
theorem dX7_refineOthers_57 : decode cX7_refineOthers 57 = .ok (.istore 7, 2) := by decide +kernel
theorem dX7_refineOthers_59 : decode cX7_refineOthers 59 = .ok (.iload 7, 2) := by decide +kernel
theorem dX7_refineOthers_61 : decode cX7_refineOthers 61 = .ok (.ifCond .le 39, 3) := by decide +kernel
theorem dX7_refineOthers_64 : decode cX7_refineOthers 64 = .ok (.iload 4, 2) := by decide +kernel
theorem dX7_refineOthers_66 : decode cX7_refineOthers 66 = .ok (.bipush 15, 2) := by decide +kernel
theorem dX7_refineOthers_68 : decode cX7_refineOthers 68 = .ok (.if_icmp .le 32, 3) := by decide +kernel
theorem dX7_refineOthers_71 : decode cX7_refineOthers 71 = .ok (.iload 5, 2) := by decide +kernel
theorem dX7_refineOthers_73 : decode cX7_refineOthers 73 = .ok (.iload_n 3, 1) := by decide +kernel
theorem dX7_refineOthers_74 : decode cX7_refineOthers 74 = .ok (.if_icmp .gt 26, 3) := by decide +kernel
theorem dX7_refineOthers_77 : decode cX7_refineOthers 77 = .ok (.aload_n 0, 1) := by decide +kernel
theorem dX7_refineOthers_78 : decode cX7_refineOthers 78 = .ok (.aload_n 2, 1) := by decide +kernel
theorem dX7_refineOthers_79 : decode cX7_refineOthers 79 = .ok (.invokevirtual 100, 3) := by decide +kernel
theorem dX7_refineOthers_82 : decode cX7_refineOthers 82 = .ok (.aload_n 0, 1) := by decide +kernel
theorem dX7_refineOthers_83 : decode cX7_refineOthers 83 = .ok (.aload_n 2, 1) := by decide +kernel
theorem dX7_refineOthers_84 : decode cX7_refineOthers 84 = .ok (.sipush 240, 3) := by decide +kernel
theorem dX7_refineOthers_87 : decode cX7_refineOthers 87 = .ok (.invokevirtual 135, 3) := by decide +kernel
theorem dX7_refineOthers_90 : decode cX7_refineOthers 90 = .ok (.aload_n 0, 1) := by decide +kernel
theorem dX7_refineOthers_91 : decode cX7_refineOthers 91 = .ok (.invokevirtual 163, 3) := by decide +kernel
theorem dX7_refineOthers_94 : decode cX7_refineOthers 94 = .ok (.iinc 4 (-16), 3) := by decide +kernel
theorem dX7_refineOthers_97 : decode cX7_refineOthers 97 = .ok (.goto (-38), 3) := by decide +kernel
theorem dX7_refineOthers_100 : decode cX7_refineOthers 100 = .ok (.iload 7, 2) := by decide +kernel
theorem dX7_refineOthers_102 : decode cX7_refineOthers 102 = .ok (.ifCond .ne 9, 3) := by decide +kernel
theorem dX7_refineOthers_105 : decode cX7_refineOthers 105 = .ok (.iinc 4 1, 3) := by decide +kernel
theorem dX7_refineOthers_108 : decode cX7_refineOthers 108 = .ok (.goto 74, 3) := by decide +kernel
theorem dX7_refineOthers_111 : decode cX7_refineOthers 111 = .ok (.iload 7, 2) := by decide +kernel
theorem dX7_refineOthers_113 : decode cX7_refineOthers 113 = .ok (.iconst 1, 1) := by decide +kernel
theorem dX7_refineOthers_114 : decode cX7_refineOthers 114 = .ok (.if_icmp .le 29, 3) := by decide +kernel
theorem dX7_refineOthers_117 : decode cX7_refineOthers 117 = .ok (.aload_n 0, 1) := by decide +kernel
theorem dX7_refineOthers_118 : decode cX7_refineOthers 118 = .ok (.getfield 15, 3) := by decide +kernel
theorem dX7_refineOthers_121 : decode cX7_refineOthers 121 = .ok (.aload_n 0, 1) := by decide +kernel
theorem dX7_refineOthers_122 : decode cX7_refineOthers 122 = .ok (.getfield 166, 3) := by decide +kernel
theorem dX7_refineOthers_125 : decode cX7_refineOthers 125 = .ok (.iload 7, 2) := by decide +kernel
theorem dX7_refineOthers_127 : decode cX7_refineOthers 127 = .ok (.iconst 1, 1) := by decide +kernel
theorem dX7_refineOthers_128 : decode cX7_refineOthers 128 = .ok (.iand, 1) := by decide +kernel
theorem dX7_refineOthers_129 : decode cX7_refineOthers 129 = .ok (.iastore, 1) := by decide +kernel
theorem dX7_refineOthers_130 : decode cX7_refineOthers 130 = .ok (.aload_n 0, 1) := by decide +kernel
theorem dX7_refineOthers_131 : decode cX7_refineOthers 131 = .ok (.dup, 1) := by decide +kernel
theorem dX7_refineOthers_132 : decode cX7_refineOthers 132 = .ok (.getfield 166, 3) := by decide +kernel
theorem dX7_refineOthers_135 : decode cX7_refineOthers 135 = .ok (.iconst 1, 1) := by decide +kernel
theorem dX7_refineOthers_136 : decode cX7_refineOthers 136 = .ok (.iadd, 1) := by decide +kernel
theorem dX7_refineOthers_137 : decode cX7_refineOthers 137 = .ok (.putfield 166, 3) := by decide +kernel
theorem dX7_refineOthers_140 : decode cX7_refineOthers 140 = .ok (.goto 42, 3) := by decide +kernel
theorem dX7_refineOthers_143 : decode cX7_refineOthers 143 = .ok (.aload_n 0, 1) := by decide +kernel
theorem dX7_refineOthers_144 : decode cX7_refineOthers 144 = .ok (.aload_n 2, 1) := by decide +kernel
theorem dX7_refineOthers_145 : decode cX7_refineOthers 145 = .ok (.invokevirtual 100, 3) := by decide +kernel
theorem dX7_refineOthers_148 : decode cX7_refineOthers 148 = .ok (.aload_n 0, 1) := by decide +kernel
theorem dX7_refineOthers_149 : decode cX7_refineOthers 149 = .ok (.aload_n 2, 1) := by decide +kernel
theorem dX7_refineOthers_150 : decode cX7_refineOthers 150 = .ok (.bipush 16, 2) := by decide +kernel
theorem dX7_refineOthers_152 : decode cX7_refineOthers 152 = .ok (.iload 4, 2) := by decide +kernel
theorem dX7_refineOthers_154 : decode cX7_refineOthers 154 = .ok (.imul, 1) := by decide +kernel
theorem dX7_refineOthers_155 : decode cX7_refineOthers 155 = .ok (.iconst 1, 1) := by decide +kernel
theorem dX7_refineOthers_156 : decode cX7_refineOthers 156 = .ok (.iadd, 1) := by decide +kernel
theorem dX7_refineOthers_157 : decode cX7_refineOthers 157 = .ok (.invokevirtual 135, 3) := by decide +kernel
theorem dX7_refineOthers_160 : decode cX7_refineOthers 160 = .ok (.aload_n 0, 1) := by decide +kernel
theorem dX7_refineOthers_161 : decode cX7_refineOthers 161 = .ok (.iload 6, 2) := by decide +kernel
theorem dX7_refineOthers_163 : decode cX7_refineOthers 163 = .ok (.ifCond .ge 7, 3) := by decide +kernel
theorem dX7_refineOthers_166 : decode cX7_refineOthers 166 = .ok (.iconst 0, 1) := by decide +kernel
theorem dX7_refineOthers_167 : decode cX7_refineOthers 167 = .ok (.goto 4, 3) := by decide +kernel
theorem dX7_refineOthers_170 : decode cX7_refineOthers 170 = .ok (.iconst 1, 1) := by decide +kernel
theorem dX7_refineOthers_171 : decode cX7_refineOthers 171 = .ok (.iconst 1, 1) := by decide +kernel
theorem dX7_refineOthers_172 : decode cX7_refineOthers 172 = .ok (.invokevirtual 104, 3) := by decide +kernel
theorem dX7_refineOthers_175 : decode cX7_refineOthers 175 = .ok (.aload_n 0, 1) := by decide +kernel
theorem dX7_refineOthers_176 : decode cX7_refineOthers 176 = .ok (.invokevirtual 163, 3) := by decide +kernel
theorem dX7_refineOthers_179 : decode cX7_refineOthers 179 = .ok (.iconst 0, 1) := by decide +kernel
theorem dX7_refineOthers_180 : decode cX7_refineOthers 180 = .ok (.istore 4, 2) := by decide +kernel
theorem dX7_refineOthers_182 : decode cX7_refineOthers 182 = .ok (.iinc 5 1, 3) := by decide +kernel
theorem dX7_refineOthers_185 : decode cX7_refineOthers 185 = .ok (.goto (-167), 3) := by decide +kernel
theorem dX7_refineOthers_188 : decode cX7_refineOthers 188 = .ok (.iload 4, 2) := by decide +kernel
theorem dX7_refineOthers_190 : decode cX7_refineOthers 190 = .ok (.ifCond .gt 10, 3) := by decide +kernel
theorem dX7_refineOthers_193 : decode cX7_refineOthers 193 = .ok (.aload_n 0, 1) := by decide +kernel
theorem dX7_refineOthers_194 : decode cX7_refineOthers 194 = .ok (.getfield 166, 3) := by decide +kernel
theorem dX7_refineOthers_197 : decode cX7_refineOthers 197 = .ok (.ifCond .le 7, 3) := by decide +kernel
theorem dX7_refineOthers_200 : decode cX7_refineOthers 200 = .ok (.aload_n 0, 1) := by decide +kernel
theorem dX7_refineOthers_201 : decode cX7_refineOthers 201 = .ok (.invokevirtual 154, 3) := by decide +kernel
theorem dX7_refineOthers_204 : decode cX7_refineOthers 204 = .ok (.aload_n 0, 1) := by decide +kernel
theorem dX7_refineOthers_205 : decode cX7_refineOthers 205 = .ok (.invokevirtual 157, 3) := by decide +kernel
theorem dX7_refineOthers_208 : decode cX7_refineOthers 208 = .ok (.ifCond .eq 8, 3) := by decide +kernel
theorem dX7_refineOthers_211 : decode cX7_refineOthers 211 = .ok (.aload_n 0, 1) := by decide +kernel
theorem dX7_refineOthers_212 : decode cX7_refineOthers 212 = .ok (.aload_n 2, 1) := by decide +kernel
theorem dX7_refineOthers_213 : decode cX7_refineOthers 213 = .ok (.invokevirtual 100, 3) := by decide +kernel
theorem dX7_refineOthers_216 : decode cX7_refineOthers 216 = .ok (.return_, 1) := by decide +kernel
theorem kcX7_refineOthers_100 : px_cV mX7_refineOthers 100 mX7_sendRun 1 := ⟨⟨mbX7_sendRun, by decide, by decide⟩, Or.inl (tb4 (List.mem_of_getElem? (i := 236) rfl)), vbX7_sendRun⟩
theorem kcX7_refineOthers_104 : px_cV mX7_refineOthers 104 mX7_putBits 2 := ⟨⟨mbX7_putBits, by decide, by decide⟩, Or.inl (tb5 (List.mem_of_getElem? (i := 12) rfl)), vbX7_putBits⟩
theorem kcX7_refineOthers_135 : px_cV mX7_refineOthers 135 mX7_putWord 2 := ⟨⟨mbX7_putWord, by decide, by decide⟩, Or.inl (tb5 (List.mem_of_getElem? (i := 8) rfl)), vbX7_putWord⟩
theorem mbX7_lengthenRun : px_mB mX7_lengthenRun 0 := ⟨tb5 (List.mem_of_getElem? (i := 47) rfl), by decide +kernel, tb1 (List.mem_of_getElem? (i := 12) rfl), by decide +kernel, by decide +kernel⟩
theorem vbX7_lengthenRun : px_vB mX7_lengthenRun := ⟨tb5 (List.mem_of_getElem? (i := 46) rfl), List.mem_append_left _ (List.mem_of_getElem? (i := 59) (by decide +kernel))⟩
theorem kcX7_refineOthers_154 : px_cV mX7_refineOthers 154 mX7_lengthenRun 0 := ⟨⟨mbX7_lengthenRun, by decide, by decide⟩, Or.inl (tb5 (List.mem_of_getElem? (i := 44) rfl)), vbX7_lengthenRun⟩
theorem mbX7_isRunFull : px_mB mX7_isRunFull 0 := ⟨tb5 (List.mem_of_getElem? (i := 51) rfl), by decide +kernel, tb1 (List.mem_of_getElem? (i := 12) rfl), by decide +kernel, by decide +kernel⟩
theorem vbX7_isRunFull : px_vB mX7_isRunFull := ⟨tb5 (List.mem_of_getElem? (i := 50) rfl), List.mem_append_left _ (List.mem_of_getElem? (i := 60) (by decide +kernel))⟩
theorem kcX7_refineOthers_157 : px_cV mX7_refineOthers 157 mX7_isRunFull 0 := ⟨⟨mbX7_isRunFull, by decide, by decide⟩, Or.inl (tb5 (List.mem_of_getElem? (i := 48) rfl)), vbX7_isRunFull⟩
theorem mbX7_lastNewOne : px_mB mX7_lastNewOne 1 := ⟨tb5 (List.mem_of_getElem? (i := 38) rfl), by decide +kernel, tb1 (List.mem_of_getElem? (i := 12) rfl), by decide +kernel, by decide +kernel⟩
theorem vbX7_lastNewOne : px_vB mX7_lastNewOne := ⟨tb5 (List.mem_of_getElem? (i := 37) rfl), List.mem_append_left _ (List.mem_of_getElem? (i := 57) (by decide +kernel))⟩
theorem kcX7_refineOthers_160 : px_cV mX7_refineOthers 160 mX7_lastNewOne 1 := ⟨⟨mbX7_lastNewOne, by decide, by decide⟩, Or.inl (tb5 (List.mem_of_getElem? (i := 35) rfl)), vbX7_lastNewOne⟩
theorem mbX7_sendBitsToCome : px_mB mX7_sendBitsToCome 0 := ⟨tb5 (List.mem_of_getElem? (i := 43) rfl), by decide +kernel, tb1 (List.mem_of_getElem? (i := 12) rfl), by decide +kernel, by decide +kernel⟩
theorem vbX7_sendBitsToCome : px_vB mX7_sendBitsToCome := ⟨tb5 (List.mem_of_getElem? (i := 42) rfl), List.mem_append_left _ (List.mem_of_getElem? (i := 58) (by decide +kernel))⟩
theorem kcX7_refineOthers_163 : px_cV mX7_refineOthers 163 mX7_sendBitsToCome 0 := ⟨⟨mbX7_sendBitsToCome, by decide, by decide⟩, Or.inl (tb5 (List.mem_of_getElem? (i := 40) rfl)), vbX7_sendBitsToCome⟩
set_option maxRecDepth 100000 in
set_option maxHeartbeats 4000000 in
theorem eX7_refineOthers_182 {X : px_X} {k18 : Nat → Int32 → Nat → Int32 → Int32 → Int32 → px_W → Option (px_W)} (hk18 : ∀ (a0 : Nat) (a1 : Int32) (a2 : Nat) (a3 : Int32) (a4 : Int32) (a5 : Int32) (w : px_W) (q : px_W), k18 a0 a1 a2 a3 a4 a5 w = some q → EV X mX7_refineOthers 18 [(0, .ref a0), (1, .int a1), (2, .ref a2), (3, .int a3), (4, .int a4), (5, .int a5)] [] w none q) : ∀ (a0 : Nat) (a1 : Int32) (a2 : Nat) (a3 : Int32) (a4 : Int32) (a5 : Int32) (w : px_W) (q : px_W), fX7_refineOthers_182 X k18 a0 a1 a2 a3 a4 a5 w = some q → EV X mX7_refineOthers 182 [(0, .ref a0), (1, .int a1), (2, .ref a2), (3, .int a3), (4, .int a4), (5, .int a5)] [] w none q := by
  intro a0 a1 a2 a3 a4 a5 w q h
  unfold fX7_refineOthers_182 at h
  refine EV.iinc 5 (a5 + 1) [(5, .int (a5 + 1)), (0, .ref a0), (1, .int a1), (2, .ref a2), (3, .int a3), (4, .int a4)] dX7_refineOthers_182 rfl rfl (by decide) rfl ?_
  refine EV.goto 18 dX7_refineOthers_185 (by decide) ?_
  refine EV.sub [1, 2, 3, 4, 5, 0] rfl ?_
  exact hk18 _ _ _ _ _ _ _ _ h
set_option maxRecDepth 100000 in
set_option maxHeartbeats 4000000 in
theorem eX7_refineOthers_171 {X : px_X} {k18 : Nat → Int32 → Nat → Int32 → Int32 → Int32 → px_W → Option (px_W)} (hk18 : ∀ (a0 : Nat) (a1 : Int32) (a2 : Nat) (a3 : Int32) (a4 : Int32) (a5 : Int32) (w : px_W) (q : px_W), k18 a0 a1 a2 a3 a4 a5 w = some q → EV X mX7_refineOthers 18 [(0, .ref a0), (1, .int a1), (2, .ref a2), (3, .int a3), (4, .int a4), (5, .int a5)] [] w none q) : ∀ (a0 : Nat) (a1 : Int32) (a2 : Nat) (a3 : Int32) (a5 : Int32) (s0 : Int32) (s1 : Nat) (w : px_W) (q : px_W), fX7_refineOthers_171 X k18 a0 a1 a2 a3 a5 s0 s1 w = some q → EV X mX7_refineOthers 171 [(0, .ref a0), (1, .int a1), (2, .ref a2), (3, .int a3), (5, .int a5)] [.int s0, .ref s1] w none q := by
  intro a0 a1 a2 a3 a5 s0 s1 w q h
  unfold fX7_refineOthers_171 at h
  refine EV.iconst (1) dX7_refineOthers_171 (by decide) ?_
  obtain ⟨o38, go38, h⟩ := px_bs h
  obtain ⟨q39, gq39, h⟩ := px_bs h
  refine EV.callV (As := [.int s0, .int 1]) (rest := []) dX7_refineOthers_172 kcX7_refineOthers_104 (gO_ok go38) rfl rfl rfl (Nat.le_of_ble_eq_true rfl) (Nat.le_of_ble_eq_true rfl) (eX7_putBits gq39) ?_
  refine EV.aload_n 0 dX7_refineOthers_175 rfl rfl ?_
  obtain ⟨o40, go40, h⟩ := px_bs h
  obtain ⟨q41, gq41, h⟩ := px_bs h
  refine EV.callV (As := []) (rest := []) dX7_refineOthers_176 kcX7_refineOthers_163 (gO_ok go40) rfl rfl rfl (Nat.le_of_ble_eq_true rfl) (Nat.le_of_ble_eq_true rfl) (eX7_sendBitsToCome gq41) ?_
  refine EV.iconst (0) dX7_refineOthers_179 (by decide) ?_
  refine EV.istore [(4, .int 0), (0, .ref a0), (1, .int a1), (2, .ref a2), (3, .int a3), (5, .int a5)] dX7_refineOthers_180 (by decide) rfl ?_
  refine EV.sub [1, 2, 3, 4, 0, 5] rfl ?_
  exact eX7_refineOthers_182 hk18 _ _ _ _ _ _ _ _ h
set_option maxRecDepth 100000 in
set_option maxHeartbeats 4000000 in
theorem eX7_refineOthers_100 {X : px_X} {k18 : Nat → Int32 → Nat → Int32 → Int32 → Int32 → px_W → Option (px_W)} (hk18 : ∀ (a0 : Nat) (a1 : Int32) (a2 : Nat) (a3 : Int32) (a4 : Int32) (a5 : Int32) (w : px_W) (q : px_W), k18 a0 a1 a2 a3 a4 a5 w = some q → EV X mX7_refineOthers 18 [(0, .ref a0), (1, .int a1), (2, .ref a2), (3, .int a3), (4, .int a4), (5, .int a5)] [] w none q) : ∀ (a0 : Nat) (a1 : Int32) (a2 : Nat) (a3 : Int32) (a4 : Int32) (a5 : Int32) (a6 : Int32) (a7 : Int32) (w : px_W) (q : px_W), fX7_refineOthers_100 X k18 a0 a1 a2 a3 a4 a5 a6 a7 w = some q → EV X mX7_refineOthers 100 [(0, .ref a0), (1, .int a1), (2, .ref a2), (3, .int a3), (4, .int a4), (5, .int a5), (6, .int a6), (7, .int a7)] [] w none q := by
  intro a0 a1 a2 a3 a4 a5 a6 a7 w q h
  unfold fX7_refineOthers_100 at h
  refine EV.iload 7 dX7_refineOthers_100 rfl ?_
  refine EV.if_ne 111 dX7_refineOthers_102 (by decide) (fun c42 => ?_) (fun c42 => ?_)
  · rw [if_neg c42] at h
    refine EV.iload 7 dX7_refineOthers_111 rfl ?_
    refine EV.iconst (1) dX7_refineOthers_113 (by decide) ?_
    refine EV.icmp_le 143 dX7_refineOthers_114 (by decide) (fun c43 => ?_) (fun c43 => ?_)
    · rw [if_pos c43] at h
      refine EV.aload_n 0 dX7_refineOthers_143 rfl rfl ?_
      refine EV.aload_n 2 dX7_refineOthers_144 rfl rfl ?_
      obtain ⟨o44, go44, h⟩ := px_bs h
      obtain ⟨q45, gq45, h⟩ := px_bs h
      refine EV.callV (As := [.ref a2]) (rest := []) dX7_refineOthers_145 kcX7_refineOthers_100 (gO_ok go44) rfl rfl rfl (Nat.le_of_ble_eq_true rfl) (Nat.le_of_ble_eq_true rfl) (eX7_sendRun gq45) ?_
      refine EV.aload_n 0 dX7_refineOthers_148 rfl rfl ?_
      refine EV.aload_n 2 dX7_refineOthers_149 rfl rfl ?_
      refine EV.bipush (16) dX7_refineOthers_150 (by decide) ?_
      refine EV.iload 4 dX7_refineOthers_152 rfl ?_
      refine EV.imul dX7_refineOthers_154 ?_
      refine EV.iconst (1) dX7_refineOthers_155 (by decide) ?_
      refine EV.iadd dX7_refineOthers_156 ?_
      obtain ⟨o46, go46, h⟩ := px_bs h
      obtain ⟨q47, gq47, h⟩ := px_bs h
      refine EV.callV (As := [.ref a2, .int ((16 * a4) + 1)]) (rest := []) dX7_refineOthers_157 kcX7_refineOthers_135 (gO_ok go46) rfl rfl rfl (Nat.le_of_ble_eq_true rfl) (Nat.le_of_ble_eq_true rfl) (eX7_putWord gq47) ?_
      refine EV.aload_n 0 dX7_refineOthers_160 rfl rfl ?_
      refine EV.iload 6 dX7_refineOthers_161 rfl ?_
      refine EV.if_ge 170 dX7_refineOthers_163 (by decide) (fun c48 => ?_) (fun c48 => ?_)
      · rw [if_pos c48] at h
        refine EV.iconst (1) dX7_refineOthers_170 (by decide) ?_
        refine EV.sub [0, 1, 2, 3, 5] rfl ?_
        exact eX7_refineOthers_171 hk18 _ _ _ _ _ _ _ _ _ h
      · rw [if_neg c48] at h
        refine EV.iconst (0) dX7_refineOthers_166 (by decide) ?_
        refine EV.goto 171 dX7_refineOthers_167 (by decide) ?_
        refine EV.sub [0, 1, 2, 3, 5] rfl ?_
        exact eX7_refineOthers_171 hk18 _ _ _ _ _ _ _ _ _ h
    · rw [if_neg c43] at h
      refine EV.aload_n 0 dX7_refineOthers_117 rfl rfl ?_
      obtain ⟨v49, gv49, h⟩ := px_bs h
      refine ev_gR dX7_refineOthers_118 flRX7_15 gv49 ?_
      refine EV.aload_n 0 dX7_refineOthers_121 rfl rfl ?_
      obtain ⟨v50, gv50, h⟩ := px_bs h
      refine ev_gI dX7_refineOthers_122 flRX7_166 gv50 ?_
      refine EV.iload 7 dX7_refineOthers_125 rfl ?_
      refine EV.iconst (1) dX7_refineOthers_127 (by decide) ?_
      refine EV.iand dX7_refineOthers_128 ?_
      obtain ⟨w51, gw51, h⟩ := px_bs h
      refine ev_sI dX7_refineOthers_129 gw51 ?_
      refine EV.aload_n 0 dX7_refineOthers_130 rfl rfl ?_
      refine EV.dup dX7_refineOthers_131 rfl ?_
      obtain ⟨v52, gv52, h⟩ := px_bs h
      refine ev_gI dX7_refineOthers_132 flRX7_166 gv52 ?_
      refine EV.iconst (1) dX7_refineOthers_135 (by decide) ?_
      refine EV.iadd dX7_refineOthers_136 ?_
      obtain ⟨w53, gw53, h⟩ := px_bs h
      refine ev_pV dX7_refineOthers_137 flRX7_166 rfl rfl rfl rfl gw53 ?_
      refine EV.goto 182 dX7_refineOthers_140 (by decide) ?_
      refine EV.sub [0, 1, 2, 3, 4, 5] rfl ?_
      exact eX7_refineOthers_182 hk18 _ _ _ _ _ _ _ _ h
  · rw [if_pos c42] at h
    refine EV.iinc 4 (a4 + 1) [(4, .int (a4 + 1)), (0, .ref a0), (1, .int a1), (2, .ref a2), (3, .int a3), (5, .int a5), (6, .int a6), (7, .int a7)] dX7_refineOthers_105 rfl rfl (by decide) rfl ?_
    refine EV.goto 182 dX7_refineOthers_108 (by decide) ?_
    refine EV.sub [1, 2, 3, 4, 0, 5] rfl ?_
    exact eX7_refineOthers_182 hk18 _ _ _ _ _ _ _ _ h
set_option maxRecDepth 100000 in
set_option maxHeartbeats 4000000 in
theorem eX7_refineOthers_59 {X : px_X} {k18 : Nat → Int32 → Nat → Int32 → Int32 → Int32 → px_W → Option (px_W)} (hk18 : ∀ (a0 : Nat) (a1 : Int32) (a2 : Nat) (a3 : Int32) (a4 : Int32) (a5 : Int32) (w : px_W) (q : px_W), k18 a0 a1 a2 a3 a4 a5 w = some q → EV X mX7_refineOthers 18 [(0, .ref a0), (1, .int a1), (2, .ref a2), (3, .int a3), (4, .int a4), (5, .int a5)] [] w none q) : ∀ (m : Nat) (a0 : Nat) (a1 : Int32) (a2 : Nat) (a3 : Int32) (a4 : Int32) (a5 : Int32) (a6 : Int32) (a7 : Int32) (w : px_W) (q : px_W), fX7_refineOthers_59 X k18 m a0 a1 a2 a3 a4 a5 a6 a7 w = some q → EV X mX7_refineOthers 59 [(0, .ref a0), (1, .int a1), (2, .ref a2), (3, .int a3), (4, .int a4), (5, .int a5), (6, .int a6), (7, .int a7)] [] w none q := by
  intro m
  induction m with
  | zero => intro a0 a1 a2 a3 a4 a5 a6 a7 w q h; cases h
  | succ m ih =>
    intro a0 a1 a2 a3 a4 a5 a6 a7 w q h
    rw [fX7_refineOthers_59.eq_2] at h
    refine EV.iload 7 dX7_refineOthers_59 rfl ?_
    refine EV.if_le 100 dX7_refineOthers_61 (by decide) (fun c54 => ?_) (fun c54 => ?_)
    · rw [if_pos c54] at h
      refine EV.sub [0, 1, 2, 3, 4, 5, 6, 7] rfl ?_
      exact eX7_refineOthers_100 hk18 _ _ _ _ _ _ _ _ _ _ h
    · rw [if_neg c54] at h
      refine EV.iload 4 dX7_refineOthers_64 rfl ?_
      refine EV.bipush (15) dX7_refineOthers_66 (by decide) ?_
      refine EV.icmp_le 100 dX7_refineOthers_68 (by decide) (fun c55 => ?_) (fun c55 => ?_)
      · rw [if_pos c55] at h
        refine EV.sub [0, 1, 2, 3, 4, 5, 6, 7] rfl ?_
        exact eX7_refineOthers_100 hk18 _ _ _ _ _ _ _ _ _ _ h
      · rw [if_neg c55] at h
        refine EV.iload 5 dX7_refineOthers_71 rfl ?_
        refine EV.iload_n 3 dX7_refineOthers_73 rfl rfl ?_
        refine EV.icmp_gt 100 dX7_refineOthers_74 (by decide) (fun c56 => ?_) (fun c56 => ?_)
        · rw [if_pos c56] at h
          refine EV.sub [0, 1, 2, 3, 4, 5, 6, 7] rfl ?_
          exact eX7_refineOthers_100 hk18 _ _ _ _ _ _ _ _ _ _ h
        · rw [if_neg c56] at h
          refine EV.aload_n 0 dX7_refineOthers_77 rfl rfl ?_
          refine EV.aload_n 2 dX7_refineOthers_78 rfl rfl ?_
          obtain ⟨o57, go57, h⟩ := px_bs h
          obtain ⟨q58, gq58, h⟩ := px_bs h
          refine EV.callV (As := [.ref a2]) (rest := []) dX7_refineOthers_79 kcX7_refineOthers_100 (gO_ok go57) rfl rfl rfl (Nat.le_of_ble_eq_true rfl) (Nat.le_of_ble_eq_true rfl) (eX7_sendRun gq58) ?_
          refine EV.aload_n 0 dX7_refineOthers_82 rfl rfl ?_
          refine EV.aload_n 2 dX7_refineOthers_83 rfl rfl ?_
          refine EV.sipush (240) dX7_refineOthers_84 (by decide) ?_
          obtain ⟨o59, go59, h⟩ := px_bs h
          obtain ⟨q60, gq60, h⟩ := px_bs h
          refine EV.callV (As := [.ref a2, .int 240]) (rest := []) dX7_refineOthers_87 kcX7_refineOthers_135 (gO_ok go59) rfl rfl rfl (Nat.le_of_ble_eq_true rfl) (Nat.le_of_ble_eq_true rfl) (eX7_putWord gq60) ?_
          refine EV.aload_n 0 dX7_refineOthers_90 rfl rfl ?_
          obtain ⟨o61, go61, h⟩ := px_bs h
          obtain ⟨q62, gq62, h⟩ := px_bs h
          refine EV.callV (As := []) (rest := []) dX7_refineOthers_91 kcX7_refineOthers_163 (gO_ok go61) rfl rfl rfl (Nat.le_of_ble_eq_true rfl) (Nat.le_of_ble_eq_true rfl) (eX7_sendBitsToCome gq62) ?_
          refine EV.iinc 4 (a4 + (-16)) [(4, .int (a4 + (-16))), (0, .ref a0), (1, .int a1), (2, .ref a2), (3, .int a3), (5, .int a5), (6, .int a6), (7, .int a7)] dX7_refineOthers_94 rfl rfl (by decide) rfl ?_
          refine EV.goto 59 dX7_refineOthers_97 (by decide) ?_
          refine EV.sub [1, 2, 3, 4, 0, 5, 6, 7] rfl ?_
          exact ih _ _ _ _ _ _ _ _ _ _ h
set_option maxRecDepth 100000 in
set_option maxHeartbeats 4000000 in
theorem eX7_refineOthers_204 {X : px_X}  : ∀ (a0 : Nat) (a2 : Nat) (w : px_W) (q : px_W), fX7_refineOthers_204 X  a0 a2 w = some q → EV X mX7_refineOthers 204 [(0, .ref a0), (2, .ref a2)] [] w none q := by
  intro a0 a2 w q h
  unfold fX7_refineOthers_204 at h
  refine EV.aload_n 0 dX7_refineOthers_204 rfl rfl ?_
  obtain ⟨o63, go63, h⟩ := px_bs h
  obtain ⟨q64, gq64, h⟩ := px_bs h
  refine EV.callV (As := []) (rest := []) dX7_refineOthers_205 kcX7_refineOthers_157 (gO_ok go63) rfl rfl rfl (Nat.le_of_ble_eq_true rfl) (Nat.le_of_ble_eq_true rfl) (eX7_isRunFull gq64) ?_
  refine EV.if_eq 216 dX7_refineOthers_208 (by decide) (fun c65 => ?_) (fun c65 => ?_)
  · rw [if_pos c65] at h
    cases h
    exact EV.ret0 dX7_refineOthers_216 trivial
  · rw [if_neg c65] at h
    refine EV.aload_n 0 dX7_refineOthers_211 rfl rfl ?_
    refine EV.aload_n 1 dX7_refineOthers_212 rfl rfl ?_
    obtain ⟨o66, go66, h⟩ := px_bs h
    obtain ⟨q67, gq67, h⟩ := px_bs h
    refine EV.callV (As := [.ref a2]) (rest := []) dX7_refineOthers_213 kcX7_refineOthers_100 (gO_ok go66) rfl rfl rfl (Nat.le_of_ble_eq_true rfl) (Nat.le_of_ble_eq_true rfl) (eX7_sendRun gq67) ?_
    cases h
    exact EV.ret0 dX7_refineOthers_216 trivial
set_option maxRecDepth 100000 in
set_option maxHeartbeats 4000000 in
theorem eX7_refineOthers_200 {X : px_X}  : ∀ (a0 : Nat) (a2 : Nat) (w : px_W) (q : px_W), fX7_refineOthers_200 X  a0 a2 w = some q → EV X mX7_refineOthers 200 [(0, .ref a0), (2, .ref a2)] [] w none q := by
  intro a0 a2 w q h
  unfold fX7_refineOthers_200 at h
  refine EV.aload_n 0 dX7_refineOthers_200 rfl rfl ?_
  obtain ⟨o68, go68, h⟩ := px_bs h
  obtain ⟨q69, gq69, h⟩ := px_bs h
  refine EV.callV (As := []) (rest := []) dX7_refineOthers_201 kcX7_refineOthers_154 (gO_ok go68) rfl rfl rfl (Nat.le_of_ble_eq_true rfl) (Nat.le_of_ble_eq_true rfl) (eX7_lengthenRun gq69) ?_
  refine EV.sub [0, 1] rfl ?_
  exact eX7_refineOthers_204  _ _ _ _ h
set_option maxRecDepth 100000 in
set_option maxHeartbeats 4000000 in
theorem eX7_refineOthers_188 {X : px_X}  : ∀ (a0 : Nat) (a2 : Nat) (a4 : Int32) (w : px_W) (q : px_W), fX7_refineOthers_188 X  a0 a2 a4 w = some q → EV X mX7_refineOthers 188 [(0, .ref a0), (2, .ref a2), (4, .int a4)] [] w none q := by
  intro a0 a2 a4 w q h
  unfold fX7_refineOthers_188 at h
  refine EV.iload 2 dX7_refineOthers_188 rfl ?_
  refine EV.if_gt 200 dX7_refineOthers_190 (by decide) (fun c70 => ?_) (fun c70 => ?_)
  · rw [if_pos c70] at h
    refine EV.sub [0, 1] rfl ?_
    exact eX7_refineOthers_200  _ _ _ _ h
  · rw [if_neg c70] at h
    refine EV.aload_n 0 dX7_refineOthers_193 rfl rfl ?_
    obtain ⟨v71, gv71, h⟩ := px_bs h
    refine ev_gI dX7_refineOthers_194 flRX7_166 gv71 ?_
    refine EV.if_le 204 dX7_refineOthers_197 (by decide) (fun c72 => ?_) (fun c72 => ?_)
    · rw [if_pos c72] at h
      refine EV.sub [0, 1] rfl ?_
      exact eX7_refineOthers_204  _ _ _ _ h
    · rw [if_neg c72] at h
      refine EV.sub [0, 1] rfl ?_
      exact eX7_refineOthers_200  _ _ _ _ h
set_option maxRecDepth 100000 in
set_option maxHeartbeats 4000000 in
theorem eX7_refineOthers_18 {X : px_X}  : ∀ (m : Nat) (a0 : Nat) (a1 : Int32) (a2 : Nat) (a3 : Int32) (a4 : Int32) (a5 : Int32) (w : px_W) (q : px_W), fX7_refineOthers_18 X  m a0 a1 a2 a3 a4 a5 w = some q → EV X mX7_refineOthers 18 [(0, .ref a0), (1, .int a1), (2, .ref a2), (3, .int a3), (4, .int a4), (5, .int a5)] [] w none q := by
  intro m
  induction m with
  | zero => intro a0 a1 a2 a3 a4 a5 w q h; cases h
  | succ m ih =>
    intro a0 a1 a2 a3 a4 a5 w q h
    rw [fX7_refineOthers_18.eq_2] at h
    refine EV.iload 5 dX7_refineOthers_18 rfl ?_
    refine EV.aload_n 0 dX7_refineOthers_20 rfl rfl ?_
    obtain ⟨v73, gv73, h⟩ := px_bs h
    refine ev_gR dX7_refineOthers_21 flRX7_21 gv73 ?_
    obtain ⟨v74, gv74, h⟩ := px_bs h
    refine ev_gI dX7_refineOthers_24 flRX7_86 gv74 ?_
    refine EV.icmp_gt 188 dX7_refineOthers_27 (by decide) (fun c75 => ?_) (fun c75 => ?_)
    · rw [if_pos c75] at h
      refine EV.sub [0, 2, 4] rfl ?_
      exact eX7_refineOthers_188  _ _ _ _ _ h
    · rw [if_neg c75] at h
      refine EV.aload_n 0 dX7_refineOthers_30 rfl rfl ?_
      obtain ⟨v76, gv76, h⟩ := px_bs h
      refine ev_gR dX7_refineOthers_31 flRX7_33 gv76 ?_
      obtain ⟨v77, gv77, h⟩ := px_bs h
      refine ev_gR dX7_refineOthers_34 flRX7_123 gv77 ?_
      refine EV.iload_n 1 dX7_refineOthers_37 rfl rfl ?_
      refine EV.iload 5 dX7_refineOthers_38 rfl ?_
      refine EV.iadd dX7_refineOthers_40 ?_
      obtain ⟨v78, gv78, h⟩ := px_bs h
      refine ev_aI dX7_refineOthers_41 gv78 ?_
      refine EV.istore [(6, .int v78), (0, .ref a0), (1, .int a1), (2, .ref a2), (3, .int a3), (4, .int a4), (5, .int a5)] dX7_refineOthers_42 (by decide) rfl ?_
      refine EV.iload 0 dX7_refineOthers_44 rfl ?_
      refine EV.mabs dX7_refineOthers_46 (tb5 (List.mem_of_getElem? (i := 39) rfl)) (by decide) (by decide) (Nat.le_of_ble_eq_true rfl) ?_
      refine EV.aload_n 1 dX7_refineOthers_49 rfl rfl ?_
      obtain ⟨v79, gv79, h⟩ := px_bs h
      refine ev_gR dX7_refineOthers_50 flRX7_21 gv79 ?_
      obtain ⟨v80, gv80, h⟩ := px_bs h
      refine ev_gI dX7_refineOthers_53 flRX7_128 gv80 ?_
      refine EV.ishr dX7_refineOthers_56 ?_
      refine EV.istore [(7, .int ((mabs v78) >>> (v80 &&& 31))), (6, .int v78), (0, .ref a0), (1, .int a1), (2, .ref a2), (3, .int a3), (4, .int a4), (5, .int a5)] dX7_refineOthers_57 (by decide) rfl ?_
      refine EV.sub [2, 3, 4, 5, 6, 7, 1, 0] rfl ?_
      exact eX7_refineOthers_59 ih FU _ _ _ _ _ _ _ _ _ _ h
set_option maxRecDepth 100000 in
set_option maxHeartbeats 4000000 in
theorem eX7_refineOthers {X : px_X} {w : px_W} {a0 : Nat} {a1 : Int32} {a2 : Nat} {q : px_W} (h : fX7_refineOthers X w a0 a1 a2 = some q) : EV X mX7_refineOthers 0 (lv_args 0 [.ref a0, .int a1, .ref a2]) [] w none q := by
  unfold fX7_refineOthers at h
  show EV X mX7_refineOthers 0 [(0, .ref a0), (1, .int a1), (2, .ref a2)] [] w none q
  refine EV.aload_n 0 dX7_refineOthers_0 rfl rfl ?_
  refine EV.iload_n 1 dX7_refineOthers_1 rfl rfl ?_
  obtain ⟨o81, go81, h⟩ := px_bs h
  obtain ⟨q82, gq82, h⟩ := px_bs h
  refine EV.callV (As := [.int a1]) (rest := []) dX7_refineOthers_2 kcX7_refineOthers_160 (gO_ok go81) rfl rfl rfl (Nat.le_of_ble_eq_true rfl) (Nat.le_of_ble_eq_true rfl) (eX7_lastNewOne gq82) ?_
  refine EV.istore_n [(3, .int q82.1), (0, .ref a0), (1, .int a1), (2, .ref a2)] dX7_refineOthers_5 rfl (by decide) rfl ?_
  refine EV.iconst (0) dX7_refineOthers_6 (by decide) ?_
  refine EV.istore [(4, .int 0), (3, .int q82.1), (0, .ref a0), (1, .int a1), (2, .ref a2)] dX7_refineOthers_7 (by decide) rfl ?_
  refine EV.aload_n 2 dX7_refineOthers_9 rfl rfl ?_
  obtain ⟨v83, gv83, h⟩ := px_bs h
  refine ev_gR dX7_refineOthers_10 flRX7_21 gv83 ?_
  obtain ⟨v84, gv84, h⟩ := px_bs h
  refine ev_gI dX7_refineOthers_13 flRX7_79 gv84 ?_
  refine EV.istore [(5, .int v84), (4, .int 0), (3, .int q82.1), (0, .ref a0), (1, .int a1), (2, .ref a2)] dX7_refineOthers_16 (by decide) rfl ?_
  refine EV.sub [3, 4, 5, 2, 1, 0] rfl ?_
  exact eX7_refineOthers_18  FU _ _ _ _ _ _ _ _ h
/-! WavePictures$Scan.isWhole()Z -/
theorem dX5_isWhole_0 : decode cX5_isWhole 0 = .ok (.aload_n 0, 1) := by decide +kernel
theorem dX5_isWhole_1 : decode cX5_isWhole 1 = .ok (.getfield 37, 3) := by decide +kernel
theorem dX5_isWhole_4 : decode cX5_isWhole 4 = .ok (.ifCond .ne 14, 3) := by decide +kernel
theorem dX5_isWhole_7 : decode cX5_isWhole 7 = .ok (.aload_n 0, 1) := by decide +kernel
theorem dX5_isWhole_8 : decode cX5_isWhole 8 = .ok (.getfield 40, 3) := by decide +kernel
theorem dX5_isWhole_11 : decode cX5_isWhole 11 = .ok (.ifCond .le 7, 3) := by decide +kernel
theorem dX5_isWhole_14 : decode cX5_isWhole 14 = .ok (.iconst 1, 1) := by decide +kernel
theorem dX5_isWhole_15 : decode cX5_isWhole 15 = .ok (.goto 4, 3) := by decide +kernel
theorem dX5_isWhole_18 : decode cX5_isWhole 18 = .ok (.iconst 0, 1) := by decide +kernel
theorem dX5_isWhole_19 : decode cX5_isWhole 19 = .ok (.ireturn, 1) := by decide +kernel
theorem flRX5_37 : px_f RX5 37 5 1 := ⟨_, rfl, by decide, Or.inl (tb1 (List.mem_of_getElem? (i := 187) rfl))⟩
theorem flRX5_40 : px_f RX5 40 5 2 := ⟨_, rfl, by decide, Or.inl (tb1 (List.mem_of_getElem? (i := 192) rfl))⟩
set_option maxRecDepth 100000 in
set_option maxHeartbeats 4000000 in
theorem eX5_isWhole {X : px_X} {w : px_W} {a0 : Nat} {q : Int32 × px_W} (h : fX5_isWhole X w a0 = some q) : EV X mX5_isWhole 0 (lv_args 0 [.ref a0]) [] w (some (.int q.1)) q.2 := by
  unfold fX5_isWhole at h
  show EV X mX5_isWhole 0 [(0, .ref a0)] [] w (some (.int q.1)) q.2
  refine EV.aload_n 0 dX5_isWhole_0 rfl rfl ?_
  obtain ⟨v3, gv3, h⟩ := px_bs h
  refine ev_gI dX5_isWhole_1 flRX5_37 gv3 ?_
  refine EV.if_ne 18 dX5_isWhole_4 (by decide) (fun c4 => ?_) (fun c4 => ?_)
  · rw [if_neg c4] at h
    refine EV.iconst (0) dX5_isWhole_18 (by decide) ?_
    cases h
    exact EV.reti dX5_isWhole_19 rfl
  · rw [if_pos c4] at h
    refine EV.aload_n 0 dX5_isWhole_7 rfl rfl ?_
    obtain ⟨v5, gv5, h⟩ := px_bs h
    refine ev_gI dX5_isWhole_8 flRX5_40 gv5 ?_
    refine EV.if_le 18 dX5_isWhole_11 (by decide) (fun c6 => ?_) (fun c6 => ?_)
    · rw [if_pos c6] at h
      refine EV.iconst (0) dX5_isWhole_18 (by decide) ?_
      cases h
      exact EV.reti dX5_isWhole_19 rfl
    · rw [if_neg c6] at h
      refine EV.iconst (1) dX5_isWhole_14 (by decide) ?_
      refine EV.goto 19 dX5_isWhole_15 (by decide) ?_
      cases h
      exact EV.reti dX5_isWhole_19 rfl
