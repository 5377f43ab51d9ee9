/-! WavePictures.mixCanvas(I)Z -/
theorem dX11_mixCanvas_0 : decode cX11_mixCanvas 0 = .ok (.iload_n 1, 1) := by decide +kernel
theorem dX11_mixCanvas_1 : decode cX11_mixCanvas 1 = .ok (.ifCond .lt 9, 3) := by decide +kernel
theorem dX11_mixCanvas_4 : decode cX11_mixCanvas 4 = .ok (.iload_n 1, 1) := by decide +kernel
theorem dX11_mixCanvas_5 : decode cX11_mixCanvas 5 = .ok (.bipush 6, 2) := by decide +kernel
theorem dX11_mixCanvas_7 : decode cX11_mixCanvas 7 = .ok (.if_icmp .le 5, 3) := by decide +kernel
theorem dX11_mixCanvas_10 : decode cX11_mixCanvas 10 = .ok (.iconst 0, 1) := by decide +kernel
theorem dX11_mixCanvas_11 : decode cX11_mixCanvas 11 = .ok (.ireturn, 1) := by decide +kernel
theorem dX11_mixCanvas_12 : decode cX11_mixCanvas 12 = .ok (.aload_n 0, 1) := by decide +kernel
theorem dX11_mixCanvas_13 : decode cX11_mixCanvas 13 = .ok (.getfield 34, 3) := by decide +kernel
theorem dX11_mixCanvas_16 : decode cX11_mixCanvas 16 = .ok (.iconst 0, 1) := by decide +kernel
theorem dX11_mixCanvas_17 : decode cX11_mixCanvas 17 = .ok (.aaload, 1) := by decide +kernel
theorem dX11_mixCanvas_18 : decode cX11_mixCanvas 18 = .ok (.getfield 274, 3) := by decide +kernel
theorem dX11_mixCanvas_21 : decode cX11_mixCanvas 21 = .ok (.istore_n 2, 1) := by decide +kernel
theorem dX11_mixCanvas_22 : decode cX11_mixCanvas 22 = .ok (.aload_n 0, 1) := by decide +kernel
theorem dX11_mixCanvas_23 : decode cX11_mixCanvas 23 = .ok (.getfield 34, 3) := by decide +kernel
theorem dX11_mixCanvas_26 : decode cX11_mixCanvas 26 = .ok (.iconst 0, 1) := by decide +kernel
theorem dX11_mixCanvas_27 : decode cX11_mixCanvas 27 = .ok (.aaload, 1) := by decide +kernel
theorem dX11_mixCanvas_28 : decode cX11_mixCanvas 28 = .ok (.getfield 280, 3) := by decide +kernel
theorem dX11_mixCanvas_31 : decode cX11_mixCanvas 31 = .ok (.istore_n 3, 1) := by decide +kernel
theorem dX11_mixCanvas_32 : decode cX11_mixCanvas 32 = .ok (.aload_n 0, 1) := by decide +kernel
theorem dX11_mixCanvas_33 : decode cX11_mixCanvas 33 = .ok (.getfield 34, 3) := by decide +kernel
theorem dX11_mixCanvas_36 : decode cX11_mixCanvas 36 = .ok (.iconst 1, 1) := by decide +kernel
theorem dX11_mixCanvas_37 : decode cX11_mixCanvas 37 = .ok (.aaload, 1) := by decide +kernel
theorem dX11_mixCanvas_38 : decode cX11_mixCanvas 38 = .ok (.iload_n 2, 1) := by decide +kernel
theorem dX11_mixCanvas_39 : decode cX11_mixCanvas 39 = .ok (.iload_n 3, 1) := by decide +kernel
theorem dX11_mixCanvas_40 : decode cX11_mixCanvas 40 = .ok (.invokevirtual 209, 3) := by decide +kernel
theorem dX11_mixCanvas_43 : decode cX11_mixCanvas 43 = .ok (.ifCond .eq 36, 3) := by decide +kernel
theorem dX11_mixCanvas_46 : decode cX11_mixCanvas 46 = .ok (.aload_n 0, 1) := by decide +kernel
theorem dX11_mixCanvas_47 : decode cX11_mixCanvas 47 = .ok (.getfield 34, 3) := by decide +kernel
theorem dX11_mixCanvas_50 : decode cX11_mixCanvas 50 = .ok (.iconst 2, 1) := by decide +kernel
theorem dX11_mixCanvas_51 : decode cX11_mixCanvas 51 = .ok (.aaload, 1) := by decide +kernel
theorem dX11_mixCanvas_52 : decode cX11_mixCanvas 52 = .ok (.iload_n 2, 1) := by decide +kernel
theorem dX11_mixCanvas_53 : decode cX11_mixCanvas 53 = .ok (.iload_n 3, 1) := by decide +kernel
theorem dX11_mixCanvas_54 : decode cX11_mixCanvas 54 = .ok (.invokevirtual 209, 3) := by decide +kernel
theorem dX11_mixCanvas_57 : decode cX11_mixCanvas 57 = .ok (.ifCond .eq 22, 3) := by decide +kernel
theorem dX11_mixCanvas_60 : decode cX11_mixCanvas 60 = .ok (.iload_n 1, 1) := by decide +kernel
theorem dX11_mixCanvas_61 : decode cX11_mixCanvas 61 = .ok (.iconst 3, 1) := by decide +kernel
theorem dX11_mixCanvas_62 : decode cX11_mixCanvas 62 = .ok (.if_icmp .ne 19, 3) := by decide +kernel
theorem dX11_mixCanvas_65 : decode cX11_mixCanvas 65 = .ok (.aload_n 0, 1) := by decide +kernel
theorem dX11_mixCanvas_66 : decode cX11_mixCanvas 66 = .ok (.getfield 34, 3) := by decide +kernel
theorem dX11_mixCanvas_69 : decode cX11_mixCanvas 69 = .ok (.iconst 3, 1) := by decide +kernel
theorem dX11_mixCanvas_70 : decode cX11_mixCanvas 70 = .ok (.aaload, 1) := by decide +kernel
theorem dX11_mixCanvas_71 : decode cX11_mixCanvas 71 = .ok (.iload_n 2, 1) := by decide +kernel
theorem dX11_mixCanvas_72 : decode cX11_mixCanvas 72 = .ok (.iload_n 3, 1) := by decide +kernel
theorem dX11_mixCanvas_73 : decode cX11_mixCanvas 73 = .ok (.invokevirtual 209, 3) := by decide +kernel
theorem dX11_mixCanvas_76 : decode cX11_mixCanvas 76 = .ok (.ifCond .ne 5, 3) := by decide +kernel
theorem dX11_mixCanvas_79 : decode cX11_mixCanvas 79 = .ok (.iconst 0, 1) := by decide +kernel
theorem dX11_mixCanvas_80 : decode cX11_mixCanvas 80 = .ok (.ireturn, 1) := by decide +kernel
theorem dX11_mixCanvas_81 : decode cX11_mixCanvas 81 = .ok (.iconst 0, 1) := by decide +kernel
theorem dX11_mixCanvas_82 : decode cX11_mixCanvas 82 = .ok (.istore 4, 2) := by decide +kernel
theorem dX11_mixCanvas_84 : decode cX11_mixCanvas 84 = .ok (.iload 4, 2) := by decide +kernel
theorem dX11_mixCanvas_86 : decode cX11_mixCanvas 86 = .ok (.iload_n 3, 1) := by decide +kernel
theorem dX11_mixCanvas_87 : decode cX11_mixCanvas 87 = .ok (.if_icmp .ge 37, 3) := by decide +kernel
theorem dX11_mixCanvas_90 : decode cX11_mixCanvas 90 = .ok (.iconst 0, 1) := by decide +kernel
theorem dX11_mixCanvas_91 : decode cX11_mixCanvas 91 = .ok (.istore 5, 2) := by decide +kernel
theorem dX11_mixCanvas_93 : decode cX11_mixCanvas 93 = .ok (.iload 5, 2) := by decide +kernel
theorem dX11_mixCanvas_95 : decode cX11_mixCanvas 95 = .ok (.iload_n 2, 1) := by decide +kernel
theorem dX11_mixCanvas_96 : decode cX11_mixCanvas 96 = .ok (.if_icmp .ge 22, 3) := by decide +kernel
theorem dX11_mixCanvas_99 : decode cX11_mixCanvas 99 = .ok (.aload_n 0, 1) := by decide +kernel
theorem dX11_mixCanvas_100 : decode cX11_mixCanvas 100 = .ok (.iload_n 1, 1) := by decide +kernel
theorem dX11_mixCanvas_101 : decode cX11_mixCanvas 101 = .ok (.bipush 32, 2) := by decide +kernel
theorem dX11_mixCanvas_103 : decode cX11_mixCanvas 103 = .ok (.iload 4, 2) := by decide +kernel
theorem dX11_mixCanvas_105 : decode cX11_mixCanvas 105 = .ok (.imul, 1) := by decide +kernel
theorem dX11_mixCanvas_106 : decode cX11_mixCanvas 106 = .ok (.iload 5, 2) := by decide +kernel
theorem dX11_mixCanvas_108 : decode cX11_mixCanvas 108 = .ok (.iadd, 1) := by decide +kernel
theorem dX11_mixCanvas_109 : decode cX11_mixCanvas 109 = .ok (.invokevirtual 332, 3) := by decide +kernel
theorem dX11_mixCanvas_112 : decode cX11_mixCanvas 112 = .ok (.iinc 5 1, 3) := by decide +kernel
theorem dX11_mixCanvas_115 : decode cX11_mixCanvas 115 = .ok (.goto (-22), 3) := by decide +kernel
theorem dX11_mixCanvas_118 : decode cX11_mixCanvas 118 = .ok (.iinc 4 1, 3) := by decide +kernel
theorem dX11_mixCanvas_121 : decode cX11_mixCanvas 121 = .ok (.goto (-37), 3) := by decide +kernel
theorem dX11_mixCanvas_124 : decode cX11_mixCanvas 124 = .ok (.iconst 1, 1) := by decide +kernel
theorem dX11_mixCanvas_125 : decode cX11_mixCanvas 125 = .ok (.ireturn, 1) := by decide +kernel
theorem kcX11_mixCanvas_209 : px_cV mX11_mixCanvas 209 mX3_isOfSize 2 := ⟨⟨mbX3_isOfSize, by decide, by decide⟩, Or.inl (tb5 (List.mem_of_getElem? (i := 107) rfl)), vbX3_isOfSize⟩
theorem mbX11_mixPlace : px_mB mX11_mixPlace 2 := ⟨tb6 (List.mem_of_getElem? (i := 47) rfl), by decide +kernel, tb1 (List.mem_of_getElem? (i := 1) rfl), by decide +kernel, by decide +kernel⟩
theorem vbX11_mixPlace : px_vB mX11_mixPlace := ⟨tb6 (List.mem_of_getElem? (i := 46) rfl), List.mem_append_left _ (List.mem_of_getElem? (i := 78) (by decide +kernel))⟩
theorem kcX11_mixCanvas_332 : px_cV mX11_mixCanvas 332 mX11_mixPlace 2 := ⟨⟨mbX11_mixPlace, by decide, by decide⟩, Or.inl (tb6 (List.mem_of_getElem? (i := 44) rfl)), vbX11_mixPlace⟩
set_option maxRecDepth 100000 in
set_option maxHeartbeats 4000000 in
theorem eX11_mixCanvas_118 {X : px_X} {k84 : Nat → Int32 → Int32 → Int32 → Int32 → px_W → Option (Int32 × px_W)} (hk84 : ∀ (a0 : Nat) (a1 : Int32) (a2 : Int32) (a3 : Int32) (a4 : Int32) (w : px_W) (q : Int32 × px_W), k84 a0 a1 a2 a3 a4 w = some q → EV X mX11_mixCanvas 84 [(0, .ref a0), (1, .int a1), (2, .int a2), (3, .int a3), (4, .int a4)] [] w (some (.int q.1)) q.2) : ∀ (a0 : Nat) (a1 : Int32) (a2 : Int32) (a3 : Int32) (a4 : Int32) (w : px_W) (q : Int32 × px_W), fX11_mixCanvas_118 X k84 a0 a1 a2 a3 a4 w = some q → EV X mX11_mixCanvas 118 [(0, .ref a0), (1, .int a1), (2, .int a2), (3, .int a3), (4, .int a4)] [] w (some (.int q.1)) q.2 := by
  intro a0 a1 a2 a3 a4 w q h
  unfold fX11_mixCanvas_118 at h
  refine EV.iinc 4 (a4 + 1) [(4, .int (a4 + 1)), (0, .ref a0), (1, .int a1), (2, .int a2), (3, .int a3)] dX11_mixCanvas_118 rfl rfl (by decide) rfl ?_
  refine EV.goto 84 dX11_mixCanvas_121 (by decide) ?_
  refine EV.sub [1, 2, 3, 4, 0] rfl ?_
  exact hk84 _ _ _ _ _ _ _ h
set_option maxRecDepth 100000 in
set_option maxHeartbeats 4000000 in
theorem eX11_mixCanvas_93 {X : px_X} {k84 : Nat → Int32 → Int32 → Int32 → Int32 → px_W → Option (Int32 × px_W)} (hk84 : ∀ (a0 : Nat) (a1 : Int32) (a2 : Int32) (a3 : Int32) (a4 : Int32) (w : px_W) (q : Int32 × px_W), k84 a0 a1 a2 a3 a4 w = some q → EV X mX11_mixCanvas 84 [(0, .ref a0), (1, .int a1), (2, .int a2), (3, .int a3), (4, .int a4)] [] w (some (.int q.1)) q.2) : ∀ (m : Nat) (a0 : Nat) (a1 : Int32) (a2 : Int32) (a3 : Int32) (a4 : Int32) (a5 : Int32) (w : px_W) (q : Int32 × px_W), fX11_mixCanvas_93 X k84 m a0 a1 a2 a3 a4 a5 w = some q → EV X mX11_mixCanvas 93 [(0, .ref a0), (1, .int a1), (2, .int a2), (3, .int a3), (4, .int a4), (5, .int a5)] [] w (some (.int q.1)) q.2 := by
  intro m
  induction m with
  | zero => intro a0 a1 a2 a3 a4 a5 w q h; cases h
  | succ m ih =>
    intro a0 a1 a2 a3 a4 a5 w q h
    rw [fX11_mixCanvas_93.eq_2] at h
    refine EV.iload 5 dX11_mixCanvas_93 rfl ?_
    refine EV.iload_n 2 dX11_mixCanvas_95 rfl rfl ?_
    refine EV.icmp_ge 118 dX11_mixCanvas_96 (by decide) (fun c21 => ?_) (fun c21 => ?_)
    · rw [if_pos c21] at h
      refine EV.sub [0, 1, 2, 3, 4] rfl ?_
      exact eX11_mixCanvas_118 hk84 _ _ _ _ _ _ _ h
    · rw [if_neg c21] at h
      refine EV.aload_n 0 dX11_mixCanvas_99 rfl rfl ?_
      refine EV.iload_n 1 dX11_mixCanvas_100 rfl rfl ?_
      refine EV.bipush (32) dX11_mixCanvas_101 (by decide) ?_
      refine EV.iload 4 dX11_mixCanvas_103 rfl ?_
      refine EV.imul dX11_mixCanvas_105 ?_
      refine EV.iload 5 dX11_mixCanvas_106 rfl ?_
      refine EV.iadd dX11_mixCanvas_108 ?_
      obtain ⟨o22, go22, h⟩ := px_bs h
      obtain ⟨q23, gq23, h⟩ := px_bs h
      refine EV.callV (As := [.int a1, .int ((32 * a4) + a5)]) (rest := []) dX11_mixCanvas_109 kcX11_mixCanvas_332 (gO_ok go22) rfl rfl rfl (Nat.le_of_ble_eq_true rfl) (Nat.le_of_ble_eq_true rfl) (eX11_mixPlace gq23) ?_
      refine EV.iinc 5 (a5 + 1) [(5, .int (a5 + 1)), (0, .ref a0), (1, .int a1), (2, .int a2), (3, .int a3), (4, .int a4)] dX11_mixCanvas_112 rfl rfl (by decide) rfl ?_
      refine EV.goto 93 dX11_mixCanvas_115 (by decide) ?_
      refine EV.sub [1, 2, 3, 4, 5, 0] rfl ?_
      exact ih _ _ _ _ _ _ _ _ h
set_option maxRecDepth 100000 in
set_option maxHeartbeats 4000000 in
theorem eX11_mixCanvas_84 {X : px_X}  : ∀ (m : Nat) (a0 : Nat) (a1 : Int32) (a2 : Int32) (a3 : Int32) (a4 : Int32) (w : px_W) (q : Int32 × px_W), fX11_mixCanvas_84 X  m a0 a1 a2 a3 a4 w = some q → EV X mX11_mixCanvas 84 [(0, .ref a0), (1, .int a1), (2, .int a2), (3, .int a3), (4, .int a4)] [] w (some (.int q.1)) q.2 := by
  intro m
  induction m with
  | zero => intro a0 a1 a2 a3 a4 w q h; cases h
  | succ m ih =>
    intro a0 a1 a2 a3 a4 w q h
    rw [fX11_mixCanvas_84.eq_2] at h
    refine EV.iload 4 dX11_mixCanvas_84 rfl ?_
    refine EV.iload_n 3 dX11_mixCanvas_86 rfl rfl ?_
    refine EV.icmp_ge 124 dX11_mixCanvas_87 (by decide) (fun c24 => ?_) (fun c24 => ?_)
    · rw [if_pos c24] at h
      refine EV.iconst (1) dX11_mixCanvas_124 (by decide) ?_
      cases h
      exact EV.reti dX11_mixCanvas_125 rfl
    · rw [if_neg c24] at h
      refine EV.iconst (0) dX11_mixCanvas_90 (by decide) ?_
      refine EV.istore [(5, .int 0), (0, .ref a0), (1, .int a1), (2, .int a2), (3, .int a3), (4, .int a4)] dX11_mixCanvas_91 (by decide) rfl ?_
      refine EV.sub [1, 2, 3, 4, 5, 0] rfl ?_
      exact eX11_mixCanvas_93 ih FU _ _ _ _ _ _ _ _ h
set_option maxRecDepth 100000 in
set_option maxHeartbeats 4000000 in
theorem eX11_mixCanvas_81 {X : px_X}  : ∀ (a0 : Nat) (a1 : Int32) (a2 : Int32) (a3 : Int32) (w : px_W) (q : Int32 × px_W), fX11_mixCanvas_81 X  a0 a1 a2 a3 w = some q → EV X mX11_mixCanvas 81 [(0, .ref a0), (1, .int a1), (2, .int a2), (3, .int a3)] [] w (some (.int q.1)) q.2 := by
  intro a0 a1 a2 a3 w q h
  unfold fX11_mixCanvas_81 at h
  refine EV.iconst (0) dX11_mixCanvas_81 (by decide) ?_
  refine EV.istore [(4, .int 0), (0, .ref a0), (1, .int a1), (2, .int a2), (3, .int a3)] dX11_mixCanvas_82 (by decide) rfl ?_
  refine EV.sub [1, 2, 3, 4, 0] rfl ?_
  exact eX11_mixCanvas_84  FU _ _ _ _ _ _ _ h
set_option maxRecDepth 100000 in
set_option maxHeartbeats 4000000 in
theorem eX11_mixCanvas {X : px_X} {w : px_W} {a0 : Nat} {a1 : Int32} {q : Int32 × px_W} (h : fX11_mixCanvas X w a0 a1 = some q) : EV X mX11_mixCanvas 0 (lv_args 0 [.ref a0, .int a1]) [] w (some (.int q.1)) q.2 := by
  unfold fX11_mixCanvas at h
  show EV X mX11_mixCanvas 0 [(0, .ref a0), (1, .int a1)] [] w (some (.int q.1)) q.2
  refine EV.iload_n 1 dX11_mixCanvas_0 rfl rfl ?_
  refine EV.if_lt 10 dX11_mixCanvas_1 (by decide) (fun c25 => ?_) (fun c25 => ?_)
  · rw [if_pos c25] at h
    refine EV.iconst (0) dX11_mixCanvas_10 (by decide) ?_
    cases h
    exact EV.reti dX11_mixCanvas_11 rfl
  · rw [if_neg c25] at h
    refine EV.iload_n 1 dX11_mixCanvas_4 rfl rfl ?_
    refine EV.bipush (6) dX11_mixCanvas_5 (by decide) ?_
    refine EV.icmp_le 12 dX11_mixCanvas_7 (by decide) (fun c26 => ?_) (fun c26 => ?_)
    · rw [if_pos c26] at h
      refine EV.aload_n 0 dX11_mixCanvas_12 rfl rfl ?_
      obtain ⟨v27, gv27, h⟩ := px_bs h
      refine ev_gR dX11_mixCanvas_13 flRX11_34 gv27 ?_
      refine EV.iconst (0) dX11_mixCanvas_16 (by decide) ?_
      obtain ⟨v28, gv28, h⟩ := px_bs h
      refine ev_aQ dX11_mixCanvas_17 (t := 6) rfl gv28 ?_
      obtain ⟨v29, gv29, h⟩ := px_bs h
      refine ev_gI dX11_mixCanvas_18 flRX11_274 gv29 ?_
      refine EV.istore_n [(2, .int v29), (0, .ref a0), (1, .int a1)] dX11_mixCanvas_21 rfl (by decide) rfl ?_
      refine EV.aload_n 1 dX11_mixCanvas_22 rfl rfl ?_
      obtain ⟨v30, gv30, h⟩ := px_bs h
      refine ev_gR dX11_mixCanvas_23 flRX11_34 gv30 ?_
      refine EV.iconst (0) dX11_mixCanvas_26 (by decide) ?_
      obtain ⟨v31, gv31, h⟩ := px_bs h
      refine ev_aQ dX11_mixCanvas_27 (t := 6) rfl gv31 ?_
      obtain ⟨v32, gv32, h⟩ := px_bs h
      refine ev_gI dX11_mixCanvas_28 flRX11_280 gv32 ?_
      refine EV.istore_n [(3, .int v32), (2, .int v29), (0, .ref a0), (1, .int a1)] dX11_mixCanvas_31 rfl (by decide) rfl ?_
      refine EV.aload_n 2 dX11_mixCanvas_32 rfl rfl ?_
      obtain ⟨v33, gv33, h⟩ := px_bs h
      refine ev_gR dX11_mixCanvas_33 flRX11_34 gv33 ?_
      refine EV.iconst (1) dX11_mixCanvas_36 (by decide) ?_
      obtain ⟨v34, gv34, h⟩ := px_bs h
      refine ev_aQ dX11_mixCanvas_37 (t := 6) rfl gv34 ?_
      refine EV.iload_n 1 dX11_mixCanvas_38 rfl rfl ?_
      refine EV.iload_n 0 dX11_mixCanvas_39 rfl rfl ?_
      obtain ⟨o35, go35, h⟩ := px_bs h
      obtain ⟨q36, gq36, h⟩ := px_bs h
      refine EV.callV (As := [.int v29, .int v32]) (rest := []) dX11_mixCanvas_40 kcX11_mixCanvas_209 (gO_ok go35) rfl rfl rfl (Nat.le_of_ble_eq_true rfl) (Nat.le_of_ble_eq_true rfl) (eX3_isOfSize gq36) ?_
      refine EV.if_eq 79 dX11_mixCanvas_43 (by decide) (fun c37 => ?_) (fun c37 => ?_)
      · rw [if_pos c37] at h
        refine EV.iconst (0) dX11_mixCanvas_79 (by decide) ?_
        cases h
        exact EV.reti dX11_mixCanvas_80 rfl
      · rw [if_neg c37] at h
        refine EV.aload_n 2 dX11_mixCanvas_46 rfl rfl ?_
        obtain ⟨v38, gv38, h⟩ := px_bs h
        refine ev_gR dX11_mixCanvas_47 flRX11_34 gv38 ?_
        refine EV.iconst (2) dX11_mixCanvas_50 (by decide) ?_
        obtain ⟨v39, gv39, h⟩ := px_bs h
        refine ev_aQ dX11_mixCanvas_51 (t := 6) rfl gv39 ?_
        refine EV.iload_n 1 dX11_mixCanvas_52 rfl rfl ?_
        refine EV.iload_n 0 dX11_mixCanvas_53 rfl rfl ?_
        obtain ⟨o40, go40, h⟩ := px_bs h
        obtain ⟨q41, gq41, h⟩ := px_bs h
        refine EV.callV (As := [.int v29, .int v32]) (rest := []) dX11_mixCanvas_54 kcX11_mixCanvas_209 (gO_ok go40) rfl rfl rfl (Nat.le_of_ble_eq_true rfl) (Nat.le_of_ble_eq_true rfl) (eX3_isOfSize gq41) ?_
        refine EV.if_eq 79 dX11_mixCanvas_57 (by decide) (fun c42 => ?_) (fun c42 => ?_)
        · rw [if_pos c42] at h
          refine EV.iconst (0) dX11_mixCanvas_79 (by decide) ?_
          cases h
          exact EV.reti dX11_mixCanvas_80 rfl
        · rw [if_neg c42] at h
          refine EV.iload_n 3 dX11_mixCanvas_60 rfl rfl ?_
          refine EV.iconst (3) dX11_mixCanvas_61 (by decide) ?_
          refine EV.icmp_ne 81 dX11_mixCanvas_62 (by decide) (fun c43 => ?_) (fun c43 => ?_)
          · rw [if_neg c43] at h
            refine EV.sub [2, 3, 1, 0] rfl ?_
            exact eX11_mixCanvas_81  _ _ _ _ _ _ h
          · rw [if_pos c43] at h
            refine EV.aload_n 2 dX11_mixCanvas_65 rfl rfl ?_
            obtain ⟨v44, gv44, h⟩ := px_bs h
            refine ev_gR dX11_mixCanvas_66 flRX11_34 gv44 ?_
            refine EV.iconst (3) dX11_mixCanvas_69 (by decide) ?_
            obtain ⟨v45, gv45, h⟩ := px_bs h
            refine ev_aQ dX11_mixCanvas_70 (t := 6) rfl gv45 ?_
            refine EV.iload_n 1 dX11_mixCanvas_71 rfl rfl ?_
            refine EV.iload_n 0 dX11_mixCanvas_72 rfl rfl ?_
            obtain ⟨o46, go46, h⟩ := px_bs h
            obtain ⟨q47, gq47, h⟩ := px_bs h
            refine EV.callV (As := [.int v29, .int v32]) (rest := []) dX11_mixCanvas_73 kcX11_mixCanvas_209 (gO_ok go46) rfl rfl rfl (Nat.le_of_ble_eq_true rfl) (Nat.le_of_ble_eq_true rfl) (eX3_isOfSize gq47) ?_
            refine EV.if_ne 81 dX11_mixCanvas_76 (by decide) (fun c48 => ?_) (fun c48 => ?_)
            · rw [if_neg c48] at h
              refine EV.sub [2, 3, 1, 0] rfl ?_
              exact eX11_mixCanvas_81  _ _ _ _ _ _ h
            · rw [if_pos c48] at h
              refine EV.iconst (0) dX11_mixCanvas_79 (by decide) ?_
              cases h
              exact EV.reti dX11_mixCanvas_80 rfl
    · rw [if_neg c26] at h
      refine EV.iconst (0) dX11_mixCanvas_10 (by decide) ?_
      cases h
      exact EV.reti dX11_mixCanvas_11 rfl
/-! WavePictures.statusOf(I)I -/
theorem dX11_statusOf_0 : decode cX11_statusOf 0 = .ok (.iload_n 1, 1) := by decide +kernel
theorem dX11_statusOf_1 : decode cX11_statusOf 1 = .ok (.tableswitch 84 0 6 #[43, 51, 56, 61, 69, 74, 79], 43) := by decide +kernel
theorem dX11_statusOf_44 : decode cX11_statusOf 44 = .ok (.aload_n 0, 1) := by decide +kernel
theorem dX11_statusOf_45 : decode cX11_statusOf 45 = .ok (.getfield 10, 3) := by decide +kernel
theorem dX11_statusOf_48 : decode cX11_statusOf 48 = .ok (.getfield 80, 3) := by decide +kernel
theorem dX11_statusOf_51 : decode cX11_statusOf 51 = .ok (.ireturn, 1) := by decide +kernel
theorem dX11_statusOf_52 : decode cX11_statusOf 52 = .ok (.aload_n 0, 1) := by decide +kernel
theorem dX11_statusOf_53 : decode cX11_statusOf 53 = .ok (.getfield 158, 3) := by decide +kernel
theorem dX11_statusOf_56 : decode cX11_statusOf 56 = .ok (.ireturn, 1) := by decide +kernel
theorem dX11_statusOf_57 : decode cX11_statusOf 57 = .ok (.aload_n 0, 1) := by decide +kernel
theorem dX11_statusOf_58 : decode cX11_statusOf 58 = .ok (.getfield 76, 3) := by decide +kernel
theorem dX11_statusOf_61 : decode cX11_statusOf 61 = .ok (.ireturn, 1) := by decide +kernel
theorem dX11_statusOf_62 : decode cX11_statusOf 62 = .ok (.aload_n 0, 1) := by decide +kernel
theorem dX11_statusOf_63 : decode cX11_statusOf 63 = .ok (.getfield 16, 3) := by decide +kernel
theorem dX11_statusOf_66 : decode cX11_statusOf 66 = .ok (.getfield 80, 3) := by decide +kernel
theorem dX11_statusOf_69 : decode cX11_statusOf 69 = .ok (.ireturn, 1) := by decide +kernel
theorem dX11_statusOf_70 : decode cX11_statusOf 70 = .ok (.aload_n 0, 1) := by decide +kernel
theorem dX11_statusOf_71 : decode cX11_statusOf 71 = .ok (.getfield 159, 3) := by decide +kernel
theorem dX11_statusOf_74 : decode cX11_statusOf 74 = .ok (.ireturn, 1) := by decide +kernel
theorem dX11_statusOf_75 : decode cX11_statusOf 75 = .ok (.aload_n 0, 1) := by decide +kernel
theorem dX11_statusOf_76 : decode cX11_statusOf 76 = .ok (.getfield 162, 3) := by decide +kernel
theorem dX11_statusOf_79 : decode cX11_statusOf 79 = .ok (.ireturn, 1) := by decide +kernel
theorem dX11_statusOf_80 : decode cX11_statusOf 80 = .ok (.aload_n 0, 1) := by decide +kernel
theorem dX11_statusOf_81 : decode cX11_statusOf 81 = .ok (.getfield 163, 3) := by decide +kernel
theorem dX11_statusOf_84 : decode cX11_statusOf 84 = .ok (.ireturn, 1) := by decide +kernel
theorem dX11_statusOf_85 : decode cX11_statusOf 85 = .ok (.iload_n 1, 1) := by decide +kernel
theorem dX11_statusOf_86 : decode cX11_statusOf 86 = .ok (.bipush 8, 2) := by decide +kernel
theorem dX11_statusOf_88 : decode cX11_statusOf 88 = .ok (.if_icmp .lt 9, 3) := by decide +kernel
theorem dX11_statusOf_91 : decode cX11_statusOf 91 = .ok (.iload_n 1, 1) := by decide +kernel
theorem dX11_statusOf_92 : decode cX11_statusOf 92 = .ok (.bipush 15, 2) := by decide +kernel
theorem dX11_statusOf_94 : decode cX11_statusOf 94 = .ok (.if_icmp .le 5, 3) := by decide +kernel
theorem dX11_statusOf_97 : decode cX11_statusOf 97 = .ok (.iconst (-1), 1) := by decide +kernel
theorem dX11_statusOf_98 : decode cX11_statusOf 98 = .ok (.ireturn, 1) := by decide +kernel
theorem dX11_statusOf_99 : decode cX11_statusOf 99 = .ok (.aload_n 0, 1) := by decide +kernel
theorem dX11_statusOf_100 : decode cX11_statusOf 100 = .ok (.getfield 34, 3) := by decide +kernel
theorem dX11_statusOf_103 : decode cX11_statusOf 103 = .ok (.iload_n 1, 1) := by decide +kernel
theorem dX11_statusOf_104 : decode cX11_statusOf 104 = .ok (.bipush 8, 2) := by decide +kernel
theorem dX11_statusOf_106 : decode cX11_statusOf 106 = .ok (.isub, 1) := by decide +kernel
theorem dX11_statusOf_107 : decode cX11_statusOf 107 = .ok (.iconst 2, 1) := by decide +kernel
theorem dX11_statusOf_108 : decode cX11_statusOf 108 = .ok (.idiv, 1) := by decide +kernel
theorem dX11_statusOf_109 : decode cX11_statusOf 109 = .ok (.aaload, 1) := by decide +kernel
theorem dX11_statusOf_110 : decode cX11_statusOf 110 = .ok (.astore_n 2, 1) := by decide +kernel
theorem dX11_statusOf_111 : decode cX11_statusOf 111 = .ok (.iload_n 1, 1) := by decide +kernel
theorem dX11_statusOf_112 : decode cX11_statusOf 112 = .ok (.iconst 2, 1) := by decide +kernel
theorem dX11_statusOf_113 : decode cX11_statusOf 113 = .ok (.irem, 1) := by decide +kernel
theorem dX11_statusOf_114 : decode cX11_statusOf 114 = .ok (.ifCond .ne 10, 3) := by decide +kernel
theorem dX11_statusOf_117 : decode cX11_statusOf 117 = .ok (.aload_n 2, 1) := by decide +kernel
theorem dX11_statusOf_118 : decode cX11_statusOf 118 = .ok (.getfield 274, 3) := by decide +kernel
theorem dX11_statusOf_121 : decode cX11_statusOf 121 = .ok (.goto 7, 3) := by decide +kernel
theorem dX11_statusOf_124 : decode cX11_statusOf 124 = .ok (.aload_n 2, 1) := by decide +kernel
theorem dX11_statusOf_125 : decode cX11_statusOf 125 = .ok (.getfield 280, 3) := by decide +kernel
theorem dX11_statusOf_128 : decode cX11_statusOf 128 = .ok (.ireturn, 1) := by decide +kernel
set_option maxRecDepth 100000 in
set_option maxHeartbeats 4000000 in
theorem eX11_statusOf {X : px_X} {w : px_W} {a0 : Nat} {a1 : Int32} {q : Int32 × px_W} (h : fX11_statusOf X w a0 a1 = some q) : EV X mX11_statusOf 0 (lv_args 0 [.ref a0, .int a1]) [] w (some (.int q.1)) q.2 := by
  unfold fX11_statusOf at h
  show EV X mX11_statusOf 0 [(0, .ref a0), (1, .int a1)] [] w (some (.int q.1)) q.2
  refine EV.iload_n 1 dX11_statusOf_0 rfl rfl ?_
  by_cases c16 : a1 = 0
  · rw [if_pos c16] at h
    refine EV.tableIn 44 dX11_statusOf_1 (by rw [c16]; decide) (by rw [c16]; decide) (by rw [c16]; rfl) (by decide) ?_
    refine EV.aload_n 0 dX11_statusOf_44 rfl rfl ?_
    obtain ⟨v17, gv17, h⟩ := px_bs h
    refine ev_gR dX11_statusOf_45 flRX11_10 gv17 ?_
    obtain ⟨v18, gv18, h⟩ := px_bs h
    refine ev_gI dX11_statusOf_48 flRX11_80 gv18 ?_
    cases h
    exact EV.reti dX11_statusOf_51 rfl
  rw [if_neg c16] at h
  by_cases c19 : a1 = 1
  · rw [if_pos c19] at h
    refine EV.tableIn 52 dX11_statusOf_1 (by rw [c19]; decide) (by rw [c19]; decide) (by rw [c19]; rfl) (by decide) ?_
    refine EV.aload_n 0 dX11_statusOf_52 rfl rfl ?_
    obtain ⟨v20, gv20, h⟩ := px_bs h
    refine ev_gI dX11_statusOf_53 flRX11_158 gv20 ?_
    cases h
    exact EV.reti dX11_statusOf_56 rfl
  rw [if_neg c19] at h
  by_cases c21 : a1 = 2
  · rw [if_pos c21] at h
    refine EV.tableIn 57 dX11_statusOf_1 (by rw [c21]; decide) (by rw [c21]; decide) (by rw [c21]; rfl) (by decide) ?_
    refine EV.aload_n 0 dX11_statusOf_57 rfl rfl ?_
    obtain ⟨v22, gv22, h⟩ := px_bs h
    refine ev_gI dX11_statusOf_58 flRX11_76 gv22 ?_
    cases h
    exact EV.reti dX11_statusOf_61 rfl
  rw [if_neg c21] at h
  by_cases c23 : a1 = 3
  · rw [if_pos c23] at h
    refine EV.tableIn 62 dX11_statusOf_1 (by rw [c23]; decide) (by rw [c23]; decide) (by rw [c23]; rfl) (by decide) ?_
    refine EV.aload_n 0 dX11_statusOf_62 rfl rfl ?_
    obtain ⟨v24, gv24, h⟩ := px_bs h
    refine ev_gR dX11_statusOf_63 flRX11_16 gv24 ?_
    obtain ⟨v25, gv25, h⟩ := px_bs h
    refine ev_gI dX11_statusOf_66 flRX11_80 gv25 ?_
    cases h
    exact EV.reti dX11_statusOf_69 rfl
  rw [if_neg c23] at h
  by_cases c26 : a1 = 4
  · rw [if_pos c26] at h
    refine EV.tableIn 70 dX11_statusOf_1 (by rw [c26]; decide) (by rw [c26]; decide) (by rw [c26]; rfl) (by decide) ?_
    refine EV.aload_n 0 dX11_statusOf_70 rfl rfl ?_
    obtain ⟨v27, gv27, h⟩ := px_bs h
    refine ev_gI dX11_statusOf_71 flRX11_159 gv27 ?_
    cases h
    exact EV.reti dX11_statusOf_74 rfl
  rw [if_neg c26] at h
  by_cases c28 : a1 = 5
  · rw [if_pos c28] at h
    refine EV.tableIn 75 dX11_statusOf_1 (by rw [c28]; decide) (by rw [c28]; decide) (by rw [c28]; rfl) (by decide) ?_
    refine EV.aload_n 0 dX11_statusOf_75 rfl rfl ?_
    obtain ⟨v29, gv29, h⟩ := px_bs h
    refine ev_gI dX11_statusOf_76 flRX11_162 gv29 ?_
    cases h
    exact EV.reti dX11_statusOf_79 rfl
  rw [if_neg c28] at h
  by_cases c30 : a1 = 6
  · rw [if_pos c30] at h
    refine EV.tableIn 80 dX11_statusOf_1 (by rw [c30]; decide) (by rw [c30]; decide) (by rw [c30]; rfl) (by decide) ?_
    refine EV.aload_n 0 dX11_statusOf_80 rfl rfl ?_
    obtain ⟨v31, gv31, h⟩ := px_bs h
    refine ev_gI dX11_statusOf_81 flRX11_163 gv31 ?_
    cases h
    exact EV.reti dX11_statusOf_84 rfl
  rw [if_neg c30] at h
  have nc16 : (a1).toInt ≠ 0 := fun z => c16 (Int32.toInt_inj.mp (z.trans (by decide)))
  have nc19 : (a1).toInt ≠ 1 := fun z => c19 (Int32.toInt_inj.mp (z.trans (by decide)))
  have nc21 : (a1).toInt ≠ 2 := fun z => c21 (Int32.toInt_inj.mp (z.trans (by decide)))
  have nc23 : (a1).toInt ≠ 3 := fun z => c23 (Int32.toInt_inj.mp (z.trans (by decide)))
  have nc26 : (a1).toInt ≠ 4 := fun z => c26 (Int32.toInt_inj.mp (z.trans (by decide)))
  have nc28 : (a1).toInt ≠ 5 := fun z => c28 (Int32.toInt_inj.mp (z.trans (by decide)))
  have nc30 : (a1).toInt ≠ 6 := fun z => c30 (Int32.toInt_inj.mp (z.trans (by decide)))
  refine EV.tableOut 85 dX11_statusOf_1 (by omega) (by decide) ?_
  refine EV.iload_n 1 dX11_statusOf_85 rfl rfl ?_
  refine EV.bipush (8) dX11_statusOf_86 (by decide) ?_
  refine EV.icmp_lt 97 dX11_statusOf_88 (by decide) (fun c32 => ?_) (fun c32 => ?_)
  · rw [if_pos c32] at h
    refine EV.iconst ((-1)) dX11_statusOf_97 (by decide) ?_
    cases h
    exact EV.reti dX11_statusOf_98 rfl
  · rw [if_neg c32] at h
    refine EV.iload_n 1 dX11_statusOf_91 rfl rfl ?_
    refine EV.bipush (15) dX11_statusOf_92 (by decide) ?_
    refine EV.icmp_le 99 dX11_statusOf_94 (by decide) (fun c33 => ?_) (fun c33 => ?_)
    · rw [if_pos c33] at h
      refine EV.aload_n 0 dX11_statusOf_99 rfl rfl ?_
      obtain ⟨v34, gv34, h⟩ := px_bs h
      refine ev_gR dX11_statusOf_100 flRX11_34 gv34 ?_
      refine EV.iload_n 1 dX11_statusOf_103 rfl rfl ?_
      refine EV.bipush (8) dX11_statusOf_104 (by decide) ?_
      refine EV.isub dX11_statusOf_106 ?_
      refine EV.iconst (2) dX11_statusOf_107 (by decide) ?_
      obtain ⟨v35, gv35, h⟩ := px_bs h
      refine ev_dI dX11_statusOf_108 gv35 ?_
      obtain ⟨v36, gv36, h⟩ := px_bs h
      refine ev_aQ dX11_statusOf_109 (t := 6) rfl gv36 ?_
      refine EV.astore_n [(2, .ref v36), (0, .ref a0), (1, .int a1)] dX11_statusOf_110 rfl (by decide) rfl ?_
      refine EV.iload_n 2 dX11_statusOf_111 rfl rfl ?_
      refine EV.iconst (2) dX11_statusOf_112 (by decide) ?_
      obtain ⟨v37, gv37, h⟩ := px_bs h
      refine ev_rI dX11_statusOf_113 gv37 ?_
      refine EV.if_ne 124 dX11_statusOf_114 (by decide) (fun c38 => ?_) (fun c38 => ?_)
      · rw [if_neg c38] at h
        refine EV.aload_n 0 dX11_statusOf_124 rfl rfl ?_
        obtain ⟨v39, gv39, h⟩ := px_bs h
        refine ev_gI dX11_statusOf_125 flRX11_280 gv39 ?_
        cases h
        exact EV.reti dX11_statusOf_128 rfl
      · rw [if_pos c38] at h
        refine EV.aload_n 0 dX11_statusOf_117 rfl rfl ?_
        obtain ⟨v40, gv40, h⟩ := px_bs h
        refine ev_gI dX11_statusOf_118 flRX11_274 gv40 ?_
        refine EV.goto 128 dX11_statusOf_121 (by decide) ?_
        cases h
        exact EV.reti dX11_statusOf_128 rfl
    · rw [if_neg c33] at h
      refine EV.iconst ((-1)) dX11_statusOf_97 (by decide) ?_
      cases h
      exact EV.reti dX11_statusOf_98 rfl
/-! WavePicturesModel$Forge.<init>()V -/
theorem dX12_init_0 : decode cX12_init 0 = .ok (.aload_n 0, 1) := by decide +kernel
theorem dX12_init_1 : decode cX12_init 1 = .ok (.invokespecial 3, 3) := by decide +kernel
theorem dX12_init_4 : decode cX12_init 4 = .ok (.aload_n 0, 1) := by decide +kernel
theorem dX12_init_5 : decode cX12_init 5 = .ok (.bipush 17, 2) := by decide +kernel
theorem dX12_init_7 : decode cX12_init 7 = .ok (.newarray .int, 2) := by decide +kernel
theorem dX12_init_9 : decode cX12_init 9 = .ok (.putfield 9, 3) := by decide +kernel
theorem dX12_init_12 : decode cX12_init 12 = .ok (.aload_n 0, 1) := by decide +kernel
theorem dX12_init_13 : decode cX12_init 13 = .ok (.sipush 256, 3) := by decide +kernel
theorem dX12_init_16 : decode cX12_init 16 = .ok (.newarray .int, 2) := by decide +kernel
theorem dX12_init_18 : decode cX12_init 18 = .ok (.putfield 15, 3) := by decide +kernel
theorem dX12_init_21 : decode cX12_init 21 = .ok (.aload_n 0, 1) := by decide +kernel
theorem dX12_init_22 : decode cX12_init 22 = .ok (.sipush 256, 3) := by decide +kernel
theorem dX12_init_25 : decode cX12_init 25 = .ok (.newarray .int, 2) := by decide +kernel
theorem dX12_init_27 : decode cX12_init 27 = .ok (.putfield 18, 3) := by decide +kernel
theorem dX12_init_30 : decode cX12_init 30 = .ok (.aload_n 0, 1) := by decide +kernel
theorem dX12_init_31 : decode cX12_init 31 = .ok (.sipush 257, 3) := by decide +kernel
theorem dX12_init_34 : decode cX12_init 34 = .ok (.newarray .int, 2) := by decide +kernel
theorem dX12_init_36 : decode cX12_init 36 = .ok (.putfield 21, 3) := by decide +kernel
theorem dX12_init_39 : decode cX12_init 39 = .ok (.aload_n 0, 1) := by decide +kernel
theorem dX12_init_40 : decode cX12_init 40 = .ok (.sipush 257, 3) := by decide +kernel
theorem dX12_init_43 : decode cX12_init 43 = .ok (.newarray .int, 2) := by decide +kernel
theorem dX12_init_45 : decode cX12_init 45 = .ok (.putfield 24, 3) := by decide +kernel
theorem dX12_init_48 : decode cX12_init 48 = .ok (.aload_n 0, 1) := by decide +kernel
theorem dX12_init_49 : decode cX12_init 49 = .ok (.sipush 257, 3) := by decide +kernel
theorem dX12_init_52 : decode cX12_init 52 = .ok (.newarray .int, 2) := by decide +kernel
theorem dX12_init_54 : decode cX12_init 54 = .ok (.putfield 27, 3) := by decide +kernel
theorem dX12_init_57 : decode cX12_init 57 = .ok (.aload_n 0, 1) := by decide +kernel
theorem dX12_init_58 : decode cX12_init 58 = .ok (.sipush 300, 3) := by decide +kernel
theorem dX12_init_61 : decode cX12_init 61 = .ok (.newarray .int, 2) := by decide +kernel
theorem dX12_init_63 : decode cX12_init 63 = .ok (.putfield 30, 3) := by decide +kernel
theorem dX12_init_66 : decode cX12_init 66 = .ok (.return_, 1) := by decide +kernel
set_option maxRecDepth 100000 in
set_option maxHeartbeats 4000000 in
theorem eX12_init {X : px_X} {w : px_W} {a0 : Nat} {q : px_W} (h : fX12_init X w a0 = some q) : EV X mX12_init 0 (lv_args 0 [.ref a0]) [] w none q := by
  unfold fX12_init at h
  show EV X mX12_init 0 [(0, .ref a0)] [] w none q
  refine EV.aload_n 0 dX12_init_0 rfl rfl ?_
  refine EV.objI dX12_init_1 (tb7 (List.mem_of_getElem? (i := 167) rfl)) (by decide) (by decide) (Nat.le_of_ble_eq_true rfl) ?_
  refine EV.aload_n 0 dX12_init_4 rfl rfl ?_
  refine EV.bipush (17) dX12_init_5 (by decide) ?_
  obtain ⟨q15, gq15, h⟩ := px_bs h
  refine ev_nI dX12_init_7 gq15 ?_
  obtain ⟨w16, gw16, h⟩ := px_bs h
  refine ev_pF dX12_init_9 (ci := 12) (k := 0) rfl (by decide) (tb7 (List.mem_of_getElem? (i := 168) rfl)) rfl rfl rfl rfl rfl gw16 ?_
  refine EV.aload_n 0 dX12_init_12 rfl rfl ?_
  refine EV.sipush (256) dX12_init_13 (by decide) ?_
  obtain ⟨q17, gq17, h⟩ := px_bs h
  refine ev_nI dX12_init_16 gq17 ?_
  obtain ⟨w18, gw18, h⟩ := px_bs h
  refine ev_pF dX12_init_18 (ci := 12) (k := 1) rfl (by decide) (tb7 (List.mem_of_getElem? (i := 170) rfl)) rfl rfl rfl rfl rfl gw18 ?_
  refine EV.aload_n 0 dX12_init_21 rfl rfl ?_
  refine EV.sipush (256) dX12_init_22 (by decide) ?_
  obtain ⟨q19, gq19, h⟩ := px_bs h
  refine ev_nI dX12_init_25 gq19 ?_
  obtain ⟨w20, gw20, h⟩ := px_bs h
  refine ev_pF dX12_init_27 (ci := 12) (k := 3) rfl (by decide) (tb7 (List.mem_of_getElem? (i := 174) rfl)) rfl rfl rfl rfl rfl gw20 ?_
  refine EV.aload_n 0 dX12_init_30 rfl rfl ?_
  refine EV.sipush (257) dX12_init_31 (by decide) ?_
  obtain ⟨q21, gq21, h⟩ := px_bs h
  refine ev_nI dX12_init_34 gq21 ?_
  obtain ⟨w22, gw22, h⟩ := px_bs h
  refine ev_pF dX12_init_36 (ci := 12) (k := 5) rfl (by decide) (tb7 (List.mem_of_getElem? (i := 178) rfl)) rfl rfl rfl rfl rfl gw22 ?_
  refine EV.aload_n 0 dX12_init_39 rfl rfl ?_
  refine EV.sipush (257) dX12_init_40 (by decide) ?_
  obtain ⟨q23, gq23, h⟩ := px_bs h
  refine ev_nI dX12_init_43 gq23 ?_
  obtain ⟨w24, gw24, h⟩ := px_bs h
  refine ev_pF dX12_init_45 (ci := 12) (k := 6) rfl (by decide) (tb7 (List.mem_of_getElem? (i := 179) rfl)) rfl rfl rfl rfl rfl gw24 ?_
  refine EV.aload_n 0 dX12_init_48 rfl rfl ?_
  refine EV.sipush (257) dX12_init_49 (by decide) ?_
  obtain ⟨q25, gq25, h⟩ := px_bs h
  refine ev_nI dX12_init_52 gq25 ?_
  obtain ⟨w26, gw26, h⟩ := px_bs h
  refine ev_pF dX12_init_54 (ci := 12) (k := 7) rfl (by decide) (tb7 (List.mem_of_getElem? (i := 180) rfl)) rfl rfl rfl rfl rfl gw26 ?_
  refine EV.aload_n 0 dX12_init_57 rfl rfl ?_
  refine EV.sipush (300) dX12_init_58 (by decide) ?_
  obtain ⟨q27, gq27, h⟩ := px_bs h
  refine ev_nI dX12_init_61 gq27 ?_
  obtain ⟨w28, gw28, h⟩ := px_bs h
  refine ev_pF dX12_init_63 (ci := 12) (k := 8) rfl (by decide) (tb7 (List.mem_of_getElem? (i := 181) rfl)) rfl rfl rfl rfl rfl gw28 ?_
  cases h
  exact EV.ret0 dX12_init_66 trivial
/-! WavePicturesModel$Forge.least(I)I -/
theorem dX12_least_0 : decode cX12_least 0 = .ok (.iconst (-1), 1) := by decide +kernel
theorem dX12_least_1 : decode cX12_least 1 = .ok (.istore_n 2, 1) := by decide +kernel
theorem dX12_least_2 : decode cX12_least 2 = .ok (.iconst 0, 1) := by decide +kernel
theorem dX12_least_3 : decode cX12_least 3 = .ok (.istore_n 3, 1) := by decide +kernel
theorem dX12_least_4 : decode cX12_least 4 = .ok (.iload_n 3, 1) := by decide +kernel
theorem dX12_least_5 : decode cX12_least 5 = .ok (.sipush 256, 3) := by decide +kernel
theorem dX12_least_8 : decode cX12_least 8 = .ok (.if_icmp .gt 52, 3) := by decide +kernel
theorem dX12_least_11 : decode cX12_least 11 = .ok (.iload_n 3, 1) := by decide +kernel
theorem dX12_least_12 : decode cX12_least 12 = .ok (.iload_n 1, 1) := by decide +kernel
theorem dX12_least_13 : decode cX12_least 13 = .ok (.if_icmp .eq 41, 3) := by decide +kernel
theorem dX12_least_16 : decode cX12_least 16 = .ok (.aload_n 0, 1) := by decide +kernel
theorem dX12_least_17 : decode cX12_least 17 = .ok (.getfield 21, 3) := by decide +kernel
theorem dX12_least_20 : decode cX12_least 20 = .ok (.iload_n 3, 1) := by decide +kernel
theorem dX12_least_21 : decode cX12_least 21 = .ok (.iaload, 1) := by decide +kernel
theorem dX12_least_22 : decode cX12_least 22 = .ok (.ifCond .le 32, 3) := by decide +kernel
theorem dX12_least_25 : decode cX12_least 25 = .ok (.iload_n 2, 1) := by decide +kernel
theorem dX12_least_26 : decode cX12_least 26 = .ok (.ifCond .lt 26, 3) := by decide +kernel
theorem dX12_least_29 : decode cX12_least 29 = .ok (.aload_n 0, 1) := by decide +kernel
theorem dX12_least_30 : decode cX12_least 30 = .ok (.getfield 21, 3) := by decide +kernel
theorem dX12_least_33 : decode cX12_least 33 = .ok (.iload_n 3, 1) := by decide +kernel
theorem dX12_least_34 : decode cX12_least 34 = .ok (.iaload, 1) := by decide +kernel
theorem dX12_least_35 : decode cX12_least 35 = .ok (.aload_n 0, 1) := by decide +kernel
theorem dX12_least_36 : decode cX12_least 36 = .ok (.getfield 21, 3) := by decide +kernel
theorem dX12_least_39 : decode cX12_least 39 = .ok (.iload_n 2, 1) := by decide +kernel
theorem dX12_least_40 : decode cX12_least 40 = .ok (.ifCond .ge 7, 3) := by decide +kernel
theorem dX12_least_43 : decode cX12_least 43 = .ok (.iconst 0, 1) := by decide +kernel
theorem dX12_least_44 : decode cX12_least 44 = .ok (.goto 4, 3) := by decide +kernel
theorem dX12_least_47 : decode cX12_least 47 = .ok (.iload_n 2, 1) := by decide +kernel
theorem dX12_least_48 : decode cX12_least 48 = .ok (.iaload, 1) := by decide +kernel
theorem dX12_least_49 : decode cX12_least 49 = .ok (.if_icmp .gt 5, 3) := by decide +kernel
theorem dX12_least_52 : decode cX12_least 52 = .ok (.iload_n 3, 1) := by decide +kernel
theorem dX12_least_53 : decode cX12_least 53 = .ok (.istore_n 2, 1) := by decide +kernel
theorem dX12_least_54 : decode cX12_least 54 = .ok (.iinc 3 1, 3) := by decide +kernel
theorem dX12_least_57 : decode cX12_least 57 = .ok (.goto (-53), 3) := by decide +kernel
theorem dX12_least_60 : decode cX12_least 60 = .ok (.iload_n 2, 1) := by decide +kernel
theorem dX12_least_61 : decode cX12_least 61 = .ok (.ireturn, 1) := by decide +kernel
theorem flRX12_21 : px_f RX12 21 12 5 := ⟨_, rfl, by decide, Or.inl (tb7 (List.mem_of_getElem? (i := 178) rfl))⟩
set_option maxRecDepth 100000 in
set_option maxHeartbeats 4000000 in
theorem eX12_least_54 {X : px_X} {k4 : Nat → Int32 → Int32 → Int32 → px_W → Option (Int32 × px_W)} (hk4 : ∀ (a0 : Nat) (a1 : Int32) (a2 : Int32) (a3 : Int32) (w : px_W) (q : Int32 × px_W), k4 a0 a1 a2 a3 w = some q → EV X mX12_least 4 [(0, .ref a0), (1, .int a1), (2, .int a2), (3, .int a3)] [] w (some (.int q.1)) q.2) : ∀ (a0 : Nat) (a1 : Int32) (a2 : Int32) (a3 : Int32) (w : px_W) (q : Int32 × px_W), fX12_least_54 X k4 a0 a1 a2 a3 w = some q → EV X mX12_least 54 [(0, .ref a0), (1, .int a1), (2, .int a2), (3, .int a3)] [] w (some (.int q.1)) q.2 := by
  intro a0 a1 a2 a3 w q h
  unfold fX12_least_54 at h
  refine EV.iinc 3 (a3 + 1) [(3, .int (a3 + 1)), (0, .ref a0), (1, .int a1), (2, .int a2)] dX12_least_54 rfl rfl (by decide) rfl ?_
  refine EV.goto 4 dX12_least_57 (by decide) ?_
  refine EV.sub [1, 2, 3, 0] rfl ?_
  exact hk4 _ _ _ _ _ _ h
set_option maxRecDepth 100000 in
set_option maxHeartbeats 4000000 in
theorem eX12_least_52 {X : px_X} {k4 : Nat → Int32 → Int32 → Int32 → px_W → Option (Int32 × px_W)} (hk4 : ∀ (a0 : Nat) (a1 : Int32) (a2 : Int32) (a3 : Int32) (w : px_W) (q : Int32 × px_W), k4 a0 a1 a2 a3 w = some q → EV X mX12_least 4 [(0, .ref a0), (1, .int a1), (2, .int a2), (3, .int a3)] [] w (some (.int q.1)) q.2) : ∀ (a0 : Nat) (a1 : Int32) (a3 : Int32) (w : px_W) (q : Int32 × px_W), fX12_least_52 X k4 a0 a1 a3 w = some q → EV X mX12_least 52 [(0, .ref a0), (1, .int a1), (3, .int a3)] [] w (some (.int q.1)) q.2 := by
  intro a0 a1 a3 w q h
  unfold fX12_least_52 at h
  refine EV.iload_n 2 dX12_least_52 rfl rfl ?_
  refine EV.istore_n [(2, .int a3), (0, .ref a0), (1, .int a1), (3, .int a3)] dX12_least_53 rfl (by decide) rfl ?_
  refine EV.sub [1, 2, 0, 3] rfl ?_
  exact eX12_least_54 hk4 _ _ _ _ _ _ h
set_option maxRecDepth 100000 in
set_option maxHeartbeats 4000000 in
theorem eX12_least_48 {X : px_X} {k4 : Nat → Int32 → Int32 → Int32 → px_W → Option (Int32 × px_W)} (hk4 : ∀ (a0 : Nat) (a1 : Int32) (a2 : Int32) (a3 : Int32) (w : px_W) (q : Int32 × px_W), k4 a0 a1 a2 a3 w = some q → EV X mX12_least 4 [(0, .ref a0), (1, .int a1), (2, .int a2), (3, .int a3)] [] w (some (.int q.1)) q.2) : ∀ (a0 : Nat) (a1 : Int32) (a2 : Int32) (a3 : Int32) (s0 : Int32) (s1 : Nat) (s2 : Int32) (w : px_W) (q : Int32 × px_W), fX12_least_48 X k4 a0 a1 a2 a3 s0 s1 s2 w = some q → EV X mX12_least 48 [(0, .ref a0), (1, .int a1), (2, .int a2), (3, .int a3)] [.int s0, .ref s1, .int s2] w (some (.int q.1)) q.2 := by
  intro a0 a1 a2 a3 s0 s1 s2 w q h
  unfold fX12_least_48 at h
  obtain ⟨v7, gv7, h⟩ := px_bs h
  refine ev_aI dX12_least_48 gv7 ?_
  refine EV.icmp_gt 54 dX12_least_49 (by decide) (fun c8 => ?_) (fun c8 => ?_)
  · rw [if_pos c8] at h
    refine EV.sub [0, 1, 2, 3] rfl ?_
    exact eX12_least_54 hk4 _ _ _ _ _ _ h
  · rw [if_neg c8] at h
    refine EV.sub [0, 1, 3] rfl ?_
    exact eX12_least_52 hk4 _ _ _ _ _ h
set_option maxRecDepth 100000 in
set_option maxHeartbeats 4000000 in
theorem eX12_least_4 {X : px_X}  : ∀ (m : Nat) (a0 : Nat) (a1 : Int32) (a2 : Int32) (a3 : Int32) (w : px_W) (q : Int32 × px_W), fX12_least_4 X  m a0 a1 a2 a3 w = some q → EV X mX12_least 4 [(0, .ref a0), (1, .int a1), (2, .int a2), (3, .int a3)] [] w (some (.int q.1)) q.2 := by
  intro m
  induction m with
  | zero => intro a0 a1 a2 a3 w q h; cases h
  | succ m ih =>
    intro a0 a1 a2 a3 w q h
    rw [fX12_least_4.eq_2] at h
    refine EV.iload_n 3 dX12_least_4 rfl rfl ?_
    refine EV.sipush (256) dX12_least_5 (by decide) ?_
    refine EV.icmp_gt 60 dX12_least_8 (by decide) (fun c9 => ?_) (fun c9 => ?_)
    · rw [if_pos c9] at h
      refine EV.iload_n 2 dX12_least_60 rfl rfl ?_
      cases h
      exact EV.reti dX12_least_61 rfl
    · rw [if_neg c9] at h
      refine EV.iload_n 3 dX12_least_11 rfl rfl ?_
      refine EV.iload_n 1 dX12_least_12 rfl rfl ?_
      refine EV.icmp_eq 54 dX12_least_13 (by decide) (fun c10 => ?_) (fun c10 => ?_)
      · rw [if_pos c10] at h
        refine EV.sub [0, 1, 2, 3] rfl ?_
        exact eX12_least_54 ih _ _ _ _ _ _ h
      · rw [if_neg c10] at h
        refine EV.aload_n 0 dX12_least_16 rfl rfl ?_
        obtain ⟨v11, gv11, h⟩ := px_bs h
        refine ev_gR dX12_least_17 flRX12_21 gv11 ?_
        refine EV.iload_n 3 dX12_least_20 rfl rfl ?_
        obtain ⟨v12, gv12, h⟩ := px_bs h
        refine ev_aI dX12_least_21 gv12 ?_
        refine EV.if_le 54 dX12_least_22 (by decide) (fun c13 => ?_) (fun c13 => ?_)
        · rw [if_pos c13] at h
          refine EV.sub [0, 1, 2, 3] rfl ?_
          exact eX12_least_54 ih _ _ _ _ _ _ h
        · rw [if_neg c13] at h
          refine EV.iload_n 2 dX12_least_25 rfl rfl ?_
          refine EV.if_lt 52 dX12_least_26 (by decide) (fun c14 => ?_) (fun c14 => ?_)
          · rw [if_pos c14] at h
            refine EV.sub [0, 1, 3] rfl ?_
            exact eX12_least_52 ih _ _ _ _ _ h
          · rw [if_neg c14] at h
            refine EV.aload_n 0 dX12_least_29 rfl rfl ?_
            obtain ⟨v15, gv15, h⟩ := px_bs h
            refine ev_gR dX12_least_30 flRX12_21 gv15 ?_
            refine EV.iload_n 3 dX12_least_33 rfl rfl ?_
            obtain ⟨v16, gv16, h⟩ := px_bs h
            refine ev_aI dX12_least_34 gv16 ?_
            refine EV.aload_n 0 dX12_least_35 rfl rfl ?_
            obtain ⟨v17, gv17, h⟩ := px_bs h
            refine ev_gR dX12_least_36 flRX12_21 gv17 ?_
            refine EV.iload_n 2 dX12_least_39 rfl rfl ?_
            refine EV.if_ge 47 dX12_least_40 (by decide) (fun c18 => ?_) (fun c18 => ?_)
            · rw [if_pos c18] at h
              refine EV.iload_n 2 dX12_least_47 rfl rfl ?_
              refine EV.sub [0, 1, 2, 3] rfl ?_
              exact eX12_least_48 ih _ _ _ _ _ _ _ _ _ h
            · rw [if_neg c18] at h
              refine EV.iconst (0) dX12_least_43 (by decide) ?_
              refine EV.goto 48 dX12_least_44 (by decide) ?_
              refine EV.sub [0, 1, 2, 3] rfl ?_
              exact eX12_least_48 ih _ _ _ _ _ _ _ _ _ h
set_option maxRecDepth 100000 in
set_option maxHeartbeats 4000000 in
theorem eX12_least {X : px_X} {w : px_W} {a0 : Nat} {a1 : Int32} {q : Int32 × px_W} (h : fX12_least X w a0 a1 = some q) : EV X mX12_least 0 (lv_args 0 [.ref a0, .int a1]) [] w (some (.int q.1)) q.2 := by
  unfold fX12_least at h
  show EV X mX12_least 0 [(0, .ref a0), (1, .int a1)] [] w (some (.int q.1)) q.2
  refine EV.iconst ((-1)) dX12_least_0 (by decide) ?_
  refine EV.istore_n [(2, .int ((-1))), (0, .ref a0), (1, .int a1)] dX12_least_1 rfl (by decide) rfl ?_
  refine EV.iconst (0) dX12_least_2 (by decide) ?_
  refine EV.istore_n [(3, .int 0), (2, .int ((-1))), (0, .ref a0), (1, .int a1)] dX12_least_3 rfl (by decide) rfl ?_
  refine EV.sub [2, 3, 1, 0] rfl ?_
  exact eX12_least_4  FU _ _ _ _ _ _ h
/-! WavePicturesModel$Forge.join()V -/
theorem dX12_join_0 : decode cX12_join 0 = .ok (.iconst 0, 1) := by decide +kernel
theorem dX12_join_1 : decode cX12_join 1 = .ok (.istore_n 1, 1) := by decide +kernel
theorem dX12_join_2 : decode cX12_join 2 = .ok (.iload_n 1, 1) := by decide +kernel
theorem dX12_join_3 : decode cX12_join 3 = .ok (.sipush 256, 3) := by decide +kernel
theorem dX12_join_6 : decode cX12_join 6 = .ok (.if_icmp .gt 46, 3) := by decide +kernel
theorem dX12_join_9 : decode cX12_join 9 = .ok (.aload_n 0, 1) := by decide +kernel
theorem dX12_join_10 : decode cX12_join 10 = .ok (.getfield 21, 3) := by decide +kernel
theorem dX12_join_13 : decode cX12_join 13 = .ok (.iload_n 1, 1) := by decide +kernel
theorem dX12_join_14 : decode cX12_join 14 = .ok (.iload_n 1, 1) := by decide +kernel
theorem dX12_join_15 : decode cX12_join 15 = .ok (.sipush 256, 3) := by decide +kernel
theorem dX12_join_18 : decode cX12_join 18 = .ok (.if_icmp .ne 7, 3) := by decide +kernel
theorem dX12_join_21 : decode cX12_join 21 = .ok (.iconst 1, 1) := by decide +kernel
theorem dX12_join_22 : decode cX12_join 22 = .ok (.goto 9, 3) := by decide +kernel
theorem dX12_join_25 : decode cX12_join 25 = .ok (.aload_n 0, 1) := by decide +kernel
theorem dX12_join_26 : decode cX12_join 26 = .ok (.getfield 18, 3) := by decide +kernel
theorem dX12_join_29 : decode cX12_join 29 = .ok (.iload_n 1, 1) := by decide +kernel
theorem dX12_join_30 : decode cX12_join 30 = .ok (.iaload, 1) := by decide +kernel
theorem dX12_join_31 : decode cX12_join 31 = .ok (.iastore, 1) := by decide +kernel
theorem dX12_join_32 : decode cX12_join 32 = .ok (.aload_n 0, 1) := by decide +kernel
theorem dX12_join_33 : decode cX12_join 33 = .ok (.getfield 24, 3) := by decide +kernel
theorem dX12_join_36 : decode cX12_join 36 = .ok (.iload_n 1, 1) := by decide +kernel
theorem dX12_join_37 : decode cX12_join 37 = .ok (.iload_n 1, 1) := by decide +kernel
theorem dX12_join_38 : decode cX12_join 38 = .ok (.iastore, 1) := by decide +kernel
theorem dX12_join_39 : decode cX12_join 39 = .ok (.aload_n 0, 1) := by decide +kernel
theorem dX12_join_40 : decode cX12_join 40 = .ok (.getfield 27, 3) := by decide +kernel
theorem dX12_join_43 : decode cX12_join 43 = .ok (.iload_n 1, 1) := by decide +kernel
theorem dX12_join_44 : decode cX12_join 44 = .ok (.iconst 0, 1) := by decide +kernel
theorem dX12_join_45 : decode cX12_join 45 = .ok (.iastore, 1) := by decide +kernel
theorem dX12_join_46 : decode cX12_join 46 = .ok (.iinc 1 1, 3) := by decide +kernel
theorem dX12_join_49 : decode cX12_join 49 = .ok (.goto (-47), 3) := by decide +kernel
theorem dX12_join_52 : decode cX12_join 52 = .ok (.aload_n 0, 1) := by decide +kernel
theorem dX12_join_53 : decode cX12_join 53 = .ok (.iconst (-1), 1) := by decide +kernel
theorem dX12_join_54 : decode cX12_join 54 = .ok (.invokevirtual 33, 3) := by decide +kernel
theorem dX12_join_57 : decode cX12_join 57 = .ok (.istore_n 1, 1) := by decide +kernel
theorem dX12_join_58 : decode cX12_join 58 = .ok (.aload_n 0, 1) := by decide +kernel
theorem dX12_join_59 : decode cX12_join 59 = .ok (.iload_n 1, 1) := by decide +kernel
theorem dX12_join_60 : decode cX12_join 60 = .ok (.invokevirtual 33, 3) := by decide +kernel
theorem dX12_join_63 : decode cX12_join 63 = .ok (.istore_n 2, 1) := by decide +kernel
theorem dX12_join_64 : decode cX12_join 64 = .ok (.iload_n 2, 1) := by decide +kernel
theorem dX12_join_65 : decode cX12_join 65 = .ok (.ifCond .lt 92, 3) := by decide +kernel
theorem dX12_join_68 : decode cX12_join 68 = .ok (.iconst 0, 1) := by decide +kernel
theorem dX12_join_69 : decode cX12_join 69 = .ok (.istore_n 3, 1) := by decide +kernel
theorem dX12_join_70 : decode cX12_join 70 = .ok (.iload_n 3, 1) := by decide +kernel
theorem dX12_join_71 : decode cX12_join 71 = .ok (.sipush 256, 3) := by decide +kernel
theorem dX12_join_74 : decode cX12_join 74 = .ok (.if_icmp .gt 46, 3) := by decide +kernel
theorem dX12_join_77 : decode cX12_join 77 = .ok (.aload_n 0, 1) := by decide +kernel
theorem dX12_join_78 : decode cX12_join 78 = .ok (.getfield 24, 3) := by decide +kernel
theorem dX12_join_81 : decode cX12_join 81 = .ok (.iload_n 3, 1) := by decide +kernel
theorem dX12_join_82 : decode cX12_join 82 = .ok (.iaload, 1) := by decide +kernel
theorem dX12_join_83 : decode cX12_join 83 = .ok (.iload_n 1, 1) := by decide +kernel
theorem dX12_join_84 : decode cX12_join 84 = .ok (.if_icmp .eq 13, 3) := by decide +kernel
theorem dX12_join_87 : decode cX12_join 87 = .ok (.aload_n 0, 1) := by decide +kernel
theorem dX12_join_88 : decode cX12_join 88 = .ok (.getfield 24, 3) := by decide +kernel
theorem dX12_join_91 : decode cX12_join 91 = .ok (.iload_n 3, 1) := by decide +kernel
theorem dX12_join_92 : decode cX12_join 92 = .ok (.iaload, 1) := by decide +kernel
theorem dX12_join_93 : decode cX12_join 93 = .ok (.iload_n 2, 1) := by decide +kernel
theorem dX12_join_94 : decode cX12_join 94 = .ok (.if_icmp .ne 20, 3) := by decide +kernel
theorem dX12_join_97 : decode cX12_join 97 = .ok (.aload_n 0, 1) := by decide +kernel
theorem dX12_join_98 : decode cX12_join 98 = .ok (.getfield 27, 3) := by decide +kernel
theorem dX12_join_101 : decode cX12_join 101 = .ok (.iload_n 3, 1) := by decide +kernel
theorem dX12_join_102 : decode cX12_join 102 = .ok (.dup2, 1) := by decide +kernel
theorem dX12_join_103 : decode cX12_join 103 = .ok (.iaload, 1) := by decide +kernel
theorem dX12_join_104 : decode cX12_join 104 = .ok (.iconst 1, 1) := by decide +kernel
theorem dX12_join_105 : decode cX12_join 105 = .ok (.iadd, 1) := by decide +kernel
theorem dX12_join_106 : decode cX12_join 106 = .ok (.iastore, 1) := by decide +kernel
theorem dX12_join_107 : decode cX12_join 107 = .ok (.aload_n 0, 1) := by decide +kernel
theorem dX12_join_108 : decode cX12_join 108 = .ok (.getfield 24, 3) := by decide +kernel
theorem dX12_join_111 : decode cX12_join 111 = .ok (.iload_n 3, 1) := by decide +kernel
theorem dX12_join_112 : decode cX12_join 112 = .ok (.iload_n 1, 1) := by decide +kernel
theorem dX12_join_113 : decode cX12_join 113 = .ok (.iastore, 1) := by decide +kernel
theorem dX12_join_114 : decode cX12_join 114 = .ok (.iinc 3 1, 3) := by decide +kernel
theorem dX12_join_117 : decode cX12_join 117 = .ok (.goto (-47), 3) := by decide +kernel
theorem dX12_join_120 : decode cX12_join 120 = .ok (.aload_n 0, 1) := by decide +kernel
theorem dX12_join_121 : decode cX12_join 121 = .ok (.getfield 21, 3) := by decide +kernel
theorem dX12_join_124 : decode cX12_join 124 = .ok (.iload_n 1, 1) := by decide +kernel
theorem dX12_join_125 : decode cX12_join 125 = .ok (.dup2, 1) := by decide +kernel
theorem dX12_join_126 : decode cX12_join 126 = .ok (.iaload, 1) := by decide +kernel
theorem dX12_join_127 : decode cX12_join 127 = .ok (.aload_n 0, 1) := by decide +kernel
theorem dX12_join_128 : decode cX12_join 128 = .ok (.getfield 21, 3) := by decide +kernel
theorem dX12_join_131 : decode cX12_join 131 = .ok (.iload_n 2, 1) := by decide +kernel
theorem dX12_join_132 : decode cX12_join 132 = .ok (.iaload, 1) := by decide +kernel
theorem dX12_join_133 : decode cX12_join 133 = .ok (.iadd, 1) := by decide +kernel
theorem dX12_join_134 : decode cX12_join 134 = .ok (.iastore, 1) := by decide +kernel
theorem dX12_join_135 : decode cX12_join 135 = .ok (.aload_n 0, 1) := by decide +kernel
theorem dX12_join_136 : decode cX12_join 136 = .ok (.getfield 21, 3) := by decide +kernel
theorem dX12_join_139 : decode cX12_join 139 = .ok (.iload_n 2, 1) := by decide +kernel
theorem dX12_join_140 : decode cX12_join 140 = .ok (.iconst 0, 1) := by decide +kernel
theorem dX12_join_141 : decode cX12_join 141 = .ok (.iastore, 1) := by decide +kernel
theorem dX12_join_142 : decode cX12_join 142 = .ok (.aload_n 0, 1) := by decide +kernel
theorem dX12_join_143 : decode cX12_join 143 = .ok (.iconst (-1), 1) := by decide +kernel
theorem dX12_join_144 : decode cX12_join 144 = .ok (.invokevirtual 33, 3) := by decide +kernel
theorem dX12_join_147 : decode cX12_join 147 = .ok (.istore_n 1, 1) := by decide +kernel
theorem dX12_join_148 : decode cX12_join 148 = .ok (.aload_n 0, 1) := by decide +kernel
theorem dX12_join_149 : decode cX12_join 149 = .ok (.iload_n 1, 1) := by decide +kernel
theorem dX12_join_150 : decode cX12_join 150 = .ok (.invokevirtual 33, 3) := by decide +kernel
theorem dX12_join_153 : decode cX12_join 153 = .ok (.istore_n 2, 1) := by decide +kernel
theorem dX12_join_154 : decode cX12_join 154 = .ok (.goto (-90), 3) := by decide +kernel
theorem dX12_join_157 : decode cX12_join 157 = .ok (.return_, 1) := by decide +kernel
theorem flRX12_18 : px_f RX12 18 12 3 := ⟨_, rfl, by decide, Or.inl (tb7 (List.mem_of_getElem? (i := 174) rfl))⟩
theorem flRX12_24 : px_f RX12 24 12 6 := ⟨_, rfl, by decide, Or.inl (tb7 (List.mem_of_getElem? (i := 179) rfl))⟩
theorem flRX12_27 : px_f RX12 27 12 7 := ⟨_, rfl, by decide, Or.inl (tb7 (List.mem_of_getElem? (i := 180) rfl))⟩
theorem mbX12_least : px_mB mX12_least 1 := ⟨tb10 (List.mem_of_getElem? (i := 0) rfl), by decide +kernel, tb1 (List.mem_of_getElem? (i := 16) rfl), by decide +kernel, by decide +kernel⟩
theorem vbX12_least : px_vB mX12_least := ⟨tb9 (List.mem_of_getElem? (i := 239) rfl), List.mem_append_left _ (List.mem_of_getElem? (i := 159) (by decide +kernel))⟩
theorem kcX12_join_33 : px_cV mX12_join 33 mX12_least 1 := ⟨⟨mbX12_least, by decide, by decide⟩, Or.inl (tb9 (List.mem_of_getElem? (i := 237) rfl)), vbX12_least⟩
set_option maxRecDepth 100000 in
set_option maxHeartbeats 4000000 in
theorem eX12_join_120 {X : px_X} {k64 : Nat → Int32 → Int32 → px_W → Option (px_W)} (hk64 : ∀ (a0 : Nat) (a1 : Int32) (a2 : Int32) (w : px_W) (q : px_W), k64 a0 a1 a2 w = some q → EV X mX12_join 64 [(0, .ref a0), (1, .int a1), (2, .int a2)] [] w none q) : ∀ (a0 : Nat) (a1 : Int32) (a2 : Int32) (w : px_W) (q : px_W), fX12_join_120 X k64 a0 a1 a2 w = some q → EV X mX12_join 120 [(0, .ref a0), (1, .int a1), (2, .int a2)] [] w none q := by
  intro a0 a1 a2 w q h
  unfold fX12_join_120 at h
  refine EV.aload_n 0 dX12_join_120 rfl rfl ?_
  obtain ⟨v33, gv33, h⟩ := px_bs h
  refine ev_gR dX12_join_121 flRX12_21 gv33 ?_
  refine EV.iload_n 1 dX12_join_124 rfl rfl ?_
  refine EV.dup2 dX12_join_125 rfl rfl ?_
  obtain ⟨v34, gv34, h⟩ := px_bs h
  refine ev_aI dX12_join_126 gv34 ?_
  refine EV.aload_n 0 dX12_join_127 rfl rfl ?_
  obtain ⟨v35, gv35, h⟩ := px_bs h
  refine ev_gR dX12_join_128 flRX12_21 gv35 ?_
  refine EV.iload_n 2 dX12_join_131 rfl rfl ?_
  obtain ⟨v36, gv36, h⟩ := px_bs h
  refine ev_aI dX12_join_132 gv36 ?_
  refine EV.iadd dX12_join_133 ?_
  obtain ⟨w37, gw37, h⟩ := px_bs h
  refine ev_sI dX12_join_134 gw37 ?_
  refine EV.aload_n 0 dX12_join_135 rfl rfl ?_
  obtain ⟨v38, gv38, h⟩ := px_bs h
  refine ev_gR dX12_join_136 flRX12_21 gv38 ?_
  refine EV.iload_n 2 dX12_join_139 rfl rfl ?_
  refine EV.iconst (0) dX12_join_140 (by decide) ?_
  obtain ⟨w39, gw39, h⟩ := px_bs h
  refine ev_sI dX12_join_141 gw39 ?_
  refine EV.aload_n 0 dX12_join_142 rfl rfl ?_
  refine EV.iconst ((-1)) dX12_join_143 (by decide) ?_
  obtain ⟨o40, go40, h⟩ := px_bs h
  obtain ⟨q41, gq41, h⟩ := px_bs h
  refine EV.callV (As := [.int ((-1))]) (rest := []) dX12_join_144 kcX12_join_33 (gO_ok go40) rfl rfl rfl (Nat.le_of_ble_eq_true rfl) (Nat.le_of_ble_eq_true rfl) (eX12_least gq41) ?_
  refine EV.istore_n [(1, .int q41.1), (0, .ref a0), (2, .int a2)] dX12_join_147 rfl (by decide) rfl ?_
  refine EV.aload_n 1 dX12_join_148 rfl rfl ?_
  refine EV.iload_n 0 dX12_join_149 rfl rfl ?_
  obtain ⟨o42, go42, h⟩ := px_bs h
  obtain ⟨q43, gq43, h⟩ := px_bs h
  refine EV.callV (As := [.int q41.1]) (rest := []) dX12_join_150 kcX12_join_33 (gO_ok go42) rfl rfl rfl (Nat.le_of_ble_eq_true rfl) (Nat.le_of_ble_eq_true rfl) (eX12_least gq43) ?_
  refine EV.istore_n [(2, .int q43.1), (1, .int q41.1), (0, .ref a0)] dX12_join_153 rfl (by decide) rfl ?_
  refine EV.goto 64 dX12_join_154 (by decide) ?_
  refine EV.sub [2, 1, 0] rfl ?_
  exact hk64 _ _ _ _ _ h
set_option maxRecDepth 100000 in
set_option maxHeartbeats 4000000 in
theorem eX12_join_114 {X : px_X} {k64 : Nat → Int32 → Int32 → px_W → Option (px_W)} (hk64 : ∀ (a0 : Nat) (a1 : Int32) (a2 : Int32) (w : px_W) (q : px_W), k64 a0 a1 a2 w = some q → EV X mX12_join 64 [(0, .ref a0), (1, .int a1), (2, .int a2)] [] w none q) {k70 : Nat → Int32 → Int32 → Int32 → px_W → Option (px_W)} (hk70 : ∀ (a0 : Nat) (a1 : Int32) (a2 : Int32) (a3 : Int32) (w : px_W) (q : px_W), k70 a0 a1 a2 a3 w = some q → EV X mX12_join 70 [(0, .ref a0), (1, .int a1), (2, .int a2), (3, .int a3)] [] w none q) : ∀ (a0 : Nat) (a1 : Int32) (a2 : Int32) (a3 : Int32) (w : px_W) (q : px_W), fX12_join_114 X k64 k70 a0 a1 a2 a3 w = some q → EV X mX12_join 114 [(0, .ref a0), (1, .int a1), (2, .int a2), (3, .int a3)] [] w none q := by
  intro a0 a1 a2 a3 w q h
  unfold fX12_join_114 at h
  refine EV.iinc 3 (a3 + 1) [(3, .int (a3 + 1)), (0, .ref a0), (1, .int a1), (2, .int a2)] dX12_join_114 rfl rfl (by decide) rfl ?_
  refine EV.goto 70 dX12_join_117 (by decide) ?_
  refine EV.sub [1, 2, 3, 0] rfl ?_
  exact hk70 _ _ _ _ _ _ h
set_option maxRecDepth 100000 in
set_option maxHeartbeats 4000000 in
theorem eX12_join_97 {X : px_X} {k64 : Nat → Int32 → Int32 → px_W → Option (px_W)} (hk64 : ∀ (a0 : Nat) (a1 : Int32) (a2 : Int32) (w : px_W) (q : px_W), k64 a0 a1 a2 w = some q → EV X mX12_join 64 [(0, .ref a0), (1, .int a1), (2, .int a2)] [] w none q) {k70 : Nat → Int32 → Int32 → Int32 → px_W → Option (px_W)} (hk70 : ∀ (a0 : Nat) (a1 : Int32) (a2 : Int32) (a3 : Int32) (w : px_W) (q : px_W), k70 a0 a1 a2 a3 w = some q → EV X mX12_join 70 [(0, .ref a0), (1, .int a1), (2, .int a2), (3, .int a3)] [] w none q) : ∀ (a0 : Nat) (a1 : Int32) (a2 : Int32) (a3 : Int32) (w : px_W) (q : px_W), fX12_join_97 X k64 k70 a0 a1 a2 a3 w = some q → EV X mX12_join 97 [(0, .ref a0), (1, .int a1), (2, .int a2), (3, .int a3)] [] w none q := by
  intro a0 a1 a2 a3 w q h
  unfold fX12_join_97 at h
  refine EV.aload_n 0 dX12_join_97 rfl rfl ?_
  obtain ⟨v44, gv44, h⟩ := px_bs h
  refine ev_gR dX12_join_98 flRX12_27 gv44 ?_
  refine EV.iload_n 3 dX12_join_101 rfl rfl ?_
  refine EV.dup2 dX12_join_102 rfl rfl ?_
  obtain ⟨v45, gv45, h⟩ := px_bs h
  refine ev_aI dX12_join_103 gv45 ?_
  refine EV.iconst (1) dX12_join_104 (by decide) ?_
  refine EV.iadd dX12_join_105 ?_
  obtain ⟨w46, gw46, h⟩ := px_bs h
  refine ev_sI dX12_join_106 gw46 ?_
  refine EV.aload_n 0 dX12_join_107 rfl rfl ?_
  obtain ⟨v47, gv47, h⟩ := px_bs h
  refine ev_gR dX12_join_108 flRX12_24 gv47 ?_
  refine EV.iload_n 3 dX12_join_111 rfl rfl ?_
  refine EV.iload_n 1 dX12_join_112 rfl rfl ?_
  obtain ⟨w48, gw48, h⟩ := px_bs h
  refine ev_sI dX12_join_113 gw48 ?_
  refine EV.sub [0, 1, 2, 3] rfl ?_
  exact eX12_join_114 hk64 hk70 _ _ _ _ _ _ h
set_option maxRecDepth 100000 in
set_option maxHeartbeats 4000000 in
theorem eX12_join_70 {X : px_X} {k64 : Nat → Int32 → Int32 → px_W → Option (px_W)} (hk64 : ∀ (a0 : Nat) (a1 : Int32) (a2 : Int32) (w : px_W) (q : px_W), k64 a0 a1 a2 w = some q → EV X mX12_join 64 [(0, .ref a0), (1, .int a1), (2, .int a2)] [] w none q) : ∀ (m : Nat) (a0 : Nat) (a1 : Int32) (a2 : Int32) (a3 : Int32) (w : px_W) (q : px_W), fX12_join_70 X k64 m a0 a1 a2 a3 w = some q → EV X mX12_join 70 [(0, .ref a0), (1, .int a1), (2, .int a2), (3, .int a3)] [] w none q := by
  intro m
  induction m with
  | zero => intro a0 a1 a2 a3 w q h; cases h
  | succ m ih =>
    intro a0 a1 a2 a3 w q h
    rw [fX12_join_70.eq_2] at h
    refine EV.iload_n 3 dX12_join_70 rfl rfl ?_
    refine EV.sipush (256) dX12_join_71 (by decide) ?_
    refine EV.icmp_gt 120 dX12_join_74 (by decide) (fun c49 => ?_) (fun c49 => ?_)
    · rw [if_pos c49] at h
      refine EV.sub [0, 1, 2] rfl ?_
      exact eX12_join_120 hk64 _ _ _ _ _ h
    · rw [if_neg c49] at h
      refine EV.aload_n 0 dX12_join_77 rfl rfl ?_
      obtain ⟨v50, gv50, h⟩ := px_bs h
      refine ev_gR dX12_join_78 flRX12_24 gv50 ?_
      refine EV.iload_n 3 dX12_join_81 rfl rfl ?_
      obtain ⟨v51, gv51, h⟩ := px_bs h
      refine ev_aI dX12_join_82 gv51 ?_
      refine EV.iload_n 1 dX12_join_83 rfl rfl ?_
      refine EV.icmp_eq 97 dX12_join_84 (by decide) (fun c52 => ?_) (fun c52 => ?_)
      · rw [if_pos c52] at h
        refine EV.sub [0, 1, 2, 3] rfl ?_
        exact eX12_join_97 hk64 ih _ _ _ _ _ _ h
      · rw [if_neg c52] at h
        refine EV.aload_n 0 dX12_join_87 rfl rfl ?_
        obtain ⟨v53, gv53, h⟩ := px_bs h
        refine ev_gR dX12_join_88 flRX12_24 gv53 ?_
        refine EV.iload_n 3 dX12_join_91 rfl rfl ?_
        obtain ⟨v54, gv54, h⟩ := px_bs h
        refine ev_aI dX12_join_92 gv54 ?_
        refine EV.iload_n 2 dX12_join_93 rfl rfl ?_
        refine EV.icmp_ne 114 dX12_join_94 (by decide) (fun c55 => ?_) (fun c55 => ?_)
        · rw [if_neg c55] at h
          refine EV.sub [0, 1, 2, 3] rfl ?_
          exact eX12_join_114 hk64 ih _ _ _ _ _ _ h
        · rw [if_pos c55] at h
          refine EV.sub [0, 1, 2, 3] rfl ?_
          exact eX12_join_97 hk64 ih _ _ _ _ _ _ h
set_option maxRecDepth 100000 in
set_option maxHeartbeats 4000000 in
theorem eX12_join_64 {X : px_X}  : ∀ (m : Nat) (a0 : Nat) (a1 : Int32) (a2 : Int32) (w : px_W) (q : px_W), fX12_join_64 X  m a0 a1 a2 w = some q → EV X mX12_join 64 [(0, .ref a0), (1, .int a1), (2, .int a2)] [] w none q := by
  intro m
  induction m with
  | zero => intro a0 a1 a2 w q h; cases h
  | succ m ih =>
    intro a0 a1 a2 w q h
    rw [fX12_join_64.eq_2] at h
    refine EV.iload_n 2 dX12_join_64 rfl rfl ?_
    refine EV.if_lt 157 dX12_join_65 (by decide) (fun c56 => ?_) (fun c56 => ?_)
    · rw [if_pos c56] at h
      cases h
      exact EV.ret0 dX12_join_157 trivial
    · rw [if_neg c56] at h
      refine EV.iconst (0) dX12_join_68 (by decide) ?_
      refine EV.istore_n [(3, .int 0), (0, .ref a0), (1, .int a1), (2, .int a2)] dX12_join_69 rfl (by decide) rfl ?_
      refine EV.sub [1, 2, 3, 0] rfl ?_
      exact eX12_join_70 ih FU _ _ _ _ _ _ h
set_option maxRecDepth 100000 in
set_option maxHeartbeats 4000000 in
theorem eX12_join_52 {X : px_X}  : ∀ (a0 : Nat) (w : px_W) (q : px_W), fX12_join_52 X  a0 w = some q → EV X mX12_join 52 [(0, .ref a0)] [] w none q := by
  intro a0 w q h
  unfold fX12_join_52 at h
  refine EV.aload_n 0 dX12_join_52 rfl rfl ?_
  refine EV.iconst ((-1)) dX12_join_53 (by decide) ?_
  obtain ⟨o57, go57, h⟩ := px_bs h
  obtain ⟨q58, gq58, h⟩ := px_bs h
  refine EV.callV (As := [.int ((-1))]) (rest := []) dX12_join_54 kcX12_join_33 (gO_ok go57) rfl rfl rfl (Nat.le_of_ble_eq_true rfl) (Nat.le_of_ble_eq_true rfl) (eX12_least gq58) ?_
  refine EV.istore_n [(1, .int q58.1), (0, .ref a0)] dX12_join_57 rfl (by decide) rfl ?_
  refine EV.aload_n 1 dX12_join_58 rfl rfl ?_
  refine EV.iload_n 0 dX12_join_59 rfl rfl ?_
  obtain ⟨o59, go59, h⟩ := px_bs h
  obtain ⟨q60, gq60, h⟩ := px_bs h
  refine EV.callV (As := [.int q58.1]) (rest := []) dX12_join_60 kcX12_join_33 (gO_ok go59) rfl rfl rfl (Nat.le_of_ble_eq_true rfl) (Nat.le_of_ble_eq_true rfl) (eX12_least gq60) ?_
  refine EV.istore_n [(2, .int q60.1), (1, .int q58.1), (0, .ref a0)] dX12_join_63 rfl (by decide) rfl ?_
  refine EV.sub [2, 1, 0] rfl ?_
  exact eX12_join_64  FU _ _ _ _ _ h
set_option maxRecDepth 100000 in
set_option maxHeartbeats 4000000 in
theorem eX12_join_31 {X : px_X} {k2 : Nat → Int32 → px_W → Option (px_W)} (hk2 : ∀ (a0 : Nat) (a1 : Int32) (w : px_W) (q : px_W), k2 a0 a1 w = some q → EV X mX12_join 2 [(0, .ref a0), (1, .int a1)] [] w none q) : ∀ (a0 : Nat) (a1 : Int32) (s0 : Int32) (s1 : Int32) (s2 : Nat) (w : px_W) (q : px_W), fX12_join_31 X k2 a0 a1 s0 s1 s2 w = some q → EV X mX12_join 31 [(0, .ref a0), (1, .int a1)] [.int s0, .int s1, .ref s2] w none q := by
  intro a0 a1 s0 s1 s2 w q h
  unfold fX12_join_31 at h
  obtain ⟨w61, gw61, h⟩ := px_bs h
  refine ev_sI dX12_join_31 gw61 ?_
  refine EV.aload_n 0 dX12_join_32 rfl rfl ?_
  obtain ⟨v62, gv62, h⟩ := px_bs h
  refine ev_gR dX12_join_33 flRX12_24 gv62 ?_
  refine EV.iload_n 1 dX12_join_36 rfl rfl ?_
  refine EV.iload_n 1 dX12_join_37 rfl rfl ?_
  obtain ⟨w63, gw63, h⟩ := px_bs h
  refine ev_sI dX12_join_38 gw63 ?_
  refine EV.aload_n 0 dX12_join_39 rfl rfl ?_
  obtain ⟨v64, gv64, h⟩ := px_bs h
  refine ev_gR dX12_join_40 flRX12_27 gv64 ?_
  refine EV.iload_n 1 dX12_join_43 rfl rfl ?_
  refine EV.iconst (0) dX12_join_44 (by decide) ?_
  obtain ⟨w65, gw65, h⟩ := px_bs h
  refine ev_sI dX12_join_45 gw65 ?_
  refine EV.iinc 1 (a1 + 1) [(1, .int (a1 + 1)), (0, .ref a0)] dX12_join_46 rfl rfl (by decide) rfl ?_
  refine EV.goto 2 dX12_join_49 (by decide) ?_
  refine EV.sub [1, 0] rfl ?_
  exact hk2 _ _ _ _ h
set_option maxRecDepth 100000 in
set_option maxHeartbeats 4000000 in
theorem eX12_join_2 {X : px_X}  : ∀ (m : Nat) (a0 : Nat) (a1 : Int32) (w : px_W) (q : px_W), fX12_join_2 X  m a0 a1 w = some q → EV X mX12_join 2 [(0, .ref a0), (1, .int a1)] [] w none q := by
  intro m
  induction m with
  | zero => intro a0 a1 w q h; cases h
  | succ m ih =>
    intro a0 a1 w q h
    rw [fX12_join_2.eq_2] at h
    refine EV.iload_n 1 dX12_join_2 rfl rfl ?_
    refine EV.sipush (256) dX12_join_3 (by decide) ?_
    refine EV.icmp_gt 52 dX12_join_6 (by decide) (fun c66 => ?_) (fun c66 => ?_)
    · rw [if_pos c66] at h
      refine EV.sub [0] rfl ?_
      exact eX12_join_52  _ _ _ h
    · rw [if_neg c66] at h
      refine EV.aload_n 0 dX12_join_9 rfl rfl ?_
      obtain ⟨v67, gv67, h⟩ := px_bs h
      refine ev_gR dX12_join_10 flRX12_21 gv67 ?_
      refine EV.iload_n 1 dX12_join_13 rfl rfl ?_
      refine EV.iload_n 1 dX12_join_14 rfl rfl ?_
      refine EV.sipush (256) dX12_join_15 (by decide) ?_
      refine EV.icmp_ne 25 dX12_join_18 (by decide) (fun c68 => ?_) (fun c68 => ?_)
      · rw [if_neg c68] at h
        refine EV.aload_n 0 dX12_join_25 rfl rfl ?_
        obtain ⟨v69, gv69, h⟩ := px_bs h
        refine ev_gR dX12_join_26 flRX12_18 gv69 ?_
        refine EV.iload_n 1 dX12_join_29 rfl rfl ?_
        obtain ⟨v70, gv70, h⟩ := px_bs h
        refine ev_aI dX12_join_30 gv70 ?_
        refine EV.sub [0, 1] rfl ?_
        exact eX12_join_31 ih _ _ _ _ _ _ _ h
      · rw [if_pos c68] at h
        refine EV.iconst (1) dX12_join_21 (by decide) ?_
        refine EV.goto 31 dX12_join_22 (by decide) ?_
        refine EV.sub [0, 1] rfl ?_
        exact eX12_join_31 ih _ _ _ _ _ _ _ h
set_option maxRecDepth 100000 in
set_option maxHeartbeats 4000000 in
theorem eX12_join {X : px_X} {w : px_W} {a0 : Nat} {q : px_W} (h : fX12_join X w a0 = some q) : EV X mX12_join 0 (lv_args 0 [.ref a0]) [] w none q := by
  unfold fX12_join at h
  show EV X mX12_join 0 [(0, .ref a0)] [] w none q
  refine EV.iconst (0) dX12_join_0 (by decide) ?_
  refine EV.istore_n [(1, .int 0), (0, .ref a0)] dX12_join_1 rfl (by decide) rfl ?_
  refine EV.sub [1, 0] rfl ?_
  exact eX12_join_2  FU _ _ _ _ h
/-! WavePicturesModel$Forge.shorten()V -/
theorem dX12_shorten_0 : decode cX12_shorten 0 = .ok (.iconst 0, 1) := by decide +kernel
theorem dX12_shorten_1 : decode cX12_shorten 1 = .ok (.istore_n 1, 1) := by decide +kernel
theorem dX12_shorten_2 : decode cX12_shorten 2 = .ok (.iload_n 1, 1) := by decide +kernel
theorem dX12_shorten_3 : decode cX12_shorten 3 = .ok (.sipush 300, 3) := by decide +kernel
theorem dX12_shorten_6 : decode cX12_shorten 6 = .ok (.if_icmp .ge 16, 3) := by decide +kernel
theorem dX12_shorten_9 : decode cX12_shorten 9 = .ok (.aload_n 0, 1) := by decide +kernel
theorem dX12_shorten_10 : decode cX12_shorten 10 = .ok (.getfield 30, 3) := by decide +kernel
theorem dX12_shorten_13 : decode cX12_shorten 13 = .ok (.iload_n 1, 1) := by decide +kernel
theorem dX12_shorten_14 : decode cX12_shorten 14 = .ok (.iconst 0, 1) := by decide +kernel
theorem dX12_shorten_15 : decode cX12_shorten 15 = .ok (.iastore, 1) := by decide +kernel
theorem dX12_shorten_16 : decode cX12_shorten 16 = .ok (.iinc 1 1, 3) := by decide +kernel
theorem dX12_shorten_19 : decode cX12_shorten 19 = .ok (.goto (-17), 3) := by decide +kernel
theorem dX12_shorten_22 : decode cX12_shorten 22 = .ok (.iconst 0, 1) := by decide +kernel
theorem dX12_shorten_23 : decode cX12_shorten 23 = .ok (.istore_n 1, 1) := by decide +kernel
theorem dX12_shorten_24 : decode cX12_shorten 24 = .ok (.iload_n 1, 1) := by decide +kernel
theorem dX12_shorten_25 : decode cX12_shorten 25 = .ok (.sipush 256, 3) := by decide +kernel
theorem dX12_shorten_28 : decode cX12_shorten 28 = .ok (.if_icmp .gt 40, 3) := by decide +kernel
theorem dX12_shorten_31 : decode cX12_shorten 31 = .ok (.iload_n 1, 1) := by decide +kernel
theorem dX12_shorten_32 : decode cX12_shorten 32 = .ok (.sipush 256, 3) := by decide +kernel
theorem dX12_shorten_35 : decode cX12_shorten 35 = .ok (.if_icmp .eq 12, 3) := by decide +kernel
theorem dX12_shorten_38 : decode cX12_shorten 38 = .ok (.aload_n 0, 1) := by decide +kernel
theorem dX12_shorten_39 : decode cX12_shorten 39 = .ok (.getfield 18, 3) := by decide +kernel
theorem dX12_shorten_42 : decode cX12_shorten 42 = .ok (.iload_n 1, 1) := by decide +kernel
theorem dX12_shorten_43 : decode cX12_shorten 43 = .ok (.iaload, 1) := by decide +kernel
theorem dX12_shorten_44 : decode cX12_shorten 44 = .ok (.ifCond .le 18, 3) := by decide +kernel
theorem dX12_shorten_47 : decode cX12_shorten 47 = .ok (.aload_n 0, 1) := by decide +kernel
theorem dX12_shorten_48 : decode cX12_shorten 48 = .ok (.getfield 30, 3) := by decide +kernel
theorem dX12_shorten_51 : decode cX12_shorten 51 = .ok (.aload_n 0, 1) := by decide +kernel
theorem dX12_shorten_52 : decode cX12_shorten 52 = .ok (.getfield 27, 3) := by decide +kernel
theorem dX12_shorten_55 : decode cX12_shorten 55 = .ok (.iload_n 1, 1) := by decide +kernel
theorem dX12_shorten_56 : decode cX12_shorten 56 = .ok (.iaload, 1) := by decide +kernel
theorem dX12_shorten_57 : decode cX12_shorten 57 = .ok (.dup2, 1) := by decide +kernel
theorem dX12_shorten_58 : decode cX12_shorten 58 = .ok (.iaload, 1) := by decide +kernel
theorem dX12_shorten_59 : decode cX12_shorten 59 = .ok (.iconst 1, 1) := by decide +kernel
theorem dX12_shorten_60 : decode cX12_shorten 60 = .ok (.iadd, 1) := by decide +kernel
theorem dX12_shorten_61 : decode cX12_shorten 61 = .ok (.iastore, 1) := by decide +kernel
theorem dX12_shorten_62 : decode cX12_shorten 62 = .ok (.iinc 1 1, 3) := by decide +kernel
theorem dX12_shorten_65 : decode cX12_shorten 65 = .ok (.goto (-41), 3) := by decide +kernel
theorem dX12_shorten_68 : decode cX12_shorten 68 = .ok (.sipush 299, 3) := by decide +kernel
theorem dX12_shorten_71 : decode cX12_shorten 71 = .ok (.istore_n 1, 1) := by decide +kernel
theorem dX12_shorten_72 : decode cX12_shorten 72 = .ok (.iload_n 1, 1) := by decide +kernel
theorem dX12_shorten_73 : decode cX12_shorten 73 = .ok (.bipush 16, 2) := by decide +kernel
theorem dX12_shorten_75 : decode cX12_shorten 75 = .ok (.if_icmp .le 84, 3) := by decide +kernel
theorem dX12_shorten_78 : decode cX12_shorten 78 = .ok (.aload_n 0, 1) := by decide +kernel
theorem dX12_shorten_79 : decode cX12_shorten 79 = .ok (.getfield 30, 3) := by decide +kernel
theorem dX12_shorten_82 : decode cX12_shorten 82 = .ok (.iload_n 1, 1) := by decide +kernel
theorem dX12_shorten_83 : decode cX12_shorten 83 = .ok (.iaload, 1) := by decide +kernel
theorem dX12_shorten_84 : decode cX12_shorten 84 = .ok (.ifCond .le 69, 3) := by decide +kernel
theorem dX12_shorten_87 : decode cX12_shorten 87 = .ok (.iload_n 1, 1) := by decide +kernel
theorem dX12_shorten_88 : decode cX12_shorten 88 = .ok (.iconst 2, 1) := by decide +kernel
theorem dX12_shorten_89 : decode cX12_shorten 89 = .ok (.isub, 1) := by decide +kernel
theorem dX12_shorten_90 : decode cX12_shorten 90 = .ok (.istore_n 2, 1) := by decide +kernel
theorem dX12_shorten_91 : decode cX12_shorten 91 = .ok (.aload_n 0, 1) := by decide +kernel
theorem dX12_shorten_92 : decode cX12_shorten 92 = .ok (.getfield 30, 3) := by decide +kernel
theorem dX12_shorten_95 : decode cX12_shorten 95 = .ok (.iload_n 2, 1) := by decide +kernel
theorem dX12_shorten_96 : decode cX12_shorten 96 = .ok (.iaload, 1) := by decide +kernel
theorem dX12_shorten_97 : decode cX12_shorten 97 = .ok (.ifCond .ne 9, 3) := by decide +kernel
theorem dX12_shorten_100 : decode cX12_shorten 100 = .ok (.iinc 2 (-1), 3) := by decide +kernel
theorem dX12_shorten_103 : decode cX12_shorten 103 = .ok (.goto (-12), 3) := by decide +kernel
theorem dX12_shorten_106 : decode cX12_shorten 106 = .ok (.aload_n 0, 1) := by decide +kernel
theorem dX12_shorten_107 : decode cX12_shorten 107 = .ok (.getfield 30, 3) := by decide +kernel
theorem dX12_shorten_110 : decode cX12_shorten 110 = .ok (.iload_n 1, 1) := by decide +kernel
theorem dX12_shorten_111 : decode cX12_shorten 111 = .ok (.dup2, 1) := by decide +kernel
theorem dX12_shorten_112 : decode cX12_shorten 112 = .ok (.iaload, 1) := by decide +kernel
theorem dX12_shorten_113 : decode cX12_shorten 113 = .ok (.iconst 2, 1) := by decide +kernel
theorem dX12_shorten_114 : decode cX12_shorten 114 = .ok (.isub, 1) := by decide +kernel
theorem dX12_shorten_115 : decode cX12_shorten 115 = .ok (.iastore, 1) := by decide +kernel
theorem dX12_shorten_116 : decode cX12_shorten 116 = .ok (.aload_n 0, 1) := by decide +kernel
theorem dX12_shorten_117 : decode cX12_shorten 117 = .ok (.getfield 30, 3) := by decide +kernel
theorem dX12_shorten_120 : decode cX12_shorten 120 = .ok (.iload_n 1, 1) := by decide +kernel
theorem dX12_shorten_121 : decode cX12_shorten 121 = .ok (.iconst 1, 1) := by decide +kernel
theorem dX12_shorten_122 : decode cX12_shorten 122 = .ok (.isub, 1) := by decide +kernel
theorem dX12_shorten_123 : decode cX12_shorten 123 = .ok (.dup2, 1) := by decide +kernel
theorem dX12_shorten_124 : decode cX12_shorten 124 = .ok (.iaload, 1) := by decide +kernel
theorem dX12_shorten_125 : decode cX12_shorten 125 = .ok (.iconst 1, 1) := by decide +kernel
theorem dX12_shorten_126 : decode cX12_shorten 126 = .ok (.iadd, 1) := by decide +kernel
theorem dX12_shorten_127 : decode cX12_shorten 127 = .ok (.iastore, 1) := by decide +kernel
theorem dX12_shorten_128 : decode cX12_shorten 128 = .ok (.aload_n 0, 1) := by decide +kernel
theorem dX12_shorten_129 : decode cX12_shorten 129 = .ok (.getfield 30, 3) := by decide +kernel
theorem dX12_shorten_132 : decode cX12_shorten 132 = .ok (.iload_n 2, 1) := by decide +kernel
theorem dX12_shorten_133 : decode cX12_shorten 133 = .ok (.iconst 1, 1) := by decide +kernel
theorem dX12_shorten_134 : decode cX12_shorten 134 = .ok (.iadd, 1) := by decide +kernel
theorem dX12_shorten_135 : decode cX12_shorten 135 = .ok (.dup2, 1) := by decide +kernel
theorem dX12_shorten_136 : decode cX12_shorten 136 = .ok (.iaload, 1) := by decide +kernel
theorem dX12_shorten_137 : decode cX12_shorten 137 = .ok (.iconst 2, 1) := by decide +kernel
theorem dX12_shorten_138 : decode cX12_shorten 138 = .ok (.iadd, 1) := by decide +kernel
theorem dX12_shorten_139 : decode cX12_shorten 139 = .ok (.iastore, 1) := by decide +kernel
theorem dX12_shorten_140 : decode cX12_shorten 140 = .ok (.aload_n 0, 1) := by decide +kernel
theorem dX12_shorten_141 : decode cX12_shorten 141 = .ok (.getfield 30, 3) := by decide +kernel
theorem dX12_shorten_144 : decode cX12_shorten 144 = .ok (.iload_n 2, 1) := by decide +kernel
theorem dX12_shorten_145 : decode cX12_shorten 145 = .ok (.dup2, 1) := by decide +kernel
theorem dX12_shorten_146 : decode cX12_shorten 146 = .ok (.iaload, 1) := by decide +kernel
theorem dX12_shorten_147 : decode cX12_shorten 147 = .ok (.iconst 1, 1) := by decide +kernel
theorem dX12_shorten_148 : decode cX12_shorten 148 = .ok (.isub, 1) := by decide +kernel
theorem dX12_shorten_149 : decode cX12_shorten 149 = .ok (.iastore, 1) := by decide +kernel
theorem dX12_shorten_150 : decode cX12_shorten 150 = .ok (.goto (-72), 3) := by decide +kernel
theorem dX12_shorten_153 : decode cX12_shorten 153 = .ok (.iinc 1 (-1), 3) := by decide +kernel
theorem dX12_shorten_156 : decode cX12_shorten 156 = .ok (.goto (-84), 3) := by decide +kernel
theorem dX12_shorten_159 : decode cX12_shorten 159 = .ok (.bipush 16, 2) := by decide +kernel
theorem dX12_shorten_161 : decode cX12_shorten 161 = .ok (.istore_n 1, 1) := by decide +kernel
theorem dX12_shorten_162 : decode cX12_shorten 162 = .ok (.aload_n 0, 1) := by decide +kernel
theorem dX12_shorten_163 : decode cX12_shorten 163 = .ok (.getfield 30, 3) := by decide +kernel
theorem dX12_shorten_166 : decode cX12_shorten 166 = .ok (.iload_n 1, 1) := by decide +kernel
theorem dX12_shorten_167 : decode cX12_shorten 167 = .ok (.iaload, 1) := by decide +kernel
theorem dX12_shorten_168 : decode cX12_shorten 168 = .ok (.ifCond .ne 9, 3) := by decide +kernel
theorem dX12_shorten_171 : decode cX12_shorten 171 = .ok (.iinc 1 (-1), 3) := by decide +kernel
theorem dX12_shorten_174 : decode cX12_shorten 174 = .ok (.goto (-12), 3) := by decide +kernel
theorem dX12_shorten_177 : decode cX12_shorten 177 = .ok (.aload_n 0, 1) := by decide +kernel
theorem dX12_shorten_178 : decode cX12_shorten 178 = .ok (.getfield 30, 3) := by decide +kernel
theorem dX12_shorten_181 : decode cX12_shorten 181 = .ok (.iload_n 1, 1) := by decide +kernel
theorem dX12_shorten_182 : decode cX12_shorten 182 = .ok (.dup2, 1) := by decide +kernel
theorem dX12_shorten_183 : decode cX12_shorten 183 = .ok (.iaload, 1) := by decide +kernel
theorem dX12_shorten_184 : decode cX12_shorten 184 = .ok (.iconst 1, 1) := by decide +kernel
theorem dX12_shorten_185 : decode cX12_shorten 185 = .ok (.isub, 1) := by decide +kernel
theorem dX12_shorten_186 : decode cX12_shorten 186 = .ok (.iastore, 1) := by decide +kernel
theorem dX12_shorten_187 : decode cX12_shorten 187 = .ok (.return_, 1) := by decide +kernel
theorem flRX12_30 : px_f RX12 30 12 8 := ⟨_, rfl, by decide, Or.inl (tb7 (List.mem_of_getElem? (i := 181) rfl))⟩
set_option maxRecDepth 100000 in
set_option maxHeartbeats 4000000 in
theorem eX12_shorten_153 {X : px_X} {k72 : Nat → Int32 → px_W → Option (px_W)} (hk72 : ∀ (a0 : Nat) (a1 : Int32) (w : px_W) (q : px_W), k72 a0 a1 w = some q → EV X mX12_shorten 72 [(0, .ref a0), (1, .int a1)] [] w none q) : ∀ (a0 : Nat) (a1 : Int32) (w : px_W) (q : px_W), fX12_shorten_153 X k72 a0 a1 w = some q → EV X mX12_shorten 153 [(0, .ref a0), (1, .int a1)] [] w none q := by
  intro a0 a1 w q h
  unfold fX12_shorten_153 at h
  refine EV.iinc 1 (a1 + (-1)) [(1, .int (a1 + (-1))), (0, .ref a0)] dX12_shorten_153 rfl rfl (by decide) rfl ?_
  refine EV.goto 72 dX12_shorten_156 (by decide) ?_
  refine EV.sub [1, 0] rfl ?_
  exact hk72 _ _ _ _ h
set_option maxRecDepth 100000 in
set_option maxHeartbeats 4000000 in
theorem eX12_shorten_106 {X : px_X} {k72 : Nat → Int32 → px_W → Option (px_W)} (hk72 : ∀ (a0 : Nat) (a1 : Int32) (w : px_W) (q : px_W), k72 a0 a1 w = some q → EV X mX12_shorten 72 [(0, .ref a0), (1, .int a1)] [] w none q) {k78 : Nat → Int32 → px_W → Option (px_W)} (hk78 : ∀ (a0 : Nat) (a1 : Int32) (w : px_W) (q : px_W), k78 a0 a1 w = some q → EV X mX12_shorten 78 [(0, .ref a0), (1, .int a1)] [] w none q) : ∀ (a0 : Nat) (a1 : Int32) (a2 : Int32) (w : px_W) (q : px_W), fX12_shorten_106 X k72 k78 a0 a1 a2 w = some q → EV X mX12_shorten 106 [(0, .ref a0), (1, .int a1), (2, .int a2)] [] w none q := by
  intro a0 a1 a2 w q h
  unfold fX12_shorten_106 at h
  refine EV.aload_n 0 dX12_shorten_106 rfl rfl ?_
  obtain ⟨v31, gv31, h⟩ := px_bs h
  refine ev_gR dX12_shorten_107 flRX12_30 gv31 ?_
  refine EV.iload_n 1 dX12_shorten_110 rfl rfl ?_
  refine EV.dup2 dX12_shorten_111 rfl rfl ?_
  obtain ⟨v32, gv32, h⟩ := px_bs h
  refine ev_aI dX12_shorten_112 gv32 ?_
  refine EV.iconst (2) dX12_shorten_113 (by decide) ?_
  refine EV.isub dX12_shorten_114 ?_
  obtain ⟨w33, gw33, h⟩ := px_bs h
  refine ev_sI dX12_shorten_115 gw33 ?_
  refine EV.aload_n 0 dX12_shorten_116 rfl rfl ?_
  obtain ⟨v34, gv34, h⟩ := px_bs h
  refine ev_gR dX12_shorten_117 flRX12_30 gv34 ?_
  refine EV.iload_n 1 dX12_shorten_120 rfl rfl ?_
  refine EV.iconst (1) dX12_shorten_121 (by decide) ?_
  refine EV.isub dX12_shorten_122 ?_
  refine EV.dup2 dX12_shorten_123 rfl rfl ?_
  obtain ⟨v35, gv35, h⟩ := px_bs h
  refine ev_aI dX12_shorten_124 gv35 ?_
  refine EV.iconst (1) dX12_shorten_125 (by decide) ?_
  refine EV.iadd dX12_shorten_126 ?_
  obtain ⟨w36, gw36, h⟩ := px_bs h
  refine ev_sI dX12_shorten_127 gw36 ?_
  refine EV.aload_n 0 dX12_shorten_128 rfl rfl ?_
  obtain ⟨v37, gv37, h⟩ := px_bs h
  refine ev_gR dX12_shorten_129 flRX12_30 gv37 ?_
  refine EV.iload_n 2 dX12_shorten_132 rfl rfl ?_
  refine EV.iconst (1) dX12_shorten_133 (by decide) ?_
  refine EV.iadd dX12_shorten_134 ?_
  refine EV.dup2 dX12_shorten_135 rfl rfl ?_
  obtain ⟨v38, gv38, h⟩ := px_bs h
  refine ev_aI dX12_shorten_136 gv38 ?_
  refine EV.iconst (2) dX12_shorten_137 (by decide) ?_
  refine EV.iadd dX12_shorten_138 ?_
  obtain ⟨w39, gw39, h⟩ := px_bs h
  refine ev_sI dX12_shorten_139 gw39 ?_
  refine EV.aload_n 0 dX12_shorten_140 rfl rfl ?_
  obtain ⟨v40, gv40, h⟩ := px_bs h
  refine ev_gR dX12_shorten_141 flRX12_30 gv40 ?_
  refine EV.iload_n 2 dX12_shorten_144 rfl rfl ?_
  refine EV.dup2 dX12_shorten_145 rfl rfl ?_
  obtain ⟨v41, gv41, h⟩ := px_bs h
  refine ev_aI dX12_shorten_146 gv41 ?_
  refine EV.iconst (1) dX12_shorten_147 (by decide) ?_
  refine EV.isub dX12_shorten_148 ?_
  obtain ⟨w42, gw42, h⟩ := px_bs h
  refine ev_sI dX12_shorten_149 gw42 ?_
  refine EV.goto 78 dX12_shorten_150 (by decide) ?_
  refine EV.sub [0, 1] rfl ?_
  exact hk78 _ _ _ _ h
set_option maxRecDepth 100000 in
set_option maxHeartbeats 4000000 in
theorem eX12_shorten_91 {X : px_X} {k72 : Nat → Int32 → px_W → Option (px_W)} (hk72 : ∀ (a0 : Nat) (a1 : Int32) (w : px_W) (q : px_W), k72 a0 a1 w = some q → EV X mX12_shorten 72 [(0, .ref a0), (1, .int a1)] [] w none q) {k78 : Nat → Int32 → px_W → Option (px_W)} (hk78 : ∀ (a0 : Nat) (a1 : Int32) (w : px_W) (q : px_W), k78 a0 a1 w = some q → EV X mX12_shorten 78 [(0, .ref a0), (1, .int a1)] [] w none q) : ∀ (m : Nat) (a0 : Nat) (a1 : Int32) (a2 : Int32) (w : px_W) (q : px_W), fX12_shorten_91 X k72 k78 m a0 a1 a2 w = some q → EV X mX12_shorten 91 [(0, .ref a0), (1, .int a1), (2, .int a2)] [] w none q := by
  intro m
  induction m with
  | zero => intro a0 a1 a2 w q h; cases h
  | succ m ih =>
    intro a0 a1 a2 w q h
    rw [fX12_shorten_91.eq_2] at h
    refine EV.aload_n 0 dX12_shorten_91 rfl rfl ?_
    obtain ⟨v43, gv43, h⟩ := px_bs h
    refine ev_gR dX12_shorten_92 flRX12_30 gv43 ?_
    refine EV.iload_n 2 dX12_shorten_95 rfl rfl ?_
    obtain ⟨v44, gv44, h⟩ := px_bs h
    refine ev_aI dX12_shorten_96 gv44 ?_
    refine EV.if_ne 106 dX12_shorten_97 (by decide) (fun c45 => ?_) (fun c45 => ?_)
    · rw [if_neg c45] at h
      refine EV.sub [0, 1, 2] rfl ?_
      exact eX12_shorten_106 hk72 hk78 _ _ _ _ _ h
    · rw [if_pos c45] at h
      refine EV.iinc 2 (a2 + (-1)) [(2, .int (a2 + (-1))), (0, .ref a0), (1, .int a1)] dX12_shorten_100 rfl rfl (by decide) rfl ?_
      refine EV.goto 91 dX12_shorten_103 (by decide) ?_
      refine EV.sub [1, 2, 0] rfl ?_
      exact ih _ _ _ _ _ h
set_option maxRecDepth 100000 in
set_option maxHeartbeats 4000000 in
theorem eX12_shorten_78 {X : px_X} {k72 : Nat → Int32 → px_W → Option (px_W)} (hk72 : ∀ (a0 : Nat) (a1 : Int32) (w : px_W) (q : px_W), k72 a0 a1 w = some q → EV X mX12_shorten 72 [(0, .ref a0), (1, .int a1)] [] w none q) : ∀ (m : Nat) (a0 : Nat) (a1 : Int32) (w : px_W) (q : px_W), fX12_shorten_78 X k72 m a0 a1 w = some q → EV X mX12_shorten 78 [(0, .ref a0), (1, .int a1)] [] w none q := by
  intro m
  induction m with
  | zero => intro a0 a1 w q h; cases h
  | succ m ih =>
    intro a0 a1 w q h
    rw [fX12_shorten_78.eq_2] at h
    refine EV.aload_n 0 dX12_shorten_78 rfl rfl ?_
    obtain ⟨v46, gv46, h⟩ := px_bs h
    refine ev_gR dX12_shorten_79 flRX12_30 gv46 ?_
    refine EV.iload_n 1 dX12_shorten_82 rfl rfl ?_
    obtain ⟨v47, gv47, h⟩ := px_bs h
    refine ev_aI dX12_shorten_83 gv47 ?_
    refine EV.if_le 153 dX12_shorten_84 (by decide) (fun c48 => ?_) (fun c48 => ?_)
    · rw [if_pos c48] at h
      refine EV.sub [0, 1] rfl ?_
      exact eX12_shorten_153 hk72 _ _ _ _ h
    · rw [if_neg c48] at h
      refine EV.iload_n 1 dX12_shorten_87 rfl rfl ?_
      refine EV.iconst (2) dX12_shorten_88 (by decide) ?_
      refine EV.isub dX12_shorten_89 ?_
      refine EV.istore_n [(2, .int (a1 - 2)), (0, .ref a0), (1, .int a1)] dX12_shorten_90 rfl (by decide) rfl ?_
      refine EV.sub [1, 2, 0] rfl ?_
      exact eX12_shorten_91 hk72 ih FU _ _ _ _ _ h
set_option maxRecDepth 100000 in
set_option maxHeartbeats 4000000 in
theorem eX12_shorten_177 {X : px_X}  : ∀ (a0 : Nat) (a1 : Int32) (w : px_W) (q : px_W), fX12_shorten_177 X  a0 a1 w = some q → EV X mX12_shorten 177 [(0, .ref a0), (1, .int a1)] [] w none q := by
  intro a0 a1 w q h
  unfold fX12_shorten_177 at h
  refine EV.aload_n 0 dX12_shorten_177 rfl rfl ?_
  obtain ⟨v49, gv49, h⟩ := px_bs h
  refine ev_gR dX12_shorten_178 flRX12_30 gv49 ?_
  refine EV.iload_n 1 dX12_shorten_181 rfl rfl ?_
  refine EV.dup2 dX12_shorten_182 rfl rfl ?_
  obtain ⟨v50, gv50, h⟩ := px_bs h
  refine ev_aI dX12_shorten_183 gv50 ?_
  refine EV.iconst (1) dX12_shorten_184 (by decide) ?_
  refine EV.isub dX12_shorten_185 ?_
  obtain ⟨w51, gw51, h⟩ := px_bs h
  refine ev_sI dX12_shorten_186 gw51 ?_
  cases h
  exact EV.ret0 dX12_shorten_187 trivial
set_option maxRecDepth 100000 in
set_option maxHeartbeats 4000000 in
theorem eX12_shorten_162 {X : px_X}  : ∀ (m : Nat) (a0 : Nat) (a1 : Int32) (w : px_W) (q : px_W), fX12_shorten_162 X  m a0 a1 w = some q → EV X mX12_shorten 162 [(0, .ref a0), (1, .int a1)] [] w none q := by
  intro m
  induction m with
  | zero => intro a0 a1 w q h; cases h
  | succ m ih =>
    intro a0 a1 w q h
    rw [fX12_shorten_162.eq_2] at h
    refine EV.aload_n 0 dX12_shorten_162 rfl rfl ?_
    obtain ⟨v52, gv52, h⟩ := px_bs h
    refine ev_gR dX12_shorten_163 flRX12_30 gv52 ?_
    refine EV.iload_n 1 dX12_shorten_166 rfl rfl ?_
    obtain ⟨v53, gv53, h⟩ := px_bs h
    refine ev_aI dX12_shorten_167 gv53 ?_
    refine EV.if_ne 177 dX12_shorten_168 (by decide) (fun c54 => ?_) (fun c54 => ?_)
    · rw [if_neg c54] at h
      refine EV.sub [0, 1] rfl ?_
      exact eX12_shorten_177  _ _ _ _ h
    · rw [if_pos c54] at h
      refine EV.iinc 1 (a1 + (-1)) [(1, .int (a1 + (-1))), (0, .ref a0)] dX12_shorten_171 rfl rfl (by decide) rfl ?_
      refine EV.goto 162 dX12_shorten_174 (by decide) ?_
      refine EV.sub [1, 0] rfl ?_
      exact ih _ _ _ _ h
set_option maxRecDepth 100000 in
set_option maxHeartbeats 4000000 in
theorem eX12_shorten_159 {X : px_X}  : ∀ (a0 : Nat) (w : px_W) (q : px_W), fX12_shorten_159 X  a0 w = some q → EV X mX12_shorten 159 [(0, .ref a0)] [] w none q := by
  intro a0 w q h
  unfold fX12_shorten_159 at h
  refine EV.bipush (16) dX12_shorten_159 (by decide) ?_
  refine EV.istore_n [(1, .int 16), (0, .ref a0)] dX12_shorten_161 rfl (by decide) rfl ?_
  refine EV.sub [1, 0] rfl ?_
  exact eX12_shorten_162  FU _ _ _ _ h
set_option maxRecDepth 100000 in
set_option maxHeartbeats 4000000 in
theorem eX12_shorten_72 {X : px_X}  : ∀ (m : Nat) (a0 : Nat) (a1 : Int32) (w : px_W) (q : px_W), fX12_shorten_72 X  m a0 a1 w = some q → EV X mX12_shorten 72 [(0, .ref a0), (1, .int a1)] [] w none q := by
  intro m
  induction m with
  | zero => intro a0 a1 w q h; cases h
  | succ m ih =>
    intro a0 a1 w q h
    rw [fX12_shorten_72.eq_2] at h
    refine EV.iload_n 1 dX12_shorten_72 rfl rfl ?_
    refine EV.bipush (16) dX12_shorten_73 (by decide) ?_
    refine EV.icmp_le 159 dX12_shorten_75 (by decide) (fun c55 => ?_) (fun c55 => ?_)
    · rw [if_pos c55] at h
      refine EV.sub [0] rfl ?_
      exact eX12_shorten_159  _ _ _ h
    · rw [if_neg c55] at h
      refine EV.sub [0, 1] rfl ?_
      exact eX12_shorten_78 ih FU _ _ _ _ h
set_option maxRecDepth 100000 in
set_option maxHeartbeats 4000000 in
theorem eX12_shorten_68 {X : px_X}  : ∀ (a0 : Nat) (w : px_W) (q : px_W), fX12_shorten_68 X  a0 w = some q → EV X mX12_shorten 68 [(0, .ref a0)] [] w none q := by
  intro a0 w q h
  unfold fX12_shorten_68 at h
  refine EV.sipush (299) dX12_shorten_68 (by decide) ?_
  refine EV.istore_n [(1, .int 299), (0, .ref a0)] dX12_shorten_71 rfl (by decide) rfl ?_
  refine EV.sub [1, 0] rfl ?_
  exact eX12_shorten_72  FU _ _ _ _ h
set_option maxRecDepth 100000 in
set_option maxHeartbeats 4000000 in
theorem eX12_shorten_62 {X : px_X} {k24 : Nat → Int32 → px_W → Option (px_W)} (hk24 : ∀ (a0 : Nat) (a1 : Int32) (w : px_W) (q : px_W), k24 a0 a1 w = some q → EV X mX12_shorten 24 [(0, .ref a0), (1, .int a1)] [] w none q) : ∀ (a0 : Nat) (a1 : Int32) (w : px_W) (q : px_W), fX12_shorten_62 X k24 a0 a1 w = some q → EV X mX12_shorten 62 [(0, .ref a0), (1, .int a1)] [] w none q := by
  intro a0 a1 w q h
  unfold fX12_shorten_62 at h
  refine EV.iinc 1 (a1 + 1) [(1, .int (a1 + 1)), (0, .ref a0)] dX12_shorten_62 rfl rfl (by decide) rfl ?_
  refine EV.goto 24 dX12_shorten_65 (by decide) ?_
  refine EV.sub [1, 0] rfl ?_
  exact hk24 _ _ _ _ h
set_option maxRecDepth 100000 in
set_option maxHeartbeats 4000000 in
theorem eX12_shorten_47 {X : px_X} {k24 : Nat → Int32 → px_W → Option (px_W)} (hk24 : ∀ (a0 : Nat) (a1 : Int32) (w : px_W) (q : px_W), k24 a0 a1 w = some q → EV X mX12_shorten 24 [(0, .ref a0), (1, .int a1)] [] w none q) : ∀ (a0 : Nat) (a1 : Int32) (w : px_W) (q : px_W), fX12_shorten_47 X k24 a0 a1 w = some q → EV X mX12_shorten 47 [(0, .ref a0), (1, .int a1)] [] w none q := by
  intro a0 a1 w q h
  unfold fX12_shorten_47 at h
  refine EV.aload_n 0 dX12_shorten_47 rfl rfl ?_
  obtain ⟨v56, gv56, h⟩ := px_bs h
  refine ev_gR dX12_shorten_48 flRX12_30 gv56 ?_
  refine EV.aload_n 0 dX12_shorten_51 rfl rfl ?_
  obtain ⟨v57, gv57, h⟩ := px_bs h
  refine ev_gR dX12_shorten_52 flRX12_27 gv57 ?_
  refine EV.iload_n 1 dX12_shorten_55 rfl rfl ?_
  obtain ⟨v58, gv58, h⟩ := px_bs h
  refine ev_aI dX12_shorten_56 gv58 ?_
  refine EV.dup2 dX12_shorten_57 rfl rfl ?_
  obtain ⟨v59, gv59, h⟩ := px_bs h
  refine ev_aI dX12_shorten_58 gv59 ?_
  refine EV.iconst (1) dX12_shorten_59 (by decide) ?_
  refine EV.iadd dX12_shorten_60 ?_
  obtain ⟨w60, gw60, h⟩ := px_bs h
  refine ev_sI dX12_shorten_61 gw60 ?_
  refine EV.sub [0, 1] rfl ?_
  exact eX12_shorten_62 hk24 _ _ _ _ h
set_option maxRecDepth 100000 in
set_option maxHeartbeats 4000000 in
theorem eX12_shorten_24 {X : px_X}  : ∀ (m : Nat) (a0 : Nat) (a1 : Int32) (w : px_W) (q : px_W), fX12_shorten_24 X  m a0 a1 w = some q → EV X mX12_shorten 24 [(0, .ref a0), (1, .int a1)] [] w none q := by
  intro m
  induction m with
  | zero => intro a0 a1 w q h; cases h
  | succ m ih =>
    intro a0 a1 w q h
    rw [fX12_shorten_24.eq_2] at h
    refine EV.iload_n 1 dX12_shorten_24 rfl rfl ?_
    refine EV.sipush (256) dX12_shorten_25 (by decide) ?_
    refine EV.icmp_gt 68 dX12_shorten_28 (by decide) (fun c61 => ?_) (fun c61 => ?_)
    · rw [if_pos c61] at h
      refine EV.sub [0] rfl ?_
      exact eX12_shorten_68  _ _ _ h
    · rw [if_neg c61] at h
      refine EV.iload_n 1 dX12_shorten_31 rfl rfl ?_
      refine EV.sipush (256) dX12_shorten_32 (by decide) ?_
      refine EV.icmp_eq 47 dX12_shorten_35 (by decide) (fun c62 => ?_) (fun c62 => ?_)
      · rw [if_pos c62] at h
        refine EV.sub [0, 1] rfl ?_
        exact eX12_shorten_47 ih _ _ _ _ h
      · rw [if_neg c62] at h
        refine EV.aload_n 0 dX12_shorten_38 rfl rfl ?_
        obtain ⟨v63, gv63, h⟩ := px_bs h
        refine ev_gR dX12_shorten_39 flRX12_18 gv63 ?_
        refine EV.iload_n 1 dX12_shorten_42 rfl rfl ?_
        obtain ⟨v64, gv64, h⟩ := px_bs h
        refine ev_aI dX12_shorten_43 gv64 ?_
        refine EV.if_le 62 dX12_shorten_44 (by decide) (fun c65 => ?_) (fun c65 => ?_)
        · rw [if_pos c65] at h
          refine EV.sub [0, 1] rfl ?_
          exact eX12_shorten_62 ih _ _ _ _ h
        · rw [if_neg c65] at h
          refine EV.sub [0, 1] rfl ?_
          exact eX12_shorten_47 ih _ _ _ _ h
set_option maxRecDepth 100000 in
set_option maxHeartbeats 4000000 in
theorem eX12_shorten_22 {X : px_X}  : ∀ (a0 : Nat) (w : px_W) (q : px_W), fX12_shorten_22 X  a0 w = some q → EV X mX12_shorten 22 [(0, .ref a0)] [] w none q := by
  intro a0 w q h
  unfold fX12_shorten_22 at h
  refine EV.iconst (0) dX12_shorten_22 (by decide) ?_
  refine EV.istore_n [(1, .int 0), (0, .ref a0)] dX12_shorten_23 rfl (by decide) rfl ?_
  refine EV.sub [1, 0] rfl ?_
  exact eX12_shorten_24  FU _ _ _ _ h
set_option maxRecDepth 100000 in
set_option maxHeartbeats 4000000 in
theorem eX12_shorten_2 {X : px_X}  : ∀ (m : Nat) (a0 : Nat) (a1 : Int32) (w : px_W) (q : px_W), fX12_shorten_2 X  m a0 a1 w = some q → EV X mX12_shorten 2 [(0, .ref a0), (1, .int a1)] [] w none q := by
  intro m
  induction m with
  | zero => intro a0 a1 w q h; cases h
  | succ m ih =>
    intro a0 a1 w q h
    rw [fX12_shorten_2.eq_2] at h
    refine EV.iload_n 1 dX12_shorten_2 rfl rfl ?_
    refine EV.sipush (300) dX12_shorten_3 (by decide) ?_
    refine EV.icmp_ge 22 dX12_shorten_6 (by decide) (fun c66 => ?_) (fun c66 => ?_)
    · rw [if_pos c66] at h
      refine EV.sub [0] rfl ?_
      exact eX12_shorten_22  _ _ _ h
    · rw [if_neg c66] at h
      refine EV.aload_n 0 dX12_shorten_9 rfl rfl ?_
      obtain ⟨v67, gv67, h⟩ := px_bs h
      refine ev_gR dX12_shorten_10 flRX12_30 gv67 ?_
      refine EV.iload_n 1 dX12_shorten_13 rfl rfl ?_
      refine EV.iconst (0) dX12_shorten_14 (by decide) ?_
      obtain ⟨w68, gw68, h⟩ := px_bs h
      refine ev_sI dX12_shorten_15 gw68 ?_
      refine EV.iinc 1 (a1 + 1) [(1, .int (a1 + 1)), (0, .ref a0)] dX12_shorten_16 rfl rfl (by decide) rfl ?_
      refine EV.goto 2 dX12_shorten_19 (by decide) ?_
      refine EV.sub [1, 0] rfl ?_
      exact ih _ _ _ _ h
set_option maxRecDepth 100000 in
set_option maxHeartbeats 4000000 in
theorem eX12_shorten {X : px_X} {w : px_W} {a0 : Nat} {q : px_W} (h : fX12_shorten X w a0 = some q) : EV X mX12_shorten 0 (lv_args 0 [.ref a0]) [] w none q := by
  unfold fX12_shorten at h
  show EV X mX12_shorten 0 [(0, .ref a0)] [] w none q
  refine EV.iconst (0) dX12_shorten_0 (by decide) ?_
  refine EV.istore_n [(1, .int 0), (0, .ref a0)] dX12_shorten_1 rfl (by decide) rfl ?_
  refine EV.sub [1, 0] rfl ?_
  exact eX12_shorten_2  FU _ _ _ _ h
/-! WavePicturesModel$Forge.best()V -/
theorem dX12_best_0 : decode cX12_best 0 = .ok (.aload_n 0, 1) := by decide +kernel
theorem dX12_best_1 : decode cX12_best 1 = .ok (.iconst 0, 1) := by decide +kernel
theorem dX12_best_2 : decode cX12_best 2 = .ok (.putfield 37, 3) := by decide +kernel
theorem dX12_best_5 : decode cX12_best 5 = .ok (.iconst 0, 1) := by decide +kernel
theorem dX12_best_6 : decode cX12_best 6 = .ok (.istore_n 1, 1) := by decide +kernel
theorem dX12_best_7 : decode cX12_best 7 = .ok (.iload_n 1, 1) := by decide +kernel
theorem dX12_best_8 : decode cX12_best 8 = .ok (.bipush 17, 2) := by decide +kernel
theorem dX12_best_10 : decode cX12_best 10 = .ok (.if_icmp .ge 16, 3) := by decide +kernel
theorem dX12_best_13 : decode cX12_best 13 = .ok (.aload_n 0, 1) := by decide +kernel
theorem dX12_best_14 : decode cX12_best 14 = .ok (.getfield 9, 3) := by decide +kernel
theorem dX12_best_17 : decode cX12_best 17 = .ok (.iload_n 1, 1) := by decide +kernel
theorem dX12_best_18 : decode cX12_best 18 = .ok (.iconst 0, 1) := by decide +kernel
theorem dX12_best_19 : decode cX12_best 19 = .ok (.iastore, 1) := by decide +kernel
theorem dX12_best_20 : decode cX12_best 20 = .ok (.iinc 1 1, 3) := by decide +kernel
theorem dX12_best_23 : decode cX12_best 23 = .ok (.goto (-16), 3) := by decide +kernel
theorem dX12_best_26 : decode cX12_best 26 = .ok (.aload_n 0, 1) := by decide +kernel
theorem dX12_best_27 : decode cX12_best 27 = .ok (.getfield 41, 3) := by decide +kernel
theorem dX12_best_30 : decode cX12_best 30 = .ok (.ifCond .ne 4, 3) := by decide +kernel
theorem dX12_best_33 : decode cX12_best 33 = .ok (.return_, 1) := by decide +kernel
theorem dX12_best_34 : decode cX12_best 34 = .ok (.aload_n 0, 1) := by decide +kernel
theorem dX12_best_35 : decode cX12_best 35 = .ok (.invokevirtual 44, 3) := by decide +kernel
theorem dX12_best_38 : decode cX12_best 38 = .ok (.aload_n 0, 1) := by decide +kernel
theorem dX12_best_39 : decode cX12_best 39 = .ok (.invokevirtual 47, 3) := by decide +kernel
theorem dX12_best_42 : decode cX12_best 42 = .ok (.iconst 1, 1) := by decide +kernel
theorem dX12_best_43 : decode cX12_best 43 = .ok (.istore_n 1, 1) := by decide +kernel
theorem dX12_best_44 : decode cX12_best 44 = .ok (.iload_n 1, 1) := by decide +kernel
theorem dX12_best_45 : decode cX12_best 45 = .ok (.bipush 16, 2) := by decide +kernel
theorem dX12_best_47 : decode cX12_best 47 = .ok (.if_icmp .gt 21, 3) := by decide +kernel
theorem dX12_best_50 : decode cX12_best 50 = .ok (.aload_n 0, 1) := by decide +kernel
theorem dX12_best_51 : decode cX12_best 51 = .ok (.getfield 9, 3) := by decide +kernel
theorem dX12_best_54 : decode cX12_best 54 = .ok (.iload_n 1, 1) := by decide +kernel
theorem dX12_best_55 : decode cX12_best 55 = .ok (.aload_n 0, 1) := by decide +kernel
theorem dX12_best_56 : decode cX12_best 56 = .ok (.getfield 30, 3) := by decide +kernel
theorem dX12_best_59 : decode cX12_best 59 = .ok (.iload_n 1, 1) := by decide +kernel
theorem dX12_best_60 : decode cX12_best 60 = .ok (.iaload, 1) := by decide +kernel
theorem dX12_best_61 : decode cX12_best 61 = .ok (.iastore, 1) := by decide +kernel
theorem dX12_best_62 : decode cX12_best 62 = .ok (.iinc 1 1, 3) := by decide +kernel
theorem dX12_best_65 : decode cX12_best 65 = .ok (.goto (-21), 3) := by decide +kernel
theorem dX12_best_68 : decode cX12_best 68 = .ok (.iconst 1, 1) := by decide +kernel
theorem dX12_best_69 : decode cX12_best 69 = .ok (.istore_n 1, 1) := by decide +kernel
theorem dX12_best_70 : decode cX12_best 70 = .ok (.iload_n 1, 1) := by decide +kernel
theorem dX12_best_71 : decode cX12_best 71 = .ok (.sipush 300, 3) := by decide +kernel
theorem dX12_best_74 : decode cX12_best 74 = .ok (.if_icmp .ge 63, 3) := by decide +kernel
theorem dX12_best_77 : decode cX12_best 77 = .ok (.iconst 0, 1) := by decide +kernel
theorem dX12_best_78 : decode cX12_best 78 = .ok (.istore_n 2, 1) := by decide +kernel
theorem dX12_best_79 : decode cX12_best 79 = .ok (.iload_n 2, 1) := by decide +kernel
theorem dX12_best_80 : decode cX12_best 80 = .ok (.sipush 256, 3) := by decide +kernel
theorem dX12_best_83 : decode cX12_best 83 = .ok (.if_icmp .ge 48, 3) := by decide +kernel
theorem dX12_best_86 : decode cX12_best 86 = .ok (.aload_n 0, 1) := by decide +kernel
theorem dX12_best_87 : decode cX12_best 87 = .ok (.getfield 18, 3) := by decide +kernel
theorem dX12_best_90 : decode cX12_best 90 = .ok (.iload_n 2, 1) := by decide +kernel
theorem dX12_best_91 : decode cX12_best 91 = .ok (.iaload, 1) := by decide +kernel
theorem dX12_best_92 : decode cX12_best 92 = .ok (.ifCond .le 33, 3) := by decide +kernel
theorem dX12_best_95 : decode cX12_best 95 = .ok (.aload_n 0, 1) := by decide +kernel
theorem dX12_best_96 : decode cX12_best 96 = .ok (.getfield 27, 3) := by decide +kernel
theorem dX12_best_99 : decode cX12_best 99 = .ok (.iload_n 2, 1) := by decide +kernel
theorem dX12_best_100 : decode cX12_best 100 = .ok (.iaload, 1) := by decide +kernel
theorem dX12_best_101 : decode cX12_best 101 = .ok (.iload_n 1, 1) := by decide +kernel
theorem dX12_best_102 : decode cX12_best 102 = .ok (.if_icmp .ne 23, 3) := by decide +kernel
theorem dX12_best_105 : decode cX12_best 105 = .ok (.aload_n 0, 1) := by decide +kernel
theorem dX12_best_106 : decode cX12_best 106 = .ok (.getfield 15, 3) := by decide +kernel
theorem dX12_best_109 : decode cX12_best 109 = .ok (.aload_n 0, 1) := by decide +kernel
theorem dX12_best_110 : decode cX12_best 110 = .ok (.getfield 37, 3) := by decide +kernel
theorem dX12_best_113 : decode cX12_best 113 = .ok (.iload_n 2, 1) := by decide +kernel
theorem dX12_best_114 : decode cX12_best 114 = .ok (.iastore, 1) := by decide +kernel
theorem dX12_best_115 : decode cX12_best 115 = .ok (.aload_n 0, 1) := by decide +kernel
theorem dX12_best_116 : decode cX12_best 116 = .ok (.dup, 1) := by decide +kernel
theorem dX12_best_117 : decode cX12_best 117 = .ok (.getfield 37, 3) := by decide +kernel
theorem dX12_best_120 : decode cX12_best 120 = .ok (.iconst 1, 1) := by decide +kernel
theorem dX12_best_121 : decode cX12_best 121 = .ok (.iadd, 1) := by decide +kernel
theorem dX12_best_122 : decode cX12_best 122 = .ok (.putfield 37, 3) := by decide +kernel
theorem dX12_best_125 : decode cX12_best 125 = .ok (.iinc 2 1, 3) := by decide +kernel
theorem dX12_best_128 : decode cX12_best 128 = .ok (.goto (-49), 3) := by decide +kernel
theorem dX12_best_131 : decode cX12_best 131 = .ok (.iinc 1 1, 3) := by decide +kernel
theorem dX12_best_134 : decode cX12_best 134 = .ok (.goto (-64), 3) := by decide +kernel
theorem dX12_best_137 : decode cX12_best 137 = .ok (.return_, 1) := by decide +kernel
theorem flRX12_9 : px_f RX12 9 12 0 := ⟨_, rfl, by decide, Or.inl (tb7 (List.mem_of_getElem? (i := 168) rfl))⟩
theorem flRX12_15 : px_f RX12 15 12 1 := ⟨_, rfl, by decide, Or.inl (tb7 (List.mem_of_getElem? (i := 170) rfl))⟩
theorem flRX12_37 : px_f RX12 37 12 2 := ⟨_, rfl, by decide, Or.inl (tb7 (List.mem_of_getElem? (i := 172) rfl))⟩
theorem flRX12_41 : px_f RX12 41 12 4 := ⟨_, rfl, by decide, Or.inl (tb7 (List.mem_of_getElem? (i := 176) rfl))⟩
theorem mbX12_join : px_mB mX12_join 0 := ⟨tb9 (List.mem_of_getElem? (i := 236) rfl), by decide +kernel, tb1 (List.mem_of_getElem? (i := 16) rfl), by decide +kernel, by decide +kernel⟩
theorem vbX12_join : px_vB mX12_join := ⟨tb9 (List.mem_of_getElem? (i := 235) rfl), List.mem_append_left _ (List.mem_of_getElem? (i := 158) (by decide +kernel))⟩
theorem kcX12_best_44 : px_cV mX12_best 44 mX12_join 0 := ⟨⟨mbX12_join, by decide, by decide⟩, Or.inl (tb9 (List.mem_of_getElem? (i := 233) rfl)), vbX12_join⟩
theorem mbX12_shorten : px_mB mX12_shorten 0 := ⟨tb10 (List.mem_of_getElem? (i := 4) rfl), by decide +kernel, tb1 (List.mem_of_getElem? (i := 16) rfl), by decide +kernel, by decide +kernel⟩
theorem vbX12_shorten : px_vB mX12_shorten := ⟨tb10 (List.mem_of_getElem? (i := 3) rfl), List.mem_append_left _ (List.mem_of_getElem? (i := 160) (by decide +kernel))⟩
theorem kcX12_best_47 : px_cV mX12_best 47 mX12_shorten 0 := ⟨⟨mbX12_shorten, by decide, by decide⟩, Or.inl (tb10 (List.mem_of_getElem? (i := 1) rfl)), vbX12_shorten⟩
set_option maxRecDepth 100000 in
set_option maxHeartbeats 4000000 in
theorem eX12_best_131 {X : px_X} {k70 : Nat → Int32 → px_W → Option (px_W)} (hk70 : ∀ (a0 : Nat) (a1 : Int32) (w : px_W) (q : px_W), k70 a0 a1 w = some q → EV X mX12_best 70 [(0, .ref a0), (1, .int a1)] [] w none q) : ∀ (a0 : Nat) (a1 : Int32) (w : px_W) (q : px_W), fX12_best_131 X k70 a0 a1 w = some q → EV X mX12_best 131 [(0, .ref a0), (1, .int a1)] [] w none q := by
  intro a0 a1 w q h
  unfold fX12_best_131 at h
  refine EV.iinc 1 (a1 + 1) [(1, .int (a1 + 1)), (0, .ref a0)] dX12_best_131 rfl rfl (by decide) rfl ?_
  refine EV.goto 70 dX12_best_134 (by decide) ?_
  refine EV.sub [1, 0] rfl ?_
  exact hk70 _ _ _ _ h
set_option maxRecDepth 100000 in
set_option maxHeartbeats 4000000 in
theorem eX12_best_125 {X : px_X} {k70 : Nat → Int32 → px_W → Option (px_W)} (hk70 : ∀ (a0 : Nat) (a1 : Int32) (w : px_W) (q : px_W), k70 a0 a1 w = some q → EV X mX12_best 70 [(0, .ref a0), (1, .int a1)] [] w none q) {k79 : Nat → Int32 → Int32 → px_W → Option (px_W)} (hk79 : ∀ (a0 : Nat) (a1 : Int32) (a2 : Int32) (w : px_W) (q : px_W), k79 a0 a1 a2 w = some q → EV X mX12_best 79 [(0, .ref a0), (1, .int a1), (2, .int a2)] [] w none q) : ∀ (a0 : Nat) (a1 : Int32) (a2 : Int32) (w : px_W) (q : px_W), fX12_best_125 X k70 k79 a0 a1 a2 w = some q → EV X mX12_best 125 [(0, .ref a0), (1, .int a1), (2, .int a2)] [] w none q := by
  intro a0 a1 a2 w q h
  unfold fX12_best_125 at h
  refine EV.iinc 2 (a2 + 1) [(2, .int (a2 + 1)), (0, .ref a0), (1, .int a1)] dX12_best_125 rfl rfl (by decide) rfl ?_
  refine EV.goto 79 dX12_best_128 (by decide) ?_
  refine EV.sub [1, 2, 0] rfl ?_
  exact hk79 _ _ _ _ _ h
set_option maxRecDepth 100000 in
set_option maxHeartbeats 4000000 in
theorem eX12_best_79 {X : px_X} {k70 : Nat → Int32 → px_W → Option (px_W)} (hk70 : ∀ (a0 : Nat) (a1 : Int32) (w : px_W) (q : px_W), k70 a0 a1 w = some q → EV X mX12_best 70 [(0, .ref a0), (1, .int a1)] [] w none q) : ∀ (m : Nat) (a0 : Nat) (a1 : Int32) (a2 : Int32) (w : px_W) (q : px_W), fX12_best_79 X k70 m a0 a1 a2 w = some q → EV X mX12_best 79 [(0, .ref a0), (1, .int a1), (2, .int a2)] [] w none q := by
  intro m
  induction m with
  | zero => intro a0 a1 a2 w q h; cases h
  | succ m ih =>
    intro a0 a1 a2 w q h
    rw [fX12_best_79.eq_2] at h
    refine EV.iload_n 2 dX12_best_79 rfl rfl ?_
    refine EV.sipush (256) dX12_best_80 (by decide) ?_
    refine EV.icmp_ge 131 dX12_best_83 (by decide) (fun c22 => ?_) (fun c22 => ?_)
    · rw [if_pos c22] at h
      refine EV.sub [0, 1] rfl ?_
      exact eX12_best_131 hk70 _ _ _ _ h
    · rw [if_neg c22] at h
      refine EV.aload_n 0 dX12_best_86 rfl rfl ?_
      obtain ⟨v23, gv23, h⟩ := px_bs h
      refine ev_gR dX12_best_87 flRX12_18 gv23 ?_
      refine EV.iload_n 2 dX12_best_90 rfl rfl ?_
      obtain ⟨v24, gv24, h⟩ := px_bs h
      refine ev_aI dX12_best_91 gv24 ?_
      refine EV.if_le 125 dX12_best_92 (by decide) (fun c25 => ?_) (fun c25 => ?_)
      · rw [if_pos c25] at h
        refine EV.sub [0, 1, 2] rfl ?_
        exact eX12_best_125 hk70 ih _ _ _ _ _ h
      · rw [if_neg c25] at h
        refine EV.aload_n 0 dX12_best_95 rfl rfl ?_
        obtain ⟨v26, gv26, h⟩ := px_bs h
        refine ev_gR dX12_best_96 flRX12_27 gv26 ?_
        refine EV.iload_n 2 dX12_best_99 rfl rfl ?_
        obtain ⟨v27, gv27, h⟩ := px_bs h
        refine ev_aI dX12_best_100 gv27 ?_
        refine EV.iload_n 1 dX12_best_101 rfl rfl ?_
        refine EV.icmp_ne 125 dX12_best_102 (by decide) (fun c28 => ?_) (fun c28 => ?_)
        · rw [if_neg c28] at h
          refine EV.sub [0, 1, 2] rfl ?_
          exact eX12_best_125 hk70 ih _ _ _ _ _ h
        · rw [if_pos c28] at h
          refine EV.aload_n 0 dX12_best_105 rfl rfl ?_
          obtain ⟨v29, gv29, h⟩ := px_bs h
          refine ev_gR dX12_best_106 flRX12_15 gv29 ?_
          refine EV.aload_n 0 dX12_best_109 rfl rfl ?_
          obtain ⟨v30, gv30, h⟩ := px_bs h
          refine ev_gI dX12_best_110 flRX12_37 gv30 ?_
          refine EV.iload_n 2 dX12_best_113 rfl rfl ?_
          obtain ⟨w31, gw31, h⟩ := px_bs h
          refine ev_sI dX12_best_114 gw31 ?_
          refine EV.aload_n 0 dX12_best_115 rfl rfl ?_
          refine EV.dup dX12_best_116 rfl ?_
          obtain ⟨v32, gv32, h⟩ := px_bs h
          refine ev_gI dX12_best_117 flRX12_37 gv32 ?_
          refine EV.iconst (1) dX12_best_120 (by decide) ?_
          refine EV.iadd dX12_best_121 ?_
          obtain ⟨w33, gw33, h⟩ := px_bs h
          refine ev_pV dX12_best_122 flRX12_37 rfl rfl rfl rfl gw33 ?_
          refine EV.sub [0, 1, 2] rfl ?_
          exact eX12_best_125 hk70 ih _ _ _ _ _ h
set_option maxRecDepth 100000 in
set_option maxHeartbeats 4000000 in
theorem eX12_best_70 {X : px_X}  : ∀ (m : Nat) (a0 : Nat) (a1 : Int32) (w : px_W) (q : px_W), fX12_best_70 X  m a0 a1 w = some q → EV X mX12_best 70 [(0, .ref a0), (1, .int a1)] [] w none q := by
  intro m
  induction m with
  | zero => intro a0 a1 w q h; cases h
  | succ m ih =>
    intro a0 a1 w q h
    rw [fX12_best_70.eq_2] at h
    refine EV.iload_n 1 dX12_best_70 rfl rfl ?_
    refine EV.sipush (300) dX12_best_71 (by decide) ?_
    refine EV.icmp_ge 137 dX12_best_74 (by decide) (fun c34 => ?_) (fun c34 => ?_)
    · rw [if_pos c34] at h
      cases h
      exact EV.ret0 dX12_best_137 trivial
    · rw [if_neg c34] at h
      refine EV.iconst (0) dX12_best_77 (by decide) ?_
      refine EV.istore_n [(2, .int 0), (0, .ref a0), (1, .int a1)] dX12_best_78 rfl (by decide) rfl ?_
      refine EV.sub [1, 2, 0] rfl ?_
      exact eX12_best_79 ih FU _ _ _ _ _ h
set_option maxRecDepth 100000 in
set_option maxHeartbeats 4000000 in
theorem eX12_best_68 {X : px_X}  : ∀ (a0 : Nat) (w : px_W) (q : px_W), fX12_best_68 X  a0 w = some q → EV X mX12_best 68 [(0, .ref a0)] [] w none q := by
  intro a0 w q h
  unfold fX12_best_68 at h
  refine EV.iconst (1) dX12_best_68 (by decide) ?_
  refine EV.istore_n [(1, .int 1), (0, .ref a0)] dX12_best_69 rfl (by decide) rfl ?_
  refine EV.sub [1, 0] rfl ?_
  exact eX12_best_70  FU _ _ _ _ h
set_option maxRecDepth 100000 in
set_option maxHeartbeats 4000000 in
theorem eX12_best_44 {X : px_X}  : ∀ (m : Nat) (a0 : Nat) (a1 : Int32) (w : px_W) (q : px_W), fX12_best_44 X  m a0 a1 w = some q → EV X mX12_best 44 [(0, .ref a0), (1, .int a1)] [] w none q := by
  intro m
  induction m with
  | zero => intro a0 a1 w q h; cases h
  | succ m ih =>
    intro a0 a1 w q h
    rw [fX12_best_44.eq_2] at h
    refine EV.iload_n 1 dX12_best_44 rfl rfl ?_
    refine EV.bipush (16) dX12_best_45 (by decide) ?_
    refine EV.icmp_gt 68 dX12_best_47 (by decide) (fun c35 => ?_) (fun c35 => ?_)
    · rw [if_pos c35] at h
      refine EV.sub [0] rfl ?_
      exact eX12_best_68  _ _ _ h
    · rw [if_neg c35] at h
      refine EV.aload_n 0 dX12_best_50 rfl rfl ?_
      obtain ⟨v36, gv36, h⟩ := px_bs h
      refine ev_gR dX12_best_51 flRX12_9 gv36 ?_
      refine EV.iload_n 1 dX12_best_54 rfl rfl ?_
      refine EV.aload_n 0 dX12_best_55 rfl rfl ?_
      obtain ⟨v37, gv37, h⟩ := px_bs h
      refine ev_gR dX12_best_56 flRX12_30 gv37 ?_
      refine EV.iload_n 1 dX12_best_59 rfl rfl ?_
      obtain ⟨v38, gv38, h⟩ := px_bs h
      refine ev_aI dX12_best_60 gv38 ?_
      obtain ⟨w39, gw39, h⟩ := px_bs h
      refine ev_sI dX12_best_61 gw39 ?_
      refine EV.iinc 1 (a1 + 1) [(1, .int (a1 + 1)), (0, .ref a0)] dX12_best_62 rfl rfl (by decide) rfl ?_
      refine EV.goto 44 dX12_best_65 (by decide) ?_
      refine EV.sub [1, 0] rfl ?_
      exact ih _ _ _ _ h
set_option maxRecDepth 100000 in
set_option maxHeartbeats 4000000 in
theorem eX12_best_26 {X : px_X}  : ∀ (a0 : Nat) (w : px_W) (q : px_W), fX12_best_26 X  a0 w = some q → EV X mX12_best 26 [(0, .ref a0)] [] w none q := by
  intro a0 w q h
  unfold fX12_best_26 at h
  refine EV.aload_n 0 dX12_best_26 rfl rfl ?_
  obtain ⟨v40, gv40, h⟩ := px_bs h
  refine ev_gI dX12_best_27 flRX12_41 gv40 ?_
  refine EV.if_ne 34 dX12_best_30 (by decide) (fun c41 => ?_) (fun c41 => ?_)
  · rw [if_neg c41] at h
    refine EV.aload_n 0 dX12_best_34 rfl rfl ?_
    obtain ⟨o42, go42, h⟩ := px_bs h
    obtain ⟨q43, gq43, h⟩ := px_bs h
    refine EV.callV (As := []) (rest := []) dX12_best_35 kcX12_best_44 (gO_ok go42) rfl rfl rfl (Nat.le_of_ble_eq_true rfl) (Nat.le_of_ble_eq_true rfl) (eX12_join gq43) ?_
    refine EV.aload_n 0 dX12_best_38 rfl rfl ?_
    obtain ⟨o44, go44, h⟩ := px_bs h
    obtain ⟨q45, gq45, h⟩ := px_bs h
    refine EV.callV (As := []) (rest := []) dX12_best_39 kcX12_best_47 (gO_ok go44) rfl rfl rfl (Nat.le_of_ble_eq_true rfl) (Nat.le_of_ble_eq_true rfl) (eX12_shorten gq45) ?_
    refine EV.iconst (1) dX12_best_42 (by decide) ?_
    refine EV.istore_n [(1, .int 1), (0, .ref a0)] dX12_best_43 rfl (by decide) rfl ?_
    refine EV.sub [1, 0] rfl ?_
    exact eX12_best_44  FU _ _ _ _ h
  · rw [if_pos c41] at h
    cases h
    exact EV.ret0 dX12_best_33 trivial
set_option maxRecDepth 100000 in
set_option maxHeartbeats 4000000 in
theorem eX12_best_7 {X : px_X}  : ∀ (m : Nat) (a0 : Nat) (a1 : Int32) (w : px_W) (q : px_W), fX12_best_7 X  m a0 a1 w = some q → EV X mX12_best 7 [(0, .ref a0), (1, .int a1)] [] w none q := by
  intro m
  induction m with
  | zero => intro a0 a1 w q h; cases h
  | succ m ih =>
    intro a0 a1 w q h
    rw [fX12_best_7.eq_2] at h
    refine EV.iload_n 1 dX12_best_7 rfl rfl ?_
    refine EV.bipush (17) dX12_best_8 (by decide) ?_
    refine EV.icmp_ge 26 dX12_best_10 (by decide) (fun c46 => ?_) (fun c46 => ?_)
    · rw [if_pos c46] at h
      refine EV.sub [0] rfl ?_
      exact eX12_best_26  _ _ _ h
    · rw [if_neg c46] at h
      refine EV.aload_n 0 dX12_best_13 rfl rfl ?_
      obtain ⟨v47, gv47, h⟩ := px_bs h
      refine ev_gR dX12_best_14 flRX12_9 gv47 ?_
      refine EV.iload_n 1 dX12_best_17 rfl rfl ?_
      refine EV.iconst (0) dX12_best_18 (by decide) ?_
      obtain ⟨w48, gw48, h⟩ := px_bs h
      refine ev_sI dX12_best_19 gw48 ?_
      refine EV.iinc 1 (a1 + 1) [(1, .int (a1 + 1)), (0, .ref a0)] dX12_best_20 rfl rfl (by decide) rfl ?_
      refine EV.goto 7 dX12_best_23 (by decide) ?_
      refine EV.sub [1, 0] rfl ?_
      exact ih _ _ _ _ h
set_option maxRecDepth 100000 in
set_option maxHeartbeats 4000000 in
theorem eX12_best {X : px_X} {w : px_W} {a0 : Nat} {q : px_W} (h : fX12_best X w a0 = some q) : EV X mX12_best 0 (lv_args 0 [.ref a0]) [] w none q := by
  unfold fX12_best at h
  show EV X mX12_best 0 [(0, .ref a0)] [] w none q
  refine EV.aload_n 0 dX12_best_0 rfl rfl ?_
  refine EV.iconst (0) dX12_best_1 (by decide) ?_
  obtain ⟨w49, gw49, h⟩ := px_bs h
  refine ev_pV dX12_best_2 flRX12_37 rfl rfl rfl rfl gw49 ?_
  refine EV.iconst (0) dX12_best_5 (by decide) ?_
  refine EV.istore_n [(1, .int 0), (0, .ref a0)] dX12_best_6 rfl (by decide) rfl ?_
  refine EV.sub [1, 0] rfl ?_
  exact eX12_best_7  FU _ _ _ _ h
/-! WavePicturesModel$Scans.<init>()V -/
theorem dX13_init_0 : decode cX13_init 0 = .ok (.aload_n 0, 1) := by decide +kernel
theorem dX13_init_1 : decode cX13_init 1 = .ok (.invokespecial 3, 3) := by decide +kernel
theorem dX13_init_4 : decode cX13_init 4 = .ok (.aload_n 0, 1) := by decide +kernel
theorem dX13_init_5 : decode cX13_init 5 = .ok (.iconst 4, 1) := by decide +kernel
theorem dX13_init_6 : decode cX13_init 6 = .ok (.newarray .int, 2) := by decide +kernel
theorem dX13_init_8 : decode cX13_init 8 = .ok (.putfield 9, 3) := by decide +kernel
theorem dX13_init_11 : decode cX13_init 11 = .ok (.aload_n 0, 1) := by decide +kernel
theorem dX13_init_12 : decode cX13_init 12 = .ok (.iconst 4, 1) := by decide +kernel
theorem dX13_init_13 : decode cX13_init 13 = .ok (.newarray .int, 2) := by decide +kernel
theorem dX13_init_15 : decode cX13_init 15 = .ok (.putfield 15, 3) := by decide +kernel
theorem dX13_init_18 : decode cX13_init 18 = .ok (.aload_n 0, 1) := by decide +kernel
theorem dX13_init_19 : decode cX13_init 19 = .ok (.iconst 4, 1) := by decide +kernel
theorem dX13_init_20 : decode cX13_init 20 = .ok (.newarray .int, 2) := by decide +kernel
theorem dX13_init_22 : decode cX13_init 22 = .ok (.putfield 18, 3) := by decide +kernel
theorem dX13_init_25 : decode cX13_init 25 = .ok (.aload_n 0, 1) := by decide +kernel
theorem dX13_init_26 : decode cX13_init 26 = .ok (.iconst 4, 1) := by decide +kernel
theorem dX13_init_27 : decode cX13_init 27 = .ok (.newarray .int, 2) := by decide +kernel
theorem dX13_init_29 : decode cX13_init 29 = .ok (.putfield 21, 3) := by decide +kernel
theorem dX13_init_32 : decode cX13_init 32 = .ok (.aload_n 0, 1) := by decide +kernel
theorem dX13_init_33 : decode cX13_init 33 = .ok (.iconst 4, 1) := by decide +kernel
theorem dX13_init_34 : decode cX13_init 34 = .ok (.newarray .int, 2) := by decide +kernel
theorem dX13_init_36 : decode cX13_init 36 = .ok (.putfield 24, 3) := by decide +kernel
theorem dX13_init_39 : decode cX13_init 39 = .ok (.aload_n 0, 1) := by decide +kernel
theorem dX13_init_40 : decode cX13_init 40 = .ok (.iconst 4, 1) := by decide +kernel
theorem dX13_init_41 : decode cX13_init 41 = .ok (.newarray .int, 2) := by decide +kernel
theorem dX13_init_43 : decode cX13_init 43 = .ok (.putfield 27, 3) := by decide +kernel
theorem dX13_init_46 : decode cX13_init 46 = .ok (.aload_n 0, 1) := by decide +kernel
theorem dX13_init_47 : decode cX13_init 47 = .ok (.iconst 4, 1) := by decide +kernel
theorem dX13_init_48 : decode cX13_init 48 = .ok (.newarray .int, 2) := by decide +kernel
theorem dX13_init_50 : decode cX13_init 50 = .ok (.putfield 30, 3) := by decide +kernel
theorem dX13_init_53 : decode cX13_init 53 = .ok (.aload_n 0, 1) := by decide +kernel
theorem dX13_init_54 : decode cX13_init 54 = .ok (.sipush 12288, 3) := by decide +kernel
theorem dX13_init_57 : decode cX13_init 57 = .ok (.newarray .short, 2) := by decide +kernel
theorem dX13_init_59 : decode cX13_init 59 = .ok (.putfield 33, 3) := by decide +kernel
theorem dX13_init_62 : decode cX13_init 62 = .ok (.aload_n 0, 1) := by decide +kernel
theorem dX13_init_63 : decode cX13_init 63 = .ok (.sipush 12288, 3) := by decide +kernel
theorem dX13_init_66 : decode cX13_init 66 = .ok (.newarray .short, 2) := by decide +kernel
theorem dX13_init_68 : decode cX13_init 68 = .ok (.putfield 37, 3) := by decide +kernel
theorem dX13_init_71 : decode cX13_init 71 = .ok (.aload_n 0, 1) := by decide +kernel
theorem dX13_init_72 : decode cX13_init 72 = .ok (.bipush 17, 2) := by decide +kernel
theorem dX13_init_74 : decode cX13_init 74 = .ok (.newarray .int, 2) := by decide +kernel
theorem dX13_init_76 : decode cX13_init 76 = .ok (.putfield 40, 3) := by decide +kernel
theorem dX13_init_79 : decode cX13_init 79 = .ok (.aload_n 0, 1) := by decide +kernel
theorem dX13_init_80 : decode cX13_init 80 = .ok (.sipush 256, 3) := by decide +kernel
theorem dX13_init_83 : decode cX13_init 83 = .ok (.newarray .int, 2) := by decide +kernel
theorem dX13_init_85 : decode cX13_init 85 = .ok (.putfield 43, 3) := by decide +kernel
theorem dX13_init_88 : decode cX13_init 88 = .ok (.aload_n 0, 1) := by decide +kernel
theorem dX13_init_89 : decode cX13_init 89 = .ok (.bipush 8, 2) := by decide +kernel
theorem dX13_init_91 : decode cX13_init 91 = .ok (.newarray .int, 2) := by decide +kernel
theorem dX13_init_93 : decode cX13_init 93 = .ok (.putfield 46, 3) := by decide +kernel
theorem dX13_init_96 : decode cX13_init 96 = .ok (.aload_n 0, 1) := by decide +kernel
theorem dX13_init_97 : decode cX13_init 97 = .ok (.sipush 2048, 3) := by decide +kernel
theorem dX13_init_100 : decode cX13_init 100 = .ok (.newarray .int, 2) := by decide +kernel
theorem dX13_init_102 : decode cX13_init 102 = .ok (.putfield 49, 3) := by decide +kernel
theorem dX13_init_105 : decode cX13_init 105 = .ok (.aload_n 0, 1) := by decide +kernel
theorem dX13_init_106 : decode cX13_init 106 = .ok (.sipush 2048, 3) := by decide +kernel
theorem dX13_init_109 : decode cX13_init 109 = .ok (.newarray .int, 2) := by decide +kernel
theorem dX13_init_111 : decode cX13_init 111 = .ok (.putfield 52, 3) := by decide +kernel
theorem dX13_init_114 : decode cX13_init 114 = .ok (.aload_n 0, 1) := by decide +kernel
theorem dX13_init_115 : decode cX13_init 115 = .ok (.iconst 4, 1) := by decide +kernel
theorem dX13_init_116 : decode cX13_init 116 = .ok (.newarray .int, 2) := by decide +kernel
theorem dX13_init_118 : decode cX13_init 118 = .ok (.putfield 55, 3) := by decide +kernel
theorem dX13_init_121 : decode cX13_init 121 = .ok (.aload_n 0, 1) := by decide +kernel
theorem dX13_init_122 : decode cX13_init 122 = .ok (.iconst 4, 1) := by decide +kernel
theorem dX13_init_123 : decode cX13_init 123 = .ok (.newarray .int, 2) := by decide +kernel
theorem dX13_init_125 : decode cX13_init 125 = .ok (.putfield 58, 3) := by decide +kernel
theorem dX13_init_128 : decode cX13_init 128 = .ok (.aload_n 0, 1) := by decide +kernel
theorem dX13_init_129 : decode cX13_init 129 = .ok (.sipush 16384, 3) := by decide +kernel
theorem dX13_init_132 : decode cX13_init 132 = .ok (.newarray .byte, 2) := by decide +kernel
theorem dX13_init_134 : decode cX13_init 134 = .ok (.putfield 61, 3) := by decide +kernel
theorem dX13_init_137 : decode cX13_init 137 = .ok (.aload_n 0, 1) := by decide +kernel
theorem dX13_init_138 : decode cX13_init 138 = .ok (.sipush 16384, 3) := by decide +kernel
theorem dX13_init_141 : decode cX13_init 141 = .ok (.newarray .byte, 2) := by decide +kernel
theorem dX13_init_143 : decode cX13_init 143 = .ok (.putfield 65, 3) := by decide +kernel
theorem dX13_init_146 : decode cX13_init 146 = .ok (.aload_n 0, 1) := by decide +kernel
theorem dX13_init_147 : decode cX13_init 147 = .ok (.sipush 2048, 3) := by decide +kernel
theorem dX13_init_150 : decode cX13_init 150 = .ok (.newarray .int, 2) := by decide +kernel
theorem dX13_init_152 : decode cX13_init 152 = .ok (.putfield 68, 3) := by decide +kernel
theorem dX13_init_155 : decode cX13_init 155 = .ok (.aload_n 0, 1) := by decide +kernel
theorem dX13_init_156 : decode cX13_init 156 = .ok (.iconst 4, 1) := by decide +kernel
theorem dX13_init_157 : decode cX13_init 157 = .ok (.newarray .int, 2) := by decide +kernel
theorem dX13_init_159 : decode cX13_init 159 = .ok (.putfield 71, 3) := by decide +kernel
theorem dX13_init_162 : decode cX13_init 162 = .ok (.aload_n 0, 1) := by decide +kernel
theorem dX13_init_163 : decode cX13_init 163 = .ok (.sipush 1100, 3) := by decide +kernel
theorem dX13_init_166 : decode cX13_init 166 = .ok (.newarray .byte, 2) := by decide +kernel
theorem dX13_init_168 : decode cX13_init 168 = .ok (.putfield 74, 3) := by decide +kernel
theorem dX13_init_171 : decode cX13_init 171 = .ok (.aload_n 0, 1) := by decide +kernel
theorem dX13_init_172 : decode cX13_init 172 = .ok (.bipush 70, 2) := by decide +kernel
theorem dX13_init_174 : decode cX13_init 174 = .ok (.newarray .byte, 2) := by decide +kernel
theorem dX13_init_176 : decode cX13_init 176 = .ok (.putfield 77, 3) := by decide +kernel
theorem dX13_init_179 : decode cX13_init 179 = .ok (.aload_n 0, 1) := by decide +kernel
theorem dX13_init_180 : decode cX13_init 180 = .ok (.sipush 2048, 3) := by decide +kernel
theorem dX13_init_183 : decode cX13_init 183 = .ok (.newarray .int, 2) := by decide +kernel
theorem dX13_init_185 : decode cX13_init 185 = .ok (.putfield 80, 3) := by decide +kernel
theorem dX13_init_188 : decode cX13_init 188 = .ok (.return_, 1) := by decide +kernel
set_option maxRecDepth 100000 in
set_option maxHeartbeats 4000000 in
theorem eX13_init {X : px_X} {w : px_W} {a0 : Nat} {q : px_W} (h : fX13_init X w a0 = some q) : EV X mX13_init 0 (lv_args 0 [.ref a0]) [] w none q := by
  unfold fX13_init at h
  show EV X mX13_init 0 [(0, .ref a0)] [] w none q
  refine EV.aload_n 0 dX13_init_0 rfl rfl ?_
  refine EV.objI dX13_init_1 (tb7 (List.mem_of_getElem? (i := 8) rfl)) (by decide) (by decide) (Nat.le_of_ble_eq_true rfl) ?_
  refine EV.aload_n 0 dX13_init_4 rfl rfl ?_
  refine EV.iconst (4) dX13_init_5 (by decide) ?_
  obtain ⟨q47, gq47, h⟩ := px_bs h
  refine ev_nI dX13_init_6 gq47 ?_
  obtain ⟨w48, gw48, h⟩ := px_bs h
  refine ev_pF dX13_init_8 (ci := 13) (k := 3) rfl (by decide) (tb7 (List.mem_of_getElem? (i := 12) rfl)) rfl rfl rfl rfl rfl gw48 ?_
  refine EV.aload_n 0 dX13_init_11 rfl rfl ?_
  refine EV.iconst (4) dX13_init_12 (by decide) ?_
  obtain ⟨q49, gq49, h⟩ := px_bs h
  refine ev_nI dX13_init_13 gq49 ?_
  obtain ⟨w50, gw50, h⟩ := px_bs h
  refine ev_pF dX13_init_15 (ci := 13) (k := 4) rfl (by decide) (tb7 (List.mem_of_getElem? (i := 13) rfl)) rfl rfl rfl rfl rfl gw50 ?_
  refine EV.aload_n 0 dX13_init_18 rfl rfl ?_
  refine EV.iconst (4) dX13_init_19 (by decide) ?_
  obtain ⟨q51, gq51, h⟩ := px_bs h
  refine ev_nI dX13_init_20 gq51 ?_
  obtain ⟨w52, gw52, h⟩ := px_bs h
  refine ev_pF dX13_init_22 (ci := 13) (k := 5) rfl (by decide) (tb7 (List.mem_of_getElem? (i := 14) rfl)) rfl rfl rfl rfl rfl gw52 ?_
  refine EV.aload_n 0 dX13_init_25 rfl rfl ?_
  refine EV.iconst (4) dX13_init_26 (by decide) ?_
  obtain ⟨q53, gq53, h⟩ := px_bs h
  refine ev_nI dX13_init_27 gq53 ?_
  obtain ⟨w54, gw54, h⟩ := px_bs h
  refine ev_pF dX13_init_29 (ci := 13) (k := 6) rfl (by decide) (tb7 (List.mem_of_getElem? (i := 15) rfl)) rfl rfl rfl rfl rfl gw54 ?_
  refine EV.aload_n 0 dX13_init_32 rfl rfl ?_
  refine EV.iconst (4) dX13_init_33 (by decide) ?_
  obtain ⟨q55, gq55, h⟩ := px_bs h
  refine ev_nI dX13_init_34 gq55 ?_
  obtain ⟨w56, gw56, h⟩ := px_bs h
  refine ev_pF dX13_init_36 (ci := 13) (k := 7) rfl (by decide) (tb7 (List.mem_of_getElem? (i := 16) rfl)) rfl rfl rfl rfl rfl gw56 ?_
  refine EV.aload_n 0 dX13_init_39 rfl rfl ?_
  refine EV.iconst (4) dX13_init_40 (by decide) ?_
  obtain ⟨q57, gq57, h⟩ := px_bs h
  refine ev_nI dX13_init_41 gq57 ?_
  obtain ⟨w58, gw58, h⟩ := px_bs h
  refine ev_pF dX13_init_43 (ci := 13) (k := 8) rfl (by decide) (tb7 (List.mem_of_getElem? (i := 17) rfl)) rfl rfl rfl rfl rfl gw58 ?_
  refine EV.aload_n 0 dX13_init_46 rfl rfl ?_
  refine EV.iconst (4) dX13_init_47 (by decide) ?_
  obtain ⟨q59, gq59, h⟩ := px_bs h
  refine ev_nI dX13_init_48 gq59 ?_
  obtain ⟨w60, gw60, h⟩ := px_bs h
  refine ev_pF dX13_init_50 (ci := 13) (k := 9) rfl (by decide) (tb7 (List.mem_of_getElem? (i := 18) rfl)) rfl rfl rfl rfl rfl gw60 ?_
  refine EV.aload_n 0 dX13_init_53 rfl rfl ?_
  refine EV.sipush (12288) dX13_init_54 (by decide) ?_
  obtain ⟨q61, gq61, h⟩ := px_bs h
  refine ev_nS dX13_init_57 gq61 ?_
  obtain ⟨w62, gw62, h⟩ := px_bs h
  refine ev_pF dX13_init_59 (ci := 13) (k := 12) rfl (by decide) (tb7 (List.mem_of_getElem? (i := 21) rfl)) rfl rfl rfl rfl rfl gw62 ?_
  refine EV.aload_n 0 dX13_init_62 rfl rfl ?_
  refine EV.sipush (12288) dX13_init_63 (by decide) ?_
  obtain ⟨q63, gq63, h⟩ := px_bs h
  refine ev_nS dX13_init_66 gq63 ?_
  obtain ⟨w64, gw64, h⟩ := px_bs h
  refine ev_pF dX13_init_68 (ci := 13) (k := 13) rfl (by decide) (tb7 (List.mem_of_getElem? (i := 23) rfl)) rfl rfl rfl rfl rfl gw64 ?_
  refine EV.aload_n 0 dX13_init_71 rfl rfl ?_
  refine EV.bipush (17) dX13_init_72 (by decide) ?_
  obtain ⟨q65, gq65, h⟩ := px_bs h
  refine ev_nI dX13_init_74 gq65 ?_
  obtain ⟨w66, gw66, h⟩ := px_bs h
  refine ev_pF dX13_init_76 (ci := 13) (k := 14) rfl (by decide) (tb7 (List.mem_of_getElem? (i := 24) rfl)) rfl rfl rfl rfl rfl gw66 ?_
  refine EV.aload_n 0 dX13_init_79 rfl rfl ?_
  refine EV.sipush (256) dX13_init_80 (by decide) ?_
  obtain ⟨q67, gq67, h⟩ := px_bs h
  refine ev_nI dX13_init_83 gq67 ?_
  obtain ⟨w68, gw68, h⟩ := px_bs h
  refine ev_pF dX13_init_85 (ci := 13) (k := 15) rfl (by decide) (tb7 (List.mem_of_getElem? (i := 26) rfl)) rfl rfl rfl rfl rfl gw68 ?_
  refine EV.aload_n 0 dX13_init_88 rfl rfl ?_
  refine EV.bipush (8) dX13_init_89 (by decide) ?_
  obtain ⟨q69, gq69, h⟩ := px_bs h
  refine ev_nI dX13_init_91 gq69 ?_
  obtain ⟨w70, gw70, h⟩ := px_bs h
  refine ev_pF dX13_init_93 (ci := 13) (k := 17) rfl (by decide) (tb7 (List.mem_of_getElem? (i := 30) rfl)) rfl rfl rfl rfl rfl gw70 ?_
  refine EV.aload_n 0 dX13_init_96 rfl rfl ?_
  refine EV.sipush (2048) dX13_init_97 (by decide) ?_
  obtain ⟨q71, gq71, h⟩ := px_bs h
  refine ev_nI dX13_init_100 gq71 ?_
  obtain ⟨w72, gw72, h⟩ := px_bs h
  refine ev_pF dX13_init_102 (ci := 13) (k := 18) rfl (by decide) (tb7 (List.mem_of_getElem? (i := 31) rfl)) rfl rfl rfl rfl rfl gw72 ?_
  refine EV.aload_n 0 dX13_init_105 rfl rfl ?_
  refine EV.sipush (2048) dX13_init_106 (by decide) ?_
  obtain ⟨q73, gq73, h⟩ := px_bs h
  refine ev_nI dX13_init_109 gq73 ?_
  obtain ⟨w74, gw74, h⟩ := px_bs h
  refine ev_pF dX13_init_111 (ci := 13) (k := 19) rfl (by decide) (tb7 (List.mem_of_getElem? (i := 32) rfl)) rfl rfl rfl rfl rfl gw74 ?_
  refine EV.aload_n 0 dX13_init_114 rfl rfl ?_
  refine EV.iconst (4) dX13_init_115 (by decide) ?_
  obtain ⟨q75, gq75, h⟩ := px_bs h
  refine ev_nI dX13_init_116 gq75 ?_
  obtain ⟨w76, gw76, h⟩ := px_bs h
  refine ev_pF dX13_init_118 (ci := 13) (k := 20) rfl (by decide) (tb7 (List.mem_of_getElem? (i := 33) rfl)) rfl rfl rfl rfl rfl gw76 ?_
  refine EV.aload_n 0 dX13_init_121 rfl rfl ?_
  refine EV.iconst (4) dX13_init_122 (by decide) ?_
  obtain ⟨q77, gq77, h⟩ := px_bs h
  refine ev_nI dX13_init_123 gq77 ?_
  obtain ⟨w78, gw78, h⟩ := px_bs h
  refine ev_pF dX13_init_125 (ci := 13) (k := 21) rfl (by decide) (tb7 (List.mem_of_getElem? (i := 34) rfl)) rfl rfl rfl rfl rfl gw78 ?_
  refine EV.aload_n 0 dX13_init_128 rfl rfl ?_
  refine EV.sipush (16384) dX13_init_129 (by decide) ?_
  obtain ⟨q79, gq79, h⟩ := px_bs h
  refine ev_nB dX13_init_132 gq79 ?_
  obtain ⟨w80, gw80, h⟩ := px_bs h
  refine ev_pF dX13_init_134 (ci := 13) (k := 28) rfl (by decide) (tb7 (List.mem_of_getElem? (i := 41) rfl)) rfl rfl rfl rfl rfl gw80 ?_
  refine EV.aload_n 0 dX13_init_137 rfl rfl ?_
  refine EV.sipush (16384) dX13_init_138 (by decide) ?_
  obtain ⟨q81, gq81, h⟩ := px_bs h
  refine ev_nB dX13_init_141 gq81 ?_
  obtain ⟨w82, gw82, h⟩ := px_bs h
  refine ev_pF dX13_init_143 (ci := 13) (k := 30) rfl (by decide) (tb7 (List.mem_of_getElem? (i := 45) rfl)) rfl rfl rfl rfl rfl gw82 ?_
  refine EV.aload_n 0 dX13_init_146 rfl rfl ?_
  refine EV.sipush (2048) dX13_init_147 (by decide) ?_
  obtain ⟨q83, gq83, h⟩ := px_bs h
  refine ev_nI dX13_init_150 gq83 ?_
  obtain ⟨w84, gw84, h⟩ := px_bs h
  refine ev_pF dX13_init_152 (ci := 13) (k := 36) rfl (by decide) (tb7 (List.mem_of_getElem? (i := 51) rfl)) rfl rfl rfl rfl rfl gw84 ?_
  refine EV.aload_n 0 dX13_init_155 rfl rfl ?_
  refine EV.iconst (4) dX13_init_156 (by decide) ?_
  obtain ⟨q85, gq85, h⟩ := px_bs h
  refine ev_nI dX13_init_157 gq85 ?_
  obtain ⟨w86, gw86, h⟩ := px_bs h
  refine ev_pF dX13_init_159 (ci := 13) (k := 37) rfl (by decide) (tb7 (List.mem_of_getElem? (i := 53) rfl)) rfl rfl rfl rfl rfl gw86 ?_
  refine EV.aload_n 0 dX13_init_162 rfl rfl ?_
  refine EV.sipush (1100) dX13_init_163 (by decide) ?_
  obtain ⟨q87, gq87, h⟩ := px_bs h
  refine ev_nB dX13_init_166 gq87 ?_
  obtain ⟨w88, gw88, h⟩ := px_bs h
  refine ev_pF dX13_init_168 (ci := 13) (k := 39) rfl (by decide) (tb7 (List.mem_of_getElem? (i := 55) rfl)) rfl rfl rfl rfl rfl gw88 ?_
  refine EV.aload_n 0 dX13_init_171 rfl rfl ?_
  refine EV.bipush (70) dX13_init_172 (by decide) ?_
  obtain ⟨q89, gq89, h⟩ := px_bs h
  refine ev_nB dX13_init_174 gq89 ?_
  obtain ⟨w90, gw90, h⟩ := px_bs h
  refine ev_pF dX13_init_176 (ci := 13) (k := 41) rfl (by decide) (tb7 (List.mem_of_getElem? (i := 57) rfl)) rfl rfl rfl rfl rfl gw90 ?_
  refine EV.aload_n 0 dX13_init_179 rfl rfl ?_
  refine EV.sipush (2048) dX13_init_180 (by decide) ?_
  obtain ⟨q91, gq91, h⟩ := px_bs h
  refine ev_nI dX13_init_183 gq91 ?_
  obtain ⟨w92, gw92, h⟩ := px_bs h
  refine ev_pF dX13_init_185 (ci := 13) (k := 47) rfl (by decide) (tb7 (List.mem_of_getElem? (i := 63) rfl)) rfl rfl rfl rfl rfl gw92 ?_
  cases h
  exact EV.ret0 dX13_init_188 trivial
/-! WavePicturesModel$Scans.up(II)I -/
theorem dX13_up_0 : decode cX13_up 0 = .ok (.iload_n 0, 1) := by decide +kernel
theorem dX13_up_1 : decode cX13_up 1 = .ok (.iload_n 1, 1) := by decide +kernel
theorem dX13_up_2 : decode cX13_up 2 = .ok (.iadd, 1) := by decide +kernel
theorem dX13_up_3 : decode cX13_up 3 = .ok (.iconst 1, 1) := by decide +kernel
theorem dX13_up_4 : decode cX13_up 4 = .ok (.isub, 1) := by decide +kernel
theorem dX13_up_5 : decode cX13_up 5 = .ok (.iload_n 1, 1) := by decide +kernel
theorem dX13_up_6 : decode cX13_up 6 = .ok (.idiv, 1) := by decide +kernel
theorem dX13_up_7 : decode cX13_up 7 = .ok (.ireturn, 1) := by decide +kernel
set_option maxRecDepth 100000 in
set_option maxHeartbeats 4000000 in
theorem eX13_up {X : px_X} {w : px_W} {a0 : Int32} {a1 : Int32} {q : Int32 × px_W} (h : fX13_up X w a0 a1 = some q) : EV X mX13_up 0 (lv_args 0 [.int a0, .int a1]) [] w (some (.int q.1)) q.2 := by
  unfold fX13_up at h
  show EV X mX13_up 0 [(0, .int a0), (1, .int a1)] [] w (some (.int q.1)) q.2
  refine EV.iload_n 0 dX13_up_0 rfl rfl ?_
  refine EV.iload_n 1 dX13_up_1 rfl rfl ?_
  refine EV.iadd dX13_up_2 ?_
  refine EV.iconst (1) dX13_up_3 (by decide) ?_
  refine EV.isub dX13_up_4 ?_
  refine EV.iload_n 1 dX13_up_5 rfl rfl ?_
  obtain ⟨v2, gv2, h⟩ := px_bs h
  refine ev_dI dX13_up_6 gv2 ?_
  cases h
  exact EV.reti dX13_up_7 rfl
