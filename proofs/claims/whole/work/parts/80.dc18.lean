/-! WavePicturesModel$Segments.<init>()V -/
theorem dX14_init_0 : decode cX14_init 0 = .ok (.aload_n 0, 1) := by decide +kernel
theorem dX14_init_1 : decode cX14_init 1 = .ok (.invokespecial 3, 3) := by decide +kernel
theorem dX14_init_4 : decode cX14_init 4 = .ok (.aload_n 0, 1) := by decide +kernel
theorem dX14_init_5 : decode cX14_init 5 = .ok (.sipush 16384, 3) := by decide +kernel
theorem dX14_init_8 : decode cX14_init 8 = .ok (.newarray .byte, 2) := by decide +kernel
theorem dX14_init_10 : decode cX14_init 10 = .ok (.putfield 9, 3) := by decide +kernel
theorem dX14_init_13 : decode cX14_init 13 = .ok (.aload_n 0, 1) := by decide +kernel
theorem dX14_init_14 : decode cX14_init 14 = .ok (.iconst (-1), 1) := by decide +kernel
theorem dX14_init_15 : decode cX14_init 15 = .ok (.putfield 15, 3) := by decide +kernel
theorem dX14_init_18 : decode cX14_init 18 = .ok (.aload_n 0, 1) := by decide +kernel
theorem dX14_init_19 : decode cX14_init 19 = .ok (.sipush 16384, 3) := by decide +kernel
theorem dX14_init_22 : decode cX14_init 22 = .ok (.newarray .int, 2) := by decide +kernel
theorem dX14_init_24 : decode cX14_init 24 = .ok (.putfield 19, 3) := by decide +kernel
theorem dX14_init_27 : decode cX14_init 27 = .ok (.aload_n 0, 1) := by decide +kernel
theorem dX14_init_28 : decode cX14_init 28 = .ok (.iconst 4, 1) := by decide +kernel
theorem dX14_init_29 : decode cX14_init 29 = .ok (.newarray .int, 2) := by decide +kernel
theorem dX14_init_31 : decode cX14_init 31 = .ok (.putfield 23, 3) := by decide +kernel
theorem dX14_init_34 : decode cX14_init 34 = .ok (.aload_n 0, 1) := by decide +kernel
theorem dX14_init_35 : decode cX14_init 35 = .ok (.iconst 4, 1) := by decide +kernel
theorem dX14_init_36 : decode cX14_init 36 = .ok (.newarray .int, 2) := by decide +kernel
theorem dX14_init_38 : decode cX14_init 38 = .ok (.putfield 26, 3) := by decide +kernel
theorem dX14_init_41 : decode cX14_init 41 = .ok (.aload_n 0, 1) := by decide +kernel
theorem dX14_init_42 : decode cX14_init 42 = .ok (.iconst 4, 1) := by decide +kernel
theorem dX14_init_43 : decode cX14_init 43 = .ok (.newarray .int, 2) := by decide +kernel
theorem dX14_init_45 : decode cX14_init 45 = .ok (.putfield 29, 3) := by decide +kernel
theorem dX14_init_48 : decode cX14_init 48 = .ok (.aload_n 0, 1) := by decide +kernel
theorem dX14_init_49 : decode cX14_init 49 = .ok (.iconst 4, 1) := by decide +kernel
theorem dX14_init_50 : decode cX14_init 50 = .ok (.newarray .int, 2) := by decide +kernel
theorem dX14_init_52 : decode cX14_init 52 = .ok (.putfield 32, 3) := by decide +kernel
theorem dX14_init_55 : decode cX14_init 55 = .ok (.aload_n 0, 1) := by decide +kernel
theorem dX14_init_56 : decode cX14_init 56 = .ok (.iconst 4, 1) := by decide +kernel
theorem dX14_init_57 : decode cX14_init 57 = .ok (.newarray .boolean, 2) := by decide +kernel
theorem dX14_init_59 : decode cX14_init 59 = .ok (.putfield 35, 3) := by decide +kernel
theorem dX14_init_62 : decode cX14_init 62 = .ok (.aload_n 0, 1) := by decide +kernel
theorem dX14_init_63 : decode cX14_init 63 = .ok (.sipush 256, 3) := by decide +kernel
theorem dX14_init_66 : decode cX14_init 66 = .ok (.newarray .int, 2) := by decide +kernel
theorem dX14_init_68 : decode cX14_init 68 = .ok (.putfield 39, 3) := by decide +kernel
theorem dX14_init_71 : decode cX14_init 71 = .ok (.aload_n 0, 1) := by decide +kernel
theorem dX14_init_72 : decode cX14_init 72 = .ok (.bipush 8, 2) := by decide +kernel
theorem dX14_init_74 : decode cX14_init 74 = .ok (.newarray .boolean, 2) := by decide +kernel
theorem dX14_init_76 : decode cX14_init 76 = .ok (.putfield 42, 3) := by decide +kernel
theorem dX14_init_79 : decode cX14_init 79 = .ok (.aload_n 0, 1) := by decide +kernel
theorem dX14_init_80 : decode cX14_init 80 = .ok (.sipush 136, 3) := by decide +kernel
theorem dX14_init_83 : decode cX14_init 83 = .ok (.newarray .int, 2) := by decide +kernel
theorem dX14_init_85 : decode cX14_init 85 = .ok (.putfield 45, 3) := by decide +kernel
theorem dX14_init_88 : decode cX14_init 88 = .ok (.aload_n 0, 1) := by decide +kernel
theorem dX14_init_89 : decode cX14_init 89 = .ok (.sipush 2048, 3) := by decide +kernel
theorem dX14_init_92 : decode cX14_init 92 = .ok (.newarray .int, 2) := by decide +kernel
theorem dX14_init_94 : decode cX14_init 94 = .ok (.putfield 48, 3) := by decide +kernel
theorem dX14_init_97 : decode cX14_init 97 = .ok (.aload_n 0, 1) := by decide +kernel
theorem dX14_init_98 : decode cX14_init 98 = .ok (.bipush 8, 2) := by decide +kernel
theorem dX14_init_100 : decode cX14_init 100 = .ok (.newarray .int, 2) := by decide +kernel
theorem dX14_init_102 : decode cX14_init 102 = .ok (.putfield 51, 3) := by decide +kernel
theorem dX14_init_105 : decode cX14_init 105 = .ok (.aload_n 0, 1) := by decide +kernel
theorem dX14_init_106 : decode cX14_init 106 = .ok (.ldc 54, 2) := by decide +kernel
theorem dX14_init_108 : decode cX14_init 108 = .ok (.newarray .int, 2) := by decide +kernel
theorem dX14_init_110 : decode cX14_init 110 = .ok (.putfield 55, 3) := by decide +kernel
theorem dX14_init_113 : decode cX14_init 113 = .ok (.aload_n 0, 1) := by decide +kernel
theorem dX14_init_114 : decode cX14_init 114 = .ok (.sipush 256, 3) := by decide +kernel
theorem dX14_init_117 : decode cX14_init 117 = .ok (.newarray .int, 2) := by decide +kernel
theorem dX14_init_119 : decode cX14_init 119 = .ok (.putfield 58, 3) := by decide +kernel
theorem dX14_init_122 : decode cX14_init 122 = .ok (.aload_n 0, 1) := by decide +kernel
theorem dX14_init_123 : decode cX14_init 123 = .ok (.iconst 4, 1) := by decide +kernel
theorem dX14_init_124 : decode cX14_init 124 = .ok (.newarray .int, 2) := by decide +kernel
theorem dX14_init_126 : decode cX14_init 126 = .ok (.putfield 61, 3) := by decide +kernel
theorem dX14_init_129 : decode cX14_init 129 = .ok (.aload_n 0, 1) := by decide +kernel
theorem dX14_init_130 : decode cX14_init 130 = .ok (.iconst 4, 1) := by decide +kernel
theorem dX14_init_131 : decode cX14_init 131 = .ok (.newarray .int, 2) := by decide +kernel
theorem dX14_init_133 : decode cX14_init 133 = .ok (.putfield 64, 3) := by decide +kernel
theorem dX14_init_136 : decode cX14_init 136 = .ok (.aload_n 0, 1) := by decide +kernel
theorem dX14_init_137 : decode cX14_init 137 = .ok (.iconst 4, 1) := by decide +kernel
theorem dX14_init_138 : decode cX14_init 138 = .ok (.newarray .int, 2) := by decide +kernel
theorem dX14_init_140 : decode cX14_init 140 = .ok (.putfield 67, 3) := by decide +kernel
theorem dX14_init_143 : decode cX14_init 143 = .ok (.aload_n 0, 1) := by decide +kernel
theorem dX14_init_144 : decode cX14_init 144 = .ok (.iconst 4, 1) := by decide +kernel
theorem dX14_init_145 : decode cX14_init 145 = .ok (.newarray .int, 2) := by decide +kernel
theorem dX14_init_147 : decode cX14_init 147 = .ok (.putfield 70, 3) := by decide +kernel
theorem dX14_init_150 : decode cX14_init 150 = .ok (.aload_n 0, 1) := by decide +kernel
theorem dX14_init_151 : decode cX14_init 151 = .ok (.sipush 256, 3) := by decide +kernel
theorem dX14_init_154 : decode cX14_init 154 = .ok (.newarray .boolean, 2) := by decide +kernel
theorem dX14_init_156 : decode cX14_init 156 = .ok (.putfield 73, 3) := by decide +kernel
theorem dX14_init_159 : decode cX14_init 159 = .ok (.return_, 1) := by decide +kernel
theorem flRX14_15 : px_f RX14 15 14 5 := ⟨_, rfl, by decide, Or.inl (tb6 (List.mem_of_getElem? (i := 108) rfl))⟩
set_option maxRecDepth 100000 in
set_option maxHeartbeats 4000000 in
theorem eX14_init {X : px_X} {w : px_W} {a0 : Nat} {q : px_W} (h : fX14_init X w a0 = some q) : EV X mX14_init 0 (lv_args 0 [.ref a0]) [] w none q := by
  unfold fX14_init at h
  show EV X mX14_init 0 [(0, .ref a0)] [] w none q
  refine EV.aload_n 0 dX14_init_0 rfl rfl ?_
  refine EV.objI dX14_init_1 (tb6 (List.mem_of_getElem? (i := 97) rfl)) (by decide) (by decide) (Nat.le_of_ble_eq_true rfl) ?_
  refine EV.aload_n 0 dX14_init_4 rfl rfl ?_
  refine EV.sipush (16384) dX14_init_5 (by decide) ?_
  obtain ⟨q40, gq40, h⟩ := px_bs h
  refine ev_nB dX14_init_8 gq40 ?_
  obtain ⟨w41, gw41, h⟩ := px_bs h
  refine ev_pF dX14_init_10 (ci := 14) (k := 0) rfl (by decide) (tb6 (List.mem_of_getElem? (i := 99) rfl)) rfl rfl rfl rfl rfl gw41 ?_
  refine EV.aload_n 0 dX14_init_13 rfl rfl ?_
  refine EV.iconst ((-1)) dX14_init_14 (by decide) ?_
  obtain ⟨w42, gw42, h⟩ := px_bs h
  refine ev_pV dX14_init_15 flRX14_15 rfl rfl rfl rfl gw42 ?_
  refine EV.aload_n 0 dX14_init_18 rfl rfl ?_
  refine EV.sipush (16384) dX14_init_19 (by decide) ?_
  obtain ⟨q43, gq43, h⟩ := px_bs h
  refine ev_nI dX14_init_22 gq43 ?_
  obtain ⟨w44, gw44, h⟩ := px_bs h
  refine ev_pF dX14_init_24 (ci := 14) (k := 11) rfl (by decide) (tb6 (List.mem_of_getElem? (i := 116) rfl)) rfl rfl rfl rfl rfl gw44 ?_
  refine EV.aload_n 0 dX14_init_27 rfl rfl ?_
  refine EV.iconst (4) dX14_init_28 (by decide) ?_
  obtain ⟨q45, gq45, h⟩ := px_bs h
  refine ev_nI dX14_init_29 gq45 ?_
  obtain ⟨w46, gw46, h⟩ := px_bs h
  refine ev_pF dX14_init_31 (ci := 14) (k := 16) rfl (by decide) (tb6 (List.mem_of_getElem? (i := 124) rfl)) rfl rfl rfl rfl rfl gw46 ?_
  refine EV.aload_n 0 dX14_init_34 rfl rfl ?_
  refine EV.iconst (4) dX14_init_35 (by decide) ?_
  obtain ⟨q47, gq47, h⟩ := px_bs h
  refine ev_nI dX14_init_36 gq47 ?_
  obtain ⟨w48, gw48, h⟩ := px_bs h
  refine ev_pF dX14_init_38 (ci := 14) (k := 17) rfl (by decide) (tb6 (List.mem_of_getElem? (i := 125) rfl)) rfl rfl rfl rfl rfl gw48 ?_
  refine EV.aload_n 0 dX14_init_41 rfl rfl ?_
  refine EV.iconst (4) dX14_init_42 (by decide) ?_
  obtain ⟨q49, gq49, h⟩ := px_bs h
  refine ev_nI dX14_init_43 gq49 ?_
  obtain ⟨w50, gw50, h⟩ := px_bs h
  refine ev_pF dX14_init_45 (ci := 14) (k := 18) rfl (by decide) (tb6 (List.mem_of_getElem? (i := 127) rfl)) rfl rfl rfl rfl rfl gw50 ?_
  refine EV.aload_n 0 dX14_init_48 rfl rfl ?_
  refine EV.iconst (4) dX14_init_49 (by decide) ?_
  obtain ⟨q51, gq51, h⟩ := px_bs h
  refine ev_nI dX14_init_50 gq51 ?_
  obtain ⟨w52, gw52, h⟩ := px_bs h
  refine ev_pF dX14_init_52 (ci := 14) (k := 19) rfl (by decide) (tb6 (List.mem_of_getElem? (i := 129) rfl)) rfl rfl rfl rfl rfl gw52 ?_
  refine EV.aload_n 0 dX14_init_55 rfl rfl ?_
  refine EV.iconst (4) dX14_init_56 (by decide) ?_
  obtain ⟨q53, gq53, h⟩ := px_bs h
  refine ev_nZ dX14_init_57 gq53 ?_
  obtain ⟨w54, gw54, h⟩ := px_bs h
  refine ev_pF dX14_init_59 (ci := 14) (k := 21) rfl (by decide) (tb6 (List.mem_of_getElem? (i := 132) rfl)) rfl rfl rfl rfl rfl gw54 ?_
  refine EV.aload_n 0 dX14_init_62 rfl rfl ?_
  refine EV.sipush (256) dX14_init_63 (by decide) ?_
  obtain ⟨q55, gq55, h⟩ := px_bs h
  refine ev_nI dX14_init_66 gq55 ?_
  obtain ⟨w56, gw56, h⟩ := px_bs h
  refine ev_pF dX14_init_68 (ci := 14) (k := 22) rfl (by decide) (tb6 (List.mem_of_getElem? (i := 133) rfl)) rfl rfl rfl rfl rfl gw56 ?_
  refine EV.aload_n 0 dX14_init_71 rfl rfl ?_
  refine EV.bipush (8) dX14_init_72 (by decide) ?_
  obtain ⟨q57, gq57, h⟩ := px_bs h
  refine ev_nZ dX14_init_74 gq57 ?_
  obtain ⟨w58, gw58, h⟩ := px_bs h
  refine ev_pF dX14_init_76 (ci := 14) (k := 23) rfl (by decide) (tb6 (List.mem_of_getElem? (i := 135) rfl)) rfl rfl rfl rfl rfl gw58 ?_
  refine EV.aload_n 0 dX14_init_79 rfl rfl ?_
  refine EV.sipush (136) dX14_init_80 (by decide) ?_
  obtain ⟨q59, gq59, h⟩ := px_bs h
  refine ev_nI dX14_init_83 gq59 ?_
  obtain ⟨w60, gw60, h⟩ := px_bs h
  refine ev_pF dX14_init_85 (ci := 14) (k := 24) rfl (by decide) (tb6 (List.mem_of_getElem? (i := 137) rfl)) rfl rfl rfl rfl rfl gw60 ?_
  refine EV.aload_n 0 dX14_init_88 rfl rfl ?_
  refine EV.sipush (2048) dX14_init_89 (by decide) ?_
  obtain ⟨q61, gq61, h⟩ := px_bs h
  refine ev_nI dX14_init_92 gq61 ?_
  obtain ⟨w62, gw62, h⟩ := px_bs h
  refine ev_pF dX14_init_94 (ci := 14) (k := 25) rfl (by decide) (tb6 (List.mem_of_getElem? (i := 139) rfl)) rfl rfl rfl rfl rfl gw62 ?_
  refine EV.aload_n 0 dX14_init_97 rfl rfl ?_
  refine EV.bipush (8) dX14_init_98 (by decide) ?_
  obtain ⟨q63, gq63, h⟩ := px_bs h
  refine ev_nI dX14_init_100 gq63 ?_
  obtain ⟨w64, gw64, h⟩ := px_bs h
  refine ev_pF dX14_init_102 (ci := 14) (k := 26) rfl (by decide) (tb6 (List.mem_of_getElem? (i := 141) rfl)) rfl rfl rfl rfl rfl gw64 ?_
  refine EV.aload_n 0 dX14_init_105 rfl rfl ?_
  refine EV.ldc (v := 61440) dX14_init_106 (tb6 (List.mem_of_getElem? (i := 98) rfl)) ?_
  obtain ⟨q65, gq65, h⟩ := px_bs h
  refine ev_nI dX14_init_108 gq65 ?_
  obtain ⟨w66, gw66, h⟩ := px_bs h
  refine ev_pF dX14_init_110 (ci := 14) (k := 28) rfl (by decide) (tb6 (List.mem_of_getElem? (i := 145) rfl)) rfl rfl rfl rfl rfl gw66 ?_
  refine EV.aload_n 0 dX14_init_113 rfl rfl ?_
  refine EV.sipush (256) dX14_init_114 (by decide) ?_
  obtain ⟨q67, gq67, h⟩ := px_bs h
  refine ev_nI dX14_init_117 gq67 ?_
  obtain ⟨w68, gw68, h⟩ := px_bs h
  refine ev_pF dX14_init_119 (ci := 14) (k := 29) rfl (by decide) (tb6 (List.mem_of_getElem? (i := 147) rfl)) rfl rfl rfl rfl rfl gw68 ?_
  refine EV.aload_n 0 dX14_init_122 rfl rfl ?_
  refine EV.iconst (4) dX14_init_123 (by decide) ?_
  obtain ⟨q69, gq69, h⟩ := px_bs h
  refine ev_nI dX14_init_124 gq69 ?_
  obtain ⟨w70, gw70, h⟩ := px_bs h
  refine ev_pF dX14_init_126 (ci := 14) (k := 31) rfl (by decide) (tb6 (List.mem_of_getElem? (i := 149) rfl)) rfl rfl rfl rfl rfl gw70 ?_
  refine EV.aload_n 0 dX14_init_129 rfl rfl ?_
  refine EV.iconst (4) dX14_init_130 (by decide) ?_
  obtain ⟨q71, gq71, h⟩ := px_bs h
  refine ev_nI dX14_init_131 gq71 ?_
  obtain ⟨w72, gw72, h⟩ := px_bs h
  refine ev_pF dX14_init_133 (ci := 14) (k := 32) rfl (by decide) (tb6 (List.mem_of_getElem? (i := 150) rfl)) rfl rfl rfl rfl rfl gw72 ?_
  refine EV.aload_n 0 dX14_init_136 rfl rfl ?_
  refine EV.iconst (4) dX14_init_137 (by decide) ?_
  obtain ⟨q73, gq73, h⟩ := px_bs h
  refine ev_nI dX14_init_138 gq73 ?_
  obtain ⟨w74, gw74, h⟩ := px_bs h
  refine ev_pF dX14_init_140 (ci := 14) (k := 33) rfl (by decide) (tb6 (List.mem_of_getElem? (i := 151) rfl)) rfl rfl rfl rfl rfl gw74 ?_
  refine EV.aload_n 0 dX14_init_143 rfl rfl ?_
  refine EV.iconst (4) dX14_init_144 (by decide) ?_
  obtain ⟨q75, gq75, h⟩ := px_bs h
  refine ev_nI dX14_init_145 gq75 ?_
  obtain ⟨w76, gw76, h⟩ := px_bs h
  refine ev_pF dX14_init_147 (ci := 14) (k := 34) rfl (by decide) (tb6 (List.mem_of_getElem? (i := 152) rfl)) rfl rfl rfl rfl rfl gw76 ?_
  refine EV.aload_n 0 dX14_init_150 rfl rfl ?_
  refine EV.sipush (256) dX14_init_151 (by decide) ?_
  obtain ⟨q77, gq77, h⟩ := px_bs h
  refine ev_nZ dX14_init_154 gq77 ?_
  obtain ⟨w78, gw78, h⟩ := px_bs h
  refine ev_pF dX14_init_156 (ci := 14) (k := 35) rfl (by decide) (tb6 (List.mem_of_getElem? (i := 153) rfl)) rfl rfl rfl rfl rfl gw78 ?_
  cases h
  exact EV.ret0 dX14_init_159 trivial
/-! WavePicturesModel$Segments.forget()V -/
theorem dX14_forget_0 : decode cX14_forget 0 = .ok (.aload_n 0, 1) := by decide +kernel
theorem dX14_forget_1 : decode cX14_forget 1 = .ok (.iconst (-1), 1) := by decide +kernel
theorem dX14_forget_2 : decode cX14_forget 2 = .ok (.putfield 76, 3) := by decide +kernel
theorem dX14_forget_5 : decode cX14_forget 5 = .ok (.aload_n 0, 1) := by decide +kernel
theorem dX14_forget_6 : decode cX14_forget 6 = .ok (.iconst 0, 1) := by decide +kernel
theorem dX14_forget_7 : decode cX14_forget 7 = .ok (.putfield 79, 3) := by decide +kernel
theorem dX14_forget_10 : decode cX14_forget 10 = .ok (.aload_n 0, 1) := by decide +kernel
theorem dX14_forget_11 : decode cX14_forget 11 = .ok (.iconst 0, 1) := by decide +kernel
theorem dX14_forget_12 : decode cX14_forget 12 = .ok (.putfield 82, 3) := by decide +kernel
theorem dX14_forget_15 : decode cX14_forget 15 = .ok (.aload_n 0, 1) := by decide +kernel
theorem dX14_forget_16 : decode cX14_forget 16 = .ok (.iconst 0, 1) := by decide +kernel
theorem dX14_forget_17 : decode cX14_forget 17 = .ok (.putfield 85, 3) := by decide +kernel
theorem dX14_forget_20 : decode cX14_forget 20 = .ok (.aload_n 0, 1) := by decide +kernel
theorem dX14_forget_21 : decode cX14_forget 21 = .ok (.iconst 0, 1) := by decide +kernel
theorem dX14_forget_22 : decode cX14_forget 22 = .ok (.putfield 88, 3) := by decide +kernel
theorem dX14_forget_25 : decode cX14_forget 25 = .ok (.aload_n 0, 1) := by decide +kernel
theorem dX14_forget_26 : decode cX14_forget 26 = .ok (.iconst 0, 1) := by decide +kernel
theorem dX14_forget_27 : decode cX14_forget 27 = .ok (.putfield 91, 3) := by decide +kernel
theorem dX14_forget_30 : decode cX14_forget 30 = .ok (.aload_n 0, 1) := by decide +kernel
theorem dX14_forget_31 : decode cX14_forget 31 = .ok (.iconst 0, 1) := by decide +kernel
theorem dX14_forget_32 : decode cX14_forget 32 = .ok (.putfield 94, 3) := by decide +kernel
theorem dX14_forget_35 : decode cX14_forget 35 = .ok (.aload_n 0, 1) := by decide +kernel
theorem dX14_forget_36 : decode cX14_forget 36 = .ok (.iconst 0, 1) := by decide +kernel
theorem dX14_forget_37 : decode cX14_forget 37 = .ok (.putfield 97, 3) := by decide +kernel
theorem dX14_forget_40 : decode cX14_forget 40 = .ok (.iconst 0, 1) := by decide +kernel
theorem dX14_forget_41 : decode cX14_forget 41 = .ok (.istore_n 1, 1) := by decide +kernel
theorem dX14_forget_42 : decode cX14_forget 42 = .ok (.iload_n 1, 1) := by decide +kernel
theorem dX14_forget_43 : decode cX14_forget 43 = .ok (.iconst 4, 1) := by decide +kernel
theorem dX14_forget_44 : decode cX14_forget 44 = .ok (.if_icmp .ge 16, 3) := by decide +kernel
theorem dX14_forget_47 : decode cX14_forget 47 = .ok (.aload_n 0, 1) := by decide +kernel
theorem dX14_forget_48 : decode cX14_forget 48 = .ok (.getfield 35, 3) := by decide +kernel
theorem dX14_forget_51 : decode cX14_forget 51 = .ok (.iload_n 1, 1) := by decide +kernel
theorem dX14_forget_52 : decode cX14_forget 52 = .ok (.iconst 0, 1) := by decide +kernel
theorem dX14_forget_53 : decode cX14_forget 53 = .ok (.bastore, 1) := by decide +kernel
theorem dX14_forget_54 : decode cX14_forget 54 = .ok (.iinc 1 1, 3) := by decide +kernel
theorem dX14_forget_57 : decode cX14_forget 57 = .ok (.goto (-15), 3) := by decide +kernel
theorem dX14_forget_60 : decode cX14_forget 60 = .ok (.iconst 0, 1) := by decide +kernel
theorem dX14_forget_61 : decode cX14_forget 61 = .ok (.istore_n 1, 1) := by decide +kernel
theorem dX14_forget_62 : decode cX14_forget 62 = .ok (.iload_n 1, 1) := by decide +kernel
theorem dX14_forget_63 : decode cX14_forget 63 = .ok (.bipush 8, 2) := by decide +kernel
theorem dX14_forget_65 : decode cX14_forget 65 = .ok (.if_icmp .ge 16, 3) := by decide +kernel
theorem dX14_forget_68 : decode cX14_forget 68 = .ok (.aload_n 0, 1) := by decide +kernel
theorem dX14_forget_69 : decode cX14_forget 69 = .ok (.getfield 42, 3) := by decide +kernel
theorem dX14_forget_72 : decode cX14_forget 72 = .ok (.iload_n 1, 1) := by decide +kernel
theorem dX14_forget_73 : decode cX14_forget 73 = .ok (.iconst 0, 1) := by decide +kernel
theorem dX14_forget_74 : decode cX14_forget 74 = .ok (.bastore, 1) := by decide +kernel
theorem dX14_forget_75 : decode cX14_forget 75 = .ok (.iinc 1 1, 3) := by decide +kernel
theorem dX14_forget_78 : decode cX14_forget 78 = .ok (.goto (-16), 3) := by decide +kernel
theorem dX14_forget_81 : decode cX14_forget 81 = .ok (.iconst 0, 1) := by decide +kernel
theorem dX14_forget_82 : decode cX14_forget 82 = .ok (.istore_n 1, 1) := by decide +kernel
theorem dX14_forget_83 : decode cX14_forget 83 = .ok (.iload_n 1, 1) := by decide +kernel
theorem dX14_forget_84 : decode cX14_forget 84 = .ok (.sipush 256, 3) := by decide +kernel
theorem dX14_forget_87 : decode cX14_forget 87 = .ok (.if_icmp .ge 16, 3) := by decide +kernel
theorem dX14_forget_90 : decode cX14_forget 90 = .ok (.aload_n 0, 1) := by decide +kernel
theorem dX14_forget_91 : decode cX14_forget 91 = .ok (.getfield 58, 3) := by decide +kernel
theorem dX14_forget_94 : decode cX14_forget 94 = .ok (.iload_n 1, 1) := by decide +kernel
theorem dX14_forget_95 : decode cX14_forget 95 = .ok (.iconst (-1), 1) := by decide +kernel
theorem dX14_forget_96 : decode cX14_forget 96 = .ok (.iastore, 1) := by decide +kernel
theorem dX14_forget_97 : decode cX14_forget 97 = .ok (.iinc 1 1, 3) := by decide +kernel
theorem dX14_forget_100 : decode cX14_forget 100 = .ok (.goto (-17), 3) := by decide +kernel
theorem dX14_forget_103 : decode cX14_forget 103 = .ok (.return_, 1) := by decide +kernel
theorem flRX14_35 : px_f RX14 35 14 21 := ⟨_, rfl, by decide, Or.inl (tb6 (List.mem_of_getElem? (i := 132) rfl))⟩
theorem flRX14_42 : px_f RX14 42 14 23 := ⟨_, rfl, by decide, Or.inl (tb6 (List.mem_of_getElem? (i := 135) rfl))⟩
theorem flRX14_58 : px_f RX14 58 14 29 := ⟨_, rfl, by decide, Or.inl (tb6 (List.mem_of_getElem? (i := 147) rfl))⟩
theorem flRX14_76 : px_f RX14 76 14 9 := ⟨_, rfl, by decide, Or.inl (tb6 (List.mem_of_getElem? (i := 113) rfl))⟩
theorem flRX14_79 : px_f RX14 79 14 10 := ⟨_, rfl, by decide, Or.inl (tb6 (List.mem_of_getElem? (i := 114) rfl))⟩
theorem flRX14_82 : px_f RX14 82 14 12 := ⟨_, rfl, by decide, Or.inl (tb6 (List.mem_of_getElem? (i := 117) rfl))⟩
theorem flRX14_85 : px_f RX14 85 14 13 := ⟨_, rfl, by decide, Or.inl (tb6 (List.mem_of_getElem? (i := 118) rfl))⟩
theorem flRX14_88 : px_f RX14 88 14 14 := ⟨_, rfl, by decide, Or.inl (tb6 (List.mem_of_getElem? (i := 120) rfl))⟩
theorem flRX14_91 : px_f RX14 91 14 15 := ⟨_, rfl, by decide, Or.inl (tb6 (List.mem_of_getElem? (i := 122) rfl))⟩
theorem flRX14_94 : px_f RX14 94 14 20 := ⟨_, rfl, by decide, Or.inl (tb6 (List.mem_of_getElem? (i := 131) rfl))⟩
theorem flRX14_97 : px_f RX14 97 14 27 := ⟨_, rfl, by decide, Or.inl (tb6 (List.mem_of_getElem? (i := 143) rfl))⟩
set_option maxRecDepth 100000 in
set_option maxHeartbeats 4000000 in
theorem eX14_forget_83 {X : px_X}  : ∀ (m : Nat) (a0 : Nat) (a1 : Int32) (w : px_W) (q : px_W), fX14_forget_83 X  m a0 a1 w = some q → EV X mX14_forget 83 [(0, .ref a0), (1, .int a1)] [] w none q := by
  intro m
  induction m with
  | zero => intro a0 a1 w q h; cases h
  | succ m ih =>
    intro a0 a1 w q h
    rw [fX14_forget_83.eq_2] at h
    refine EV.iload_n 1 dX14_forget_83 rfl rfl ?_
    refine EV.sipush (256) dX14_forget_84 (by decide) ?_
    refine EV.icmp_ge 103 dX14_forget_87 (by decide) (fun c15 => ?_) (fun c15 => ?_)
    · rw [if_pos c15] at h
      cases h
      exact EV.ret0 dX14_forget_103 trivial
    · rw [if_neg c15] at h
      refine EV.aload_n 0 dX14_forget_90 rfl rfl ?_
      obtain ⟨v16, gv16, h⟩ := px_bs h
      refine ev_gR dX14_forget_91 flRX14_58 gv16 ?_
      refine EV.iload_n 1 dX14_forget_94 rfl rfl ?_
      refine EV.iconst ((-1)) dX14_forget_95 (by decide) ?_
      obtain ⟨w17, gw17, h⟩ := px_bs h
      refine ev_sI dX14_forget_96 gw17 ?_
      refine EV.iinc 1 (a1 + 1) [(1, .int (a1 + 1)), (0, .ref a0)] dX14_forget_97 rfl rfl (by decide) rfl ?_
      refine EV.goto 83 dX14_forget_100 (by decide) ?_
      refine EV.sub [1, 0] rfl ?_
      exact ih _ _ _ _ h
set_option maxRecDepth 100000 in
set_option maxHeartbeats 4000000 in
theorem eX14_forget_81 {X : px_X}  : ∀ (a0 : Nat) (w : px_W) (q : px_W), fX14_forget_81 X  a0 w = some q → EV X mX14_forget 81 [(0, .ref a0)] [] w none q := by
  intro a0 w q h
  unfold fX14_forget_81 at h
  refine EV.iconst (0) dX14_forget_81 (by decide) ?_
  refine EV.istore_n [(1, .int 0), (0, .ref a0)] dX14_forget_82 rfl (by decide) rfl ?_
  refine EV.sub [1, 0] rfl ?_
  exact eX14_forget_83  FU _ _ _ _ h
set_option maxRecDepth 100000 in
set_option maxHeartbeats 4000000 in
theorem eX14_forget_62 {X : px_X}  : ∀ (m : Nat) (a0 : Nat) (a1 : Int32) (w : px_W) (q : px_W), fX14_forget_62 X  m a0 a1 w = some q → EV X mX14_forget 62 [(0, .ref a0), (1, .int a1)] [] w none q := by
  intro m
  induction m with
  | zero => intro a0 a1 w q h; cases h
  | succ m ih =>
    intro a0 a1 w q h
    rw [fX14_forget_62.eq_2] at h
    refine EV.iload_n 1 dX14_forget_62 rfl rfl ?_
    refine EV.bipush (8) dX14_forget_63 (by decide) ?_
    refine EV.icmp_ge 81 dX14_forget_65 (by decide) (fun c18 => ?_) (fun c18 => ?_)
    · rw [if_pos c18] at h
      refine EV.sub [0] rfl ?_
      exact eX14_forget_81  _ _ _ h
    · rw [if_neg c18] at h
      refine EV.aload_n 0 dX14_forget_68 rfl rfl ?_
      obtain ⟨v19, gv19, h⟩ := px_bs h
      refine ev_gR dX14_forget_69 flRX14_42 gv19 ?_
      refine EV.iload_n 1 dX14_forget_72 rfl rfl ?_
      refine EV.iconst (0) dX14_forget_73 (by decide) ?_
      obtain ⟨w20, gw20, h⟩ := px_bs h
      refine ev_sZ dX14_forget_74 gw20 ?_
      refine EV.iinc 1 (a1 + 1) [(1, .int (a1 + 1)), (0, .ref a0)] dX14_forget_75 rfl rfl (by decide) rfl ?_
      refine EV.goto 62 dX14_forget_78 (by decide) ?_
      refine EV.sub [1, 0] rfl ?_
      exact ih _ _ _ _ h
set_option maxRecDepth 100000 in
set_option maxHeartbeats 4000000 in
theorem eX14_forget_60 {X : px_X}  : ∀ (a0 : Nat) (w : px_W) (q : px_W), fX14_forget_60 X  a0 w = some q → EV X mX14_forget 60 [(0, .ref a0)] [] w none q := by
  intro a0 w q h
  unfold fX14_forget_60 at h
  refine EV.iconst (0) dX14_forget_60 (by decide) ?_
  refine EV.istore_n [(1, .int 0), (0, .ref a0)] dX14_forget_61 rfl (by decide) rfl ?_
  refine EV.sub [1, 0] rfl ?_
  exact eX14_forget_62  FU _ _ _ _ h
set_option maxRecDepth 100000 in
set_option maxHeartbeats 4000000 in
theorem eX14_forget_42 {X : px_X}  : ∀ (m : Nat) (a0 : Nat) (a1 : Int32) (w : px_W) (q : px_W), fX14_forget_42 X  m a0 a1 w = some q → EV X mX14_forget 42 [(0, .ref a0), (1, .int a1)] [] w none q := by
  intro m
  induction m with
  | zero => intro a0 a1 w q h; cases h
  | succ m ih =>
    intro a0 a1 w q h
    rw [fX14_forget_42.eq_2] at h
    refine EV.iload_n 1 dX14_forget_42 rfl rfl ?_
    refine EV.iconst (4) dX14_forget_43 (by decide) ?_
    refine EV.icmp_ge 60 dX14_forget_44 (by decide) (fun c21 => ?_) (fun c21 => ?_)
    · rw [if_pos c21] at h
      refine EV.sub [0] rfl ?_
      exact eX14_forget_60  _ _ _ h
    · rw [if_neg c21] at h
      refine EV.aload_n 0 dX14_forget_47 rfl rfl ?_
      obtain ⟨v22, gv22, h⟩ := px_bs h
      refine ev_gR dX14_forget_48 flRX14_35 gv22 ?_
      refine EV.iload_n 1 dX14_forget_51 rfl rfl ?_
      refine EV.iconst (0) dX14_forget_52 (by decide) ?_
      obtain ⟨w23, gw23, h⟩ := px_bs h
      refine ev_sZ dX14_forget_53 gw23 ?_
      refine EV.iinc 1 (a1 + 1) [(1, .int (a1 + 1)), (0, .ref a0)] dX14_forget_54 rfl rfl (by decide) rfl ?_
      refine EV.goto 42 dX14_forget_57 (by decide) ?_
      refine EV.sub [1, 0] rfl ?_
      exact ih _ _ _ _ h
set_option maxRecDepth 100000 in
set_option maxHeartbeats 4000000 in
theorem eX14_forget {X : px_X} {w : px_W} {a0 : Nat} {q : px_W} (h : fX14_forget X w a0 = some q) : EV X mX14_forget 0 (lv_args 0 [.ref a0]) [] w none q := by
  unfold fX14_forget at h
  show EV X mX14_forget 0 [(0, .ref a0)] [] w none q
  refine EV.aload_n 0 dX14_forget_0 rfl rfl ?_
  refine EV.iconst ((-1)) dX14_forget_1 (by decide) ?_
  obtain ⟨w24, gw24, h⟩ := px_bs h
  refine ev_pV dX14_forget_2 flRX14_76 rfl rfl rfl rfl gw24 ?_
  refine EV.aload_n 0 dX14_forget_5 rfl rfl ?_
  refine EV.iconst (0) dX14_forget_6 (by decide) ?_
  obtain ⟨w25, gw25, h⟩ := px_bs h
  refine ev_pV dX14_forget_7 flRX14_79 rfl rfl rfl rfl gw25 ?_
  refine EV.aload_n 0 dX14_forget_10 rfl rfl ?_
  refine EV.iconst (0) dX14_forget_11 (by decide) ?_
  obtain ⟨w26, gw26, h⟩ := px_bs h
  refine ev_pV dX14_forget_12 flRX14_82 rfl rfl rfl rfl gw26 ?_
  refine EV.aload_n 0 dX14_forget_15 rfl rfl ?_
  refine EV.iconst (0) dX14_forget_16 (by decide) ?_
  obtain ⟨w27, gw27, h⟩ := px_bs h
  refine ev_pV dX14_forget_17 flRX14_85 rfl rfl rfl rfl gw27 ?_
  refine EV.aload_n 0 dX14_forget_20 rfl rfl ?_
  refine EV.iconst (0) dX14_forget_21 (by decide) ?_
  obtain ⟨w28, gw28, h⟩ := px_bs h
  refine ev_pV dX14_forget_22 flRX14_88 rfl rfl rfl rfl gw28 ?_
  refine EV.aload_n 0 dX14_forget_25 rfl rfl ?_
  refine EV.iconst (0) dX14_forget_26 (by decide) ?_
  obtain ⟨w29, gw29, h⟩ := px_bs h
  refine ev_pV dX14_forget_27 flRX14_91 rfl rfl rfl rfl gw29 ?_
  refine EV.aload_n 0 dX14_forget_30 rfl rfl ?_
  refine EV.iconst (0) dX14_forget_31 (by decide) ?_
  obtain ⟨w30, gw30, h⟩ := px_bs h
  refine ev_pV dX14_forget_32 flRX14_94 rfl rfl rfl rfl gw30 ?_
  refine EV.aload_n 0 dX14_forget_35 rfl rfl ?_
  refine EV.iconst (0) dX14_forget_36 (by decide) ?_
  obtain ⟨w31, gw31, h⟩ := px_bs h
  refine ev_pV dX14_forget_37 flRX14_97 rfl rfl rfl rfl gw31 ?_
  refine EV.iconst (0) dX14_forget_40 (by decide) ?_
  refine EV.istore_n [(1, .int 0), (0, .ref a0)] dX14_forget_41 rfl (by decide) rfl ?_
  refine EV.sub [1, 0] rfl ?_
  exact eX14_forget_42  FU _ _ _ _ h
/-! WavePicturesModel$Segments.wrong(II)I -/
theorem dX14_wrong_0 : decode cX14_wrong 0 = .ok (.aload_n 0, 1) := by decide +kernel
theorem dX14_wrong_1 : decode cX14_wrong 1 = .ok (.getfield 100, 3) := by decide +kernel
theorem dX14_wrong_4 : decode cX14_wrong 4 = .ok (.ifCond .ne 13, 3) := by decide +kernel
theorem dX14_wrong_7 : decode cX14_wrong 7 = .ok (.aload_n 0, 1) := by decide +kernel
theorem dX14_wrong_8 : decode cX14_wrong 8 = .ok (.iload_n 1, 1) := by decide +kernel
theorem dX14_wrong_9 : decode cX14_wrong 9 = .ok (.putfield 100, 3) := by decide +kernel
theorem dX14_wrong_12 : decode cX14_wrong 12 = .ok (.aload_n 0, 1) := by decide +kernel
theorem dX14_wrong_13 : decode cX14_wrong 13 = .ok (.iload_n 2, 1) := by decide +kernel
theorem dX14_wrong_14 : decode cX14_wrong 14 = .ok (.putfield 15, 3) := by decide +kernel
theorem dX14_wrong_17 : decode cX14_wrong 17 = .ok (.iconst 0, 1) := by decide +kernel
theorem dX14_wrong_18 : decode cX14_wrong 18 = .ok (.ireturn, 1) := by decide +kernel
theorem flRX14_100 : px_f RX14 100 14 4 := ⟨_, rfl, by decide, Or.inl (tb6 (List.mem_of_getElem? (i := 107) rfl))⟩
set_option maxRecDepth 100000 in
set_option maxHeartbeats 4000000 in
theorem eX14_wrong {X : px_X} {w : px_W} {a0 : Nat} {a1 : Int32} {a2 : Int32} {q : Int32 × px_W} (h : fX14_wrong X w a0 a1 a2 = some q) : EV X mX14_wrong 0 (lv_args 0 [.ref a0, .int a1, .int a2]) [] w (some (.int q.1)) q.2 := by
  unfold fX14_wrong at h
  show EV X mX14_wrong 0 [(0, .ref a0), (1, .int a1), (2, .int a2)] [] w (some (.int q.1)) q.2
  refine EV.aload_n 0 dX14_wrong_0 rfl rfl ?_
  obtain ⟨v4, gv4, h⟩ := px_bs h
  refine ev_gI dX14_wrong_1 flRX14_100 gv4 ?_
  refine EV.if_ne 17 dX14_wrong_4 (by decide) (fun c5 => ?_) (fun c5 => ?_)
  · rw [if_neg c5] at h
    refine EV.iconst (0) dX14_wrong_17 (by decide) ?_
    cases h
    exact EV.reti dX14_wrong_18 rfl
  · rw [if_pos c5] at h
    refine EV.aload_n 0 dX14_wrong_7 rfl rfl ?_
    refine EV.iload_n 1 dX14_wrong_8 rfl rfl ?_
    obtain ⟨w6, gw6, h⟩ := px_bs h
    refine ev_pV dX14_wrong_9 flRX14_100 rfl rfl rfl rfl gw6 ?_
    refine EV.aload_n 0 dX14_wrong_12 rfl rfl ?_
    refine EV.iload_n 2 dX14_wrong_13 rfl rfl ?_
    obtain ⟨w7, gw7, h⟩ := px_bs h
    refine ev_pV dX14_wrong_14 flRX14_15 rfl rfl rfl rfl gw7 ?_
    refine EV.iconst (0) dX14_wrong_17 (by decide) ?_
    cases h
    exact EV.reti dX14_wrong_18 rfl
/-! WavePicturesModel$Segments.byteAt(I)I -/
theorem dX14_byteAt_0 : decode cX14_byteAt 0 = .ok (.aload_n 0, 1) := by decide +kernel
theorem dX14_byteAt_1 : decode cX14_byteAt 1 = .ok (.getfield 9, 3) := by decide +kernel
theorem dX14_byteAt_4 : decode cX14_byteAt 4 = .ok (.iload_n 1, 1) := by decide +kernel
theorem dX14_byteAt_5 : decode cX14_byteAt 5 = .ok (.baload, 1) := by decide +kernel
theorem dX14_byteAt_6 : decode cX14_byteAt 6 = .ok (.sipush 255, 3) := by decide +kernel
theorem dX14_byteAt_9 : decode cX14_byteAt 9 = .ok (.iand, 1) := by decide +kernel
theorem dX14_byteAt_10 : decode cX14_byteAt 10 = .ok (.ireturn, 1) := by decide +kernel
theorem flRX14_9 : px_f RX14 9 14 0 := ⟨_, rfl, by decide, Or.inl (tb6 (List.mem_of_getElem? (i := 99) rfl))⟩
set_option maxRecDepth 100000 in
set_option maxHeartbeats 4000000 in
theorem eX14_byteAt {X : px_X} {w : px_W} {a0 : Nat} {a1 : Int32} {q : Int32 × px_W} (h : fX14_byteAt X w a0 a1 = some q) : EV X mX14_byteAt 0 (lv_args 0 [.ref a0, .int a1]) [] w (some (.int q.1)) q.2 := by
  unfold fX14_byteAt at h
  show EV X mX14_byteAt 0 [(0, .ref a0), (1, .int a1)] [] w (some (.int q.1)) q.2
  refine EV.aload_n 0 dX14_byteAt_0 rfl rfl ?_
  obtain ⟨v3, gv3, h⟩ := px_bs h
  refine ev_gR dX14_byteAt_1 flRX14_9 gv3 ?_
  refine EV.iload_n 1 dX14_byteAt_4 rfl rfl ?_
  obtain ⟨v4, gv4, h⟩ := px_bs h
  refine ev_aB dX14_byteAt_5 gv4 ?_
  refine EV.sipush (255) dX14_byteAt_6 (by decide) ?_
  refine EV.iand dX14_byteAt_9 ?_
  cases h
  exact EV.reti dX14_byteAt_10 rfl
/-! WavePicturesModel$Segments.lengthAt()I -/
theorem dX14_lengthAt_0 : decode cX14_lengthAt 0 = .ok (.aload_n 0, 1) := by decide +kernel
theorem dX14_lengthAt_1 : decode cX14_lengthAt 1 = .ok (.getfield 127, 3) := by decide +kernel
theorem dX14_lengthAt_4 : decode cX14_lengthAt 4 = .ok (.ireturn, 1) := by decide +kernel
theorem flRX14_127 : px_f RX14 127 14 36 := ⟨_, rfl, by decide, Or.inl (tb6 (List.mem_of_getElem? (i := 154) rfl))⟩
set_option maxRecDepth 100000 in
set_option maxHeartbeats 4000000 in
theorem eX14_lengthAt {X : px_X} {w : px_W} {a0 : Nat} {q : Int32 × px_W} (h : fX14_lengthAt X w a0 = some q) : EV X mX14_lengthAt 0 (lv_args 0 [.ref a0]) [] w (some (.int q.1)) q.2 := by
  unfold fX14_lengthAt at h
  show EV X mX14_lengthAt 0 [(0, .ref a0)] [] w (some (.int q.1)) q.2
  refine EV.aload_n 0 dX14_lengthAt_0 rfl rfl ?_
  obtain ⟨v2, gv2, h⟩ := px_bs h
  refine ev_gI dX14_lengthAt_1 flRX14_127 gv2 ?_
  cases h
  exact EV.reti dX14_lengthAt_4 rfl
/-! WavePicturesModel$Segments.next()I -/
theorem dX14_next_0 : decode cX14_next 0 = .ok (.aload_n 0, 1) := by decide +kernel
theorem dX14_next_1 : decode cX14_next 1 = .ok (.getfield 100, 3) := by decide +kernel
theorem dX14_next_4 : decode cX14_next 4 = .ok (.ifCond .le 5, 3) := by decide +kernel
theorem dX14_next_7 : decode cX14_next 7 = .ok (.iconst 0, 1) := by decide +kernel
theorem dX14_next_8 : decode cX14_next 8 = .ok (.ireturn, 1) := by decide +kernel
theorem dX14_next_9 : decode cX14_next 9 = .ok (.aload_n 0, 1) := by decide +kernel
theorem dX14_next_10 : decode cX14_next 10 = .ok (.getfield 103, 3) := by decide +kernel
theorem dX14_next_13 : decode cX14_next 13 = .ok (.ifCond .lt 24, 3) := by decide +kernel
theorem dX14_next_16 : decode cX14_next 16 = .ok (.aload_n 0, 1) := by decide +kernel
theorem dX14_next_17 : decode cX14_next 17 = .ok (.getfield 106, 3) := by decide +kernel
theorem dX14_next_20 : decode cX14_next 20 = .ok (.aload_n 0, 1) := by decide +kernel
theorem dX14_next_21 : decode cX14_next 21 = .ok (.getfield 103, 3) := by decide +kernel
theorem dX14_next_24 : decode cX14_next 24 = .ok (.if_icmp .ne 13, 3) := by decide +kernel
theorem dX14_next_27 : decode cX14_next 27 = .ok (.aload_n 0, 1) := by decide +kernel
theorem dX14_next_28 : decode cX14_next 28 = .ok (.iconst 5, 1) := by decide +kernel
theorem dX14_next_29 : decode cX14_next 29 = .ok (.aload_n 0, 1) := by decide +kernel
theorem dX14_next_30 : decode cX14_next 30 = .ok (.invokevirtual 109, 3) := by decide +kernel
theorem dX14_next_33 : decode cX14_next 33 = .ok (.invokevirtual 113, 3) := by decide +kernel
theorem dX14_next_36 : decode cX14_next 36 = .ok (.ireturn, 1) := by decide +kernel
theorem dX14_next_37 : decode cX14_next 37 = .ok (.aload_n 0, 1) := by decide +kernel
theorem dX14_next_38 : decode cX14_next 38 = .ok (.getfield 106, 3) := by decide +kernel
theorem dX14_next_41 : decode cX14_next 41 = .ok (.aload_n 0, 1) := by decide +kernel
theorem dX14_next_42 : decode cX14_next 42 = .ok (.getfield 117, 3) := by decide +kernel
theorem dX14_next_45 : decode cX14_next 45 = .ok (.if_icmp .ne 13, 3) := by decide +kernel
theorem dX14_next_48 : decode cX14_next 48 = .ok (.aload_n 0, 1) := by decide +kernel
theorem dX14_next_49 : decode cX14_next 49 = .ok (.iconst 1, 1) := by decide +kernel
theorem dX14_next_50 : decode cX14_next 50 = .ok (.aload_n 0, 1) := by decide +kernel
theorem dX14_next_51 : decode cX14_next 51 = .ok (.getfield 117, 3) := by decide +kernel
theorem dX14_next_54 : decode cX14_next 54 = .ok (.invokevirtual 113, 3) := by decide +kernel
theorem dX14_next_57 : decode cX14_next 57 = .ok (.ireturn, 1) := by decide +kernel
theorem dX14_next_58 : decode cX14_next 58 = .ok (.aload_n 0, 1) := by decide +kernel
theorem dX14_next_59 : decode cX14_next 59 = .ok (.dup, 1) := by decide +kernel
theorem dX14_next_60 : decode cX14_next 60 = .ok (.getfield 106, 3) := by decide +kernel
theorem dX14_next_63 : decode cX14_next 63 = .ok (.iconst 1, 1) := by decide +kernel
theorem dX14_next_64 : decode cX14_next 64 = .ok (.iadd, 1) := by decide +kernel
theorem dX14_next_65 : decode cX14_next 65 = .ok (.putfield 106, 3) := by decide +kernel
theorem dX14_next_68 : decode cX14_next 68 = .ok (.aload_n 0, 1) := by decide +kernel
theorem dX14_next_69 : decode cX14_next 69 = .ok (.aload_n 0, 1) := by decide +kernel
theorem dX14_next_70 : decode cX14_next 70 = .ok (.getfield 106, 3) := by decide +kernel
theorem dX14_next_73 : decode cX14_next 73 = .ok (.iconst 1, 1) := by decide +kernel
theorem dX14_next_74 : decode cX14_next 74 = .ok (.isub, 1) := by decide +kernel
theorem dX14_next_75 : decode cX14_next 75 = .ok (.invokevirtual 120, 3) := by decide +kernel
theorem dX14_next_78 : decode cX14_next 78 = .ok (.ireturn, 1) := by decide +kernel
theorem flRX14_103 : px_f RX14 103 14 7 := ⟨_, rfl, by decide, Or.inl (tb6 (List.mem_of_getElem? (i := 111) rfl))⟩
theorem flRX14_106 : px_f RX14 106 14 6 := ⟨_, rfl, by decide, Or.inl (tb6 (List.mem_of_getElem? (i := 110) rfl))⟩
theorem flRX14_117 : px_f RX14 117 14 1 := ⟨_, rfl, by decide, Or.inl (tb6 (List.mem_of_getElem? (i := 101) rfl))⟩
theorem mbX14_lengthAt : px_mB mX14_lengthAt 0 := ⟨tb8 (List.mem_of_getElem? (i := 138) rfl), by decide +kernel, tb1 (List.mem_of_getElem? (i := 14) rfl), by decide +kernel, by decide +kernel⟩
theorem vbX14_lengthAt : px_vB mX14_lengthAt := ⟨tb8 (List.mem_of_getElem? (i := 137) rfl), List.mem_append_left _ (List.mem_of_getElem? (i := 88) (by decide +kernel))⟩
theorem kcX14_next_109 : px_cV mX14_next 109 mX14_lengthAt 0 := ⟨⟨mbX14_lengthAt, by decide, by decide⟩, Or.inl (tb8 (List.mem_of_getElem? (i := 135) rfl)), vbX14_lengthAt⟩
theorem mbX14_wrong : px_mB mX14_wrong 2 := ⟨tb8 (List.mem_of_getElem? (i := 142) rfl), by decide +kernel, tb1 (List.mem_of_getElem? (i := 14) rfl), by decide +kernel, by decide +kernel⟩
theorem vbX14_wrong : px_vB mX14_wrong := ⟨tb8 (List.mem_of_getElem? (i := 141) rfl), List.mem_append_left _ (List.mem_of_getElem? (i := 89) (by decide +kernel))⟩
theorem kcX14_next_113 : px_cV mX14_next 113 mX14_wrong 2 := ⟨⟨mbX14_wrong, by decide, by decide⟩, Or.inl (tb8 (List.mem_of_getElem? (i := 139) rfl)), vbX14_wrong⟩
theorem mbX14_byteAt : px_mB mX14_byteAt 1 := ⟨tb8 (List.mem_of_getElem? (i := 146) rfl), by decide +kernel, tb1 (List.mem_of_getElem? (i := 14) rfl), by decide +kernel, by decide +kernel⟩
theorem vbX14_byteAt : px_vB mX14_byteAt := ⟨tb8 (List.mem_of_getElem? (i := 145) rfl), List.mem_append_left _ (List.mem_of_getElem? (i := 90) (by decide +kernel))⟩
theorem kcX14_next_120 : px_cV mX14_next 120 mX14_byteAt 1 := ⟨⟨mbX14_byteAt, by decide, by decide⟩, Or.inl (tb8 (List.mem_of_getElem? (i := 143) rfl)), vbX14_byteAt⟩
set_option maxRecDepth 100000 in
set_option maxHeartbeats 4000000 in
theorem eX14_next_37 {X : px_X}  : ∀ (a0 : Nat) (w : px_W) (q : Int32 × px_W), fX14_next_37 X  a0 w = some q → EV X mX14_next 37 [(0, .ref a0)] [] w (some (.int q.1)) q.2 := by
  intro a0 w q h
  unfold fX14_next_37 at h
  refine EV.aload_n 0 dX14_next_37 rfl rfl ?_
  obtain ⟨v19, gv19, h⟩ := px_bs h
  refine ev_gI dX14_next_38 flRX14_106 gv19 ?_
  refine EV.aload_n 0 dX14_next_41 rfl rfl ?_
  obtain ⟨v20, gv20, h⟩ := px_bs h
  refine ev_gI dX14_next_42 flRX14_117 gv20 ?_
  refine EV.icmp_ne 58 dX14_next_45 (by decide) (fun c21 => ?_) (fun c21 => ?_)
  · rw [if_neg c21] at h
    refine EV.aload_n 0 dX14_next_58 rfl rfl ?_
    refine EV.dup dX14_next_59 rfl ?_
    obtain ⟨v22, gv22, h⟩ := px_bs h
    refine ev_gI dX14_next_60 flRX14_106 gv22 ?_
    refine EV.iconst (1) dX14_next_63 (by decide) ?_
    refine EV.iadd dX14_next_64 ?_
    obtain ⟨w23, gw23, h⟩ := px_bs h
    refine ev_pV dX14_next_65 flRX14_106 rfl rfl rfl rfl gw23 ?_
    refine EV.aload_n 0 dX14_next_68 rfl rfl ?_
    refine EV.aload_n 0 dX14_next_69 rfl rfl ?_
    obtain ⟨v24, gv24, h⟩ := px_bs h
    refine ev_gI dX14_next_70 flRX14_106 gv24 ?_
    refine EV.iconst (1) dX14_next_73 (by decide) ?_
    refine EV.isub dX14_next_74 ?_
    obtain ⟨o25, go25, h⟩ := px_bs h
    obtain ⟨q26, gq26, h⟩ := px_bs h
    refine EV.callV (As := [.int (v24 - 1)]) (rest := []) dX14_next_75 kcX14_next_120 (gO_ok go25) rfl rfl rfl (Nat.le_of_ble_eq_true rfl) (Nat.le_of_ble_eq_true rfl) (eX14_byteAt gq26) ?_
    cases h
    exact EV.reti dX14_next_78 rfl
  · rw [if_pos c21] at h
    refine EV.aload_n 0 dX14_next_48 rfl rfl ?_
    refine EV.iconst (1) dX14_next_49 (by decide) ?_
    refine EV.aload_n 0 dX14_next_50 rfl rfl ?_
    obtain ⟨v27, gv27, h⟩ := px_bs h
    refine ev_gI dX14_next_51 flRX14_117 gv27 ?_
    obtain ⟨o28, go28, h⟩ := px_bs h
    obtain ⟨q29, gq29, h⟩ := px_bs h
    refine EV.callV (As := [.int 1, .int v27]) (rest := []) dX14_next_54 kcX14_next_113 (gO_ok go28) rfl rfl rfl (Nat.le_of_ble_eq_true rfl) (Nat.le_of_ble_eq_true rfl) (eX14_wrong gq29) ?_
    cases h
    exact EV.reti dX14_next_57 rfl
set_option maxRecDepth 100000 in
set_option maxHeartbeats 4000000 in
theorem eX14_next {X : px_X} {w : px_W} {a0 : Nat} {q : Int32 × px_W} (h : fX14_next X w a0 = some q) : EV X mX14_next 0 (lv_args 0 [.ref a0]) [] w (some (.int q.1)) q.2 := by
  unfold fX14_next at h
  show EV X mX14_next 0 [(0, .ref a0)] [] w (some (.int q.1)) q.2
  refine EV.aload_n 0 dX14_next_0 rfl rfl ?_
  obtain ⟨v30, gv30, h⟩ := px_bs h
  refine ev_gI dX14_next_1 flRX14_100 gv30 ?_
  refine EV.if_le 9 dX14_next_4 (by decide) (fun c31 => ?_) (fun c31 => ?_)
  · rw [if_pos c31] at h
    refine EV.aload_n 0 dX14_next_9 rfl rfl ?_
    obtain ⟨v32, gv32, h⟩ := px_bs h
    refine ev_gI dX14_next_10 flRX14_103 gv32 ?_
    refine EV.if_lt 37 dX14_next_13 (by decide) (fun c33 => ?_) (fun c33 => ?_)
    · rw [if_pos c33] at h
      refine EV.sub [0] rfl ?_
      exact eX14_next_37  _ _ _ h
    · rw [if_neg c33] at h
      refine EV.aload_n 0 dX14_next_16 rfl rfl ?_
      obtain ⟨v34, gv34, h⟩ := px_bs h
      refine ev_gI dX14_next_17 flRX14_106 gv34 ?_
      refine EV.aload_n 0 dX14_next_20 rfl rfl ?_
      obtain ⟨v35, gv35, h⟩ := px_bs h
      refine ev_gI dX14_next_21 flRX14_103 gv35 ?_
      refine EV.icmp_ne 37 dX14_next_24 (by decide) (fun c36 => ?_) (fun c36 => ?_)
      · rw [if_neg c36] at h
        refine EV.sub [0] rfl ?_
        exact eX14_next_37  _ _ _ h
      · rw [if_pos c36] at h
        refine EV.aload_n 0 dX14_next_27 rfl rfl ?_
        refine EV.iconst (5) dX14_next_28 (by decide) ?_
        refine EV.aload_n 0 dX14_next_29 rfl rfl ?_
        obtain ⟨o37, go37, h⟩ := px_bs h
        obtain ⟨q38, gq38, h⟩ := px_bs h
        refine EV.callV (As := []) (rest := [.int 5, .ref a0]) dX14_next_30 kcX14_next_109 (gO_ok go37) rfl rfl rfl (Nat.le_of_ble_eq_true rfl) (Nat.le_of_ble_eq_true rfl) (eX14_lengthAt gq38) ?_
        obtain ⟨o39, go39, h⟩ := px_bs h
        obtain ⟨q40, gq40, h⟩ := px_bs h
        refine EV.callV (As := [.int 5, .int q38.1]) (rest := []) dX14_next_33 kcX14_next_113 (gO_ok go39) rfl rfl rfl (Nat.le_of_ble_eq_true rfl) (Nat.le_of_ble_eq_true rfl) (eX14_wrong gq40) ?_
        cases h
        exact EV.reti dX14_next_36 rfl
  · rw [if_neg c31] at h
    refine EV.iconst (0) dX14_next_7 (by decide) ?_
    cases h
    exact EV.reti dX14_next_8 rfl
/-! WavePicturesModel$Segments.two()I -/
theorem dX14_two_0 : decode cX14_two 0 = .ok (.aload_n 0, 1) := by decide +kernel
theorem dX14_two_1 : decode cX14_two 1 = .ok (.invokevirtual 124, 3) := by decide +kernel
theorem dX14_two_4 : decode cX14_two 4 = .ok (.istore_n 1, 1) := by decide +kernel
theorem dX14_two_5 : decode cX14_two 5 = .ok (.sipush 256, 3) := by decide +kernel
theorem dX14_two_8 : decode cX14_two 8 = .ok (.iload_n 1, 1) := by decide +kernel
theorem dX14_two_9 : decode cX14_two 9 = .ok (.imul, 1) := by decide +kernel
theorem dX14_two_10 : decode cX14_two 10 = .ok (.aload_n 0, 1) := by decide +kernel
theorem dX14_two_11 : decode cX14_two 11 = .ok (.invokevirtual 124, 3) := by decide +kernel
theorem dX14_two_14 : decode cX14_two 14 = .ok (.iadd, 1) := by decide +kernel
theorem dX14_two_15 : decode cX14_two 15 = .ok (.ireturn, 1) := by decide +kernel
theorem mbX14_next : px_mB mX14_next 0 := ⟨tb8 (List.mem_of_getElem? (i := 134) rfl), by decide +kernel, tb1 (List.mem_of_getElem? (i := 14) rfl), by decide +kernel, by decide +kernel⟩
theorem vbX14_next : px_vB mX14_next := ⟨tb8 (List.mem_of_getElem? (i := 133) rfl), List.mem_append_left _ (List.mem_of_getElem? (i := 87) (by decide +kernel))⟩
theorem kcX14_two_124 : px_cV mX14_two 124 mX14_next 0 := ⟨⟨mbX14_next, by decide, by decide⟩, Or.inl (tb8 (List.mem_of_getElem? (i := 131) rfl)), vbX14_next⟩
set_option maxRecDepth 100000 in
set_option maxHeartbeats 4000000 in
theorem eX14_two {X : px_X} {w : px_W} {a0 : Nat} {q : Int32 × px_W} (h : fX14_two X w a0 = some q) : EV X mX14_two 0 (lv_args 0 [.ref a0]) [] w (some (.int q.1)) q.2 := by
  unfold fX14_two at h
  show EV X mX14_two 0 [(0, .ref a0)] [] w (some (.int q.1)) q.2
  refine EV.aload_n 0 dX14_two_0 rfl rfl ?_
  obtain ⟨o5, go5, h⟩ := px_bs h
  obtain ⟨q6, gq6, h⟩ := px_bs h
  refine EV.callV (As := []) (rest := []) dX14_two_1 kcX14_two_124 (gO_ok go5) rfl rfl rfl (Nat.le_of_ble_eq_true rfl) (Nat.le_of_ble_eq_true rfl) (eX14_next gq6) ?_
  refine EV.istore_n [(1, .int q6.1), (0, .ref a0)] dX14_two_4 rfl (by decide) rfl ?_
  refine EV.sipush (256) dX14_two_5 (by decide) ?_
  refine EV.iload_n 0 dX14_two_8 rfl rfl ?_
  refine EV.imul dX14_two_9 ?_
  refine EV.aload_n 1 dX14_two_10 rfl rfl ?_
  obtain ⟨o7, go7, h⟩ := px_bs h
  obtain ⟨q8, gq8, h⟩ := px_bs h
  refine EV.callV (As := []) (rest := [.int (256 * q6.1)]) dX14_two_11 kcX14_two_124 (gO_ok go7) rfl rfl rfl (Nat.le_of_ble_eq_true rfl) (Nat.le_of_ble_eq_true rfl) (eX14_next gq8) ?_
  refine EV.iadd dX14_two_14 ?_
  cases h
  exact EV.reti dX14_two_15 rfl
/-! WavePicturesModel$Segments.must(Z)V -/
theorem dX14_must_0 : decode cX14_must 0 = .ok (.iload_n 1, 1) := by decide +kernel
theorem dX14_must_1 : decode cX14_must 1 = .ok (.ifCond .ne 16, 3) := by decide +kernel
theorem dX14_must_4 : decode cX14_must 4 = .ok (.aload_n 0, 1) := by decide +kernel
theorem dX14_must_5 : decode cX14_must 5 = .ok (.bipush 6, 2) := by decide +kernel
theorem dX14_must_7 : decode cX14_must 7 = .ok (.aload_n 0, 1) := by decide +kernel
theorem dX14_must_8 : decode cX14_must 8 = .ok (.getfield 106, 3) := by decide +kernel
theorem dX14_must_11 : decode cX14_must 11 = .ok (.iconst 1, 1) := by decide +kernel
theorem dX14_must_12 : decode cX14_must 12 = .ok (.isub, 1) := by decide +kernel
theorem dX14_must_13 : decode cX14_must 13 = .ok (.invokevirtual 113, 3) := by decide +kernel
theorem dX14_must_16 : decode cX14_must 16 = .ok (.istore_n 2, 1) := by decide +kernel
theorem dX14_must_17 : decode cX14_must 17 = .ok (.return_, 1) := by decide +kernel
theorem kcX14_must_113 : px_cV mX14_must 113 mX14_wrong 2 := ⟨⟨mbX14_wrong, by decide, by decide⟩, Or.inl (tb8 (List.mem_of_getElem? (i := 139) rfl)), vbX14_wrong⟩
set_option maxRecDepth 100000 in
set_option maxHeartbeats 4000000 in
theorem eX14_must {X : px_X} {w : px_W} {a0 : Nat} {a1 : Int32} {q : px_W} (h : fX14_must X w a0 a1 = some q) : EV X mX14_must 0 (lv_args 0 [.ref a0, .int a1]) [] w none q := by
  unfold fX14_must at h
  show EV X mX14_must 0 [(0, .ref a0), (1, .int a1)] [] w none q
  refine EV.iload_n 1 dX14_must_0 rfl rfl ?_
  refine EV.if_ne 17 dX14_must_1 (by decide) (fun c4 => ?_) (fun c4 => ?_)
  · rw [if_neg c4] at h
    cases h
    exact EV.ret0 dX14_must_17 trivial
  · rw [if_pos c4] at h
    refine EV.aload_n 0 dX14_must_4 rfl rfl ?_
    refine EV.bipush (6) dX14_must_5 (by decide) ?_
    refine EV.aload_n 0 dX14_must_7 rfl rfl ?_
    obtain ⟨v5, gv5, h⟩ := px_bs h
    refine ev_gI dX14_must_8 flRX14_106 gv5 ?_
    refine EV.iconst (1) dX14_must_11 (by decide) ?_
    refine EV.isub dX14_must_12 ?_
    obtain ⟨o6, go6, h⟩ := px_bs h
    obtain ⟨q7, gq7, h⟩ := px_bs h
    refine EV.callV (As := [.int 6, .int (v5 - 1)]) (rest := []) dX14_must_13 kcX14_must_113 (gO_ok go6) rfl rfl rfl (Nat.le_of_ble_eq_true rfl) (Nat.le_of_ble_eq_true rfl) (eX14_wrong gq7) ?_
    refine EV.istore_n [(2, .int q7.1), (0, .ref a0), (1, .int a1)] dX14_must_16 rfl (by decide) rfl ?_
    cases h
    exact EV.ret0 dX14_must_17 trivial
/-! WavePicturesModel$Segments.marker()I -/
theorem dX14_marker_0 : decode cX14_marker 0 = .ok (.aload_n 0, 1) := by decide +kernel
theorem dX14_marker_1 : decode cX14_marker 1 = .ok (.aload_n 0, 1) := by decide +kernel
theorem dX14_marker_2 : decode cX14_marker 2 = .ok (.getfield 106, 3) := by decide +kernel
theorem dX14_marker_5 : decode cX14_marker 5 = .ok (.putfield 130, 3) := by decide +kernel
theorem dX14_marker_8 : decode cX14_marker 8 = .ok (.aload_n 0, 1) := by decide +kernel
theorem dX14_marker_9 : decode cX14_marker 9 = .ok (.invokevirtual 124, 3) := by decide +kernel
theorem dX14_marker_12 : decode cX14_marker 12 = .ok (.istore_n 1, 1) := by decide +kernel
theorem dX14_marker_13 : decode cX14_marker 13 = .ok (.aload_n 0, 1) := by decide +kernel
theorem dX14_marker_14 : decode cX14_marker 14 = .ok (.getfield 100, 3) := by decide +kernel
theorem dX14_marker_17 : decode cX14_marker 17 = .ok (.ifCond .ne 22, 3) := by decide +kernel
theorem dX14_marker_20 : decode cX14_marker 20 = .ok (.iload_n 1, 1) := by decide +kernel
theorem dX14_marker_21 : decode cX14_marker 21 = .ok (.sipush 255, 3) := by decide +kernel
theorem dX14_marker_24 : decode cX14_marker 24 = .ok (.if_icmp .eq 15, 3) := by decide +kernel
theorem dX14_marker_27 : decode cX14_marker 27 = .ok (.aload_n 0, 1) := by decide +kernel
theorem dX14_marker_28 : decode cX14_marker 28 = .ok (.iconst 3, 1) := by decide +kernel
theorem dX14_marker_29 : decode cX14_marker 29 = .ok (.aload_n 0, 1) := by decide +kernel
theorem dX14_marker_30 : decode cX14_marker 30 = .ok (.getfield 106, 3) := by decide +kernel
theorem dX14_marker_33 : decode cX14_marker 33 = .ok (.iconst 1, 1) := by decide +kernel
theorem dX14_marker_34 : decode cX14_marker 34 = .ok (.isub, 1) := by decide +kernel
theorem dX14_marker_35 : decode cX14_marker 35 = .ok (.invokevirtual 113, 3) := by decide +kernel
theorem dX14_marker_38 : decode cX14_marker 38 = .ok (.ireturn, 1) := by decide +kernel
theorem dX14_marker_39 : decode cX14_marker 39 = .ok (.aload_n 0, 1) := by decide +kernel
theorem dX14_marker_40 : decode cX14_marker 40 = .ok (.getfield 100, 3) := by decide +kernel
theorem dX14_marker_43 : decode cX14_marker 43 = .ok (.ifCond .ne 18, 3) := by decide +kernel
theorem dX14_marker_46 : decode cX14_marker 46 = .ok (.iload_n 1, 1) := by decide +kernel
theorem dX14_marker_47 : decode cX14_marker 47 = .ok (.sipush 255, 3) := by decide +kernel
theorem dX14_marker_50 : decode cX14_marker 50 = .ok (.if_icmp .ne 11, 3) := by decide +kernel
theorem dX14_marker_53 : decode cX14_marker 53 = .ok (.aload_n 0, 1) := by decide +kernel
theorem dX14_marker_54 : decode cX14_marker 54 = .ok (.invokevirtual 124, 3) := by decide +kernel
theorem dX14_marker_57 : decode cX14_marker 57 = .ok (.istore_n 1, 1) := by decide +kernel
theorem dX14_marker_58 : decode cX14_marker 58 = .ok (.goto (-19), 3) := by decide +kernel
theorem dX14_marker_61 : decode cX14_marker 61 = .ok (.aload_n 0, 1) := by decide +kernel
theorem dX14_marker_62 : decode cX14_marker 62 = .ok (.getfield 100, 3) := by decide +kernel
theorem dX14_marker_65 : decode cX14_marker 65 = .ok (.ifCond .ne 19, 3) := by decide +kernel
theorem dX14_marker_68 : decode cX14_marker 68 = .ok (.iload_n 1, 1) := by decide +kernel
theorem dX14_marker_69 : decode cX14_marker 69 = .ok (.ifCond .ne 15, 3) := by decide +kernel
theorem dX14_marker_72 : decode cX14_marker 72 = .ok (.aload_n 0, 1) := by decide +kernel
theorem dX14_marker_73 : decode cX14_marker 73 = .ok (.iconst 4, 1) := by decide +kernel
theorem dX14_marker_74 : decode cX14_marker 74 = .ok (.aload_n 0, 1) := by decide +kernel
theorem dX14_marker_75 : decode cX14_marker 75 = .ok (.getfield 106, 3) := by decide +kernel
theorem dX14_marker_78 : decode cX14_marker 78 = .ok (.iconst 1, 1) := by decide +kernel
theorem dX14_marker_79 : decode cX14_marker 79 = .ok (.isub, 1) := by decide +kernel
theorem dX14_marker_80 : decode cX14_marker 80 = .ok (.invokevirtual 113, 3) := by decide +kernel
theorem dX14_marker_83 : decode cX14_marker 83 = .ok (.ireturn, 1) := by decide +kernel
theorem dX14_marker_84 : decode cX14_marker 84 = .ok (.iload_n 1, 1) := by decide +kernel
theorem dX14_marker_85 : decode cX14_marker 85 = .ok (.ireturn, 1) := by decide +kernel
theorem flRX14_130 : px_f RX14 130 14 8 := ⟨_, rfl, by decide, Or.inl (tb6 (List.mem_of_getElem? (i := 112) rfl))⟩
theorem kcX14_marker_113 : px_cV mX14_marker 113 mX14_wrong 2 := ⟨⟨mbX14_wrong, by decide, by decide⟩, Or.inl (tb8 (List.mem_of_getElem? (i := 139) rfl)), vbX14_wrong⟩
theorem kcX14_marker_124 : px_cV mX14_marker 124 mX14_next 0 := ⟨⟨mbX14_next, by decide, by decide⟩, Or.inl (tb8 (List.mem_of_getElem? (i := 131) rfl)), vbX14_next⟩
set_option maxRecDepth 100000 in
set_option maxHeartbeats 4000000 in
theorem eX14_marker_61 {X : px_X}  : ∀ (a0 : Nat) (a1 : Int32) (w : px_W) (q : Int32 × px_W), fX14_marker_61 X  a0 a1 w = some q → EV X mX14_marker 61 [(0, .ref a0), (1, .int a1)] [] w (some (.int q.1)) q.2 := by
  intro a0 a1 w q h
  unfold fX14_marker_61 at h
  refine EV.aload_n 0 dX14_marker_61 rfl rfl ?_
  obtain ⟨v16, gv16, h⟩ := px_bs h
  refine ev_gI dX14_marker_62 flRX14_100 gv16 ?_
  refine EV.if_ne 84 dX14_marker_65 (by decide) (fun c17 => ?_) (fun c17 => ?_)
  · rw [if_neg c17] at h
    refine EV.iload_n 1 dX14_marker_84 rfl rfl ?_
    cases h
    exact EV.reti dX14_marker_85 rfl
  · rw [if_pos c17] at h
    refine EV.iload_n 1 dX14_marker_68 rfl rfl ?_
    refine EV.if_ne 84 dX14_marker_69 (by decide) (fun c18 => ?_) (fun c18 => ?_)
    · rw [if_neg c18] at h
      refine EV.iload_n 1 dX14_marker_84 rfl rfl ?_
      cases h
      exact EV.reti dX14_marker_85 rfl
    · rw [if_pos c18] at h
      refine EV.aload_n 0 dX14_marker_72 rfl rfl ?_
      refine EV.iconst (4) dX14_marker_73 (by decide) ?_
      refine EV.aload_n 0 dX14_marker_74 rfl rfl ?_
      obtain ⟨v19, gv19, h⟩ := px_bs h
      refine ev_gI dX14_marker_75 flRX14_106 gv19 ?_
      refine EV.iconst (1) dX14_marker_78 (by decide) ?_
      refine EV.isub dX14_marker_79 ?_
      obtain ⟨o20, go20, h⟩ := px_bs h
      obtain ⟨q21, gq21, h⟩ := px_bs h
      refine EV.callV (As := [.int 4, .int (v19 - 1)]) (rest := []) dX14_marker_80 kcX14_marker_113 (gO_ok go20) rfl rfl rfl (Nat.le_of_ble_eq_true rfl) (Nat.le_of_ble_eq_true rfl) (eX14_wrong gq21) ?_
      cases h
      exact EV.reti dX14_marker_83 rfl
set_option maxRecDepth 100000 in
set_option maxHeartbeats 4000000 in
theorem eX14_marker_39 {X : px_X}  : ∀ (m : Nat) (a0 : Nat) (a1 : Int32) (w : px_W) (q : Int32 × px_W), fX14_marker_39 X  m a0 a1 w = some q → EV X mX14_marker 39 [(0, .ref a0), (1, .int a1)] [] w (some (.int q.1)) q.2 := by
  intro m
  induction m with
  | zero => intro a0 a1 w q h; cases h
  | succ m ih =>
    intro a0 a1 w q h
    rw [fX14_marker_39.eq_2] at h
    refine EV.aload_n 0 dX14_marker_39 rfl rfl ?_
    obtain ⟨v22, gv22, h⟩ := px_bs h
    refine ev_gI dX14_marker_40 flRX14_100 gv22 ?_
    refine EV.if_ne 61 dX14_marker_43 (by decide) (fun c23 => ?_) (fun c23 => ?_)
    · rw [if_neg c23] at h
      refine EV.sub [0, 1] rfl ?_
      exact eX14_marker_61  _ _ _ _ h
    · rw [if_pos c23] at h
      refine EV.iload_n 1 dX14_marker_46 rfl rfl ?_
      refine EV.sipush (255) dX14_marker_47 (by decide) ?_
      refine EV.icmp_ne 61 dX14_marker_50 (by decide) (fun c24 => ?_) (fun c24 => ?_)
      · rw [if_neg c24] at h
        refine EV.sub [0, 1] rfl ?_
        exact eX14_marker_61  _ _ _ _ h
      · rw [if_pos c24] at h
        refine EV.aload_n 0 dX14_marker_53 rfl rfl ?_
        obtain ⟨o25, go25, h⟩ := px_bs h
        obtain ⟨q26, gq26, h⟩ := px_bs h
        refine EV.callV (As := []) (rest := []) dX14_marker_54 kcX14_marker_124 (gO_ok go25) rfl rfl rfl (Nat.le_of_ble_eq_true rfl) (Nat.le_of_ble_eq_true rfl) (eX14_next gq26) ?_
        refine EV.istore_n [(1, .int q26.1), (0, .ref a0)] dX14_marker_57 rfl (by decide) rfl ?_
        refine EV.goto 39 dX14_marker_58 (by decide) ?_
        refine EV.sub [1, 0] rfl ?_
        exact ih _ _ _ _ h
set_option maxRecDepth 100000 in
set_option maxHeartbeats 4000000 in
theorem eX14_marker {X : px_X} {w : px_W} {a0 : Nat} {q : Int32 × px_W} (h : fX14_marker X w a0 = some q) : EV X mX14_marker 0 (lv_args 0 [.ref a0]) [] w (some (.int q.1)) q.2 := by
  unfold fX14_marker at h
  show EV X mX14_marker 0 [(0, .ref a0)] [] w (some (.int q.1)) q.2
  refine EV.aload_n 0 dX14_marker_0 rfl rfl ?_
  refine EV.aload_n 0 dX14_marker_1 rfl rfl ?_
  obtain ⟨v27, gv27, h⟩ := px_bs h
  refine ev_gI dX14_marker_2 flRX14_106 gv27 ?_
  obtain ⟨w28, gw28, h⟩ := px_bs h
  refine ev_pV dX14_marker_5 flRX14_130 rfl rfl rfl rfl gw28 ?_
  refine EV.aload_n 0 dX14_marker_8 rfl rfl ?_
  obtain ⟨o29, go29, h⟩ := px_bs h
  obtain ⟨q30, gq30, h⟩ := px_bs h
  refine EV.callV (As := []) (rest := []) dX14_marker_9 kcX14_marker_124 (gO_ok go29) rfl rfl rfl (Nat.le_of_ble_eq_true rfl) (Nat.le_of_ble_eq_true rfl) (eX14_next gq30) ?_
  refine EV.istore_n [(1, .int q30.1), (0, .ref a0)] dX14_marker_12 rfl (by decide) rfl ?_
  refine EV.aload_n 1 dX14_marker_13 rfl rfl ?_
  obtain ⟨v31, gv31, h⟩ := px_bs h
  refine ev_gI dX14_marker_14 flRX14_100 gv31 ?_
  refine EV.if_ne 39 dX14_marker_17 (by decide) (fun c32 => ?_) (fun c32 => ?_)
  · rw [if_neg c32] at h
    refine EV.sub [1, 0] rfl ?_
    exact eX14_marker_39  FU _ _ _ _ h
  · rw [if_pos c32] at h
    refine EV.iload_n 0 dX14_marker_20 rfl rfl ?_
    refine EV.sipush (255) dX14_marker_21 (by decide) ?_
    refine EV.icmp_eq 39 dX14_marker_24 (by decide) (fun c33 => ?_) (fun c33 => ?_)
    · rw [if_pos c33] at h
      refine EV.sub [1, 0] rfl ?_
      exact eX14_marker_39  FU _ _ _ _ h
    · rw [if_neg c33] at h
      refine EV.aload_n 1 dX14_marker_27 rfl rfl ?_
      refine EV.iconst (3) dX14_marker_28 (by decide) ?_
      refine EV.aload_n 1 dX14_marker_29 rfl rfl ?_
      obtain ⟨v34, gv34, h⟩ := px_bs h
      refine ev_gI dX14_marker_30 flRX14_106 gv34 ?_
      refine EV.iconst (1) dX14_marker_33 (by decide) ?_
      refine EV.isub dX14_marker_34 ?_
      obtain ⟨o35, go35, h⟩ := px_bs h
      obtain ⟨q36, gq36, h⟩ := px_bs h
      refine EV.callV (As := [.int 3, .int (v34 - 1)]) (rest := []) dX14_marker_35 kcX14_marker_113 (gO_ok go35) rfl rfl rfl (Nat.le_of_ble_eq_true rfl) (Nat.le_of_ble_eq_true rfl) (eX14_wrong gq36) ?_
      cases h
      exact EV.reti dX14_marker_38 rfl
/-! WavePicturesModel$Segments.begun()V -/
theorem dX14_begun_0 : decode cX14_begun 0 = .ok (.aload_n 0, 1) := by decide +kernel
theorem dX14_begun_1 : decode cX14_begun 1 = .ok (.aload_n 0, 1) := by decide +kernel
theorem dX14_begun_2 : decode cX14_begun 2 = .ok (.getfield 106, 3) := by decide +kernel
theorem dX14_begun_5 : decode cX14_begun 5 = .ok (.putfield 127, 3) := by decide +kernel
theorem dX14_begun_8 : decode cX14_begun 8 = .ok (.aload_n 0, 1) := by decide +kernel
theorem dX14_begun_9 : decode cX14_begun 9 = .ok (.invokevirtual 133, 3) := by decide +kernel
theorem dX14_begun_12 : decode cX14_begun 12 = .ok (.istore_n 1, 1) := by decide +kernel
theorem dX14_begun_13 : decode cX14_begun 13 = .ok (.aload_n 0, 1) := by decide +kernel
theorem dX14_begun_14 : decode cX14_begun 14 = .ok (.getfield 100, 3) := by decide +kernel
theorem dX14_begun_17 : decode cX14_begun 17 = .ok (.ifCond .ne 18, 3) := by decide +kernel
theorem dX14_begun_20 : decode cX14_begun 20 = .ok (.iload_n 1, 1) := by decide +kernel
theorem dX14_begun_21 : decode cX14_begun 21 = .ok (.iconst 2, 1) := by decide +kernel
theorem dX14_begun_22 : decode cX14_begun 22 = .ok (.if_icmp .ge 13, 3) := by decide +kernel
theorem dX14_begun_25 : decode cX14_begun 25 = .ok (.aload_n 0, 1) := by decide +kernel
theorem dX14_begun_26 : decode cX14_begun 26 = .ok (.iconst 5, 1) := by decide +kernel
theorem dX14_begun_27 : decode cX14_begun 27 = .ok (.aload_n 0, 1) := by decide +kernel
theorem dX14_begun_28 : decode cX14_begun 28 = .ok (.getfield 127, 3) := by decide +kernel
theorem dX14_begun_31 : decode cX14_begun 31 = .ok (.invokevirtual 113, 3) := by decide +kernel
theorem dX14_begun_34 : decode cX14_begun 34 = .ok (.istore_n 2, 1) := by decide +kernel
theorem dX14_begun_35 : decode cX14_begun 35 = .ok (.aload_n 0, 1) := by decide +kernel
theorem dX14_begun_36 : decode cX14_begun 36 = .ok (.aload_n 0, 1) := by decide +kernel
theorem dX14_begun_37 : decode cX14_begun 37 = .ok (.getfield 127, 3) := by decide +kernel
theorem dX14_begun_40 : decode cX14_begun 40 = .ok (.iload_n 1, 1) := by decide +kernel
theorem dX14_begun_41 : decode cX14_begun 41 = .ok (.iadd, 1) := by decide +kernel
theorem dX14_begun_42 : decode cX14_begun 42 = .ok (.putfield 103, 3) := by decide +kernel
theorem dX14_begun_45 : decode cX14_begun 45 = .ok (.return_, 1) := by decide +kernel
theorem kcX14_begun_113 : px_cV mX14_begun 113 mX14_wrong 2 := ⟨⟨mbX14_wrong, by decide, by decide⟩, Or.inl (tb8 (List.mem_of_getElem? (i := 139) rfl)), vbX14_wrong⟩
theorem mbX14_two : px_mB mX14_two 0 := ⟨tb8 (List.mem_of_getElem? (i := 166) rfl), by decide +kernel, tb1 (List.mem_of_getElem? (i := 14) rfl), by decide +kernel, by decide +kernel⟩
theorem vbX14_two : px_vB mX14_two := ⟨tb8 (List.mem_of_getElem? (i := 165) rfl), List.mem_append_left _ (List.mem_of_getElem? (i := 95) (by decide +kernel))⟩
theorem kcX14_begun_133 : px_cV mX14_begun 133 mX14_two 0 := ⟨⟨mbX14_two, by decide, by decide⟩, Or.inl (tb8 (List.mem_of_getElem? (i := 163) rfl)), vbX14_two⟩
set_option maxRecDepth 100000 in
set_option maxHeartbeats 4000000 in
theorem eX14_begun_35 {X : px_X}  : ∀ (a0 : Nat) (a1 : Int32) (w : px_W) (q : px_W), fX14_begun_35 X  a0 a1 w = some q → EV X mX14_begun 35 [(0, .ref a0), (1, .int a1)] [] w none q := by
  intro a0 a1 w q h
  unfold fX14_begun_35 at h
  refine EV.aload_n 0 dX14_begun_35 rfl rfl ?_
  refine EV.aload_n 0 dX14_begun_36 rfl rfl ?_
  obtain ⟨v11, gv11, h⟩ := px_bs h
  refine ev_gI dX14_begun_37 flRX14_127 gv11 ?_
  refine EV.iload_n 1 dX14_begun_40 rfl rfl ?_
  refine EV.iadd dX14_begun_41 ?_
  obtain ⟨w12, gw12, h⟩ := px_bs h
  refine ev_pV dX14_begun_42 flRX14_103 rfl rfl rfl rfl gw12 ?_
  cases h
  exact EV.ret0 dX14_begun_45 trivial
set_option maxRecDepth 100000 in
set_option maxHeartbeats 4000000 in
theorem eX14_begun {X : px_X} {w : px_W} {a0 : Nat} {q : px_W} (h : fX14_begun X w a0 = some q) : EV X mX14_begun 0 (lv_args 0 [.ref a0]) [] w none q := by
  unfold fX14_begun at h
  show EV X mX14_begun 0 [(0, .ref a0)] [] w none q
  refine EV.aload_n 0 dX14_begun_0 rfl rfl ?_
  refine EV.aload_n 0 dX14_begun_1 rfl rfl ?_
  obtain ⟨v13, gv13, h⟩ := px_bs h
  refine ev_gI dX14_begun_2 flRX14_106 gv13 ?_
  obtain ⟨w14, gw14, h⟩ := px_bs h
  refine ev_pV dX14_begun_5 flRX14_127 rfl rfl rfl rfl gw14 ?_
  refine EV.aload_n 0 dX14_begun_8 rfl rfl ?_
  obtain ⟨o15, go15, h⟩ := px_bs h
  obtain ⟨q16, gq16, h⟩ := px_bs h
  refine EV.callV (As := []) (rest := []) dX14_begun_9 kcX14_begun_133 (gO_ok go15) rfl rfl rfl (Nat.le_of_ble_eq_true rfl) (Nat.le_of_ble_eq_true rfl) (eX14_two gq16) ?_
  refine EV.istore_n [(1, .int q16.1), (0, .ref a0)] dX14_begun_12 rfl (by decide) rfl ?_
  refine EV.aload_n 1 dX14_begun_13 rfl rfl ?_
  obtain ⟨v17, gv17, h⟩ := px_bs h
  refine ev_gI dX14_begun_14 flRX14_100 gv17 ?_
  refine EV.if_ne 35 dX14_begun_17 (by decide) (fun c18 => ?_) (fun c18 => ?_)
  · rw [if_neg c18] at h
    refine EV.sub [1, 0] rfl ?_
    exact eX14_begun_35  _ _ _ _ h
  · rw [if_pos c18] at h
    refine EV.iload_n 0 dX14_begun_20 rfl rfl ?_
    refine EV.iconst (2) dX14_begun_21 (by decide) ?_
    refine EV.icmp_ge 35 dX14_begun_22 (by decide) (fun c19 => ?_) (fun c19 => ?_)
    · rw [if_pos c19] at h
      refine EV.sub [1, 0] rfl ?_
      exact eX14_begun_35  _ _ _ _ h
    · rw [if_neg c19] at h
      refine EV.aload_n 1 dX14_begun_25 rfl rfl ?_
      refine EV.iconst (5) dX14_begun_26 (by decide) ?_
      refine EV.aload_n 1 dX14_begun_27 rfl rfl ?_
      obtain ⟨v20, gv20, h⟩ := px_bs h
      refine ev_gI dX14_begun_28 flRX14_127 gv20 ?_
      obtain ⟨o21, go21, h⟩ := px_bs h
      obtain ⟨q22, gq22, h⟩ := px_bs h
      refine EV.callV (As := [.int 5, .int v20]) (rest := []) dX14_begun_31 kcX14_begun_113 (gO_ok go21) rfl rfl rfl (Nat.le_of_ble_eq_true rfl) (Nat.le_of_ble_eq_true rfl) (eX14_wrong gq22) ?_
      refine EV.istore_n [(2, .int q22.1), (1, .int q16.1), (0, .ref a0)] dX14_begun_34 rfl (by decide) rfl ?_
      refine EV.sub [2, 1] rfl ?_
      exact eX14_begun_35  _ _ _ _ h
/-! WavePicturesModel$Segments.close(I)V -/
theorem dX14_close_0 : decode cX14_close 0 = .ok (.aload_n 0, 1) := by decide +kernel
theorem dX14_close_1 : decode cX14_close 1 = .ok (.getfield 100, 3) := by decide +kernel
theorem dX14_close_4 : decode cX14_close 4 = .ok (.ifCond .ne 24, 3) := by decide +kernel
theorem dX14_close_7 : decode cX14_close 7 = .ok (.aload_n 0, 1) := by decide +kernel
theorem dX14_close_8 : decode cX14_close 8 = .ok (.getfield 106, 3) := by decide +kernel
theorem dX14_close_11 : decode cX14_close 11 = .ok (.aload_n 0, 1) := by decide +kernel
theorem dX14_close_12 : decode cX14_close 12 = .ok (.getfield 103, 3) := by decide +kernel
theorem dX14_close_15 : decode cX14_close 15 = .ok (.if_icmp .eq 13, 3) := by decide +kernel
theorem dX14_close_18 : decode cX14_close 18 = .ok (.aload_n 0, 1) := by decide +kernel
theorem dX14_close_19 : decode cX14_close 19 = .ok (.iconst 5, 1) := by decide +kernel
theorem dX14_close_20 : decode cX14_close 20 = .ok (.aload_n 0, 1) := by decide +kernel
theorem dX14_close_21 : decode cX14_close 21 = .ok (.getfield 127, 3) := by decide +kernel
theorem dX14_close_24 : decode cX14_close 24 = .ok (.invokevirtual 113, 3) := by decide +kernel
theorem dX14_close_27 : decode cX14_close 27 = .ok (.istore_n 2, 1) := by decide +kernel
theorem dX14_close_28 : decode cX14_close 28 = .ok (.aload_n 0, 1) := by decide +kernel
theorem dX14_close_29 : decode cX14_close 29 = .ok (.getfield 100, 3) := by decide +kernel
theorem dX14_close_32 : decode cX14_close 32 = .ok (.ifCond .ne 72, 3) := by decide +kernel
theorem dX14_close_35 : decode cX14_close 35 = .ok (.iconst 4, 1) := by decide +kernel
theorem dX14_close_36 : decode cX14_close 36 = .ok (.aload_n 0, 1) := by decide +kernel
theorem dX14_close_37 : decode cX14_close 37 = .ok (.getfield 79, 3) := by decide +kernel
theorem dX14_close_40 : decode cX14_close 40 = .ok (.imul, 1) := by decide +kernel
theorem dX14_close_41 : decode cX14_close 41 = .ok (.istore_n 2, 1) := by decide +kernel
theorem dX14_close_42 : decode cX14_close 42 = .ok (.aload_n 0, 1) := by decide +kernel
theorem dX14_close_43 : decode cX14_close 43 = .ok (.getfield 19, 3) := by decide +kernel
theorem dX14_close_46 : decode cX14_close 46 = .ok (.iload_n 2, 1) := by decide +kernel
theorem dX14_close_47 : decode cX14_close 47 = .ok (.iload_n 1, 1) := by decide +kernel
theorem dX14_close_48 : decode cX14_close 48 = .ok (.iastore, 1) := by decide +kernel
theorem dX14_close_49 : decode cX14_close 49 = .ok (.aload_n 0, 1) := by decide +kernel
theorem dX14_close_50 : decode cX14_close 50 = .ok (.getfield 19, 3) := by decide +kernel
theorem dX14_close_53 : decode cX14_close 53 = .ok (.iload_n 2, 1) := by decide +kernel
theorem dX14_close_54 : decode cX14_close 54 = .ok (.iconst 1, 1) := by decide +kernel
theorem dX14_close_55 : decode cX14_close 55 = .ok (.iadd, 1) := by decide +kernel
theorem dX14_close_56 : decode cX14_close 56 = .ok (.aload_n 0, 1) := by decide +kernel
theorem dX14_close_57 : decode cX14_close 57 = .ok (.getfield 130, 3) := by decide +kernel
theorem dX14_close_60 : decode cX14_close 60 = .ok (.iastore, 1) := by decide +kernel
theorem dX14_close_61 : decode cX14_close 61 = .ok (.aload_n 0, 1) := by decide +kernel
theorem dX14_close_62 : decode cX14_close 62 = .ok (.getfield 19, 3) := by decide +kernel
theorem dX14_close_65 : decode cX14_close 65 = .ok (.iload_n 2, 1) := by decide +kernel
theorem dX14_close_66 : decode cX14_close 66 = .ok (.iconst 2, 1) := by decide +kernel
theorem dX14_close_67 : decode cX14_close 67 = .ok (.iadd, 1) := by decide +kernel
theorem dX14_close_68 : decode cX14_close 68 = .ok (.aload_n 0, 1) := by decide +kernel
theorem dX14_close_69 : decode cX14_close 69 = .ok (.getfield 127, 3) := by decide +kernel
theorem dX14_close_72 : decode cX14_close 72 = .ok (.iconst 2, 1) := by decide +kernel
theorem dX14_close_73 : decode cX14_close 73 = .ok (.iadd, 1) := by decide +kernel
theorem dX14_close_74 : decode cX14_close 74 = .ok (.iastore, 1) := by decide +kernel
theorem dX14_close_75 : decode cX14_close 75 = .ok (.aload_n 0, 1) := by decide +kernel
theorem dX14_close_76 : decode cX14_close 76 = .ok (.getfield 19, 3) := by decide +kernel
theorem dX14_close_79 : decode cX14_close 79 = .ok (.iload_n 2, 1) := by decide +kernel
theorem dX14_close_80 : decode cX14_close 80 = .ok (.iconst 3, 1) := by decide +kernel
theorem dX14_close_81 : decode cX14_close 81 = .ok (.iadd, 1) := by decide +kernel
theorem dX14_close_82 : decode cX14_close 82 = .ok (.aload_n 0, 1) := by decide +kernel
theorem dX14_close_83 : decode cX14_close 83 = .ok (.getfield 103, 3) := by decide +kernel
theorem dX14_close_86 : decode cX14_close 86 = .ok (.aload_n 0, 1) := by decide +kernel
theorem dX14_close_87 : decode cX14_close 87 = .ok (.getfield 127, 3) := by decide +kernel
theorem dX14_close_90 : decode cX14_close 90 = .ok (.isub, 1) := by decide +kernel
theorem dX14_close_91 : decode cX14_close 91 = .ok (.iconst 2, 1) := by decide +kernel
theorem dX14_close_92 : decode cX14_close 92 = .ok (.isub, 1) := by decide +kernel
theorem dX14_close_93 : decode cX14_close 93 = .ok (.iastore, 1) := by decide +kernel
theorem dX14_close_94 : decode cX14_close 94 = .ok (.aload_n 0, 1) := by decide +kernel
theorem dX14_close_95 : decode cX14_close 95 = .ok (.dup, 1) := by decide +kernel
theorem dX14_close_96 : decode cX14_close 96 = .ok (.getfield 79, 3) := by decide +kernel
theorem dX14_close_99 : decode cX14_close 99 = .ok (.iconst 1, 1) := by decide +kernel
theorem dX14_close_100 : decode cX14_close 100 = .ok (.iadd, 1) := by decide +kernel
theorem dX14_close_101 : decode cX14_close 101 = .ok (.putfield 79, 3) := by decide +kernel
theorem dX14_close_104 : decode cX14_close 104 = .ok (.aload_n 0, 1) := by decide +kernel
theorem dX14_close_105 : decode cX14_close 105 = .ok (.iconst (-1), 1) := by decide +kernel
theorem dX14_close_106 : decode cX14_close 106 = .ok (.putfield 103, 3) := by decide +kernel
theorem dX14_close_109 : decode cX14_close 109 = .ok (.return_, 1) := by decide +kernel
theorem flRX14_19 : px_f RX14 19 14 11 := ⟨_, rfl, by decide, Or.inl (tb6 (List.mem_of_getElem? (i := 116) rfl))⟩
theorem kcX14_close_113 : px_cV mX14_close 113 mX14_wrong 2 := ⟨⟨mbX14_wrong, by decide, by decide⟩, Or.inl (tb8 (List.mem_of_getElem? (i := 139) rfl)), vbX14_wrong⟩
set_option maxRecDepth 100000 in
set_option maxHeartbeats 4000000 in
theorem eX14_close_104 {X : px_X}  : ∀ (a0 : Nat) (w : px_W) (q : px_W), fX14_close_104 X  a0 w = some q → EV X mX14_close 104 [(0, .ref a0)] [] w none q := by
  intro a0 w q h
  unfold fX14_close_104 at h
  refine EV.aload_n 0 dX14_close_104 rfl rfl ?_
  refine EV.iconst ((-1)) dX14_close_105 (by decide) ?_
  obtain ⟨w24, gw24, h⟩ := px_bs h
  refine ev_pV dX14_close_106 flRX14_103 rfl rfl rfl rfl gw24 ?_
  cases h
  exact EV.ret0 dX14_close_109 trivial
set_option maxRecDepth 100000 in
set_option maxHeartbeats 4000000 in
theorem eX14_close_28 {X : px_X}  : ∀ (a0 : Nat) (a1 : Int32) (w : px_W) (q : px_W), fX14_close_28 X  a0 a1 w = some q → EV X mX14_close 28 [(0, .ref a0), (1, .int a1)] [] w none q := by
  intro a0 a1 w q h
  unfold fX14_close_28 at h
  refine EV.aload_n 0 dX14_close_28 rfl rfl ?_
  obtain ⟨v25, gv25, h⟩ := px_bs h
  refine ev_gI dX14_close_29 flRX14_100 gv25 ?_
  refine EV.if_ne 104 dX14_close_32 (by decide) (fun c26 => ?_) (fun c26 => ?_)
  · rw [if_neg c26] at h
    refine EV.sub [0] rfl ?_
    exact eX14_close_104  _ _ _ h
  · rw [if_pos c26] at h
    refine EV.iconst (4) dX14_close_35 (by decide) ?_
    refine EV.aload_n 0 dX14_close_36 rfl rfl ?_
    obtain ⟨v27, gv27, h⟩ := px_bs h
    refine ev_gI dX14_close_37 flRX14_79 gv27 ?_
    refine EV.imul dX14_close_40 ?_
    refine EV.istore_n [(2, .int (4 * v27)), (0, .ref a0), (1, .int a1)] dX14_close_41 rfl (by decide) rfl ?_
    refine EV.aload_n 1 dX14_close_42 rfl rfl ?_
    obtain ⟨v28, gv28, h⟩ := px_bs h
    refine ev_gR dX14_close_43 flRX14_19 gv28 ?_
    refine EV.iload_n 0 dX14_close_46 rfl rfl ?_
    refine EV.iload_n 2 dX14_close_47 rfl rfl ?_
    obtain ⟨w29, gw29, h⟩ := px_bs h
    refine ev_sI dX14_close_48 gw29 ?_
    refine EV.aload_n 1 dX14_close_49 rfl rfl ?_
    obtain ⟨v30, gv30, h⟩ := px_bs h
    refine ev_gR dX14_close_50 flRX14_19 gv30 ?_
    refine EV.iload_n 0 dX14_close_53 rfl rfl ?_
    refine EV.iconst (1) dX14_close_54 (by decide) ?_
    refine EV.iadd dX14_close_55 ?_
    refine EV.aload_n 1 dX14_close_56 rfl rfl ?_
    obtain ⟨v31, gv31, h⟩ := px_bs h
    refine ev_gI dX14_close_57 flRX14_130 gv31 ?_
    obtain ⟨w32, gw32, h⟩ := px_bs h
    refine ev_sI dX14_close_60 gw32 ?_
    refine EV.aload_n 1 dX14_close_61 rfl rfl ?_
    obtain ⟨v33, gv33, h⟩ := px_bs h
    refine ev_gR dX14_close_62 flRX14_19 gv33 ?_
    refine EV.iload_n 0 dX14_close_65 rfl rfl ?_
    refine EV.iconst (2) dX14_close_66 (by decide) ?_
    refine EV.iadd dX14_close_67 ?_
    refine EV.aload_n 1 dX14_close_68 rfl rfl ?_
    obtain ⟨v34, gv34, h⟩ := px_bs h
    refine ev_gI dX14_close_69 flRX14_127 gv34 ?_
    refine EV.iconst (2) dX14_close_72 (by decide) ?_
    refine EV.iadd dX14_close_73 ?_
    obtain ⟨w35, gw35, h⟩ := px_bs h
    refine ev_sI dX14_close_74 gw35 ?_
    refine EV.aload_n 1 dX14_close_75 rfl rfl ?_
    obtain ⟨v36, gv36, h⟩ := px_bs h
    refine ev_gR dX14_close_76 flRX14_19 gv36 ?_
    refine EV.iload_n 0 dX14_close_79 rfl rfl ?_
    refine EV.iconst (3) dX14_close_80 (by decide) ?_
    refine EV.iadd dX14_close_81 ?_
    refine EV.aload_n 1 dX14_close_82 rfl rfl ?_
    obtain ⟨v37, gv37, h⟩ := px_bs h
    refine ev_gI dX14_close_83 flRX14_103 gv37 ?_
    refine EV.aload_n 1 dX14_close_86 rfl rfl ?_
    obtain ⟨v38, gv38, h⟩ := px_bs h
    refine ev_gI dX14_close_87 flRX14_127 gv38 ?_
    refine EV.isub dX14_close_90 ?_
    refine EV.iconst (2) dX14_close_91 (by decide) ?_
    refine EV.isub dX14_close_92 ?_
    obtain ⟨w39, gw39, h⟩ := px_bs h
    refine ev_sI dX14_close_93 gw39 ?_
    refine EV.aload_n 1 dX14_close_94 rfl rfl ?_
    refine EV.dup dX14_close_95 rfl ?_
    obtain ⟨v40, gv40, h⟩ := px_bs h
    refine ev_gI dX14_close_96 flRX14_79 gv40 ?_
    refine EV.iconst (1) dX14_close_99 (by decide) ?_
    refine EV.iadd dX14_close_100 ?_
    obtain ⟨w41, gw41, h⟩ := px_bs h
    refine ev_pV dX14_close_101 flRX14_79 rfl rfl rfl rfl gw41 ?_
    refine EV.sub [1] rfl ?_
    exact eX14_close_104  _ _ _ h
set_option maxRecDepth 100000 in
set_option maxHeartbeats 4000000 in
theorem eX14_close {X : px_X} {w : px_W} {a0 : Nat} {a1 : Int32} {q : px_W} (h : fX14_close X w a0 a1 = some q) : EV X mX14_close 0 (lv_args 0 [.ref a0, .int a1]) [] w none q := by
  unfold fX14_close at h
  show EV X mX14_close 0 [(0, .ref a0), (1, .int a1)] [] w none q
  refine EV.aload_n 0 dX14_close_0 rfl rfl ?_
  obtain ⟨v42, gv42, h⟩ := px_bs h
  refine ev_gI dX14_close_1 flRX14_100 gv42 ?_
  refine EV.if_ne 28 dX14_close_4 (by decide) (fun c43 => ?_) (fun c43 => ?_)
  · rw [if_neg c43] at h
    refine EV.sub [0, 1] rfl ?_
    exact eX14_close_28  _ _ _ _ h
  · rw [if_pos c43] at h
    refine EV.aload_n 0 dX14_close_7 rfl rfl ?_
    obtain ⟨v44, gv44, h⟩ := px_bs h
    refine ev_gI dX14_close_8 flRX14_106 gv44 ?_
    refine EV.aload_n 0 dX14_close_11 rfl rfl ?_
    obtain ⟨v45, gv45, h⟩ := px_bs h
    refine ev_gI dX14_close_12 flRX14_103 gv45 ?_
    refine EV.icmp_eq 28 dX14_close_15 (by decide) (fun c46 => ?_) (fun c46 => ?_)
    · rw [if_pos c46] at h
      refine EV.sub [0, 1] rfl ?_
      exact eX14_close_28  _ _ _ _ h
    · rw [if_neg c46] at h
      refine EV.aload_n 0 dX14_close_18 rfl rfl ?_
      refine EV.iconst (5) dX14_close_19 (by decide) ?_
      refine EV.aload_n 0 dX14_close_20 rfl rfl ?_
      obtain ⟨v47, gv47, h⟩ := px_bs h
      refine ev_gI dX14_close_21 flRX14_127 gv47 ?_
      obtain ⟨o48, go48, h⟩ := px_bs h
      obtain ⟨q49, gq49, h⟩ := px_bs h
      refine EV.callV (As := [.int 5, .int v47]) (rest := []) dX14_close_24 kcX14_close_113 (gO_ok go48) rfl rfl rfl (Nat.le_of_ble_eq_true rfl) (Nat.le_of_ble_eq_true rfl) (eX14_wrong gq49) ?_
      refine EV.istore_n [(2, .int q49.1), (0, .ref a0), (1, .int a1)] dX14_close_27 rfl (by decide) rfl ?_
      refine EV.sub [1, 2] rfl ?_
      exact eX14_close_28  _ _ _ _ h
/-! WavePicturesModel$Segments.any()V -/
theorem dX14_any_0 : decode cX14_any 0 = .ok (.aload_n 0, 1) := by decide +kernel
theorem dX14_any_1 : decode cX14_any 1 = .ok (.getfield 100, 3) := by decide +kernel
theorem dX14_any_4 : decode cX14_any 4 = .ok (.ifCond .ne 22, 3) := by decide +kernel
theorem dX14_any_7 : decode cX14_any 7 = .ok (.aload_n 0, 1) := by decide +kernel
theorem dX14_any_8 : decode cX14_any 8 = .ok (.getfield 106, 3) := by decide +kernel
theorem dX14_any_11 : decode cX14_any 11 = .ok (.aload_n 0, 1) := by decide +kernel
theorem dX14_any_12 : decode cX14_any 12 = .ok (.getfield 103, 3) := by decide +kernel
theorem dX14_any_15 : decode cX14_any 15 = .ok (.if_icmp .ge 11, 3) := by decide +kernel
theorem dX14_any_18 : decode cX14_any 18 = .ok (.aload_n 0, 1) := by decide +kernel
theorem dX14_any_19 : decode cX14_any 19 = .ok (.invokevirtual 124, 3) := by decide +kernel
theorem dX14_any_22 : decode cX14_any 22 = .ok (.istore_n 1, 1) := by decide +kernel
theorem dX14_any_23 : decode cX14_any 23 = .ok (.goto (-23), 3) := by decide +kernel
theorem dX14_any_26 : decode cX14_any 26 = .ok (.return_, 1) := by decide +kernel
theorem kcX14_any_124 : px_cV mX14_any 124 mX14_next 0 := ⟨⟨mbX14_next, by decide, by decide⟩, Or.inl (tb8 (List.mem_of_getElem? (i := 131) rfl)), vbX14_next⟩
set_option maxRecDepth 100000 in
set_option maxHeartbeats 4000000 in
theorem eX14_any_0 {X : px_X}  : ∀ (m : Nat) (a0 : Nat) (w : px_W) (q : px_W), fX14_any_0 X  m a0 w = some q → EV X mX14_any 0 [(0, .ref a0)] [] w none q := by
  intro m
  induction m with
  | zero => intro a0 w q h; cases h
  | succ m ih =>
    intro a0 w q h
    rw [fX14_any_0.eq_2] at h
    refine EV.aload_n 0 dX14_any_0 rfl rfl ?_
    obtain ⟨v6, gv6, h⟩ := px_bs h
    refine ev_gI dX14_any_1 flRX14_100 gv6 ?_
    refine EV.if_ne 26 dX14_any_4 (by decide) (fun c7 => ?_) (fun c7 => ?_)
    · rw [if_neg c7] at h
      cases h
      exact EV.ret0 dX14_any_26 trivial
    · rw [if_pos c7] at h
      refine EV.aload_n 0 dX14_any_7 rfl rfl ?_
      obtain ⟨v8, gv8, h⟩ := px_bs h
      refine ev_gI dX14_any_8 flRX14_106 gv8 ?_
      refine EV.aload_n 0 dX14_any_11 rfl rfl ?_
      obtain ⟨v9, gv9, h⟩ := px_bs h
      refine ev_gI dX14_any_12 flRX14_103 gv9 ?_
      refine EV.icmp_ge 26 dX14_any_15 (by decide) (fun c10 => ?_) (fun c10 => ?_)
      · rw [if_pos c10] at h
        cases h
        exact EV.ret0 dX14_any_26 trivial
      · rw [if_neg c10] at h
        refine EV.aload_n 0 dX14_any_18 rfl rfl ?_
        obtain ⟨o11, go11, h⟩ := px_bs h
        obtain ⟨q12, gq12, h⟩ := px_bs h
        refine EV.callV (As := []) (rest := []) dX14_any_19 kcX14_any_124 (gO_ok go11) rfl rfl rfl (Nat.le_of_ble_eq_true rfl) (Nat.le_of_ble_eq_true rfl) (eX14_next gq12) ?_
        refine EV.istore_n [(1, .int q12.1), (0, .ref a0)] dX14_any_22 rfl (by decide) rfl ?_
        refine EV.goto 0 dX14_any_23 (by decide) ?_
        refine EV.sub [1] rfl ?_
        exact ih _ _ _ h
set_option maxRecDepth 100000 in
set_option maxHeartbeats 4000000 in
theorem eX14_any {X : px_X} {w : px_W} {a0 : Nat} {q : px_W} (h : fX14_any X w a0 = some q) : EV X mX14_any 0 (lv_args 0 [.ref a0]) [] w none q := by
  unfold fX14_any at h
  show EV X mX14_any 0 [(0, .ref a0)] [] w none q
  refine EV.sub [0] rfl ?_
  exact eX14_any_0  FU _ _ _ h
/-! WavePicturesModel$Segments.readQuantisers()V -/
theorem dX14_readQuantisers_0 : decode cX14_readQuantisers 0 = .ok (.iconst 1, 1) := by decide +kernel
theorem dX14_readQuantisers_1 : decode cX14_readQuantisers 1 = .ok (.istore_n 1, 1) := by decide +kernel
theorem dX14_readQuantisers_2 : decode cX14_readQuantisers 2 = .ok (.iload_n 1, 1) := by decide +kernel
theorem dX14_readQuantisers_3 : decode cX14_readQuantisers 3 = .ok (.ifCond .eq 131, 3) := by decide +kernel
theorem dX14_readQuantisers_6 : decode cX14_readQuantisers 6 = .ok (.aload_n 0, 1) := by decide +kernel
theorem dX14_readQuantisers_7 : decode cX14_readQuantisers 7 = .ok (.getfield 100, 3) := by decide +kernel
theorem dX14_readQuantisers_10 : decode cX14_readQuantisers 10 = .ok (.ifCond .ne 124, 3) := by decide +kernel
theorem dX14_readQuantisers_13 : decode cX14_readQuantisers 13 = .ok (.aload_n 0, 1) := by decide +kernel
theorem dX14_readQuantisers_14 : decode cX14_readQuantisers 14 = .ok (.invokevirtual 124, 3) := by decide +kernel
theorem dX14_readQuantisers_17 : decode cX14_readQuantisers 17 = .ok (.istore_n 2, 1) := by decide +kernel
theorem dX14_readQuantisers_18 : decode cX14_readQuantisers 18 = .ok (.aload_n 0, 1) := by decide +kernel
theorem dX14_readQuantisers_19 : decode cX14_readQuantisers 19 = .ok (.aload_n 0, 1) := by decide +kernel
theorem dX14_readQuantisers_20 : decode cX14_readQuantisers 20 = .ok (.getfield 100, 3) := by decide +kernel
theorem dX14_readQuantisers_23 : decode cX14_readQuantisers 23 = .ok (.ifCond .gt 8, 3) := by decide +kernel
theorem dX14_readQuantisers_26 : decode cX14_readQuantisers 26 = .ok (.iload_n 2, 1) := by decide +kernel
theorem dX14_readQuantisers_27 : decode cX14_readQuantisers 27 = .ok (.iconst 4, 1) := by decide +kernel
theorem dX14_readQuantisers_28 : decode cX14_readQuantisers 28 = .ok (.if_icmp .ge 7, 3) := by decide +kernel
theorem dX14_readQuantisers_31 : decode cX14_readQuantisers 31 = .ok (.iconst 1, 1) := by decide +kernel
theorem dX14_readQuantisers_32 : decode cX14_readQuantisers 32 = .ok (.goto 4, 3) := by decide +kernel
theorem dX14_readQuantisers_35 : decode cX14_readQuantisers 35 = .ok (.iconst 0, 1) := by decide +kernel
theorem dX14_readQuantisers_36 : decode cX14_readQuantisers 36 = .ok (.invokevirtual 136, 3) := by decide +kernel
theorem dX14_readQuantisers_39 : decode cX14_readQuantisers 39 = .ok (.iconst 0, 1) := by decide +kernel
theorem dX14_readQuantisers_40 : decode cX14_readQuantisers 40 = .ok (.istore_n 3, 1) := by decide +kernel
theorem dX14_readQuantisers_41 : decode cX14_readQuantisers 41 = .ok (.iload_n 3, 1) := by decide +kernel
theorem dX14_readQuantisers_42 : decode cX14_readQuantisers 42 = .ok (.bipush 64, 2) := by decide +kernel
theorem dX14_readQuantisers_44 : decode cX14_readQuantisers 44 = .ok (.if_icmp .ge 56, 3) := by decide +kernel
theorem dX14_readQuantisers_47 : decode cX14_readQuantisers 47 = .ok (.aload_n 0, 1) := by decide +kernel
theorem dX14_readQuantisers_48 : decode cX14_readQuantisers 48 = .ok (.getfield 100, 3) := by decide +kernel
theorem dX14_readQuantisers_51 : decode cX14_readQuantisers 51 = .ok (.ifCond .ne 49, 3) := by decide +kernel
theorem dX14_readQuantisers_54 : decode cX14_readQuantisers 54 = .ok (.aload_n 0, 1) := by decide +kernel
theorem dX14_readQuantisers_55 : decode cX14_readQuantisers 55 = .ok (.invokevirtual 124, 3) := by decide +kernel
theorem dX14_readQuantisers_58 : decode cX14_readQuantisers 58 = .ok (.istore 4, 2) := by decide +kernel
theorem dX14_readQuantisers_60 : decode cX14_readQuantisers 60 = .ok (.aload_n 0, 1) := by decide +kernel
theorem dX14_readQuantisers_61 : decode cX14_readQuantisers 61 = .ok (.aload_n 0, 1) := by decide +kernel
theorem dX14_readQuantisers_62 : decode cX14_readQuantisers 62 = .ok (.getfield 100, 3) := by decide +kernel
theorem dX14_readQuantisers_65 : decode cX14_readQuantisers 65 = .ok (.ifCond .gt 8, 3) := by decide +kernel
theorem dX14_readQuantisers_68 : decode cX14_readQuantisers 68 = .ok (.iload 4, 2) := by decide +kernel
theorem dX14_readQuantisers_70 : decode cX14_readQuantisers 70 = .ok (.ifCond .le 7, 3) := by decide +kernel
theorem dX14_readQuantisers_73 : decode cX14_readQuantisers 73 = .ok (.iconst 1, 1) := by decide +kernel
theorem dX14_readQuantisers_74 : decode cX14_readQuantisers 74 = .ok (.goto 4, 3) := by decide +kernel
theorem dX14_readQuantisers_77 : decode cX14_readQuantisers 77 = .ok (.iconst 0, 1) := by decide +kernel
theorem dX14_readQuantisers_78 : decode cX14_readQuantisers 78 = .ok (.invokevirtual 136, 3) := by decide +kernel
theorem dX14_readQuantisers_81 : decode cX14_readQuantisers 81 = .ok (.aload_n 0, 1) := by decide +kernel
theorem dX14_readQuantisers_82 : decode cX14_readQuantisers 82 = .ok (.getfield 39, 3) := by decide +kernel
theorem dX14_readQuantisers_85 : decode cX14_readQuantisers 85 = .ok (.bipush 64, 2) := by decide +kernel
theorem dX14_readQuantisers_87 : decode cX14_readQuantisers 87 = .ok (.iload_n 2, 1) := by decide +kernel
theorem dX14_readQuantisers_88 : decode cX14_readQuantisers 88 = .ok (.imul, 1) := by decide +kernel
theorem dX14_readQuantisers_89 : decode cX14_readQuantisers 89 = .ok (.iload_n 3, 1) := by decide +kernel
theorem dX14_readQuantisers_90 : decode cX14_readQuantisers 90 = .ok (.iadd, 1) := by decide +kernel
theorem dX14_readQuantisers_91 : decode cX14_readQuantisers 91 = .ok (.iload 4, 2) := by decide +kernel
theorem dX14_readQuantisers_93 : decode cX14_readQuantisers 93 = .ok (.iastore, 1) := by decide +kernel
theorem dX14_readQuantisers_94 : decode cX14_readQuantisers 94 = .ok (.iinc 3 1, 3) := by decide +kernel
theorem dX14_readQuantisers_97 : decode cX14_readQuantisers 97 = .ok (.goto (-56), 3) := by decide +kernel
theorem dX14_readQuantisers_100 : decode cX14_readQuantisers 100 = .ok (.aload_n 0, 1) := by decide +kernel
theorem dX14_readQuantisers_101 : decode cX14_readQuantisers 101 = .ok (.getfield 100, 3) := by decide +kernel
theorem dX14_readQuantisers_104 : decode cX14_readQuantisers 104 = .ok (.ifCond .ne 10, 3) := by decide +kernel
theorem dX14_readQuantisers_107 : decode cX14_readQuantisers 107 = .ok (.aload_n 0, 1) := by decide +kernel
theorem dX14_readQuantisers_108 : decode cX14_readQuantisers 108 = .ok (.getfield 35, 3) := by decide +kernel
theorem dX14_readQuantisers_111 : decode cX14_readQuantisers 111 = .ok (.iload_n 2, 1) := by decide +kernel
theorem dX14_readQuantisers_112 : decode cX14_readQuantisers 112 = .ok (.iconst 1, 1) := by decide +kernel
theorem dX14_readQuantisers_113 : decode cX14_readQuantisers 113 = .ok (.bastore, 1) := by decide +kernel
theorem dX14_readQuantisers_114 : decode cX14_readQuantisers 114 = .ok (.aload_n 0, 1) := by decide +kernel
theorem dX14_readQuantisers_115 : decode cX14_readQuantisers 115 = .ok (.getfield 106, 3) := by decide +kernel
theorem dX14_readQuantisers_118 : decode cX14_readQuantisers 118 = .ok (.aload_n 0, 1) := by decide +kernel
theorem dX14_readQuantisers_119 : decode cX14_readQuantisers 119 = .ok (.getfield 103, 3) := by decide +kernel
theorem dX14_readQuantisers_122 : decode cX14_readQuantisers 122 = .ok (.if_icmp .ge 7, 3) := by decide +kernel
theorem dX14_readQuantisers_125 : decode cX14_readQuantisers 125 = .ok (.iconst 1, 1) := by decide +kernel
theorem dX14_readQuantisers_126 : decode cX14_readQuantisers 126 = .ok (.goto 4, 3) := by decide +kernel
theorem dX14_readQuantisers_129 : decode cX14_readQuantisers 129 = .ok (.iconst 0, 1) := by decide +kernel
theorem dX14_readQuantisers_130 : decode cX14_readQuantisers 130 = .ok (.istore_n 1, 1) := by decide +kernel
theorem dX14_readQuantisers_131 : decode cX14_readQuantisers 131 = .ok (.goto (-129), 3) := by decide +kernel
theorem dX14_readQuantisers_134 : decode cX14_readQuantisers 134 = .ok (.return_, 1) := by decide +kernel
theorem flRX14_39 : px_f RX14 39 14 22 := ⟨_, rfl, by decide, Or.inl (tb6 (List.mem_of_getElem? (i := 133) rfl))⟩
theorem kcX14_readQuantisers_124 : px_cV mX14_readQuantisers 124 mX14_next 0 := ⟨⟨mbX14_next, by decide, by decide⟩, Or.inl (tb8 (List.mem_of_getElem? (i := 131) rfl)), vbX14_next⟩
theorem mbX14_must : px_mB mX14_must 1 := ⟨tb8 (List.mem_of_getElem? (i := 174) rfl), by decide +kernel, tb1 (List.mem_of_getElem? (i := 14) rfl), by decide +kernel, by decide +kernel⟩
theorem vbX14_must : px_vB mX14_must := ⟨tb8 (List.mem_of_getElem? (i := 173) rfl), List.mem_append_left _ (List.mem_of_getElem? (i := 97) (by decide +kernel))⟩
theorem kcX14_readQuantisers_136 : px_cV mX14_readQuantisers 136 mX14_must 1 := ⟨⟨mbX14_must, by decide, by decide⟩, Or.inl (tb8 (List.mem_of_getElem? (i := 171) rfl)), vbX14_must⟩
set_option maxRecDepth 100000 in
set_option maxHeartbeats 4000000 in
theorem eX14_readQuantisers_78 {X : px_X} {k2 : Nat → Int32 → px_W → Option (px_W)} (hk2 : ∀ (a0 : Nat) (a1 : Int32) (w : px_W) (q : px_W), k2 a0 a1 w = some q → EV X mX14_readQuantisers 2 [(0, .ref a0), (1, .int a1)] [] w none q) {k41 : Nat → Int32 → Int32 → px_W → Option (px_W)} (hk41 : ∀ (a0 : Nat) (a2 : Int32) (a3 : Int32) (w : px_W) (q : px_W), k41 a0 a2 a3 w = some q → EV X mX14_readQuantisers 41 [(0, .ref a0), (2, .int a2), (3, .int a3)] [] w none q) : ∀ (a0 : Nat) (a2 : Int32) (a3 : Int32) (a4 : Int32) (s0 : Int32) (s1 : Nat) (w : px_W) (q : px_W), fX14_readQuantisers_78 X k2 k41 a0 a2 a3 a4 s0 s1 w = some q → EV X mX14_readQuantisers 78 [(0, .ref a0), (2, .int a2), (3, .int a3), (4, .int a4)] [.int s0, .ref s1] w none q := by
  intro a0 a2 a3 a4 s0 s1 w q h
  unfold fX14_readQuantisers_78 at h
  obtain ⟨o20, go20, h⟩ := px_bs h
  obtain ⟨q21, gq21, h⟩ := px_bs h
  refine EV.callV (As := [.int s0]) (rest := []) dX14_readQuantisers_78 kcX14_readQuantisers_136 (gO_ok go20) rfl rfl rfl (Nat.le_of_ble_eq_true rfl) (Nat.le_of_ble_eq_true rfl) (eX14_must gq21) ?_
  refine EV.aload_n 0 dX14_readQuantisers_81 rfl rfl ?_
  obtain ⟨v22, gv22, h⟩ := px_bs h
  refine ev_gR dX14_readQuantisers_82 flRX14_39 gv22 ?_
  refine EV.bipush (64) dX14_readQuantisers_85 (by decide) ?_
  refine EV.iload_n 1 dX14_readQuantisers_87 rfl rfl ?_
  refine EV.imul dX14_readQuantisers_88 ?_
  refine EV.iload_n 2 dX14_readQuantisers_89 rfl rfl ?_
  refine EV.iadd dX14_readQuantisers_90 ?_
  refine EV.iload 3 dX14_readQuantisers_91 rfl ?_
  obtain ⟨w23, gw23, h⟩ := px_bs h
  refine ev_sI dX14_readQuantisers_93 gw23 ?_
  refine EV.iinc 2 (a3 + 1) [(3, .int (a3 + 1)), (0, .ref a0), (2, .int a2), (4, .int a4)] dX14_readQuantisers_94 rfl rfl (by decide) rfl ?_
  refine EV.goto 41 dX14_readQuantisers_97 (by decide) ?_
  refine EV.sub [1, 2, 0] rfl ?_
  exact hk41 _ _ _ _ _ h
set_option maxRecDepth 100000 in
set_option maxHeartbeats 4000000 in
theorem eX14_readQuantisers_73 {X : px_X} {k2 : Nat → Int32 → px_W → Option (px_W)} (hk2 : ∀ (a0 : Nat) (a1 : Int32) (w : px_W) (q : px_W), k2 a0 a1 w = some q → EV X mX14_readQuantisers 2 [(0, .ref a0), (1, .int a1)] [] w none q) {k41 : Nat → Int32 → Int32 → px_W → Option (px_W)} (hk41 : ∀ (a0 : Nat) (a2 : Int32) (a3 : Int32) (w : px_W) (q : px_W), k41 a0 a2 a3 w = some q → EV X mX14_readQuantisers 41 [(0, .ref a0), (2, .int a2), (3, .int a3)] [] w none q) : ∀ (a0 : Nat) (a2 : Int32) (a3 : Int32) (a4 : Int32) (s0 : Nat) (w : px_W) (q : px_W), fX14_readQuantisers_73 X k2 k41 a0 a2 a3 a4 s0 w = some q → EV X mX14_readQuantisers 73 [(0, .ref a0), (2, .int a2), (3, .int a3), (4, .int a4)] [.ref s0] w none q := by
  intro a0 a2 a3 a4 s0 w q h
  unfold fX14_readQuantisers_73 at h
  refine EV.iconst (1) dX14_readQuantisers_73 (by decide) ?_
  refine EV.goto 78 dX14_readQuantisers_74 (by decide) ?_
  refine EV.sub [0, 1, 2, 3] rfl ?_
  exact eX14_readQuantisers_78 hk2 hk41 _ _ _ _ _ _ _ _ h
set_option maxRecDepth 100000 in
set_option maxHeartbeats 4000000 in
theorem eX14_readQuantisers_130 {X : px_X} {k2 : Nat → Int32 → px_W → Option (px_W)} (hk2 : ∀ (a0 : Nat) (a1 : Int32) (w : px_W) (q : px_W), k2 a0 a1 w = some q → EV X mX14_readQuantisers 2 [(0, .ref a0), (1, .int a1)] [] w none q) : ∀ (a0 : Nat) (s0 : Int32) (w : px_W) (q : px_W), fX14_readQuantisers_130 X k2 a0 s0 w = some q → EV X mX14_readQuantisers 130 [(0, .ref a0)] [.int s0] w none q := by
  intro a0 s0 w q h
  unfold fX14_readQuantisers_130 at h
  refine EV.istore_n [(1, .int s0), (0, .ref a0)] dX14_readQuantisers_130 rfl (by decide) rfl ?_
  refine EV.goto 2 dX14_readQuantisers_131 (by decide) ?_
  refine EV.sub [1, 0] rfl ?_
  exact hk2 _ _ _ _ h
set_option maxRecDepth 100000 in
set_option maxHeartbeats 4000000 in
theorem eX14_readQuantisers_114 {X : px_X} {k2 : Nat → Int32 → px_W → Option (px_W)} (hk2 : ∀ (a0 : Nat) (a1 : Int32) (w : px_W) (q : px_W), k2 a0 a1 w = some q → EV X mX14_readQuantisers 2 [(0, .ref a0), (1, .int a1)] [] w none q) : ∀ (a0 : Nat) (w : px_W) (q : px_W), fX14_readQuantisers_114 X k2 a0 w = some q → EV X mX14_readQuantisers 114 [(0, .ref a0)] [] w none q := by
  intro a0 w q h
  unfold fX14_readQuantisers_114 at h
  refine EV.aload_n 0 dX14_readQuantisers_114 rfl rfl ?_
  obtain ⟨v24, gv24, h⟩ := px_bs h
  refine ev_gI dX14_readQuantisers_115 flRX14_106 gv24 ?_
  refine EV.aload_n 0 dX14_readQuantisers_118 rfl rfl ?_
  obtain ⟨v25, gv25, h⟩ := px_bs h
  refine ev_gI dX14_readQuantisers_119 flRX14_103 gv25 ?_
  refine EV.icmp_ge 129 dX14_readQuantisers_122 (by decide) (fun c26 => ?_) (fun c26 => ?_)
  · rw [if_pos c26] at h
    refine EV.iconst (0) dX14_readQuantisers_129 (by decide) ?_
    refine EV.sub [0] rfl ?_
    exact eX14_readQuantisers_130 hk2 _ _ _ _ h
  · rw [if_neg c26] at h
    refine EV.iconst (1) dX14_readQuantisers_125 (by decide) ?_
    refine EV.goto 130 dX14_readQuantisers_126 (by decide) ?_
    refine EV.sub [0] rfl ?_
    exact eX14_readQuantisers_130 hk2 _ _ _ _ h
set_option maxRecDepth 100000 in
set_option maxHeartbeats 4000000 in
theorem eX14_readQuantisers_100 {X : px_X} {k2 : Nat → Int32 → px_W → Option (px_W)} (hk2 : ∀ (a0 : Nat) (a1 : Int32) (w : px_W) (q : px_W), k2 a0 a1 w = some q → EV X mX14_readQuantisers 2 [(0, .ref a0), (1, .int a1)] [] w none q) : ∀ (a0 : Nat) (a2 : Int32) (w : px_W) (q : px_W), fX14_readQuantisers_100 X k2 a0 a2 w = some q → EV X mX14_readQuantisers 100 [(0, .ref a0), (2, .int a2)] [] w none q := by
  intro a0 a2 w q h
  unfold fX14_readQuantisers_100 at h
  refine EV.aload_n 0 dX14_readQuantisers_100 rfl rfl ?_
  obtain ⟨v27, gv27, h⟩ := px_bs h
  refine ev_gI dX14_readQuantisers_101 flRX14_100 gv27 ?_
  refine EV.if_ne 114 dX14_readQuantisers_104 (by decide) (fun c28 => ?_) (fun c28 => ?_)
  · rw [if_neg c28] at h
    refine EV.sub [0] rfl ?_
    exact eX14_readQuantisers_114 hk2 _ _ _ h
  · rw [if_pos c28] at h
    refine EV.aload_n 0 dX14_readQuantisers_107 rfl rfl ?_
    obtain ⟨v29, gv29, h⟩ := px_bs h
    refine ev_gR dX14_readQuantisers_108 flRX14_35 gv29 ?_
    refine EV.iload_n 1 dX14_readQuantisers_111 rfl rfl ?_
    refine EV.iconst (1) dX14_readQuantisers_112 (by decide) ?_
    obtain ⟨w30, gw30, h⟩ := px_bs h
    refine ev_sZ dX14_readQuantisers_113 gw30 ?_
    refine EV.sub [0] rfl ?_
    exact eX14_readQuantisers_114 hk2 _ _ _ h
set_option maxRecDepth 100000 in
set_option maxHeartbeats 4000000 in
theorem eX14_readQuantisers_41 {X : px_X} {k2 : Nat → Int32 → px_W → Option (px_W)} (hk2 : ∀ (a0 : Nat) (a1 : Int32) (w : px_W) (q : px_W), k2 a0 a1 w = some q → EV X mX14_readQuantisers 2 [(0, .ref a0), (1, .int a1)] [] w none q) : ∀ (m : Nat) (a0 : Nat) (a2 : Int32) (a3 : Int32) (w : px_W) (q : px_W), fX14_readQuantisers_41 X k2 m a0 a2 a3 w = some q → EV X mX14_readQuantisers 41 [(0, .ref a0), (2, .int a2), (3, .int a3)] [] w none q := by
  intro m
  induction m with
  | zero => intro a0 a2 a3 w q h; cases h
  | succ m ih =>
    intro a0 a2 a3 w q h
    rw [fX14_readQuantisers_41.eq_2] at h
    refine EV.iload_n 2 dX14_readQuantisers_41 rfl rfl ?_
    refine EV.bipush (64) dX14_readQuantisers_42 (by decide) ?_
    refine EV.icmp_ge 100 dX14_readQuantisers_44 (by decide) (fun c31 => ?_) (fun c31 => ?_)
    · rw [if_pos c31] at h
      refine EV.sub [0, 1] rfl ?_
      exact eX14_readQuantisers_100 hk2 _ _ _ _ h
    · rw [if_neg c31] at h
      refine EV.aload_n 0 dX14_readQuantisers_47 rfl rfl ?_
      obtain ⟨v32, gv32, h⟩ := px_bs h
      refine ev_gI dX14_readQuantisers_48 flRX14_100 gv32 ?_
      refine EV.if_ne 100 dX14_readQuantisers_51 (by decide) (fun c33 => ?_) (fun c33 => ?_)
      · rw [if_neg c33] at h
        refine EV.sub [0, 1] rfl ?_
        exact eX14_readQuantisers_100 hk2 _ _ _ _ h
      · rw [if_pos c33] at h
        refine EV.aload_n 0 dX14_readQuantisers_54 rfl rfl ?_
        obtain ⟨o34, go34, h⟩ := px_bs h
        obtain ⟨q35, gq35, h⟩ := px_bs h
        refine EV.callV (As := []) (rest := []) dX14_readQuantisers_55 kcX14_readQuantisers_124 (gO_ok go34) rfl rfl rfl (Nat.le_of_ble_eq_true rfl) (Nat.le_of_ble_eq_true rfl) (eX14_next gq35) ?_
        refine EV.istore [(4, .int q35.1), (0, .ref a0), (2, .int a2), (3, .int a3)] dX14_readQuantisers_58 (by decide) rfl ?_
        refine EV.aload_n 1 dX14_readQuantisers_60 rfl rfl ?_
        refine EV.aload_n 1 dX14_readQuantisers_61 rfl rfl ?_
        obtain ⟨v36, gv36, h⟩ := px_bs h
        refine ev_gI dX14_readQuantisers_62 flRX14_100 gv36 ?_
        refine EV.if_gt 73 dX14_readQuantisers_65 (by decide) (fun c37 => ?_) (fun c37 => ?_)
        · rw [if_pos c37] at h
          refine EV.sub [1, 2, 3, 0] rfl ?_
          exact eX14_readQuantisers_73 hk2 ih _ _ _ _ _ _ _ h
        · rw [if_neg c37] at h
          refine EV.iload 0 dX14_readQuantisers_68 rfl ?_
          refine EV.if_le 77 dX14_readQuantisers_70 (by decide) (fun c38 => ?_) (fun c38 => ?_)
          · rw [if_pos c38] at h
            refine EV.iconst (0) dX14_readQuantisers_77 (by decide) ?_
            refine EV.sub [1, 2, 3, 0] rfl ?_
            exact eX14_readQuantisers_78 hk2 ih _ _ _ _ _ _ _ _ h
          · rw [if_neg c38] at h
            refine EV.sub [1, 2, 3, 0] rfl ?_
            exact eX14_readQuantisers_73 hk2 ih _ _ _ _ _ _ _ h
set_option maxRecDepth 100000 in
set_option maxHeartbeats 4000000 in
theorem eX14_readQuantisers_36 {X : px_X} {k2 : Nat → Int32 → px_W → Option (px_W)} (hk2 : ∀ (a0 : Nat) (a1 : Int32) (w : px_W) (q : px_W), k2 a0 a1 w = some q → EV X mX14_readQuantisers 2 [(0, .ref a0), (1, .int a1)] [] w none q) : ∀ (a0 : Nat) (a2 : Int32) (s0 : Int32) (s1 : Nat) (w : px_W) (q : px_W), fX14_readQuantisers_36 X k2 a0 a2 s0 s1 w = some q → EV X mX14_readQuantisers 36 [(0, .ref a0), (2, .int a2)] [.int s0, .ref s1] w none q := by
  intro a0 a2 s0 s1 w q h
  unfold fX14_readQuantisers_36 at h
  obtain ⟨o39, go39, h⟩ := px_bs h
  obtain ⟨q40, gq40, h⟩ := px_bs h
  refine EV.callV (As := [.int s0]) (rest := []) dX14_readQuantisers_36 kcX14_readQuantisers_136 (gO_ok go39) rfl rfl rfl (Nat.le_of_ble_eq_true rfl) (Nat.le_of_ble_eq_true rfl) (eX14_must gq40) ?_
  refine EV.iconst (0) dX14_readQuantisers_39 (by decide) ?_
  refine EV.istore_n [(3, .int 0), (0, .ref a0), (2, .int a2)] dX14_readQuantisers_40 rfl (by decide) rfl ?_
  refine EV.sub [1, 2, 0] rfl ?_
  exact eX14_readQuantisers_41 hk2 FU _ _ _ _ _ h
set_option maxRecDepth 100000 in
set_option maxHeartbeats 4000000 in
theorem eX14_readQuantisers_31 {X : px_X} {k2 : Nat → Int32 → px_W → Option (px_W)} (hk2 : ∀ (a0 : Nat) (a1 : Int32) (w : px_W) (q : px_W), k2 a0 a1 w = some q → EV X mX14_readQuantisers 2 [(0, .ref a0), (1, .int a1)] [] w none q) : ∀ (a0 : Nat) (a2 : Int32) (s0 : Nat) (w : px_W) (q : px_W), fX14_readQuantisers_31 X k2 a0 a2 s0 w = some q → EV X mX14_readQuantisers 31 [(0, .ref a0), (2, .int a2)] [.ref s0] w none q := by
  intro a0 a2 s0 w q h
  unfold fX14_readQuantisers_31 at h
  refine EV.iconst (1) dX14_readQuantisers_31 (by decide) ?_
  refine EV.goto 36 dX14_readQuantisers_32 (by decide) ?_
  refine EV.sub [0, 1] rfl ?_
  exact eX14_readQuantisers_36 hk2 _ _ _ _ _ _ h
set_option maxRecDepth 100000 in
set_option maxHeartbeats 4000000 in
theorem eX14_readQuantisers_2 {X : px_X}  : ∀ (m : Nat) (a0 : Nat) (a1 : Int32) (w : px_W) (q : px_W), fX14_readQuantisers_2 X  m a0 a1 w = some q → EV X mX14_readQuantisers 2 [(0, .ref a0), (1, .int a1)] [] w none q := by
  intro m
  induction m with
  | zero => intro a0 a1 w q h; cases h
  | succ m ih =>
    intro a0 a1 w q h
    rw [fX14_readQuantisers_2.eq_2] at h
    refine EV.iload_n 1 dX14_readQuantisers_2 rfl rfl ?_
    refine EV.if_eq 134 dX14_readQuantisers_3 (by decide) (fun c41 => ?_) (fun c41 => ?_)
    · rw [if_pos c41] at h
      cases h
      exact EV.ret0 dX14_readQuantisers_134 trivial
    · rw [if_neg c41] at h
      refine EV.aload_n 0 dX14_readQuantisers_6 rfl rfl ?_
      obtain ⟨v42, gv42, h⟩ := px_bs h
      refine ev_gI dX14_readQuantisers_7 flRX14_100 gv42 ?_
      refine EV.if_ne 134 dX14_readQuantisers_10 (by decide) (fun c43 => ?_) (fun c43 => ?_)
      · rw [if_neg c43] at h
        cases h
        exact EV.ret0 dX14_readQuantisers_134 trivial
      · rw [if_pos c43] at h
        refine EV.aload_n 0 dX14_readQuantisers_13 rfl rfl ?_
        obtain ⟨o44, go44, h⟩ := px_bs h
        obtain ⟨q45, gq45, h⟩ := px_bs h
        refine EV.callV (As := []) (rest := []) dX14_readQuantisers_14 kcX14_readQuantisers_124 (gO_ok go44) rfl rfl rfl (Nat.le_of_ble_eq_true rfl) (Nat.le_of_ble_eq_true rfl) (eX14_next gq45) ?_
        refine EV.istore_n [(2, .int q45.1), (0, .ref a0), (1, .int a1)] dX14_readQuantisers_17 rfl (by decide) rfl ?_
        refine EV.aload_n 1 dX14_readQuantisers_18 rfl rfl ?_
        refine EV.aload_n 1 dX14_readQuantisers_19 rfl rfl ?_
        obtain ⟨v46, gv46, h⟩ := px_bs h
        refine ev_gI dX14_readQuantisers_20 flRX14_100 gv46 ?_
        refine EV.if_gt 31 dX14_readQuantisers_23 (by decide) (fun c47 => ?_) (fun c47 => ?_)
        · rw [if_pos c47] at h
          refine EV.sub [1, 0] rfl ?_
          exact eX14_readQuantisers_31 ih _ _ _ _ _ h
        · rw [if_neg c47] at h
          refine EV.iload_n 0 dX14_readQuantisers_26 rfl rfl ?_
          refine EV.iconst (4) dX14_readQuantisers_27 (by decide) ?_
          refine EV.icmp_ge 35 dX14_readQuantisers_28 (by decide) (fun c48 => ?_) (fun c48 => ?_)
          · rw [if_pos c48] at h
            refine EV.iconst (0) dX14_readQuantisers_35 (by decide) ?_
            refine EV.sub [1, 0] rfl ?_
            exact eX14_readQuantisers_36 ih _ _ _ _ _ _ h
          · rw [if_neg c48] at h
            refine EV.sub [1, 0] rfl ?_
            exact eX14_readQuantisers_31 ih _ _ _ _ _ h
set_option maxRecDepth 100000 in
set_option maxHeartbeats 4000000 in
theorem eX14_readQuantisers {X : px_X} {w : px_W} {a0 : Nat} {q : px_W} (h : fX14_readQuantisers X w a0 = some q) : EV X mX14_readQuantisers 0 (lv_args 0 [.ref a0]) [] w none q := by
  unfold fX14_readQuantisers at h
  show EV X mX14_readQuantisers 0 [(0, .ref a0)] [] w none q
  refine EV.iconst (1) dX14_readQuantisers_0 (by decide) ?_
  refine EV.istore_n [(1, .int 1), (0, .ref a0)] dX14_readQuantisers_1 rfl (by decide) rfl ?_
  refine EV.sub [1, 0] rfl ?_
  exact eX14_readQuantisers_2  FU _ _ _ _ h
/-! WavePicturesModel$Segments.readTable(I)V -/
theorem dX14_readTable_0 : decode cX14_readTable 0 = .ok (.iconst 0, 1) := by decide +kernel
theorem dX14_readTable_1 : decode cX14_readTable 1 = .ok (.istore_n 2, 1) := by decide +kernel
theorem dX14_readTable_2 : decode cX14_readTable 2 = .ok (.lconst 0, 1) := by decide +kernel
theorem dX14_readTable_3 : decode cX14_readTable 3 = .ok (.lstore_n 3, 1) := by decide +kernel
theorem dX14_readTable_4 : decode cX14_readTable 4 = .ok (.iconst 1, 1) := by decide +kernel
theorem dX14_readTable_5 : decode cX14_readTable 5 = .ok (.istore 5, 2) := by decide +kernel
theorem dX14_readTable_7 : decode cX14_readTable 7 = .ok (.iload 5, 2) := by decide +kernel
theorem dX14_readTable_9 : decode cX14_readTable 9 = .ok (.bipush 16, 2) := by decide +kernel
theorem dX14_readTable_11 : decode cX14_readTable 11 = .ok (.if_icmp .gt 117, 3) := by decide +kernel
theorem dX14_readTable_14 : decode cX14_readTable 14 = .ok (.aload_n 0, 1) := by decide +kernel
theorem dX14_readTable_15 : decode cX14_readTable 15 = .ok (.getfield 100, 3) := by decide +kernel
theorem dX14_readTable_18 : decode cX14_readTable 18 = .ok (.ifCond .ne 110, 3) := by decide +kernel
theorem dX14_readTable_21 : decode cX14_readTable 21 = .ok (.aload_n 0, 1) := by decide +kernel
theorem dX14_readTable_22 : decode cX14_readTable 22 = .ok (.invokevirtual 124, 3) := by decide +kernel
theorem dX14_readTable_25 : decode cX14_readTable 25 = .ok (.istore 6, 2) := by decide +kernel
theorem dX14_readTable_27 : decode cX14_readTable 27 = .ok (.aload_n 0, 1) := by decide +kernel
theorem dX14_readTable_28 : decode cX14_readTable 28 = .ok (.getfield 45, 3) := by decide +kernel
theorem dX14_readTable_31 : decode cX14_readTable 31 = .ok (.bipush 17, 2) := by decide +kernel
theorem dX14_readTable_33 : decode cX14_readTable 33 = .ok (.iload_n 1, 1) := by decide +kernel
theorem dX14_readTable_34 : decode cX14_readTable 34 = .ok (.imul, 1) := by decide +kernel
theorem dX14_readTable_35 : decode cX14_readTable 35 = .ok (.iload 5, 2) := by decide +kernel
theorem dX14_readTable_37 : decode cX14_readTable 37 = .ok (.iadd, 1) := by decide +kernel
theorem dX14_readTable_38 : decode cX14_readTable 38 = .ok (.iload 6, 2) := by decide +kernel
theorem dX14_readTable_40 : decode cX14_readTable 40 = .ok (.iastore, 1) := by decide +kernel
theorem dX14_readTable_41 : decode cX14_readTable 41 = .ok (.iload_n 2, 1) := by decide +kernel
theorem dX14_readTable_42 : decode cX14_readTable 42 = .ok (.iload 6, 2) := by decide +kernel
theorem dX14_readTable_44 : decode cX14_readTable 44 = .ok (.iadd, 1) := by decide +kernel
theorem dX14_readTable_45 : decode cX14_readTable 45 = .ok (.istore_n 2, 1) := by decide +kernel
theorem dX14_readTable_46 : decode cX14_readTable 46 = .ok (.ldc2_w 144, 3) := by decide +kernel
theorem dX14_readTable_49 : decode cX14_readTable 49 = .ok (.lload_n 3, 1) := by decide +kernel
theorem dX14_readTable_50 : decode cX14_readTable 50 = .ok (.lmul, 1) := by decide +kernel
theorem dX14_readTable_51 : decode cX14_readTable 51 = .ok (.iload 6, 2) := by decide +kernel
theorem dX14_readTable_53 : decode cX14_readTable 53 = .ok (.i2l, 1) := by decide +kernel
theorem dX14_readTable_54 : decode cX14_readTable 54 = .ok (.ladd, 1) := by decide +kernel
theorem dX14_readTable_55 : decode cX14_readTable 55 = .ok (.lstore_n 3, 1) := by decide +kernel
theorem dX14_readTable_56 : decode cX14_readTable 56 = .ok (.aload_n 0, 1) := by decide +kernel
theorem dX14_readTable_57 : decode cX14_readTable 57 = .ok (.aload_n 0, 1) := by decide +kernel
theorem dX14_readTable_58 : decode cX14_readTable 58 = .ok (.getfield 100, 3) := by decide +kernel
theorem dX14_readTable_61 : decode cX14_readTable 61 = .ok (.ifCond .gt 26, 3) := by decide +kernel
theorem dX14_readTable_64 : decode cX14_readTable 64 = .ok (.iload_n 2, 1) := by decide +kernel
theorem dX14_readTable_65 : decode cX14_readTable 65 = .ok (.sipush 256, 3) := by decide +kernel
theorem dX14_readTable_68 : decode cX14_readTable 68 = .ok (.if_icmp .gt 23, 3) := by decide +kernel
theorem dX14_readTable_71 : decode cX14_readTable 71 = .ok (.iload 6, 2) := by decide +kernel
theorem dX14_readTable_73 : decode cX14_readTable 73 = .ok (.ifCond .eq 14, 3) := by decide +kernel
theorem dX14_readTable_76 : decode cX14_readTable 76 = .ok (.lload_n 3, 1) := by decide +kernel
theorem dX14_readTable_77 : decode cX14_readTable 77 = .ok (.lconst 1, 1) := by decide +kernel
theorem dX14_readTable_78 : decode cX14_readTable 78 = .ok (.iload 5, 2) := by decide +kernel
theorem dX14_readTable_80 : decode cX14_readTable 80 = .ok (.lshl, 1) := by decide +kernel
theorem dX14_readTable_81 : decode cX14_readTable 81 = .ok (.lconst 1, 1) := by decide +kernel
theorem dX14_readTable_82 : decode cX14_readTable 82 = .ok (.lsub, 1) := by decide +kernel
theorem dX14_readTable_83 : decode cX14_readTable 83 = .ok (.lcmp, 1) := by decide +kernel
theorem dX14_readTable_84 : decode cX14_readTable 84 = .ok (.ifCond .gt 7, 3) := by decide +kernel
theorem dX14_readTable_87 : decode cX14_readTable 87 = .ok (.iconst 1, 1) := by decide +kernel
theorem dX14_readTable_88 : decode cX14_readTable 88 = .ok (.goto 4, 3) := by decide +kernel
theorem dX14_readTable_91 : decode cX14_readTable 91 = .ok (.iconst 0, 1) := by decide +kernel
theorem dX14_readTable_92 : decode cX14_readTable 92 = .ok (.invokevirtual 136, 3) := by decide +kernel
theorem dX14_readTable_95 : decode cX14_readTable 95 = .ok (.aload_n 0, 1) := by decide +kernel
theorem dX14_readTable_96 : decode cX14_readTable 96 = .ok (.aload_n 0, 1) := by decide +kernel
theorem dX14_readTable_97 : decode cX14_readTable 97 = .ok (.getfield 100, 3) := by decide +kernel
theorem dX14_readTable_100 : decode cX14_readTable 100 = .ok (.ifCond .gt 14, 3) := by decide +kernel
theorem dX14_readTable_103 : decode cX14_readTable 103 = .ok (.iload 5, 2) := by decide +kernel
theorem dX14_readTable_105 : decode cX14_readTable 105 = .ok (.bipush 16, 2) := by decide +kernel
theorem dX14_readTable_107 : decode cX14_readTable 107 = .ok (.if_icmp .lt 7, 3) := by decide +kernel
theorem dX14_readTable_110 : decode cX14_readTable 110 = .ok (.iload_n 2, 1) := by decide +kernel
theorem dX14_readTable_111 : decode cX14_readTable 111 = .ok (.ifCond .le 7, 3) := by decide +kernel
theorem dX14_readTable_114 : decode cX14_readTable 114 = .ok (.iconst 1, 1) := by decide +kernel
theorem dX14_readTable_115 : decode cX14_readTable 115 = .ok (.goto 4, 3) := by decide +kernel
theorem dX14_readTable_118 : decode cX14_readTable 118 = .ok (.iconst 0, 1) := by decide +kernel
theorem dX14_readTable_119 : decode cX14_readTable 119 = .ok (.invokevirtual 136, 3) := by decide +kernel
theorem dX14_readTable_122 : decode cX14_readTable 122 = .ok (.iinc 5 1, 3) := by decide +kernel
theorem dX14_readTable_125 : decode cX14_readTable 125 = .ok (.goto (-118), 3) := by decide +kernel
theorem dX14_readTable_128 : decode cX14_readTable 128 = .ok (.iconst 0, 1) := by decide +kernel
theorem dX14_readTable_129 : decode cX14_readTable 129 = .ok (.istore 5, 2) := by decide +kernel
theorem dX14_readTable_131 : decode cX14_readTable 131 = .ok (.iload 5, 2) := by decide +kernel
theorem dX14_readTable_133 : decode cX14_readTable 133 = .ok (.sipush 256, 3) := by decide +kernel
theorem dX14_readTable_136 : decode cX14_readTable 136 = .ok (.if_icmp .ge 17, 3) := by decide +kernel
theorem dX14_readTable_139 : decode cX14_readTable 139 = .ok (.aload_n 0, 1) := by decide +kernel
theorem dX14_readTable_140 : decode cX14_readTable 140 = .ok (.getfield 73, 3) := by decide +kernel
theorem dX14_readTable_143 : decode cX14_readTable 143 = .ok (.iload 5, 2) := by decide +kernel
theorem dX14_readTable_145 : decode cX14_readTable 145 = .ok (.iconst 0, 1) := by decide +kernel
theorem dX14_readTable_146 : decode cX14_readTable 146 = .ok (.bastore, 1) := by decide +kernel
theorem dX14_readTable_147 : decode cX14_readTable 147 = .ok (.iinc 5 1, 3) := by decide +kernel
theorem dX14_readTable_150 : decode cX14_readTable 150 = .ok (.goto (-19), 3) := by decide +kernel
theorem dX14_readTable_153 : decode cX14_readTable 153 = .ok (.iconst 0, 1) := by decide +kernel
theorem dX14_readTable_154 : decode cX14_readTable 154 = .ok (.istore 5, 2) := by decide +kernel
theorem dX14_readTable_156 : decode cX14_readTable 156 = .ok (.iload 5, 2) := by decide +kernel
theorem dX14_readTable_158 : decode cX14_readTable 158 = .ok (.iload_n 2, 1) := by decide +kernel
theorem dX14_readTable_159 : decode cX14_readTable 159 = .ok (.if_icmp .ge 83, 3) := by decide +kernel
theorem dX14_readTable_162 : decode cX14_readTable 162 = .ok (.aload_n 0, 1) := by decide +kernel
theorem dX14_readTable_163 : decode cX14_readTable 163 = .ok (.getfield 100, 3) := by decide +kernel
theorem dX14_readTable_166 : decode cX14_readTable 166 = .ok (.ifCond .ne 76, 3) := by decide +kernel
theorem dX14_readTable_169 : decode cX14_readTable 169 = .ok (.aload_n 0, 1) := by decide +kernel
theorem dX14_readTable_170 : decode cX14_readTable 170 = .ok (.invokevirtual 124, 3) := by decide +kernel
theorem dX14_readTable_173 : decode cX14_readTable 173 = .ok (.istore 6, 2) := by decide +kernel
theorem dX14_readTable_175 : decode cX14_readTable 175 = .ok (.aload_n 0, 1) := by decide +kernel
theorem dX14_readTable_176 : decode cX14_readTable 176 = .ok (.aload_n 0, 1) := by decide +kernel
theorem dX14_readTable_177 : decode cX14_readTable 177 = .ok (.getfield 100, 3) := by decide +kernel
theorem dX14_readTable_180 : decode cX14_readTable 180 = .ok (.ifCond .gt 25, 3) := by decide +kernel
theorem dX14_readTable_183 : decode cX14_readTable 183 = .ok (.aload_n 0, 1) := by decide +kernel
theorem dX14_readTable_184 : decode cX14_readTable 184 = .ok (.getfield 73, 3) := by decide +kernel
theorem dX14_readTable_187 : decode cX14_readTable 187 = .ok (.iload 6, 2) := by decide +kernel
theorem dX14_readTable_189 : decode cX14_readTable 189 = .ok (.baload, 1) := by decide +kernel
theorem dX14_readTable_190 : decode cX14_readTable 190 = .ok (.ifCond .ne 19, 3) := by decide +kernel
theorem dX14_readTable_193 : decode cX14_readTable 193 = .ok (.iload_n 1, 1) := by decide +kernel
theorem dX14_readTable_194 : decode cX14_readTable 194 = .ok (.iconst 3, 1) := by decide +kernel
theorem dX14_readTable_195 : decode cX14_readTable 195 = .ok (.if_icmp .gt 10, 3) := by decide +kernel
theorem dX14_readTable_198 : decode cX14_readTable 198 = .ok (.iload 6, 2) := by decide +kernel
theorem dX14_readTable_200 : decode cX14_readTable 200 = .ok (.bipush 12, 2) := by decide +kernel
theorem dX14_readTable_202 : decode cX14_readTable 202 = .ok (.if_icmp .ge 7, 3) := by decide +kernel
theorem dX14_readTable_205 : decode cX14_readTable 205 = .ok (.iconst 1, 1) := by decide +kernel
theorem dX14_readTable_206 : decode cX14_readTable 206 = .ok (.goto 4, 3) := by decide +kernel
theorem dX14_readTable_209 : decode cX14_readTable 209 = .ok (.iconst 0, 1) := by decide +kernel
theorem dX14_readTable_210 : decode cX14_readTable 210 = .ok (.invokevirtual 136, 3) := by decide +kernel
theorem dX14_readTable_213 : decode cX14_readTable 213 = .ok (.aload_n 0, 1) := by decide +kernel
theorem dX14_readTable_214 : decode cX14_readTable 214 = .ok (.getfield 73, 3) := by decide +kernel
theorem dX14_readTable_217 : decode cX14_readTable 217 = .ok (.iload 6, 2) := by decide +kernel
theorem dX14_readTable_219 : decode cX14_readTable 219 = .ok (.iconst 1, 1) := by decide +kernel
theorem dX14_readTable_220 : decode cX14_readTable 220 = .ok (.bastore, 1) := by decide +kernel
theorem dX14_readTable_221 : decode cX14_readTable 221 = .ok (.aload_n 0, 1) := by decide +kernel
theorem dX14_readTable_222 : decode cX14_readTable 222 = .ok (.getfield 48, 3) := by decide +kernel
theorem dX14_readTable_225 : decode cX14_readTable 225 = .ok (.sipush 256, 3) := by decide +kernel
theorem dX14_readTable_228 : decode cX14_readTable 228 = .ok (.iload_n 1, 1) := by decide +kernel
theorem dX14_readTable_229 : decode cX14_readTable 229 = .ok (.imul, 1) := by decide +kernel
theorem dX14_readTable_230 : decode cX14_readTable 230 = .ok (.iload 5, 2) := by decide +kernel
theorem dX14_readTable_232 : decode cX14_readTable 232 = .ok (.iadd, 1) := by decide +kernel
theorem dX14_readTable_233 : decode cX14_readTable 233 = .ok (.iload 6, 2) := by decide +kernel
theorem dX14_readTable_235 : decode cX14_readTable 235 = .ok (.iastore, 1) := by decide +kernel
theorem dX14_readTable_236 : decode cX14_readTable 236 = .ok (.iinc 5 1, 3) := by decide +kernel
theorem dX14_readTable_239 : decode cX14_readTable 239 = .ok (.goto (-83), 3) := by decide +kernel
theorem dX14_readTable_242 : decode cX14_readTable 242 = .ok (.aload_n 0, 1) := by decide +kernel
theorem dX14_readTable_243 : decode cX14_readTable 243 = .ok (.getfield 51, 3) := by decide +kernel
theorem dX14_readTable_246 : decode cX14_readTable 246 = .ok (.iload_n 1, 1) := by decide +kernel
theorem dX14_readTable_247 : decode cX14_readTable 247 = .ok (.iload_n 2, 1) := by decide +kernel
theorem dX14_readTable_248 : decode cX14_readTable 248 = .ok (.iastore, 1) := by decide +kernel
theorem dX14_readTable_249 : decode cX14_readTable 249 = .ok (.aload_n 0, 1) := by decide +kernel
theorem dX14_readTable_250 : decode cX14_readTable 250 = .ok (.getfield 100, 3) := by decide +kernel
theorem dX14_readTable_253 : decode cX14_readTable 253 = .ok (.ifCond .ne 10, 3) := by decide +kernel
theorem dX14_readTable_256 : decode cX14_readTable 256 = .ok (.aload_n 0, 1) := by decide +kernel
theorem dX14_readTable_257 : decode cX14_readTable 257 = .ok (.getfield 42, 3) := by decide +kernel
theorem dX14_readTable_260 : decode cX14_readTable 260 = .ok (.iload_n 1, 1) := by decide +kernel
theorem dX14_readTable_261 : decode cX14_readTable 261 = .ok (.iconst 1, 1) := by decide +kernel
theorem dX14_readTable_262 : decode cX14_readTable 262 = .ok (.bastore, 1) := by decide +kernel
theorem dX14_readTable_263 : decode cX14_readTable 263 = .ok (.return_, 1) := by decide +kernel
theorem flRX14_45 : px_f RX14 45 14 24 := ⟨_, rfl, by decide, Or.inl (tb6 (List.mem_of_getElem? (i := 137) rfl))⟩
theorem flRX14_48 : px_f RX14 48 14 25 := ⟨_, rfl, by decide, Or.inl (tb6 (List.mem_of_getElem? (i := 139) rfl))⟩
theorem flRX14_51 : px_f RX14 51 14 26 := ⟨_, rfl, by decide, Or.inl (tb6 (List.mem_of_getElem? (i := 141) rfl))⟩
theorem flRX14_73 : px_f RX14 73 14 35 := ⟨_, rfl, by decide, Or.inl (tb6 (List.mem_of_getElem? (i := 153) rfl))⟩
theorem kcX14_readTable_124 : px_cV mX14_readTable 124 mX14_next 0 := ⟨⟨mbX14_next, by decide, by decide⟩, Or.inl (tb8 (List.mem_of_getElem? (i := 131) rfl)), vbX14_next⟩
theorem kcX14_readTable_136 : px_cV mX14_readTable 136 mX14_must 1 := ⟨⟨mbX14_must, by decide, by decide⟩, Or.inl (tb8 (List.mem_of_getElem? (i := 171) rfl)), vbX14_must⟩
set_option maxRecDepth 100000 in
set_option maxHeartbeats 4000000 in
theorem eX14_readTable_210 {X : px_X} {k156 : Nat → Int32 → Int32 → Int32 → px_W → Option (px_W)} (hk156 : ∀ (a0 : Nat) (a1 : Int32) (a2 : Int32) (a5 : Int32) (w : px_W) (q : px_W), k156 a0 a1 a2 a5 w = some q → EV X mX14_readTable 156 [(0, .ref a0), (1, .int a1), (2, .int a2), (5, .int a5)] [] w none q) : ∀ (a0 : Nat) (a1 : Int32) (a2 : Int32) (a5 : Int32) (a6 : Int32) (s0 : Int32) (s1 : Nat) (w : px_W) (q : px_W), fX14_readTable_210 X k156 a0 a1 a2 a5 a6 s0 s1 w = some q → EV X mX14_readTable 210 [(0, .ref a0), (1, .int a1), (2, .int a2), (5, .int a5), (6, .int a6)] [.int s0, .ref s1] w none q := by
  intro a0 a1 a2 a5 a6 s0 s1 w q h
  unfold fX14_readTable_210 at h
  obtain ⟨o31, go31, h⟩ := px_bs h
  obtain ⟨q32, gq32, h⟩ := px_bs h
  refine EV.callV (As := [.int s0]) (rest := []) dX14_readTable_210 kcX14_readTable_136 (gO_ok go31) rfl rfl rfl (Nat.le_of_ble_eq_true rfl) (Nat.le_of_ble_eq_true rfl) (eX14_must gq32) ?_
  refine EV.aload_n 0 dX14_readTable_213 rfl rfl ?_
  obtain ⟨v33, gv33, h⟩ := px_bs h
  refine ev_gR dX14_readTable_214 flRX14_73 gv33 ?_
  refine EV.iload 4 dX14_readTable_217 rfl ?_
  refine EV.iconst (1) dX14_readTable_219 (by decide) ?_
  obtain ⟨w34, gw34, h⟩ := px_bs h
  refine ev_sZ dX14_readTable_220 gw34 ?_
  refine EV.aload_n 0 dX14_readTable_221 rfl rfl ?_
  obtain ⟨v35, gv35, h⟩ := px_bs h
  refine ev_gR dX14_readTable_222 flRX14_48 gv35 ?_
  refine EV.sipush (256) dX14_readTable_225 (by decide) ?_
  refine EV.iload_n 1 dX14_readTable_228 rfl rfl ?_
  refine EV.imul dX14_readTable_229 ?_
  refine EV.iload 3 dX14_readTable_230 rfl ?_
  refine EV.iadd dX14_readTable_232 ?_
  refine EV.iload 4 dX14_readTable_233 rfl ?_
  obtain ⟨w36, gw36, h⟩ := px_bs h
  refine ev_sI dX14_readTable_235 gw36 ?_
  refine EV.iinc 3 (a5 + 1) [(5, .int (a5 + 1)), (0, .ref a0), (1, .int a1), (2, .int a2), (6, .int a6)] dX14_readTable_236 rfl rfl (by decide) rfl ?_
  refine EV.goto 156 dX14_readTable_239 (by decide) ?_
  refine EV.sub [1, 2, 3, 0] rfl ?_
  exact hk156 _ _ _ _ _ _ h
set_option maxRecDepth 100000 in
set_option maxHeartbeats 4000000 in
theorem eX14_readTable_209 {X : px_X} {k156 : Nat → Int32 → Int32 → Int32 → px_W → Option (px_W)} (hk156 : ∀ (a0 : Nat) (a1 : Int32) (a2 : Int32) (a5 : Int32) (w : px_W) (q : px_W), k156 a0 a1 a2 a5 w = some q → EV X mX14_readTable 156 [(0, .ref a0), (1, .int a1), (2, .int a2), (5, .int a5)] [] w none q) : ∀ (a0 : Nat) (a1 : Int32) (a2 : Int32) (a5 : Int32) (a6 : Int32) (s0 : Nat) (w : px_W) (q : px_W), fX14_readTable_209 X k156 a0 a1 a2 a5 a6 s0 w = some q → EV X mX14_readTable 209 [(0, .ref a0), (1, .int a1), (2, .int a2), (5, .int a5), (6, .int a6)] [.ref s0] w none q := by
  intro a0 a1 a2 a5 a6 s0 w q h
  unfold fX14_readTable_209 at h
  refine EV.iconst (0) dX14_readTable_209 (by decide) ?_
  refine EV.sub [0, 1, 2, 3, 4] rfl ?_
  exact eX14_readTable_210 hk156 _ _ _ _ _ _ _ _ _ h
set_option maxRecDepth 100000 in
set_option maxHeartbeats 4000000 in
theorem eX14_readTable_242 {X : px_X}  : ∀ (a0 : Nat) (a1 : Int32) (a2 : Int32) (w : px_W) (q : px_W), fX14_readTable_242 X  a0 a1 a2 w = some q → EV X mX14_readTable 242 [(0, .ref a0), (1, .int a1), (2, .int a2)] [] w none q := by
  intro a0 a1 a2 w q h
  unfold fX14_readTable_242 at h
  refine EV.aload_n 0 dX14_readTable_242 rfl rfl ?_
  obtain ⟨v37, gv37, h⟩ := px_bs h
  refine ev_gR dX14_readTable_243 flRX14_51 gv37 ?_
  refine EV.iload_n 1 dX14_readTable_246 rfl rfl ?_
  refine EV.iload_n 2 dX14_readTable_247 rfl rfl ?_
  obtain ⟨w38, gw38, h⟩ := px_bs h
  refine ev_sI dX14_readTable_248 gw38 ?_
  refine EV.aload_n 0 dX14_readTable_249 rfl rfl ?_
  obtain ⟨v39, gv39, h⟩ := px_bs h
  refine ev_gI dX14_readTable_250 flRX14_100 gv39 ?_
  refine EV.if_ne 263 dX14_readTable_253 (by decide) (fun c40 => ?_) (fun c40 => ?_)
  · rw [if_neg c40] at h
    cases h
    exact EV.ret0 dX14_readTable_263 trivial
  · rw [if_pos c40] at h
    refine EV.aload_n 0 dX14_readTable_256 rfl rfl ?_
    obtain ⟨v41, gv41, h⟩ := px_bs h
    refine ev_gR dX14_readTable_257 flRX14_42 gv41 ?_
    refine EV.iload_n 1 dX14_readTable_260 rfl rfl ?_
    refine EV.iconst (1) dX14_readTable_261 (by decide) ?_
    obtain ⟨w42, gw42, h⟩ := px_bs h
    refine ev_sZ dX14_readTable_262 gw42 ?_
    cases h
    exact EV.ret0 dX14_readTable_263 trivial
set_option maxRecDepth 100000 in
set_option maxHeartbeats 4000000 in
theorem eX14_readTable_205 {X : px_X} {k156 : Nat → Int32 → Int32 → Int32 → px_W → Option (px_W)} (hk156 : ∀ (a0 : Nat) (a1 : Int32) (a2 : Int32) (a5 : Int32) (w : px_W) (q : px_W), k156 a0 a1 a2 a5 w = some q → EV X mX14_readTable 156 [(0, .ref a0), (1, .int a1), (2, .int a2), (5, .int a5)] [] w none q) : ∀ (a0 : Nat) (a1 : Int32) (a2 : Int32) (a5 : Int32) (a6 : Int32) (s0 : Nat) (w : px_W) (q : px_W), fX14_readTable_205 X k156 a0 a1 a2 a5 a6 s0 w = some q → EV X mX14_readTable 205 [(0, .ref a0), (1, .int a1), (2, .int a2), (5, .int a5), (6, .int a6)] [.ref s0] w none q := by
  intro a0 a1 a2 a5 a6 s0 w q h
  unfold fX14_readTable_205 at h
  refine EV.iconst (1) dX14_readTable_205 (by decide) ?_
  refine EV.goto 210 dX14_readTable_206 (by decide) ?_
  refine EV.sub [0, 1, 2, 3, 4] rfl ?_
  exact eX14_readTable_210 hk156 _ _ _ _ _ _ _ _ _ h
set_option maxRecDepth 100000 in
set_option maxHeartbeats 4000000 in
theorem eX14_readTable_156 {X : px_X}  : ∀ (m : Nat) (a0 : Nat) (a1 : Int32) (a2 : Int32) (a5 : Int32) (w : px_W) (q : px_W), fX14_readTable_156 X  m a0 a1 a2 a5 w = some q → EV X mX14_readTable 156 [(0, .ref a0), (1, .int a1), (2, .int a2), (5, .int a5)] [] w none q := by
  intro m
  induction m with
  | zero => intro a0 a1 a2 a5 w q h; cases h
  | succ m ih =>
    intro a0 a1 a2 a5 w q h
    rw [fX14_readTable_156.eq_2] at h
    refine EV.iload 3 dX14_readTable_156 rfl ?_
    refine EV.iload_n 2 dX14_readTable_158 rfl rfl ?_
    refine EV.icmp_ge 242 dX14_readTable_159 (by decide) (fun c43 => ?_) (fun c43 => ?_)
    · rw [if_pos c43] at h
      refine EV.sub [0, 1, 2] rfl ?_
      exact eX14_readTable_242  _ _ _ _ _ h
    · rw [if_neg c43] at h
      refine EV.aload_n 0 dX14_readTable_162 rfl rfl ?_
      obtain ⟨v44, gv44, h⟩ := px_bs h
      refine ev_gI dX14_readTable_163 flRX14_100 gv44 ?_
      refine EV.if_ne 242 dX14_readTable_166 (by decide) (fun c45 => ?_) (fun c45 => ?_)
      · rw [if_neg c45] at h
        refine EV.sub [0, 1, 2] rfl ?_
        exact eX14_readTable_242  _ _ _ _ _ h
      · rw [if_pos c45] at h
        refine EV.aload_n 0 dX14_readTable_169 rfl rfl ?_
        obtain ⟨o46, go46, h⟩ := px_bs h
        obtain ⟨q47, gq47, h⟩ := px_bs h
        refine EV.callV (As := []) (rest := []) dX14_readTable_170 kcX14_readTable_124 (gO_ok go46) rfl rfl rfl (Nat.le_of_ble_eq_true rfl) (Nat.le_of_ble_eq_true rfl) (eX14_next gq47) ?_
        refine EV.istore [(6, .int q47.1), (0, .ref a0), (1, .int a1), (2, .int a2), (5, .int a5)] dX14_readTable_173 (by decide) rfl ?_
        refine EV.aload_n 1 dX14_readTable_175 rfl rfl ?_
        refine EV.aload_n 1 dX14_readTable_176 rfl rfl ?_
        obtain ⟨v48, gv48, h⟩ := px_bs h
        refine ev_gI dX14_readTable_177 flRX14_100 gv48 ?_
        refine EV.if_gt 205 dX14_readTable_180 (by decide) (fun c49 => ?_) (fun c49 => ?_)
        · rw [if_pos c49] at h
          refine EV.sub [1, 2, 3, 4, 0] rfl ?_
          exact eX14_readTable_205 ih _ _ _ _ _ _ _ _ h
        · rw [if_neg c49] at h
          refine EV.aload_n 1 dX14_readTable_183 rfl rfl ?_
          obtain ⟨v50, gv50, h⟩ := px_bs h
          refine ev_gR dX14_readTable_184 flRX14_73 gv50 ?_
          refine EV.iload 0 dX14_readTable_187 rfl ?_
          obtain ⟨v51, gv51, h⟩ := px_bs h
          refine ev_aZ dX14_readTable_189 gv51 ?_
          refine EV.if_ne 209 dX14_readTable_190 (by decide) (fun c52 => ?_) (fun c52 => ?_)
          · rw [if_neg c52] at h
            refine EV.sub [1, 2, 3, 4, 0] rfl ?_
            exact eX14_readTable_209 ih _ _ _ _ _ _ _ _ h
          · rw [if_pos c52] at h
            refine EV.iload_n 2 dX14_readTable_193 rfl rfl ?_
            refine EV.iconst (3) dX14_readTable_194 (by decide) ?_
            refine EV.icmp_gt 205 dX14_readTable_195 (by decide) (fun c53 => ?_) (fun c53 => ?_)
            · rw [if_pos c53] at h
              refine EV.sub [1, 2, 3, 4, 0] rfl ?_
              exact eX14_readTable_205 ih _ _ _ _ _ _ _ _ h
            · rw [if_neg c53] at h
              refine EV.iload 0 dX14_readTable_198 rfl ?_
              refine EV.bipush (12) dX14_readTable_200 (by decide) ?_
              refine EV.icmp_ge 209 dX14_readTable_202 (by decide) (fun c54 => ?_) (fun c54 => ?_)
              · rw [if_pos c54] at h
                refine EV.sub [1, 2, 3, 4, 0] rfl ?_
                exact eX14_readTable_209 ih _ _ _ _ _ _ _ _ h
              · rw [if_neg c54] at h
                refine EV.sub [1, 2, 3, 4, 0] rfl ?_
                exact eX14_readTable_205 ih _ _ _ _ _ _ _ _ h
set_option maxRecDepth 100000 in
set_option maxHeartbeats 4000000 in
theorem eX14_readTable_153 {X : px_X}  : ∀ (a0 : Nat) (a1 : Int32) (a2 : Int32) (w : px_W) (q : px_W), fX14_readTable_153 X  a0 a1 a2 w = some q → EV X mX14_readTable 153 [(0, .ref a0), (1, .int a1), (2, .int a2)] [] w none q := by
  intro a0 a1 a2 w q h
  unfold fX14_readTable_153 at h
  refine EV.iconst (0) dX14_readTable_153 (by decide) ?_
  refine EV.istore [(5, .int 0), (0, .ref a0), (1, .int a1), (2, .int a2)] dX14_readTable_154 (by decide) rfl ?_
  refine EV.sub [1, 2, 3, 0] rfl ?_
  exact eX14_readTable_156  FU _ _ _ _ _ _ h
set_option maxRecDepth 100000 in
set_option maxHeartbeats 4000000 in
theorem eX14_readTable_131 {X : px_X}  : ∀ (m : Nat) (a0 : Nat) (a1 : Int32) (a2 : Int32) (a5 : Int32) (w : px_W) (q : px_W), fX14_readTable_131 X  m a0 a1 a2 a5 w = some q → EV X mX14_readTable 131 [(0, .ref a0), (1, .int a1), (2, .int a2), (5, .int a5)] [] w none q := by
  intro m
  induction m with
  | zero => intro a0 a1 a2 a5 w q h; cases h
  | succ m ih =>
    intro a0 a1 a2 a5 w q h
    rw [fX14_readTable_131.eq_2] at h
    refine EV.iload 3 dX14_readTable_131 rfl ?_
    refine EV.sipush (256) dX14_readTable_133 (by decide) ?_
    refine EV.icmp_ge 153 dX14_readTable_136 (by decide) (fun c55 => ?_) (fun c55 => ?_)
    · rw [if_pos c55] at h
      refine EV.sub [0, 1, 2] rfl ?_
      exact eX14_readTable_153  _ _ _ _ _ h
    · rw [if_neg c55] at h
      refine EV.aload_n 0 dX14_readTable_139 rfl rfl ?_
      obtain ⟨v56, gv56, h⟩ := px_bs h
      refine ev_gR dX14_readTable_140 flRX14_73 gv56 ?_
      refine EV.iload 3 dX14_readTable_143 rfl ?_
      refine EV.iconst (0) dX14_readTable_145 (by decide) ?_
      obtain ⟨w57, gw57, h⟩ := px_bs h
      refine ev_sZ dX14_readTable_146 gw57 ?_
      refine EV.iinc 3 (a5 + 1) [(5, .int (a5 + 1)), (0, .ref a0), (1, .int a1), (2, .int a2)] dX14_readTable_147 rfl rfl (by decide) rfl ?_
      refine EV.goto 131 dX14_readTable_150 (by decide) ?_
      refine EV.sub [1, 2, 3, 0] rfl ?_
      exact ih _ _ _ _ _ _ h
set_option maxRecDepth 100000 in
set_option maxHeartbeats 4000000 in
theorem eX14_readTable_128 {X : px_X}  : ∀ (a0 : Nat) (a1 : Int32) (a2 : Int32) (w : px_W) (q : px_W), fX14_readTable_128 X  a0 a1 a2 w = some q → EV X mX14_readTable 128 [(0, .ref a0), (1, .int a1), (2, .int a2)] [] w none q := by
  intro a0 a1 a2 w q h
  unfold fX14_readTable_128 at h
  refine EV.iconst (0) dX14_readTable_128 (by decide) ?_
  refine EV.istore [(5, .int 0), (0, .ref a0), (1, .int a1), (2, .int a2)] dX14_readTable_129 (by decide) rfl ?_
  refine EV.sub [1, 2, 3, 0] rfl ?_
  exact eX14_readTable_131  FU _ _ _ _ _ _ h
set_option maxRecDepth 100000 in
set_option maxHeartbeats 4000000 in
theorem eX14_readTable_119 {X : px_X} {k7 : Nat → Int32 → Int32 → Int64 → Int32 → px_W → Option (px_W)} (hk7 : ∀ (a0 : Nat) (a1 : Int32) (a2 : Int32) (a3 : Int64) (a5 : Int32) (w : px_W) (q : px_W), k7 a0 a1 a2 a3 a5 w = some q → EV X mX14_readTable 7 [(0, .ref a0), (1, .int a1), (2, .int a2), (3, .long a3), (5, .int a5)] [] w none q) : ∀ (a0 : Nat) (a1 : Int32) (a2 : Int32) (a3 : Int64) (a5 : Int32) (s0 : Int32) (s1 : Nat) (w : px_W) (q : px_W), fX14_readTable_119 X k7 a0 a1 a2 a3 a5 s0 s1 w = some q → EV X mX14_readTable 119 [(0, .ref a0), (1, .int a1), (2, .int a2), (3, .long a3), (5, .int a5)] [.int s0, .ref s1] w none q := by
  intro a0 a1 a2 a3 a5 s0 s1 w q h
  unfold fX14_readTable_119 at h
  obtain ⟨o58, go58, h⟩ := px_bs h
  obtain ⟨q59, gq59, h⟩ := px_bs h
  refine EV.callV (As := [.int s0]) (rest := []) dX14_readTable_119 kcX14_readTable_136 (gO_ok go58) rfl rfl rfl (Nat.le_of_ble_eq_true rfl) (Nat.le_of_ble_eq_true rfl) (eX14_must gq59) ?_
  refine EV.iinc 4 (a5 + 1) [(5, .int (a5 + 1)), (0, .ref a0), (1, .int a1), (2, .int a2), (3, .long a3)] dX14_readTable_122 rfl rfl (by decide) rfl ?_
  refine EV.goto 7 dX14_readTable_125 (by decide) ?_
  refine EV.sub [1, 2, 3, 4, 0] rfl ?_
  exact hk7 _ _ _ _ _ _ _ h
set_option maxRecDepth 100000 in
set_option maxHeartbeats 4000000 in
theorem eX14_readTable_114 {X : px_X} {k7 : Nat → Int32 → Int32 → Int64 → Int32 → px_W → Option (px_W)} (hk7 : ∀ (a0 : Nat) (a1 : Int32) (a2 : Int32) (a3 : Int64) (a5 : Int32) (w : px_W) (q : px_W), k7 a0 a1 a2 a3 a5 w = some q → EV X mX14_readTable 7 [(0, .ref a0), (1, .int a1), (2, .int a2), (3, .long a3), (5, .int a5)] [] w none q) : ∀ (a0 : Nat) (a1 : Int32) (a2 : Int32) (a3 : Int64) (a5 : Int32) (s0 : Nat) (w : px_W) (q : px_W), fX14_readTable_114 X k7 a0 a1 a2 a3 a5 s0 w = some q → EV X mX14_readTable 114 [(0, .ref a0), (1, .int a1), (2, .int a2), (3, .long a3), (5, .int a5)] [.ref s0] w none q := by
  intro a0 a1 a2 a3 a5 s0 w q h
  unfold fX14_readTable_114 at h
  refine EV.iconst (1) dX14_readTable_114 (by decide) ?_
  refine EV.goto 119 dX14_readTable_115 (by decide) ?_
  refine EV.sub [0, 1, 2, 3, 4] rfl ?_
  exact eX14_readTable_119 hk7 _ _ _ _ _ _ _ _ _ h
set_option maxRecDepth 100000 in
set_option maxHeartbeats 4000000 in
theorem eX14_readTable_92 {X : px_X} {k7 : Nat → Int32 → Int32 → Int64 → Int32 → px_W → Option (px_W)} (hk7 : ∀ (a0 : Nat) (a1 : Int32) (a2 : Int32) (a3 : Int64) (a5 : Int32) (w : px_W) (q : px_W), k7 a0 a1 a2 a3 a5 w = some q → EV X mX14_readTable 7 [(0, .ref a0), (1, .int a1), (2, .int a2), (3, .long a3), (5, .int a5)] [] w none q) : ∀ (a0 : Nat) (a1 : Int32) (a2 : Int32) (a3 : Int64) (a5 : Int32) (s0 : Int32) (s1 : Nat) (w : px_W) (q : px_W), fX14_readTable_92 X k7 a0 a1 a2 a3 a5 s0 s1 w = some q → EV X mX14_readTable 92 [(0, .ref a0), (1, .int a1), (2, .int a2), (3, .long a3), (5, .int a5)] [.int s0, .ref s1] w none q := by
  intro a0 a1 a2 a3 a5 s0 s1 w q h
  unfold fX14_readTable_92 at h
  obtain ⟨o60, go60, h⟩ := px_bs h
  obtain ⟨q61, gq61, h⟩ := px_bs h
  refine EV.callV (As := [.int s0]) (rest := []) dX14_readTable_92 kcX14_readTable_136 (gO_ok go60) rfl rfl rfl (Nat.le_of_ble_eq_true rfl) (Nat.le_of_ble_eq_true rfl) (eX14_must gq61) ?_
  refine EV.aload_n 0 dX14_readTable_95 rfl rfl ?_
  refine EV.aload_n 0 dX14_readTable_96 rfl rfl ?_
  obtain ⟨v62, gv62, h⟩ := px_bs h
  refine ev_gI dX14_readTable_97 flRX14_100 gv62 ?_
  refine EV.if_gt 114 dX14_readTable_100 (by decide) (fun c63 => ?_) (fun c63 => ?_)
  · rw [if_pos c63] at h
    refine EV.sub [0, 1, 2, 3, 4] rfl ?_
    exact eX14_readTable_114 hk7 _ _ _ _ _ _ _ _ h
  · rw [if_neg c63] at h
    refine EV.iload 4 dX14_readTable_103 rfl ?_
    refine EV.bipush (16) dX14_readTable_105 (by decide) ?_
    refine EV.icmp_lt 114 dX14_readTable_107 (by decide) (fun c64 => ?_) (fun c64 => ?_)
    · rw [if_pos c64] at h
      refine EV.sub [0, 1, 2, 3, 4] rfl ?_
      exact eX14_readTable_114 hk7 _ _ _ _ _ _ _ _ h
    · rw [if_neg c64] at h
      refine EV.iload_n 2 dX14_readTable_110 rfl rfl ?_
      refine EV.if_le 118 dX14_readTable_111 (by decide) (fun c65 => ?_) (fun c65 => ?_)
      · rw [if_pos c65] at h
        refine EV.iconst (0) dX14_readTable_118 (by decide) ?_
        refine EV.sub [0, 1, 2, 3, 4] rfl ?_
        exact eX14_readTable_119 hk7 _ _ _ _ _ _ _ _ _ h
      · rw [if_neg c65] at h
        refine EV.sub [0, 1, 2, 3, 4] rfl ?_
        exact eX14_readTable_114 hk7 _ _ _ _ _ _ _ _ h
set_option maxRecDepth 100000 in
set_option maxHeartbeats 4000000 in
theorem eX14_readTable_91 {X : px_X} {k7 : Nat → Int32 → Int32 → Int64 → Int32 → px_W → Option (px_W)} (hk7 : ∀ (a0 : Nat) (a1 : Int32) (a2 : Int32) (a3 : Int64) (a5 : Int32) (w : px_W) (q : px_W), k7 a0 a1 a2 a3 a5 w = some q → EV X mX14_readTable 7 [(0, .ref a0), (1, .int a1), (2, .int a2), (3, .long a3), (5, .int a5)] [] w none q) : ∀ (a0 : Nat) (a1 : Int32) (a2 : Int32) (a3 : Int64) (a5 : Int32) (s0 : Nat) (w : px_W) (q : px_W), fX14_readTable_91 X k7 a0 a1 a2 a3 a5 s0 w = some q → EV X mX14_readTable 91 [(0, .ref a0), (1, .int a1), (2, .int a2), (3, .long a3), (5, .int a5)] [.ref s0] w none q := by
  intro a0 a1 a2 a3 a5 s0 w q h
  unfold fX14_readTable_91 at h
  refine EV.iconst (0) dX14_readTable_91 (by decide) ?_
  refine EV.sub [0, 1, 2, 3, 4] rfl ?_
  exact eX14_readTable_92 hk7 _ _ _ _ _ _ _ _ _ h
set_option maxRecDepth 100000 in
set_option maxHeartbeats 4000000 in
theorem eX14_readTable_87 {X : px_X} {k7 : Nat → Int32 → Int32 → Int64 → Int32 → px_W → Option (px_W)} (hk7 : ∀ (a0 : Nat) (a1 : Int32) (a2 : Int32) (a3 : Int64) (a5 : Int32) (w : px_W) (q : px_W), k7 a0 a1 a2 a3 a5 w = some q → EV X mX14_readTable 7 [(0, .ref a0), (1, .int a1), (2, .int a2), (3, .long a3), (5, .int a5)] [] w none q) : ∀ (a0 : Nat) (a1 : Int32) (a2 : Int32) (a3 : Int64) (a5 : Int32) (s0 : Nat) (w : px_W) (q : px_W), fX14_readTable_87 X k7 a0 a1 a2 a3 a5 s0 w = some q → EV X mX14_readTable 87 [(0, .ref a0), (1, .int a1), (2, .int a2), (3, .long a3), (5, .int a5)] [.ref s0] w none q := by
  intro a0 a1 a2 a3 a5 s0 w q h
  unfold fX14_readTable_87 at h
  refine EV.iconst (1) dX14_readTable_87 (by decide) ?_
  refine EV.goto 92 dX14_readTable_88 (by decide) ?_
  refine EV.sub [0, 1, 2, 3, 4] rfl ?_
  exact eX14_readTable_92 hk7 _ _ _ _ _ _ _ _ _ h
set_option maxRecDepth 100000 in
set_option maxHeartbeats 4000000 in
theorem eX14_readTable_7 {X : px_X}  : ∀ (m : Nat) (a0 : Nat) (a1 : Int32) (a2 : Int32) (a3 : Int64) (a5 : Int32) (w : px_W) (q : px_W), fX14_readTable_7 X  m a0 a1 a2 a3 a5 w = some q → EV X mX14_readTable 7 [(0, .ref a0), (1, .int a1), (2, .int a2), (3, .long a3), (5, .int a5)] [] w none q := by
  intro m
  induction m with
  | zero => intro a0 a1 a2 a3 a5 w q h; cases h
  | succ m ih =>
    intro a0 a1 a2 a3 a5 w q h
    rw [fX14_readTable_7.eq_2] at h
    refine EV.iload 4 dX14_readTable_7 rfl ?_
    refine EV.bipush (16) dX14_readTable_9 (by decide) ?_
    refine EV.icmp_gt 128 dX14_readTable_11 (by decide) (fun c66 => ?_) (fun c66 => ?_)
    · rw [if_pos c66] at h
      refine EV.sub [0, 1, 2] rfl ?_
      exact eX14_readTable_128  _ _ _ _ _ h
    · rw [if_neg c66] at h
      refine EV.aload_n 0 dX14_readTable_14 rfl rfl ?_
      obtain ⟨v67, gv67, h⟩ := px_bs h
      refine ev_gI dX14_readTable_15 flRX14_100 gv67 ?_
      refine EV.if_ne 128 dX14_readTable_18 (by decide) (fun c68 => ?_) (fun c68 => ?_)
      · rw [if_neg c68] at h
        refine EV.sub [0, 1, 2] rfl ?_
        exact eX14_readTable_128  _ _ _ _ _ h
      · rw [if_pos c68] at h
        refine EV.aload_n 0 dX14_readTable_21 rfl rfl ?_
        obtain ⟨o69, go69, h⟩ := px_bs h
        obtain ⟨q70, gq70, h⟩ := px_bs h
        refine EV.callV (As := []) (rest := []) dX14_readTable_22 kcX14_readTable_124 (gO_ok go69) rfl rfl rfl (Nat.le_of_ble_eq_true rfl) (Nat.le_of_ble_eq_true rfl) (eX14_next gq70) ?_
        refine EV.istore [(6, .int q70.1), (0, .ref a0), (1, .int a1), (2, .int a2), (3, .long a3), (5, .int a5)] dX14_readTable_25 (by decide) rfl ?_
        refine EV.aload_n 1 dX14_readTable_27 rfl rfl ?_
        obtain ⟨v71, gv71, h⟩ := px_bs h
        refine ev_gR dX14_readTable_28 flRX14_45 gv71 ?_
        refine EV.bipush (17) dX14_readTable_31 (by decide) ?_
        refine EV.iload_n 2 dX14_readTable_33 rfl rfl ?_
        refine EV.imul dX14_readTable_34 ?_
        refine EV.iload 5 dX14_readTable_35 rfl ?_
        refine EV.iadd dX14_readTable_37 ?_
        refine EV.iload 0 dX14_readTable_38 rfl ?_
        obtain ⟨w72, gw72, h⟩ := px_bs h
        refine ev_sI dX14_readTable_40 gw72 ?_
        refine EV.iload_n 3 dX14_readTable_41 rfl rfl ?_
        refine EV.iload 0 dX14_readTable_42 rfl ?_
        refine EV.iadd dX14_readTable_44 ?_
        refine EV.istore_n [(2, .int (a2 + q70.1)), (6, .int q70.1), (0, .ref a0), (1, .int a1), (3, .long a3), (5, .int a5)] dX14_readTable_45 rfl (by decide) rfl ?_
        refine EV.ldc2 (v := 2) dX14_readTable_46 (tb8 (List.mem_of_getElem? (i := 183) rfl)) ?_
        refine EV.lload_n 4 dX14_readTable_49 rfl rfl ?_
        refine EV.lmul dX14_readTable_50 ?_
        refine EV.iload 1 dX14_readTable_51 rfl ?_
        refine EV.i2l dX14_readTable_53 ?_
        refine EV.ladd dX14_readTable_54 ?_
        refine EV.lstore_n [(3, .long ((2 * a3) + q70.1.toInt64)), (2, .int (a2 + q70.1)), (6, .int q70.1), (0, .ref a0), (1, .int a1), (5, .int a5)] dX14_readTable_55 rfl (by decide) rfl ?_
        refine EV.aload_n 3 dX14_readTable_56 rfl rfl ?_
        refine EV.aload_n 3 dX14_readTable_57 rfl rfl ?_
        obtain ⟨v73, gv73, h⟩ := px_bs h
        refine ev_gI dX14_readTable_58 flRX14_100 gv73 ?_
        refine EV.if_gt 87 dX14_readTable_61 (by decide) (fun c74 => ?_) (fun c74 => ?_)
        · rw [if_pos c74] at h
          refine EV.sub [3, 4, 1, 0, 5] rfl ?_
          exact eX14_readTable_87 ih _ _ _ _ _ _ _ _ h
        · rw [if_neg c74] at h
          refine EV.iload_n 1 dX14_readTable_64 rfl rfl ?_
          refine EV.sipush (256) dX14_readTable_65 (by decide) ?_
          refine EV.icmp_gt 91 dX14_readTable_68 (by decide) (fun c75 => ?_) (fun c75 => ?_)
          · rw [if_pos c75] at h
            refine EV.sub [3, 4, 1, 0, 5] rfl ?_
            exact eX14_readTable_91 ih _ _ _ _ _ _ _ _ h
          · rw [if_neg c75] at h
            refine EV.iload 2 dX14_readTable_71 rfl ?_
            refine EV.if_eq 87 dX14_readTable_73 (by decide) (fun c76 => ?_) (fun c76 => ?_)
            · rw [if_pos c76] at h
              refine EV.sub [3, 4, 1, 0, 5] rfl ?_
              exact eX14_readTable_87 ih _ _ _ _ _ _ _ _ h
            · rw [if_neg c76] at h
              refine EV.lload_n 0 dX14_readTable_76 rfl rfl ?_
              refine EV.lconst (1) dX14_readTable_77 (by decide) ?_
              refine EV.iload 5 dX14_readTable_78 rfl ?_
              refine EV.lshl dX14_readTable_80 ?_
              refine EV.lconst (1) dX14_readTable_81 (by decide) ?_
              refine EV.lsub dX14_readTable_82 ?_
              refine EV.lcmp dX14_readTable_83 ?_
              refine EV.if_gt 91 dX14_readTable_84 (by decide) (fun c77 => ?_) (fun c77 => ?_)
              · rw [if_pos c77] at h
                refine EV.sub [3, 4, 1, 0, 5] rfl ?_
                exact eX14_readTable_91 ih _ _ _ _ _ _ _ _ h
              · rw [if_neg c77] at h
                refine EV.sub [3, 4, 1, 0, 5] rfl ?_
                exact eX14_readTable_87 ih _ _ _ _ _ _ _ _ h
set_option maxRecDepth 100000 in
set_option maxHeartbeats 4000000 in
theorem eX14_readTable {X : px_X} {w : px_W} {a0 : Nat} {a1 : Int32} {q : px_W} (h : fX14_readTable X w a0 a1 = some q) : EV X mX14_readTable 0 (lv_args 0 [.ref a0, .int a1]) [] w none q := by
  unfold fX14_readTable at h
  show EV X mX14_readTable 0 [(0, .ref a0), (1, .int a1)] [] w none q
  refine EV.iconst (0) dX14_readTable_0 (by decide) ?_
  refine EV.istore_n [(2, .int 0), (0, .ref a0), (1, .int a1)] dX14_readTable_1 rfl (by decide) rfl ?_
  refine EV.lconst (0) dX14_readTable_2 (by decide) ?_
  refine EV.lstore_n [(3, .long 0), (2, .int 0), (0, .ref a0), (1, .int a1)] dX14_readTable_3 rfl (by decide) rfl ?_
  refine EV.iconst (1) dX14_readTable_4 (by decide) ?_
  refine EV.istore [(5, .int 1), (3, .long 0), (2, .int 0), (0, .ref a0), (1, .int a1)] dX14_readTable_5 (by decide) rfl ?_
  refine EV.sub [3, 4, 2, 1, 0] rfl ?_
  exact eX14_readTable_7  FU _ _ _ _ _ _ _ h
/-! WavePicturesModel$Segments.readWords()V -/
theorem dX14_readWords_0 : decode cX14_readWords 0 = .ok (.iconst 1, 1) := by decide +kernel
theorem dX14_readWords_1 : decode cX14_readWords 1 = .ok (.istore_n 1, 1) := by decide +kernel
theorem dX14_readWords_2 : decode cX14_readWords 2 = .ok (.iload_n 1, 1) := by decide +kernel
theorem dX14_readWords_3 : decode cX14_readWords 3 = .ok (.ifCond .eq 94, 3) := by decide +kernel
theorem dX14_readWords_6 : decode cX14_readWords 6 = .ok (.aload_n 0, 1) := by decide +kernel
theorem dX14_readWords_7 : decode cX14_readWords 7 = .ok (.getfield 100, 3) := by decide +kernel
theorem dX14_readWords_10 : decode cX14_readWords 10 = .ok (.ifCond .ne 87, 3) := by decide +kernel
theorem dX14_readWords_13 : decode cX14_readWords 13 = .ok (.aload_n 0, 1) := by decide +kernel
theorem dX14_readWords_14 : decode cX14_readWords 14 = .ok (.invokevirtual 124, 3) := by decide +kernel
theorem dX14_readWords_17 : decode cX14_readWords 17 = .ok (.istore_n 2, 1) := by decide +kernel
theorem dX14_readWords_18 : decode cX14_readWords 18 = .ok (.aload_n 0, 1) := by decide +kernel
theorem dX14_readWords_19 : decode cX14_readWords 19 = .ok (.aload_n 0, 1) := by decide +kernel
theorem dX14_readWords_20 : decode cX14_readWords 20 = .ok (.getfield 100, 3) := by decide +kernel
theorem dX14_readWords_23 : decode cX14_readWords 23 = .ok (.ifCond .gt 20, 3) := by decide +kernel
theorem dX14_readWords_26 : decode cX14_readWords 26 = .ok (.iload_n 2, 1) := by decide +kernel
theorem dX14_readWords_27 : decode cX14_readWords 27 = .ok (.iconst 4, 1) := by decide +kernel
theorem dX14_readWords_28 : decode cX14_readWords 28 = .ok (.if_icmp .lt 15, 3) := by decide +kernel
theorem dX14_readWords_31 : decode cX14_readWords 31 = .ok (.iload_n 2, 1) := by decide +kernel
theorem dX14_readWords_32 : decode cX14_readWords 32 = .ok (.bipush 16, 2) := by decide +kernel
theorem dX14_readWords_34 : decode cX14_readWords 34 = .ok (.if_icmp .lt 13, 3) := by decide +kernel
theorem dX14_readWords_37 : decode cX14_readWords 37 = .ok (.iload_n 2, 1) := by decide +kernel
theorem dX14_readWords_38 : decode cX14_readWords 38 = .ok (.bipush 20, 2) := by decide +kernel
theorem dX14_readWords_40 : decode cX14_readWords 40 = .ok (.if_icmp .ge 7, 3) := by decide +kernel
theorem dX14_readWords_43 : decode cX14_readWords 43 = .ok (.iconst 1, 1) := by decide +kernel
theorem dX14_readWords_44 : decode cX14_readWords 44 = .ok (.goto 4, 3) := by decide +kernel
theorem dX14_readWords_47 : decode cX14_readWords 47 = .ok (.iconst 0, 1) := by decide +kernel
theorem dX14_readWords_48 : decode cX14_readWords 48 = .ok (.invokevirtual 136, 3) := by decide +kernel
theorem dX14_readWords_51 : decode cX14_readWords 51 = .ok (.iload_n 2, 1) := by decide +kernel
theorem dX14_readWords_52 : decode cX14_readWords 52 = .ok (.iconst 4, 1) := by decide +kernel
theorem dX14_readWords_53 : decode cX14_readWords 53 = .ok (.if_icmp .ge 7, 3) := by decide +kernel
theorem dX14_readWords_56 : decode cX14_readWords 56 = .ok (.iload_n 2, 1) := by decide +kernel
theorem dX14_readWords_57 : decode cX14_readWords 57 = .ok (.goto 7, 3) := by decide +kernel
theorem dX14_readWords_60 : decode cX14_readWords 60 = .ok (.iload_n 2, 1) := by decide +kernel
theorem dX14_readWords_61 : decode cX14_readWords 61 = .ok (.bipush 12, 2) := by decide +kernel
theorem dX14_readWords_63 : decode cX14_readWords 63 = .ok (.isub, 1) := by decide +kernel
theorem dX14_readWords_64 : decode cX14_readWords 64 = .ok (.istore_n 3, 1) := by decide +kernel
theorem dX14_readWords_65 : decode cX14_readWords 65 = .ok (.aload_n 0, 1) := by decide +kernel
theorem dX14_readWords_66 : decode cX14_readWords 66 = .ok (.getfield 100, 3) := by decide +kernel
theorem dX14_readWords_69 : decode cX14_readWords 69 = .ok (.ifCond .ne 8, 3) := by decide +kernel
theorem dX14_readWords_72 : decode cX14_readWords 72 = .ok (.aload_n 0, 1) := by decide +kernel
theorem dX14_readWords_73 : decode cX14_readWords 73 = .ok (.iload_n 3, 1) := by decide +kernel
theorem dX14_readWords_74 : decode cX14_readWords 74 = .ok (.invokevirtual 140, 3) := by decide +kernel
theorem dX14_readWords_77 : decode cX14_readWords 77 = .ok (.aload_n 0, 1) := by decide +kernel
theorem dX14_readWords_78 : decode cX14_readWords 78 = .ok (.getfield 106, 3) := by decide +kernel
theorem dX14_readWords_81 : decode cX14_readWords 81 = .ok (.aload_n 0, 1) := by decide +kernel
theorem dX14_readWords_82 : decode cX14_readWords 82 = .ok (.getfield 103, 3) := by decide +kernel
theorem dX14_readWords_85 : decode cX14_readWords 85 = .ok (.if_icmp .ge 7, 3) := by decide +kernel
theorem dX14_readWords_88 : decode cX14_readWords 88 = .ok (.iconst 1, 1) := by decide +kernel
theorem dX14_readWords_89 : decode cX14_readWords 89 = .ok (.goto 4, 3) := by decide +kernel
theorem dX14_readWords_92 : decode cX14_readWords 92 = .ok (.iconst 0, 1) := by decide +kernel
theorem dX14_readWords_93 : decode cX14_readWords 93 = .ok (.istore_n 1, 1) := by decide +kernel
theorem dX14_readWords_94 : decode cX14_readWords 94 = .ok (.goto (-92), 3) := by decide +kernel
theorem dX14_readWords_97 : decode cX14_readWords 97 = .ok (.return_, 1) := by decide +kernel
theorem kcX14_readWords_124 : px_cV mX14_readWords 124 mX14_next 0 := ⟨⟨mbX14_next, by decide, by decide⟩, Or.inl (tb8 (List.mem_of_getElem? (i := 131) rfl)), vbX14_next⟩
theorem kcX14_readWords_136 : px_cV mX14_readWords 136 mX14_must 1 := ⟨⟨mbX14_must, by decide, by decide⟩, Or.inl (tb8 (List.mem_of_getElem? (i := 171) rfl)), vbX14_must⟩
theorem mbX14_readTable : px_mB mX14_readTable 1 := ⟨tb8 (List.mem_of_getElem? (i := 182) rfl), by decide +kernel, tb1 (List.mem_of_getElem? (i := 14) rfl), by decide +kernel, by decide +kernel⟩
theorem vbX14_readTable : px_vB mX14_readTable := ⟨tb8 (List.mem_of_getElem? (i := 181) rfl), List.mem_append_left _ (List.mem_of_getElem? (i := 99) (by decide +kernel))⟩
theorem kcX14_readWords_140 : px_cV mX14_readWords 140 mX14_readTable 1 := ⟨⟨mbX14_readTable, by decide, by decide⟩, Or.inl (tb8 (List.mem_of_getElem? (i := 179) rfl)), vbX14_readTable⟩
set_option maxRecDepth 100000 in
set_option maxHeartbeats 4000000 in
theorem eX14_readWords_93 {X : px_X} {k2 : Nat → Int32 → px_W → Option (px_W)} (hk2 : ∀ (a0 : Nat) (a1 : Int32) (w : px_W) (q : px_W), k2 a0 a1 w = some q → EV X mX14_readWords 2 [(0, .ref a0), (1, .int a1)] [] w none q) : ∀ (a0 : Nat) (s0 : Int32) (w : px_W) (q : px_W), fX14_readWords_93 X k2 a0 s0 w = some q → EV X mX14_readWords 93 [(0, .ref a0)] [.int s0] w none q := by
  intro a0 s0 w q h
  unfold fX14_readWords_93 at h
  refine EV.istore_n [(1, .int s0), (0, .ref a0)] dX14_readWords_93 rfl (by decide) rfl ?_
  refine EV.goto 2 dX14_readWords_94 (by decide) ?_
  refine EV.sub [1, 0] rfl ?_
  exact hk2 _ _ _ _ h
set_option maxRecDepth 100000 in
set_option maxHeartbeats 4000000 in
theorem eX14_readWords_77 {X : px_X} {k2 : Nat → Int32 → px_W → Option (px_W)} (hk2 : ∀ (a0 : Nat) (a1 : Int32) (w : px_W) (q : px_W), k2 a0 a1 w = some q → EV X mX14_readWords 2 [(0, .ref a0), (1, .int a1)] [] w none q) : ∀ (a0 : Nat) (w : px_W) (q : px_W), fX14_readWords_77 X k2 a0 w = some q → EV X mX14_readWords 77 [(0, .ref a0)] [] w none q := by
  intro a0 w q h
  unfold fX14_readWords_77 at h
  refine EV.aload_n 0 dX14_readWords_77 rfl rfl ?_
  obtain ⟨v12, gv12, h⟩ := px_bs h
  refine ev_gI dX14_readWords_78 flRX14_106 gv12 ?_
  refine EV.aload_n 0 dX14_readWords_81 rfl rfl ?_
  obtain ⟨v13, gv13, h⟩ := px_bs h
  refine ev_gI dX14_readWords_82 flRX14_103 gv13 ?_
  refine EV.icmp_ge 92 dX14_readWords_85 (by decide) (fun c14 => ?_) (fun c14 => ?_)
  · rw [if_pos c14] at h
    refine EV.iconst (0) dX14_readWords_92 (by decide) ?_
    refine EV.sub [0] rfl ?_
    exact eX14_readWords_93 hk2 _ _ _ _ h
  · rw [if_neg c14] at h
    refine EV.iconst (1) dX14_readWords_88 (by decide) ?_
    refine EV.goto 93 dX14_readWords_89 (by decide) ?_
    refine EV.sub [0] rfl ?_
    exact eX14_readWords_93 hk2 _ _ _ _ h
set_option maxRecDepth 100000 in
set_option maxHeartbeats 4000000 in
theorem eX14_readWords_64 {X : px_X} {k2 : Nat → Int32 → px_W → Option (px_W)} (hk2 : ∀ (a0 : Nat) (a1 : Int32) (w : px_W) (q : px_W), k2 a0 a1 w = some q → EV X mX14_readWords 2 [(0, .ref a0), (1, .int a1)] [] w none q) : ∀ (a0 : Nat) (s0 : Int32) (w : px_W) (q : px_W), fX14_readWords_64 X k2 a0 s0 w = some q → EV X mX14_readWords 64 [(0, .ref a0)] [.int s0] w none q := by
  intro a0 s0 w q h
  unfold fX14_readWords_64 at h
  refine EV.istore_n [(3, .int s0), (0, .ref a0)] dX14_readWords_64 rfl (by decide) rfl ?_
  refine EV.aload_n 1 dX14_readWords_65 rfl rfl ?_
  obtain ⟨v15, gv15, h⟩ := px_bs h
  refine ev_gI dX14_readWords_66 flRX14_100 gv15 ?_
  refine EV.if_ne 77 dX14_readWords_69 (by decide) (fun c16 => ?_) (fun c16 => ?_)
  · rw [if_neg c16] at h
    refine EV.sub [1] rfl ?_
    exact eX14_readWords_77 hk2 _ _ _ h
  · rw [if_pos c16] at h
    refine EV.aload_n 1 dX14_readWords_72 rfl rfl ?_
    refine EV.iload_n 0 dX14_readWords_73 rfl rfl ?_
    obtain ⟨o17, go17, h⟩ := px_bs h
    obtain ⟨q18, gq18, h⟩ := px_bs h
    refine EV.callV (As := [.int s0]) (rest := []) dX14_readWords_74 kcX14_readWords_140 (gO_ok go17) rfl rfl rfl (Nat.le_of_ble_eq_true rfl) (Nat.le_of_ble_eq_true rfl) (eX14_readTable gq18) ?_
    refine EV.sub [1] rfl ?_
    exact eX14_readWords_77 hk2 _ _ _ h
set_option maxRecDepth 100000 in
set_option maxHeartbeats 4000000 in
theorem eX14_readWords_48 {X : px_X} {k2 : Nat → Int32 → px_W → Option (px_W)} (hk2 : ∀ (a0 : Nat) (a1 : Int32) (w : px_W) (q : px_W), k2 a0 a1 w = some q → EV X mX14_readWords 2 [(0, .ref a0), (1, .int a1)] [] w none q) : ∀ (a0 : Nat) (a2 : Int32) (s0 : Int32) (s1 : Nat) (w : px_W) (q : px_W), fX14_readWords_48 X k2 a0 a2 s0 s1 w = some q → EV X mX14_readWords 48 [(0, .ref a0), (2, .int a2)] [.int s0, .ref s1] w none q := by
  intro a0 a2 s0 s1 w q h
  unfold fX14_readWords_48 at h
  obtain ⟨o19, go19, h⟩ := px_bs h
  obtain ⟨q20, gq20, h⟩ := px_bs h
  refine EV.callV (As := [.int s0]) (rest := []) dX14_readWords_48 kcX14_readWords_136 (gO_ok go19) rfl rfl rfl (Nat.le_of_ble_eq_true rfl) (Nat.le_of_ble_eq_true rfl) (eX14_must gq20) ?_
  refine EV.iload_n 1 dX14_readWords_51 rfl rfl ?_
  refine EV.iconst (4) dX14_readWords_52 (by decide) ?_
  refine EV.icmp_ge 60 dX14_readWords_53 (by decide) (fun c21 => ?_) (fun c21 => ?_)
  · rw [if_pos c21] at h
    refine EV.iload_n 1 dX14_readWords_60 rfl rfl ?_
    refine EV.bipush (12) dX14_readWords_61 (by decide) ?_
    refine EV.isub dX14_readWords_63 ?_
    refine EV.sub [0] rfl ?_
    exact eX14_readWords_64 hk2 _ _ _ _ h
  · rw [if_neg c21] at h
    refine EV.iload_n 1 dX14_readWords_56 rfl rfl ?_
    refine EV.goto 64 dX14_readWords_57 (by decide) ?_
    refine EV.sub [0] rfl ?_
    exact eX14_readWords_64 hk2 _ _ _ _ h
set_option maxRecDepth 100000 in
set_option maxHeartbeats 4000000 in
theorem eX14_readWords_43 {X : px_X} {k2 : Nat → Int32 → px_W → Option (px_W)} (hk2 : ∀ (a0 : Nat) (a1 : Int32) (w : px_W) (q : px_W), k2 a0 a1 w = some q → EV X mX14_readWords 2 [(0, .ref a0), (1, .int a1)] [] w none q) : ∀ (a0 : Nat) (a2 : Int32) (s0 : Nat) (w : px_W) (q : px_W), fX14_readWords_43 X k2 a0 a2 s0 w = some q → EV X mX14_readWords 43 [(0, .ref a0), (2, .int a2)] [.ref s0] w none q := by
  intro a0 a2 s0 w q h
  unfold fX14_readWords_43 at h
  refine EV.iconst (1) dX14_readWords_43 (by decide) ?_
  refine EV.goto 48 dX14_readWords_44 (by decide) ?_
  refine EV.sub [0, 1] rfl ?_
  exact eX14_readWords_48 hk2 _ _ _ _ _ _ h
set_option maxRecDepth 100000 in
set_option maxHeartbeats 4000000 in
theorem eX14_readWords_47 {X : px_X} {k2 : Nat → Int32 → px_W → Option (px_W)} (hk2 : ∀ (a0 : Nat) (a1 : Int32) (w : px_W) (q : px_W), k2 a0 a1 w = some q → EV X mX14_readWords 2 [(0, .ref a0), (1, .int a1)] [] w none q) : ∀ (a0 : Nat) (a2 : Int32) (s0 : Nat) (w : px_W) (q : px_W), fX14_readWords_47 X k2 a0 a2 s0 w = some q → EV X mX14_readWords 47 [(0, .ref a0), (2, .int a2)] [.ref s0] w none q := by
  intro a0 a2 s0 w q h
  unfold fX14_readWords_47 at h
  refine EV.iconst (0) dX14_readWords_47 (by decide) ?_
  refine EV.sub [0, 1] rfl ?_
  exact eX14_readWords_48 hk2 _ _ _ _ _ _ h
set_option maxRecDepth 100000 in
set_option maxHeartbeats 4000000 in
theorem eX14_readWords_2 {X : px_X}  : ∀ (m : Nat) (a0 : Nat) (a1 : Int32) (w : px_W) (q : px_W), fX14_readWords_2 X  m a0 a1 w = some q → EV X mX14_readWords 2 [(0, .ref a0), (1, .int a1)] [] w none q := by
  intro m
  induction m with
  | zero => intro a0 a1 w q h; cases h
  | succ m ih =>
    intro a0 a1 w q h
    rw [fX14_readWords_2.eq_2] at h
    refine EV.iload_n 1 dX14_readWords_2 rfl rfl ?_
    refine EV.if_eq 97 dX14_readWords_3 (by decide) (fun c22 => ?_) (fun c22 => ?_)
    · rw [if_pos c22] at h
      cases h
      exact EV.ret0 dX14_readWords_97 trivial
    · rw [if_neg c22] at h
      refine EV.aload_n 0 dX14_readWords_6 rfl rfl ?_
      obtain ⟨v23, gv23, h⟩ := px_bs h
      refine ev_gI dX14_readWords_7 flRX14_100 gv23 ?_
      refine EV.if_ne 97 dX14_readWords_10 (by decide) (fun c24 => ?_) (fun c24 => ?_)
      · rw [if_neg c24] at h
        cases h
        exact EV.ret0 dX14_readWords_97 trivial
      · rw [if_pos c24] at h
        refine EV.aload_n 0 dX14_readWords_13 rfl rfl ?_
        obtain ⟨o25, go25, h⟩ := px_bs h
        obtain ⟨q26, gq26, h⟩ := px_bs h
        refine EV.callV (As := []) (rest := []) dX14_readWords_14 kcX14_readWords_124 (gO_ok go25) rfl rfl rfl (Nat.le_of_ble_eq_true rfl) (Nat.le_of_ble_eq_true rfl) (eX14_next gq26) ?_
        refine EV.istore_n [(2, .int q26.1), (0, .ref a0), (1, .int a1)] dX14_readWords_17 rfl (by decide) rfl ?_
        refine EV.aload_n 1 dX14_readWords_18 rfl rfl ?_
        refine EV.aload_n 1 dX14_readWords_19 rfl rfl ?_
        obtain ⟨v27, gv27, h⟩ := px_bs h
        refine ev_gI dX14_readWords_20 flRX14_100 gv27 ?_
        refine EV.if_gt 43 dX14_readWords_23 (by decide) (fun c28 => ?_) (fun c28 => ?_)
        · rw [if_pos c28] at h
          refine EV.sub [1, 0] rfl ?_
          exact eX14_readWords_43 ih _ _ _ _ _ h
        · rw [if_neg c28] at h
          refine EV.iload_n 0 dX14_readWords_26 rfl rfl ?_
          refine EV.iconst (4) dX14_readWords_27 (by decide) ?_
          refine EV.icmp_lt 43 dX14_readWords_28 (by decide) (fun c29 => ?_) (fun c29 => ?_)
          · rw [if_pos c29] at h
            refine EV.sub [1, 0] rfl ?_
            exact eX14_readWords_43 ih _ _ _ _ _ h
          · rw [if_neg c29] at h
            refine EV.iload_n 0 dX14_readWords_31 rfl rfl ?_
            refine EV.bipush (16) dX14_readWords_32 (by decide) ?_
            refine EV.icmp_lt 47 dX14_readWords_34 (by decide) (fun c30 => ?_) (fun c30 => ?_)
            · rw [if_pos c30] at h
              refine EV.sub [1, 0] rfl ?_
              exact eX14_readWords_47 ih _ _ _ _ _ h
            · rw [if_neg c30] at h
              refine EV.iload_n 0 dX14_readWords_37 rfl rfl ?_
              refine EV.bipush (20) dX14_readWords_38 (by decide) ?_
              refine EV.icmp_ge 47 dX14_readWords_40 (by decide) (fun c31 => ?_) (fun c31 => ?_)
              · rw [if_pos c31] at h
                refine EV.sub [1, 0] rfl ?_
                exact eX14_readWords_47 ih _ _ _ _ _ h
              · rw [if_neg c31] at h
                refine EV.sub [1, 0] rfl ?_
                exact eX14_readWords_43 ih _ _ _ _ _ h
set_option maxRecDepth 100000 in
set_option maxHeartbeats 4000000 in
theorem eX14_readWords {X : px_X} {w : px_W} {a0 : Nat} {q : px_W} (h : fX14_readWords X w a0 = some q) : EV X mX14_readWords 0 (lv_args 0 [.ref a0]) [] w none q := by
  unfold fX14_readWords at h
  show EV X mX14_readWords 0 [(0, .ref a0)] [] w none q
  refine EV.iconst (1) dX14_readWords_0 (by decide) ?_
  refine EV.istore_n [(1, .int 1), (0, .ref a0)] dX14_readWords_1 rfl (by decide) rfl ?_
  refine EV.sub [1, 0] rfl ?_
  exact eX14_readWords_2  FU _ _ _ _ h
