/-! openInput of the reference, and both sides -/
section
variable {X : px_X} {b B : Nat} {w0 w1 : px_W} {y y' : rg_S} {L : Nat} {D : Nat → Nat}
theorem m_openI (hD : ∀ i, D i < 256) (h1 : y.1 0 1 = nI L) (hL : L ≤ 16384) (hb : ∀ i, i < L → y.2.2.1 1 i &&& 255 = nI (D i)) (hbt : ∀ i, i < L → bt (y.2.2.1 1 i) = y.2.2.1 1 i) (hz : ∀ i, i < L → (y.2.2.1 1 i = 0 ↔ D i = 0)) : ∃ v y', fX15_openInput X (rg_p lM b w0 y) (b + 0) = some (v, rg_p lM b w0 y') ∧ FYO y y' ∧ ((∃ f, sgB (sgBg D L) (sgPs D L (L + 1)) = .inl f ∧ opG y y' v f.1 (nI f.2)) ∨ (∃ sf, sgB (sgBg D L) (sgPs D L (L + 1)) = .inr sf ∧ ¬ gBs (gOf sf (sf.1 5)) (gOf sf (sf.1 5)).2.2.1 ≤ 192 ∧ opG y y' v 9 (-1)) ∨ (∃ sf f k, sgB (sgBg D L) (sgPs D L (L + 1)) = .inr sf ∧ gBs (gOf sf (sf.1 5)) (gOf sf (sf.1 5)).2.2.1 ≤ 192 ∧ sgRd D L (gOf sf (sf.1 5)) (sf.1 8) sg0 (fun _ => 0) = .inl (f, k) ∧ opG y y' v f (nI k)) ∨ ∃ sf Q', sgB (sgBg D L) (sgPs D L (L + 1)) = .inr sf ∧ gBs (gOf sf (sf.1 5)) (gOf sf (sf.1 5)).2.2.1 ≤ 192 ∧ sgRd D L (gOf sf (sf.1 5)) (sf.1 8) sg0 (fun _ => 0) = .inr Q' ∧ v = 0 ∧ (y'.1 0 7 = 0 ∧ y'.1 0 8 = -1 ∧ y'.1 0 9 = nI (sf.1 8) ∧ y'.1 0 10 = nI (sf.1 2) ∧ y'.1 0 11 = y.1 0 11 + 1) ∧ y'.1 0 17 = 1 ∧ mPic y' (gOf sf (sf.1 5)) ∧ (∀ i, i < 12288 → y'.2.2.1 64 i = Q' i ∧ cfOk (i % 64) (Q' i)) ∧ ∀ i, i < 64 * sf.1 6 → y'.2.2.1 63 i = nI (sf.2.2.2.2.2.2 i)) := by
  generalize hy1 : rg_wI y 4 1 (nI L) = y1
  have h11 : y1.1 0 1 = nI L := by rw [← hy1, wI_n _ _ (by omega)]; exact h1
  generalize hy2 : rg_wA y1 5 (fU L (fun i => bt (y1.2.2.1 1 i)) (y1.2.2.1 5)) = y2
  generalize hy3 : rg_wI (rg_wR y2 4 2 0) 4 3 0 = y3
  have a3 : ∀ a, a ≠ 5 → y3.2.2.1 a = y.2.2.1 a := fun a h => by rw [← hy3, wI_2, wR_3, ← hy2, wA_n _ _ h, ← hy1, wI_2]
  have i3 : ∀ p k, p ≠ 4 → y3.1 p k = y.1 p k := fun p k h => by rw [← hy3, wI_n _ _ (by omega), wR_1, ← hy2, wA_1, ← hy1, wI_n _ _ (by omega)]
  have b3 : ∀ i, i < L → y3.2.2.1 5 i = y.2.2.1 1 i := fun i hi => by
    rw [← hy3, wI_2, wR_3, ← hy2, wA_s, fU_lt hi, ← hy1, wI_2]
    exact hbt i hi
  have P3 : FYp2 y y3 := ⟨fun k _ _ => i3 0 k (by omega), i3 24 42 (by omega), fun a e => a3 a (by omega)⟩
  obtain ⟨v4, y4, e4, F4, o4⟩ := m_all1 (X := X) (b := b) (w0 := w0) (y := y3) (D := D) (L := L) hD (by rw [← hy3, wI_n _ _ (by omega), wR_1, ← hy2, wA_1, ← hy1, wI_s]) hL (fun i hi => by rw [b3 i hi]; exact hb i hi) (by rw [← hy3, wI_s]) (by rw [← hy3]; rfl)
  generalize hy6 : rg_wI (rg_wI y4 0 7 v4) 0 8 (y4.1 4 5) = y6
  have i6 : ∀ p k, ¬ (p = 0 ∧ (k = 7 ∨ k = 8)) → y6.1 p k = y4.1 p k := fun p k h => by rw [← hy6, wI_n _ _ (by omega), wI_n _ _ (by omega)]
  have q6 : y6.2 = y4.2 := by rw [← hy6]; rfl
  have i67 : y6.1 0 7 = v4 := by rw [← hy6, wI_n _ _ (by omega), wI_s]
  have i68 : y6.1 0 8 = y4.1 4 5 := by rw [← hy6, wI_s]
  have P6 : FYp2 y y6 := P3.trans (F4.p2.trans ⟨fun k h1 h2 => i6 0 k (by omega), i6 24 42 (by omega), fun a _ => by rw [q6]⟩)
  have start : ∀ z, (if v4 ≤ 0 then fX15_openInput_113 X FU (b + 0) (y6.1 4 15) (y6.1 4 14) 0 0 (rg_p lM b w0 y6) else some (v4, rg_p lM b w0 y6)) = z → fX15_openInput X (rg_p lM b w0 y) (b + 0) = z := by
    intro z hz'
    unfold fX15_openInput
    refine ob_v (rg_C rfl rfl) (ob_v (rg_I rfl rfl) ?_)
    rw [h1]
    refine ob_v (rg_pI rfl rfl _) ?_
    rw [hy1, m_o13 (y0 := y) h11 hL, hy2]
    unfold fX15_openInput_42
    refine ob_v (rg_C rfl rfl) (ob_v (rg_pN rfl rfl) (ob_v (rg_C rfl rfl) (ob_v (rg_pI rfl rfl _) ?_)))
    rw [hy3]
    refine ob_v (rg_C rfl rfl) (ob_v (rg_O rfl) (ob_v e4 (ob_v (rg_pI rfl rfl _) (ob_v (rg_C rfl rfl) (ob_v (rg_I rfl rfl) ?_)))))
    rw [wI_n _ _ (by omega)]
    refine ob_v (rg_pI rfl rfl _) ?_
    rw [hy6]
    refine ob_v (rg_I rfl rfl) ?_
    rw [i67]
    by_cases c : v4 ≤ 0
    · rw [if_pos c] at hz'
      exact ei_t c (ob_v (rg_C rfl rfl) (ob_v (rg_I rfl rfl) (ob_v (rg_C rfl rfl) (ob_v (rg_I rfl rfl) hz'))))
    · rw [if_neg c] at hz'
      refine ei_n c (ob_v (rg_I rfl rfl) ?_)
      rw [i67]
      exact hz'
  have fin : ∀ (z : rg_S) (f : Nat) (pl : Int32), FYp2 y z → z.1 0 7 = nI f → z.1 0 8 = pl → FYO y z ∧ opG y z (nI f) f pl := fun z f pl F h7 h8 => ⟨F.O, rfl, h7, h8, fun k hk => F.1 k (by omega) (by omega), fun a h1 h2 => F.2.2 a (by omega)⟩
  rcases o4 with ⟨f, r1, r2, r3, r4, r5, r6⟩ | ⟨sf, r1, r2, r3, fs4⟩
  · obtain ⟨g1, g2⟩ := fin y6 f.1 (nI f.2) P6 (by rw [i67, r2]) (by rw [i68, r3])
    exact ⟨nI f.1, y6, start _ (ei_n (by rw [r2]; exact nI_nle (by omega) (by omega)) (by rw [r2])), g1, Or.inl ⟨f, r1, g2⟩⟩
  -- what the first pass found
  have bg : sgBg D L = .inr sg0 := by
    obtain ⟨a, g1, _⟩ := sgB_i r1
    unfold sgBg at g1 ⊢
    split at g1
    · cases g1
    split at g1
    · cases g1
    split at g1
    · cases g1
    split at g1
    · cases g1
    rename_i c1 c2 c3 c4
    rw [if_neg c1, if_neg c2, if_neg c3, if_neg c4]
  have ps : sgPs D L (L + 1) sg0 = .inr sf := by
    have := r1
    rw [bg] at this
    exact this
  obtain ⟨ok, ok2, z7, z3, zl, zL⟩ := sgPs_f hD hL _ _ _ sg0_ok.1 sg0_ok.2 ps
  obtain ⟨s5, s8, hg⟩ := sf_g ok ok2 z7 z3 zl
  have n4 := ok.2.2.1
  have s8b : sf.1 8 < 2000 := by
    have := ok2.2.2.2.2.2.2.1
    omega
  obtain ⟨f1, f2, f3, f4, f5, f6, f7, f8, f9, f10⟩ := fs4
  generalize hgg : gOf sf (sf.1 5) = g at *
  have g0 : g.1 = sf.1 4 ∧ g.2.1 = sf.1 5 ∧ g.2.2.1 = sf.1 6 := by rw [← hgg]; exact ⟨rfl, rfl, rfl⟩
  have gh : ∀ c, g.2.2.2.1 c = (sf.2.2.2.2.1 c).2.1 := fun c => by rw [← hgg]; rfl
  have gv : ∀ c, g.2.2.2.2 c = (sf.2.2.2.2.1 c).2.2.1 := fun c => by rw [← hgg]; rfl
  have gb := hg.bs (c := g.2.2.1) (Nat.le_refl _)
  have h8 : ∀ c, c < g.2.2.1 → y6.2.2.1 8 c = nI (g.2.2.2.1 c) := fun c hc => by
    rw [q6, gh]
    exact (f10 c (by omega)).2.1
  have h9 : ∀ c, c < g.2.2.1 → y6.2.2.1 9 c = nI (g.2.2.2.2 c) := fun c hc => by
    rw [q6, gv]
    exact (f10 c (by omega)).2.2.1
  generalize hy7 : rg_wA y6 57 (fU g.2.2.1 (fun _ => 0) (y6.2.2.1 57)) = y7
  have P7 : FYp2 y y7 := P6.trans (by rw [← hy7]; exact ⟨fun _ _ _ => rfl, rfl, fun a e => wA_n _ _ (by omega)⟩)
  have i7 : y7.1 = y6.1 := by rw [← hy7]; rfl
  have j15 : y6.1 4 15 = nI g.2.2.1 := by rw [i6 _ _ (by omega), f5, g0.2.2]
  have j14 : y6.1 4 14 = nI g.2.1 := by rw [i6 _ _ (by omega), (f4 z3).2, g0.2.1]
  have j13 : y7.1 4 13 = nI g.1 := by rw [i7, i6 _ _ (by omega), (f4 z3).1, g0.1]
  have start2 : ∀ z, fX15_openInput_173 X (b + 0) (nI g.2.2.1) (nI g.2.1) (nI (shN g g.2.2.1)) (rg_p lM b w0 y7) = z → fX15_openInput X (rg_p lM b w0 y) (b + 0) = z := by
    intro z hz'
    refine start _ (ei_t (by rw [r2]; decide) ?_)
    rw [j15, j14, m_o113 hg h8 h9, hy7]
    exact hz'
  by_cases hb192 : ¬ gBs g g.2.2.1 ≤ 192
  · have fr := m_frame0 (X := X) (b := b) (w0 := w0) (y := y7) hg (shN_S hg) hb192
    generalize hy8 : rg_wI y7 0 7 9 = y8
    obtain ⟨g1, g2⟩ := fin y8 9 (-1) (P7.trans (by rw [← hy8]; exact ⟨fun k h1 _ => wI_n _ _ (by omega), wI_n _ _ (by omega), fun _ _ => rfl⟩)) (by rw [← hy8, wI_s]; rfl) (by rw [← hy8, wI_n _ _ (by omega), i7, i68, r3])
    refine ⟨nI 9, y8, start2 _ ?_, g1, Or.inr (Or.inl ⟨sf, r1, by rw [hgg]; exact hb192, g2⟩)⟩
    unfold fX15_openInput_173
    refine ob_v (rg_C rfl rfl) (ob_v (rg_C rfl rfl) (ob_v (rg_I rfl rfl) (ob_v (rg_O rfl) ?_)))
    rw [j13]
    refine ob_v fr (ei_t rfl (ob_v (rg_pI rfl rfl _) (ob_v (rg_I rfl rfl) ?_)))
    rw [wI_s]
    show some ((9 : Int32), rg_p lM b w0 (rg_wI y7 0 7 9)) = _
    rw [hy8]
    rfl
  have hb192 := Classical.not_not.mp hb192
  obtain ⟨y8, e8, F8, G8, Q8, G8b⟩ := m_frame1 (X := X) (b := b) (w0 := w0) (y := y7) hg (shN_S hg) hb192
  have P8 : FYp2 y y8 := P7.trans F8.p2
  have i8 : ∀ k, y8.1 4 k = y4.1 4 k := fun k => by rw [F8.1 _ _ (by omega), i7, i6 _ _ (by omega)]
  have a8 : ∀ a, ¬ (25 ≤ a ∧ a ≤ 32) → a ≠ 39 → a ≠ 40 → a ≠ 57 → y8.2.2.1 a = y4.2.2.1 a := fun a e1 e2 e3 e4 => by rw [F8.2.2 a e1 e2 e3, ← hy7, wA_n _ _ e4, q6]
  generalize hy9 : rg_wR y8 4 2 1 = y9
  have q9 : y9.2.2 = y8.2.2 := by rw [← hy9]; rfl
  have i9 : y9.1 = y8.1 := by rw [← hy9]; rfl
  have P9 : FYp2 y y9 := P8.trans ⟨fun _ _ _ => by rw [i9], by rw [i9], fun _ _ => by rw [q9]⟩
  have b9 : ∀ i, i < L → y9.2.2.1 5 i = y.2.2.1 1 i := fun i hi => by
    rw [q9, a8 5 (by omega) (by omega) (by omega) (by omega), F4.2.2.2.1 5 (by omega)]
    exact b3 i hi
  have l9' : y9.1 4 1 = nI L := by
    rw [i9, i8, F4.2.1.1, ← hy3, wI_n _ _ (by omega), wR_1, ← hy2, wA_1, ← hy1, wI_s]
  obtain ⟨y10, F10, p10, fs10, a10, st10⟩ := m_all0 (X := X) (b := b) (w0 := w0) (y := y9) (D := D) (L := L) l9' hL (fun i hi => ⟨by rw [b9 i hi]; exact hb i hi, hD i⟩)
  obtain ⟨y11, F11, o11⟩ := m_fhead (X := X) (b := b) (w0 := w0) p10
  rcases o11 with ⟨f, w1, _⟩ | ⟨_, p11, e11⟩
  · rw [bg] at w1; cases w1
  have q11 : ∀ a, a ≠ 11 → a ≠ 13 → a ≠ 18 → y11.2.2.1 a = y9.2.2.1 a := fun a e1 e2 e3 => by rw [F11.2, a10 a e1 e2 e3]
  have k3 : y11.1 4 3 = 0 := by rw [F11.1 _ _ (by omega), F10.2.1.2, i9, i8, F4.2.1.2, ← hy3, wI_s]
  have I2 : i2Y y11 D L (gOf sf (sf.1 5)) sg0 (fun _ => 0) := by
    rw [hgg]
    refine ⟨?_, fun i hi => ?_, ⟨⟨?_, ?_, ?_⟩, fun i hi => ?_⟩, fun i hi => ?_, fun i _ => ?_, fun _ _ _ _ _ _ _ _ _ => rfl, fun c hc => Or.inl ⟨rfl, ?_⟩⟩
    · rw [F11.2, F10.2.2.1, ← hy9]
      rfl
    · rw [q11 5 (by decide) (by decide) (by decide), b9 i hi]
      exact ⟨hbt i hi, hz i hi⟩
    · rw [F11.1 _ _ (by omega), F10.1 _ _ (by omega), i9]; exact G8.1
    · rw [F11.1 _ _ (by omega), F10.1 _ _ (by omega), i9]; exact G8.2.1
    · rw [F11.1 _ _ (by omega), F10.1 _ _ (by omega), i9]; exact G8.2.2
    · rw [q11 25 (by decide) (by decide) (by decide), q11 26 (by decide) (by decide) (by decide), q11 27 (by decide) (by decide) (by decide), q11 29 (by decide) (by decide) (by decide), q11 30 (by decide) (by decide) (by decide), q11 31 (by decide) (by decide) (by decide), q9]
      exact G8b i hi
    · rw [q11 32 (by decide) (by decide) (by decide), q9]
      exact Q8 i hi
    · unfold cfOk
      rw [show (0 : Int32).toInt = 0 from rfl]
      split <;> omega
    · rw [q11 57 (by decide) (by decide) (by decide), q9, F8.2.2 57 (by omega) (by omega) (by omega), ← hy7, wA_s, fU_lt hc]
  obtain ⟨y12, F12, e12, k4, o12⟩ := m_rd2 (X := X) (b := b) (w0 := w0) (sf := sf) (H := sf.1 5) (D := D) (L := L) hD (by rw [hgg]; exact hg) (by rw [hgg]; exact hb192) (sf.1 8) FU (L + 1) y11 sg0 (fun _ => 0) (by show 0 + sf.1 8 = sf.1 8; omega) (by show L + 10 < 2 + FU; unfold FU; omega) (by show L < 2 + (L + 1); omega) ps p11 (fs10.k F11.k) sg0_ok.1 sg0_ok.2 k3 I2
  rw [hgg] at o12
  have P12 : FYp2 y y12 := P9.trans (F10.p2.trans (F11.g.p2.trans F12.p2))
  have eall : fX14_readAll X (rg_p lM b w0 y9) (b + 4) = some (0, rg_p lM b w0 y12) := by
    refine st10 _ (ob_v (e11.trans e12) (ob_v (rg_I rfl rfl) (ei_t (by rw [k4]; decide) ?_)))
    unfold fX14_readAll_39
    refine ob_v (rg_I rfl rfl) ?_
    rw [k4]
  generalize hy13 : rg_wI y12 0 7 (y12.1 4 3) = y13
  have i13 : ∀ p k, ¬ (p = 0 ∧ k = 7) → y13.1 p k = y12.1 p k := fun p k h => by rw [← hy13, wI_n _ _ (by omega)]
  have q13 : y13.2 = y12.2 := by rw [← hy13]; rfl
  have i137 : y13.1 0 7 = y12.1 4 3 := by rw [← hy13, wI_s]
  have P13 : FYp2 y y13 := P12.trans ⟨fun k h1 _ => i13 0 k (by omega), i13 24 42 (by omega), fun _ _ => by rw [q13]⟩
  have start3 : ∀ z, (if y12.1 4 3 ≤ 0 then (pV (rg_p lM b w0 y13) (b + 0) 15 8 (.int (-1))).bind (fun w136 => (pZ w136 (b + 0) 15 17 1).bind fun w137 => (gR w137 (b + 0) 15 12).bind fun v138 => (gI w137 v138 14 13).bind fun v139 => (pV w137 (b + 0) 15 18 (.int v139)).bind fun w140 => (pV w140 (b + 0) 15 19 (.int (nI g.2.1))).bind fun w141 => (pV w141 (b + 0) 15 20 (.int (nI g.2.2.1))).bind fun w142 => fX15_openInput_296 X FU (b + 0) (nI g.2.2.1) (nI (sf.1 8)) (nI (sf.1 2)) 0 w142) else some (y12.1 4 3, rg_p lM b w0 y13)) = z → fX15_openInput X (rg_p lM b w0 y) (b + 0) = z := by
    intro z hz'
    refine start2 _ ?_
    unfold fX15_openInput_173
    refine ob_v (rg_C rfl rfl) (ob_v (rg_C rfl rfl) (ob_v (rg_I rfl rfl) (ob_v (rg_O rfl) ?_)))
    rw [j13]
    refine ob_v e8 (ei_n (show ¬ (1 : Int32) = 0 by decide) (ob_v (rg_C rfl rfl) (ob_v (rg_I rfl rfl) (ob_v (rg_C rfl rfl) (ob_v (rg_I rfl rfl) (ob_v (rg_C rfl rfl) (ob_v (rg_pN1 rfl rfl 0) ?_)))))))
    rw [hy9, i8, i8, f6, f2]
    refine ob_v (rg_C rfl rfl) (ob_v (rg_O rfl) (ob_v eall (ob_v (rg_C rfl rfl) (ob_v (rg_I rfl rfl) (ob_v (rg_pI rfl rfl _) ?_)))))
    rw [hy13]
    refine ob_v (rg_I rfl rfl) ?_
    rw [i137]
    by_cases c : y12.1 4 3 ≤ 0
    · rw [if_pos c] at hz'
      exact ei_t c hz'
    · rw [if_neg c] at hz'
      refine ei_n c (ob_v (rg_I rfl rfl) ?_)
      rw [i137]
      exact hz'
  rcases o12 with ⟨f, k, u1, u2, u3, u4, u5, u6⟩ | ⟨Q', u1, u2, u3, u4⟩
  · obtain ⟨g1, g2⟩ := fin y13 f (nI k) P13 (by rw [i137, u5]) (by rw [i13 _ _ (by omega), u6])
    exact ⟨nI f, y13, start3 _ (ei_n (by rw [u5]; exact nI_nle (by omega) (by omega)) (by rw [u5])), g1, Or.inr (Or.inr (Or.inl ⟨sf, f, k, r1, by rw [hgg]; exact hb192, by rw [hgg]; exact u1, g2⟩))⟩
  · obtain ⟨_, _, _, w4, w5, _, w7⟩ := u4
    obtain ⟨v1, v2, v3, v4', v5, v6, v7, v8, v9, v10⟩ := u3
    obtain ⟨y14, e14, F14, ⟨x7, x8, x9, x10, x11⟩, x17, xm, xc, xs⟩ := m_done (X := X) (b := b) (w0 := w0) (y := y13) (g := g) (Q' := Q') (st := Q') (A4 := nI (sf.1 8)) (A5 := nI (sf.1 2)) hg (by rw [i13 _ _ (by omega), (v4' z3).1, g0.1]) (fun c hc => by rw [q13, gh]; exact (v10 c (by omega)).2.1) (fun c hc => by rw [q13, gv]; exact (v10 c (by omega)).2.2.1) (by rw [q13]; exact w4) w5
    refine ⟨0, y14, start3 _ (ei_t (by rw [u2]; decide) e14), ⟨fun k hk => ?_, ?_, fun a ha => ?_⟩, Or.inr (Or.inr (Or.inr ⟨sf, Q', r1, by rw [hgg]; exact hb192, by rw [hgg]; exact u1, rfl, ⟨?_, x8, x9, x10, ?_⟩, x17, by rw [hgg]; exact xm, fun i hi => ⟨xc i hi, w5 i hi⟩, fun i hi => ?_⟩))⟩
    · rw [F14.1 k hk, P13.1 k (by omega) (by omega)]
    · rw [F14.2.1, P13.2.1]
    · rw [F14.2.2 a ha, P13.2.2 a (by omega)]
    · rw [x7, i137, u2]
    · rw [x11, P13.1 11 (by omega) (by omega)]
    · rw [xs i (by omega), q13]
      rcases w7 (i / 64) (by rw [g0.2.2]; omega) with ⟨p1, _⟩ | ⟨_, _, p3⟩
      · exact absurd p1 (zl (i / 64) (by omega))
      · have := p3 (i % 64) (by omega)
        rw [show 64 * (i / 64) + i % 64 = i by omega] at this
        exact this
end
