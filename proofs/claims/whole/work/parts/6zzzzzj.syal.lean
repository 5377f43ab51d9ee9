/-! a pass begins and ends, by the reference -/
section
variable {X : px_X} {b B : Nat} {w0 w1 : px_W} {y y' z z' : rg_S} {p i n nn L kd K iv u q : Nat} {f : sgF} {s : sgS} {D : Nat → Nat}
theorem m_fg83 : fX14_forget_81 X (b + 4) (rg_p lM b w0 y) = some (rg_p lM b w0 (rg_wA y 18 (fU 256 (fun _ => -1) (y.2.2.1 18)))) := by
  unfold fX14_forget_81
  have e := rg_lpF (F := fun M (s : Int32 × rg_S) => fX14_forget_83 X M (b + 4) s.1 (rg_p lM b w0 s.2)) 256 (fun i => (nI i, rg_wA y 18 (fU i (fun _ => -1) (y.2.2.1 18)))) (r := some (rg_p lM b w0 (rg_wA y 18 (fU 256 (fun _ => -1) (y.2.2.1 18))))) (by omega) ?_ ?_
  · dsimp only at e
    rw [fU_0, wA_id rfl] at e
    exact e
  · intro M i hi
    dsimp only
    rw [fX14_forget_83.eq_2]
    refine ei_n (nI_ge (b := 256) (by omega) (by omega)) (ob_v (rg_C rfl rfl) (ob_v (rg_sA id rfl (by decide) _ _ hi (by decide)) ?_))
    rw [wA_s, wA_wA, show id (-1 : Int32) = -1 from rfl, nI_1, ← fU_s i (fun _ => -1) (y.2.2.1 18)]
  · intro M
    dsimp only
    rw [fX14_forget_83.eq_2]
    exact ei_t (by decide) rfl
theorem m_fg62 : fX14_forget_60 X (b + 4) (rg_p lM b w0 y) = fX14_forget_81 X (b + 4) (rg_p lM b w0 (rg_wA y 13 (fU 8 (fun _ => 0) (y.2.2.1 13)))) := by
  unfold fX14_forget_60
  have e := rg_lpF (F := fun M (s : Int32 × rg_S) => fX14_forget_62 X M (b + 4) s.1 (rg_p lM b w0 s.2)) 8 (fun i => (nI i, rg_wA y 13 (fU i (fun _ => 0) (y.2.2.1 13)))) (r := fX14_forget_81 X (b + 4) (rg_p lM b w0 (rg_wA y 13 (fU 8 (fun _ => 0) (y.2.2.1 13))))) (by omega) ?_ ?_
  · dsimp only at e
    rw [fU_0, wA_id rfl] at e
    exact e
  · intro M i hi
    dsimp only
    rw [fX14_forget_62.eq_2]
    refine ei_n (nI_ge (b := 8) (by omega) (by omega)) (ob_v (rg_C rfl rfl) (ob_v (rg_sA (vp_nar .boolean) rfl (by decide) _ _ hi (by decide)) ?_))
    rw [wA_s, wA_wA, show vp_nar .boolean (0 : Int32) = 0 from rfl, nI_1, ← fU_s i (fun _ => 0) (y.2.2.1 13)]
  · intro M
    dsimp only
    rw [fX14_forget_62.eq_2]
    exact ei_t (by decide) rfl
theorem m_fg42 : fX14_forget_42 X FU (b + 4) 0 (rg_p lM b w0 y) = fX14_forget_60 X (b + 4) (rg_p lM b w0 (rg_wA y 11 (fU 4 (fun _ => 0) (y.2.2.1 11)))) := by
  have e := rg_lpF (F := fun M (s : Int32 × rg_S) => fX14_forget_42 X M (b + 4) s.1 (rg_p lM b w0 s.2)) 4 (fun i => (nI i, rg_wA y 11 (fU i (fun _ => 0) (y.2.2.1 11)))) (r := fX14_forget_60 X (b + 4) (rg_p lM b w0 (rg_wA y 11 (fU 4 (fun _ => 0) (y.2.2.1 11))))) (by omega) ?_ ?_
  · dsimp only at e
    rw [fU_0, wA_id rfl] at e
    exact e
  · intro M i hi
    dsimp only
    rw [fX14_forget_42.eq_2]
    refine ei_n (nI_ge (b := 4) (by omega) (by omega)) (ob_v (rg_C rfl rfl) (ob_v (rg_sA (vp_nar .boolean) rfl (by decide) _ _ hi (by decide)) ?_))
    rw [wA_s, wA_wA, show vp_nar .boolean (0 : Int32) = 0 from rfl, nI_1, ← fU_s i (fun _ => 0) (y.2.2.1 11)]
  · intro M
    dsimp only
    rw [fX14_forget_42.eq_2]
    exact ei_t (by decide) rfl
theorem m_forget : ∃ y', fX14_forget X (rg_p lM b w0 y) (b + 4) = some (rg_p lM b w0 y') ∧ FYg y y' ∧ fsY y' sg0 ∧ (∀ k, ¬ (9 ≤ k ∧ k ≤ 15) → k ≠ 20 → k ≠ 27 → y'.1 4 k = y.1 4 k) ∧ ∀ a, a ≠ 11 → a ≠ 13 → a ≠ 18 → y'.2.2.1 a = y.2.2.1 a := by
  generalize hy1 : rg_wI (rg_wI (rg_wI (rg_wI (rg_wI (rg_wI (rg_wI (rg_wI y 4 9 (-1)) 4 10 0) 4 12 0) 4 13 0) 4 14 0) 4 15 0) 4 20 0) 4 27 0 = y1
  have F1 : FYg y y1 := by
    rw [← hy1]
    exact (FYg.wI (by omega)).trans ((FYg.wI (by omega)).trans ((FYg.wI (by omega)).trans ((FYg.wI (by omega)).trans ((FYg.wI (by omega)).trans ((FYg.wI (by omega)).trans ((FYg.wI (by omega)).trans (FYg.wI (by omega))))))))
  have q1 : y1.2 = y.2 := by rw [← hy1]; rfl
  have i1 : ∀ k, ¬ (9 ≤ k ∧ k ≤ 15) → k ≠ 20 → k ≠ 27 → y1.1 4 k = y.1 4 k := by
    intro k h1 h2 h3
    rw [← hy1, wI_n _ _ (by omega), wI_n _ _ (by omega), wI_n _ _ (by omega), wI_n _ _ (by omega), wI_n _ _ (by omega), wI_n _ _ (by omega), wI_n _ _ (by omega), wI_n _ _ (by omega)]
  generalize hy2 : rg_wA (rg_wA (rg_wA y1 11 (fU 4 (fun _ => 0) (y1.2.2.1 11))) 13 (fU 8 (fun _ => 0) ((rg_wA y1 11 (fU 4 (fun _ => 0) (y1.2.2.1 11))).2.2.1 13))) 18 (fU 256 (fun _ => -1) ((rg_wA (rg_wA y1 11 (fU 4 (fun _ => 0) (y1.2.2.1 11))) 13 (fU 8 (fun _ => 0) ((rg_wA y1 11 (fU 4 (fun _ => 0) (y1.2.2.1 11))).2.2.1 13))).2.2.1 18)) = y2
  have i2 : y2.1 = y1.1 := by rw [← hy2]; rfl
  refine ⟨y2, ?_, F1.trans ?_, ?_, fun k h1 h2 h3 => by rw [i2, i1 k h1 h2 h3], fun a h1 h2 h3 => by rw [← hy2, wA_n _ _ h3, wA_n _ _ h2, wA_n _ _ h1, q1]⟩
  · unfold fX14_forget
    refine ob_v (rg_pI rfl rfl _) (ob_v (rg_pI rfl rfl _) (ob_v (rg_pI rfl rfl _) (ob_v (rg_pI rfl rfl _) (ob_v (rg_pI rfl rfl _) (ob_v (rg_pI rfl rfl _) (ob_v (rg_pI rfl rfl _) (ob_v (rg_pI rfl rfl _) ?_)))))))
    rw [hy1, m_fg42, m_fg62, m_fg83, hy2]
  · rw [← hy2]
    exact (FYg.wA (by omega)).trans ((FYg.wA (by omega)).trans (FYg.wA (by omega)))
  · refine ⟨?_, ?_, ?_, fun z => absurd rfl z, ?_, ?_, fun t ht => Or.inl ⟨rfl, ?_⟩, fun t ht => Or.inl ⟨rfl, ?_⟩, fun i hi => ⟨?_, Nat.zero_le _⟩, fun i hi => absurd hi (Nat.not_lt_zero _)⟩
    · rw [i2, ← hy1, wI_n _ _ (by omega), wI_s]; rfl
    · rw [i2, ← hy1, wI_n _ _ (by omega), wI_n _ _ (by omega), wI_n _ _ (by omega), wI_n _ _ (by omega), wI_n _ _ (by omega), wI_n _ _ (by omega), wI_s]; rfl
    · rw [i2, ← hy1, wI_n _ _ (by omega), wI_n _ _ (by omega), wI_n _ _ (by omega), wI_n _ _ (by omega), wI_n _ _ (by omega), wI_s]; rfl
    · rw [i2, ← hy1, wI_n _ _ (by omega), wI_n _ _ (by omega), wI_s]; rfl
    · rw [i2, ← hy1, wI_s]; rfl
    · rw [← hy2, wA_n _ _ (by decide), wA_n _ _ (by decide), wA_s, fU_lt ht]
    · rw [← hy2, wA_n _ _ (by decide), wA_s, fU_lt ht]
    · rw [← hy2, wA_s, fU_lt hi]; rfl
/-- the file's first two bytes -/
theorem m_fhead (h : fpY y D L 0) : ∃ y', FYq y y' ∧ ((∃ f, sgBg D L = .inl f ∧ ftY y' f ∧ fX14_readFile X (rg_p lM b w0 y) (b + 4) = some (rg_p lM b w0 y')) ∨ (sgBg D L = .inr sg0 ∧ fpY y' D L 2 ∧ fX14_readFile X (rg_p lM b w0 y) (b + 4) = fX14_readFile_56 X FU (b + 4) 0 1 (rg_p lM b w0 y'))) := by
  have hL := h.2.2.2.2.1
  obtain ⟨v1, y1, e1, F1, o1⟩ := m_nf (X := X) (b := b) (w0 := w0) h
  have e26 : ∀ (z : rg_S) (f : sgF), ftY z f → fX14_readFile_26 X (b + 4) (rg_p lM b w0 z) = some (rg_p lM b w0 z) := by
    intro z f hf
    unfold fX14_readFile_26 fX14_readFile_52
    exact ob_v (rg_O rfl) (ob_v (m_nx0 hf) (ob_v (rg_I rfl rfl) (ei_n hf.n (m_r56_0 (M := 3999999) hf))))
  have start : ∀ z, (if y1.1 4 4 = 0 then (if v1 = 255 then fX14_readFile_26 X (b + 4) (rg_p lM b w0 y1) else (fX14_wrong X (rg_p lM b w0 y1) (b + 4) 2 0).bind fun q83 => fX14_readFile_26 X (b + 4) q83.2) else fX14_readFile_26 X (b + 4) (rg_p lM b w0 y1)) = z → fX14_readFile X (rg_p lM b w0 y) (b + 4) = z := by
    intro z hz
    unfold fX14_readFile
    refine ob_v (rg_O rfl) (ob_v e1 (ob_v (rg_I rfl rfl) ?_))
    by_cases c1 : y1.1 4 4 = 0
    · rw [if_pos c1] at hz
      refine ei_t c1 ?_
      by_cases c2 : v1 = 255
      · rw [if_pos c2] at hz
        exact ei_t c2 hz
      · rw [if_neg c2] at hz
        exact ei_n c2 (ob_v (rg_O rfl) hz)
    · rw [if_neg c1] at hz
      exact ei_n c1 hz
  unfold sgBg
  rcases o1 with ⟨a1, a2, a3⟩ | ⟨a1, a2, a3⟩
  · have l0 : L = 0 := by omega
    rw [if_pos l0]
    rw [l0] at a3
    exact ⟨y1, F1, Or.inl ⟨_, rfl, a3, start _ (ei_n a3.n (e26 y1 _ a3))⟩⟩
  rw [if_neg (by omega)]
  have hD := (h.2.2.2.2.2 0 a1).2
  by_cases d : D 0 = 255
  · rw [if_neg (fun e => e d)]
    rw [a2, d] at start
    have start2 : ∀ z, fX14_readFile_26 X (b + 4) (rg_p lM b w0 y1) = z → fX14_readFile X (rg_p lM b w0 y) (b + 4) = z := fun z hz => start _ (ei_t a3.2.1 (ei_t rfl hz))
    obtain ⟨v2, y2, e2, F2, o2⟩ := m_nf (X := X) (b := b) (w0 := w0) a3
    have start3 : ∀ z, (if y2.1 4 4 = 0 then (if v2 = 216 then fX14_readFile_52 X (b + 4) (rg_p lM b w0 y2) else (fX14_wrong X (rg_p lM b w0 y2) (b + 4) 2 0).bind fun q83 => fX14_readFile_52 X (b + 4) q83.2) else fX14_readFile_52 X (b + 4) (rg_p lM b w0 y2)) = z → fX14_readFile X (rg_p lM b w0 y) (b + 4) = z := by
      intro z hz
      refine start2 _ ?_
      unfold fX14_readFile_26
      refine ob_v (rg_O rfl) (ob_v e2 (ob_v (rg_I rfl rfl) ?_))
      by_cases c1 : y2.1 4 4 = 0
      · rw [if_pos c1] at hz
        refine ei_t c1 ?_
        by_cases c2 : v2 = 216
        · rw [if_pos c2] at hz
          exact ei_t c2 hz
        · rw [if_neg c2] at hz
          exact ei_n c2 (ob_v (rg_O rfl) hz)
      · rw [if_neg c1] at hz
        exact ei_n c1 hz
    rcases o2 with ⟨c1, c2, c3⟩ | ⟨c1, c2, c3⟩
    · have l1 : L = 1 := by omega
      rw [if_pos l1]
      rw [l1] at c3
      refine ⟨y2, F1.trans F2, Or.inl ⟨_, rfl, c3, start3 _ (ei_n c3.n ?_)⟩⟩
      unfold fX14_readFile_52
      exact m_r56_0 (M := 3999999) c3
    · rw [if_neg (by omega)]
      have hD1 := (h.2.2.2.2.2 1 c1).2
      by_cases d1 : D 1 = 216
      · rw [if_neg (fun e => e d1)]
        exact ⟨y2, F1.trans F2, Or.inr ⟨rfl, c3, start3 _ (ei_t c3.2.1 (ei_t (by rw [c2, d1]; rfl) rfl))⟩⟩
      · rw [if_pos d1]
        obtain ⟨y3, e3, F3, f1, f2⟩ := m_sw (X := X) (b := b) (w0 := w0) (y := y2) (f := 2) (q := 0) c3.2.1
        have ft : ftY y3 (2, 0) := ftY.i f1 f2 (by decide) (by decide) (by decide)
        refine ⟨y3, (F1.trans F2).trans F3, Or.inl ⟨_, rfl, ft, start3 _ (ei_t c3.2.1 (ei_n ?_ (ob_v e3 ?_)))⟩⟩
        · rw [c2]
          exact fun e => d1 ((nI_eq (b := 216) (by omega) (by omega)).mp e)
        · unfold fX14_readFile_52
          exact m_r56_0 (M := 3999999) ft
  · rw [if_pos d]
    obtain ⟨y3, e3, F3, f1, f2⟩ := m_sw (X := X) (b := b) (w0 := w0) (y := y1) (f := 2) (q := 0) a3.2.1
    have ft : ftY y3 (2, 0) := ftY.i f1 f2 (by decide) (by decide) (by decide)
    refine ⟨y3, F1.trans F3, Or.inl ⟨_, rfl, ft, start _ (ei_t a3.2.1 (ei_n ?_ (ob_v e3 (e26 y3 _ ft))))⟩⟩
    rw [a2]
    exact fun e => d ((nI_eq (b := 255) (by omega) (by omega)).mp e)
/-- a pass is ready -/
theorem m_all0 (h1 : y.1 4 1 = nI L) (hL : L ≤ 16384) (hb : ∀ i, i < L → y.2.2.1 5 i &&& 255 = nI (D i) ∧ D i < 256) : ∃ y1, FYg y y1 ∧ fpY y1 D L 0 ∧ fsY y1 sg0 ∧ (∀ a, a ≠ 11 → a ≠ 13 → a ≠ 18 → y1.2.2.1 a = y.2.2.1 a) ∧ ∀ z, ((fX14_readFile X (rg_p lM b w0 y1) (b + 4)).bind fun q21 => (gI q21 (b + 4) 14 4).bind fun v22 => if v22 ≤ 0 then fX14_readAll_39 X (b + 4) q21 else (gO q21 (b + 4) 14).bind fun o24 => (fX14_forget X q21 (b + 4)).bind fun q25 => fX14_readAll_39 X (b + 4) q25) = z → fX14_readAll X (rg_p lM b w0 y) (b + 4) = z := by
  generalize hy0 : rg_wI (rg_wI y 4 4 0) 4 5 (-1) = y0
  obtain ⟨y1, e1, F1, fs1, i1, a1⟩ := m_forget (X := X) (b := b) (w0 := w0) (y := y0)
  generalize hy2 : rg_wI (rg_wI y1 4 6 0) 4 7 (-1) = y2
  have F0 : FYg y y0 := by
    rw [← hy0]
    exact (FYg.wI (by omega)).trans (FYg.wI (by omega))
  have F2 : FYkk y1 y2 := by
    rw [← hy2]
    exact (FYkk.wI (by omega)).trans (FYkk.wI (by omega))
  refine ⟨y2, F0.trans (F1.trans F2.g), ⟨?_, ?_, ?_, ?_, ⟨hL, Nat.zero_le _, ?_⟩, ?_⟩, fs1.k F2, fun a h1 h2 h3 => ?_, fun z hz => ?_⟩
  · rw [← hy2, wI_n _ _ (by omega), wI_s]; rfl
  · rw [← hy2, wI_n _ _ (by omega), wI_n _ _ (by omega), i1 _ (by omega) (by omega) (by omega), ← hy0, wI_n _ _ (by omega), wI_s]
  · rw [← hy2, wI_s]
  · rw [← hy2, wI_n _ _ (by omega), wI_n _ _ (by omega), i1 _ (by omega) (by omega) (by omega), ← hy0, wI_n _ _ (by omega), wI_n _ _ (by omega)]; exact h1
  · rw [← hy2, wI_n _ _ (by omega), wI_n _ _ (by omega), i1 _ (by omega) (by omega) (by omega), ← hy0, wI_s]
  · rw [← hy2, wI_2, wI_2, a1 5 (by decide) (by decide) (by decide), ← hy0, wI_2, wI_2]; exact hb
  · rw [← hy2, wI_2, wI_2, a1 a h1 h2 h3, ← hy0, wI_2, wI_2]
  · unfold fX14_readAll
    refine ob_v (rg_pI rfl rfl _) (ob_v (rg_pI rfl rfl _) (ob_v (rg_O rfl) ?_))
    rw [hy0]
    refine ob_v e1 (ob_v (rg_pI rfl rfl _) (ob_v (rg_pI rfl rfl _) (ob_v (rg_O rfl) ?_)))
    rw [hy2]
    exact hz
/-- the whole first pass -/
theorem m_all1 (hD : ∀ i, D i < 256) (h1 : y.1 4 1 = nI L) (hL : L ≤ 16384) (hb : ∀ i, i < L → y.2.2.1 5 i &&& 255 = nI (D i)) (h3 : y.1 4 3 = 0) (h2 : y.2.1 4 2 = 0) : ∃ v y', fX14_readAll X (rg_p lM b w0 y) (b + 4) = some (v, rg_p lM b w0 y') ∧ FYg y y' ∧ ((∃ f, sgB (sgBg D L) (sgPs D L (L + 1)) = .inl f ∧ v = nI f.1 ∧ y'.1 4 5 = nI f.2 ∧ 1 ≤ f.1 ∧ f.1 ≤ 8 ∧ f.2 ≤ 20000) ∨ ∃ s2, sgB (sgBg D L) (sgPs D L (L + 1)) = .inr s2 ∧ v = 0 ∧ y'.1 4 5 = -1 ∧ fsY y' s2) := by
  obtain ⟨y1, F1, p1, fs1, _, st⟩ := m_all0 (X := X) (b := b) (w0 := w0) h1 hL (fun i hi => ⟨hb i hi, hD i⟩)
  obtain ⟨y2, F2, o2⟩ := m_fhead (X := X) (b := b) (w0 := w0) p1
  have flt : ∀ (z : rg_S) (f : sgF), FYg y1 z → ftY z f → fX14_readFile X (rg_p lM b w0 y1) (b + 4) = some (rg_p lM b w0 z) → ∃ v y', fX14_readAll X (rg_p lM b w0 y) (b + 4) = some (v, rg_p lM b w0 y') ∧ FYg y y' ∧ (v = nI f.1 ∧ y'.1 4 5 = nI f.2 ∧ 1 ≤ f.1 ∧ f.1 ≤ 8 ∧ f.2 ≤ 20000) := by
    intro z f Fz hf e
    obtain ⟨z1, g1, G1, _, i1, _⟩ := m_forget (X := X) (b := b) (w0 := w0) (y := z)
    refine ⟨z1.1 4 4, z1, st _ (ob_v e (ob_v (rg_I rfl rfl) (ei_n hf.g (ob_v (rg_O rfl) (ob_v g1 ?_))))), F1.trans (Fz.trans G1), ?_, ?_, hf.2.2⟩
    · unfold fX14_readAll_39
      exact ob_v (rg_I rfl rfl) rfl
    · rw [i1 _ (by omega) (by omega) (by omega)]; exact hf.1
    · rw [i1 _ (by omega) (by omega) (by omega)]; exact hf.2.1
  rcases o2 with ⟨f, r1, r2, r3⟩ | ⟨r1, r2, r3⟩
  · rw [r1]
    obtain ⟨v, y', e, F, g⟩ := flt y2 f F2.g r2 r3
    exact ⟨v, y', e, F, Or.inl ⟨f, rfl, g⟩⟩
  rw [r1]
  show ∃ v y', _ ∧ _ ∧ ((∃ f, sgPs D L (L + 1) sg0 = .inl f ∧ _) ∨ ∃ s2, sgPs D L (L + 1) sg0 = .inr s2 ∧ _)
  have fs2 : fsY y2 sg0 := fs1.k F2.k
  obtain ⟨y3, F3, e3, o3⟩ := m_psS (X := X) (b := b) (w0 := w0) (D := D) (L := L) hD (L + 1) FU y2 sg0 (by show L < 2 + (L + 1); omega) (by show L + 10 < 2 + FU; unfold FU; omega) r2 fs2 sg0_ok.1 sg0_ok.2 (by rw [F2.1 _ _ (by omega), F1.2.1.2]; exact h3) (by rw [F2.2, F1.2.2.1]; exact h2)
  have e3 : fX14_readFile X (rg_p lM b w0 y1) (b + 4) = some (rg_p lM b w0 y3) := r3.trans e3
  rcases o3 with ⟨f, q1, q2⟩ | ⟨s2, q1, q2, q3⟩
  · obtain ⟨v, y', e, F, g⟩ := flt y3 f (F2.g.trans F3) q2 e3
    exact ⟨v, y', e, F, Or.inl ⟨f, q1, g⟩⟩
  · refine ⟨0, y3, st _ (ob_v e3 (ob_v (rg_I rfl rfl) (ei_t ?_ ?_))), F1.trans (F2.g.trans F3), Or.inr ⟨s2, q1, rfl, q2.2.2.2.2.1.2.2, q3⟩⟩
    · rw [q2.2.1]; decide
    · unfold fX14_readAll_39
      refine ob_v (rg_I rfl rfl) ?_
      rw [q2.2.1]
end
