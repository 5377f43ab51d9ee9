/-! openInput whole, by the reference -/
def FYO (y y' : rg_S) : Prop := (∀ k, k < 7 ∨ 12 ≤ k ∧ k < 17 → y'.1 0 k = y.1 0 k) ∧ y'.1 24 42 = y.1 24 42 ∧ ∀ a, a < 5 ∨ 65 ≤ a → y'.2.2.1 a = y.2.2.1 a
def opG (y y' : rg_S) (v : Int32) (f : Nat) (pl : Int32) : Prop := v = nI f ∧ y'.1 0 7 = nI f ∧ y'.1 0 8 = pl ∧ (∀ k, 9 ≤ k → y'.1 0 k = y.1 0 k) ∧ ∀ a, 58 ≤ a → a ≤ 64 → y'.2.2.1 a = y.2.2.1 a
/-- nothing of the picture has changed -/
def FYp2 (y y' : rg_S) : Prop := (∀ k, k ≠ 7 → k ≠ 8 → y'.1 0 k = y.1 0 k) ∧ y'.1 24 42 = y.1 24 42 ∧ ∀ a, a < 5 ∨ 58 ≤ a → y'.2.2.1 a = y.2.2.1 a
theorem FYp2.trans {y y1 y2 : rg_S} (h : FYp2 y y1) (h2 : FYp2 y1 y2) : FYp2 y y2 := ⟨fun k a c => (h2.1 k a c).trans (h.1 k a c), h2.2.1.trans h.2.1, fun a e => (h2.2.2 a e).trans (h.2.2 a e)⟩
theorem FYp2.O {y y' : rg_S} (h : FYp2 y y') : FYO y y' := ⟨fun k a => h.1 k (by omega) (by omega), h.2.1, fun a e => h.2.2 a (by omega)⟩
theorem FYg.p2 {y y' : rg_S} (h : FYg y y') : FYp2 y y' := ⟨fun k _ _ => h.1 0 k (by omega), h.1 24 42 (by omega), fun a e => h.2.2.2.1 a (by omega)⟩
theorem FYf.p2 {y y' : rg_S} (h : FYf y y') : FYp2 y y' := ⟨fun k _ _ => h.1 0 k (by omega), h.1 24 42 (by omega), fun a e => h.2.2 a (by omega) (by omega) (by omega)⟩
theorem FYo.p2 {y y' : rg_S} (h : FYo y y') : FYp2 y y' := ⟨fun k _ a => h.1 0 k (by omega) (by omega) (by omega), h.1 24 42 (by omega) (by omega) (by omega), fun a e => h.2.2.1 a (by omega) (by omega) (by omega) (by omega) (by omega)⟩
theorem mPic.c2 {y y' : rg_S} {g : gG} (h : mPic y g) (e1 : ∀ k, 18 ≤ k → k ≤ 29 → y'.1 0 k = y.1 0 k) (e2 : ∀ a, 58 ≤ a → a ≤ 62 → y'.2.2.1 a = y.2.2.1 a) : mPic y' g := by
  unfold mPic mFr at *
  rw [e1 18 (by decide) (by decide), e1 19 (by decide) (by decide), e1 20 (by decide) (by decide), e1 26 (by decide) (by decide), e1 27 (by decide) (by decide), e1 28 (by decide) (by decide), e1 29 (by decide) (by decide), e2 58 (by decide) (by decide), e2 59 (by decide) (by decide), e2 60 (by decide) (by decide), e2 61 (by decide) (by decide), e2 62 (by decide) (by decide)]
  exact h
section
variable {X : px_X} {b B : Nat} {w0 w1 : px_W} {y y' : rg_S} {L : Nat} {D : Nat → Nat} {g : gG}
theorem m_o13 {y0 : rg_S} (h1 : y.1 0 1 = nI L) (hL : L ≤ 16384) : fX15_openInput_13 X FU (b + 0) 0 (rg_p lM b w0 y) = fX15_openInput_42 X (b + 0) (rg_p lM b w0 (rg_wA y 5 (fU L (fun i => bt (y.2.2.1 1 i)) (y.2.2.1 5)))) := by
  have e := rg_lpF (F := fun M (s : Int32 × rg_S) => fX15_openInput_13 X M (b + 0) s.1 (rg_p lM b w0 s.2)) L (fun i => (nI i, rg_wA y 5 (fU i (fun i => bt (y.2.2.1 1 i)) (y.2.2.1 5)))) (r := fX15_openInput_42 X (b + 0) (rg_p lM b w0 (rg_wA y 5 (fU L (fun i => bt (y.2.2.1 1 i)) (y.2.2.1 5))))) (by omega) ?_ ?_
  · dsimp only at e
    rw [fU_0, wA_id rfl] at e
    exact e
  · intro M i hi
    dsimp only
    rw [fX15_openInput_13.eq_2]
    refine ob_v (rg_I rfl rfl) ?_
    rw [wA_1, h1]
    refine ei_n (nI_ge hi (by omega)) (ob_v (rg_C rfl rfl) (ob_v (rg_C rfl rfl) (ob_v (rg_C rfl rfl) (ob_v (rg_A rfl (by decide) _ (by omega) (by decide)) ?_))))
    rw [wA_n _ _ (by decide)]
    refine ob_v (rg_sA (vp_nar .byte) rfl (by decide) _ _ (by omega) (by decide)) ?_
    rw [wA_s, wA_wA, nI_1, ← fU_s i (fun i => bt (y.2.2.1 1 i)) (y.2.2.1 5)]
    rfl
  · intro M
    dsimp only
    rw [fX15_openInput_13.eq_2]
    refine ob_v (rg_I rfl rfl) ?_
    rw [wA_1, h1]
    exact ei_t (nI_le (Nat.le_refl _) (by omega)) rfl
theorem m_o113 {A2 : Int32} (hg : gOk g) (hh : ∀ c, c < g.2.2.1 → y.2.2.1 8 c = nI (g.2.2.2.1 c)) (hv : ∀ c, c < g.2.2.1 → y.2.2.1 9 c = nI (g.2.2.2.2 c)) : fX15_openInput_113 X FU (b + 0) (nI g.2.2.1) A2 0 0 (rg_p lM b w0 y) = fX15_openInput_173 X (b + 0) (nI g.2.2.1) A2 (nI (shN g g.2.2.1)) (rg_p lM b w0 (rg_wA y 57 (fU g.2.2.1 (fun _ => 0) (y.2.2.1 57)))) := by
  have h4 := hg.2.2.2.2.2.1
  have e := rg_lpF (F := fun M (s : Int32 × Int32 × rg_S) => fX15_openInput_113 X M (b + 0) (nI g.2.2.1) A2 s.1 s.2.1 (rg_p lM b w0 s.2.2)) g.2.2.1 (fun i => (nI (shN g i), nI i, rg_wA y 57 (fU i (fun _ => 0) (y.2.2.1 57)))) (r := fX15_openInput_173 X (b + 0) (nI g.2.2.1) A2 (nI (shN g g.2.2.1)) (rg_p lM b w0 (rg_wA y 57 (fU g.2.2.1 (fun _ => 0) (y.2.2.1 57))))) (by omega) ?_ ?_
  · dsimp only at e
    rw [fU_0, wA_id rfl] at e
    exact e
  · intro M c hc
    have f := hg.2.2.2.2.2.2 c hc
    dsimp only
    rw [fX15_openInput_113.eq_2]
    refine ei_n (nI_ge hc (by omega)) (ob_v (rg_C rfl rfl) (ob_v (rg_C rfl rfl) (ob_v (rg_A rfl (by decide) _ (by omega) (by decide)) (ob_v (rg_C rfl rfl) (ob_v (rg_C rfl rfl) (ob_v (rg_A rfl (by decide) _ (by omega) (by decide)) (ob_v (rg_C rfl rfl) (ob_v (rg_sA (vp_nar .boolean) rfl (by decide) _ _ (by omega) (by decide)) ?_))))))))
    rw [wA_n _ _ (by decide), wA_n _ _ (by decide), hh c hc, hv c hc, show nI (g.2.2.2.1 c) - 1 = nI (g.2.2.2.1 c - 1) from pk_sub (b := 1) f.1.1, show nI (g.2.2.2.2 c) - 1 = nI (g.2.2.2.2 c - 1) from pk_sub (b := 1) f.2.1, show (2 : Int32) * nI c = nI (2 * c) from pk_mul 2 c, nI_1 (2 * c), shN_s hg hc, nI_1, wA_s, wA_wA, show vp_nar .boolean (0 : Int32) = 0 from rfl, ← fU_s c (fun _ => 0) (y.2.2.1 57)]
  · intro M
    dsimp only
    rw [fX15_openInput_113.eq_2]
    exact ei_t (nI_le (Nat.le_refl _) (by omega)) rfl
theorem m_o296 {A4 A5 : Int32} {n : Nat} (n4 : n ≤ 4) : fX15_openInput_296 X FU (b + 0) (nI n) A4 A5 0 (rg_p lM b w0 y) = fX15_openInput_342 X (b + 0) A4 A5 (rg_p lM b w0 (rg_wA (rg_wA y 58 (fU n (fun i => y.2.2.1 8 i) (y.2.2.1 58))) 59 (fU n (fun i => y.2.2.1 9 i) (y.2.2.1 59)))) := by
  have e := rg_lpF (F := fun M (s : Int32 × rg_S) => fX15_openInput_296 X M (b + 0) (nI n) A4 A5 s.1 (rg_p lM b w0 s.2)) n (fun i => (nI i, rg_wA (rg_wA y 58 (fU i (fun i => y.2.2.1 8 i) (y.2.2.1 58))) 59 (fU i (fun i => y.2.2.1 9 i) (y.2.2.1 59)))) (r := fX15_openInput_342 X (b + 0) A4 A5 (rg_p lM b w0 (rg_wA (rg_wA y 58 (fU n (fun i => y.2.2.1 8 i) (y.2.2.1 58))) 59 (fU n (fun i => y.2.2.1 9 i) (y.2.2.1 59))))) (by omega) ?_ ?_
  · dsimp only at e
    rw [fU_0, fU_0, wA_id (s := rg_wA y 58 (y.2.2.1 58)) (wA_n _ _ (by decide)), wA_id rfl] at e
    exact e
  · intro M c hc
    dsimp only
    rw [fX15_openInput_296.eq_2]
    refine ei_n (nI_ge hc (by omega)) (ob_v (rg_C rfl rfl) (ob_v (rg_C rfl rfl) (ob_v (rg_C rfl rfl) (ob_v (rg_A rfl (by decide) _ (by omega) (by decide)) (ob_v (rg_sA id rfl (by decide) _ _ (by omega) (by decide)) (ob_v (rg_C rfl rfl) (ob_v (rg_C rfl rfl) (ob_v (rg_C rfl rfl) (ob_v (rg_A rfl (by decide) _ (by omega) (by decide)) (ob_v (rg_sA id rfl (by decide) _ _ (by omega) (by decide)) ?_))))))))))
    rw [nI_1]
    refine congrArg (fun s => fX15_openInput_296 X M (b + 0) (nI n) A4 A5 (nI (c + 1)) (rg_p lM b w0 s)) ?_
    refine S_ext rfl rfl (fun o => ?_) rfl
    simp only [wA_3]
    by_cases e1 : o = 59
    · subst e1
      simp only [if_true, if_false, reduceIte, Nat.reduceEqDiff, id]
      rw [fU_s]
    · by_cases e2 : o = 58
      · subst e2
        simp only [if_true, if_false, reduceIte, Nat.reduceEqDiff, id]
        rw [fU_s]
      · simp only [e1, e2, if_false]
  · intro M
    dsimp only
    rw [fX15_openInput_296.eq_2]
    exact ei_t (nI_le (Nat.le_refl _) (by omega)) rfl
theorem m_o349 {A4 A5 : Int32} : fX15_openInput_349 X FU (b + 0) A4 A5 0 (rg_p lM b w0 y) = fX15_openInput_380 X (b + 0) A4 A5 (rg_p lM b w0 (rg_wA y 64 (fU 12288 (fun i => vp_nar .short (y.2.2.1 32 i)) (y.2.2.1 64)))) := by
  have e := rg_lpF (F := fun M (s : Int32 × rg_S) => fX15_openInput_349 X M (b + 0) A4 A5 s.1 (rg_p lM b w0 s.2)) 12288 (fun i => (nI i, rg_wA y 64 (fU i (fun i => vp_nar .short (y.2.2.1 32 i)) (y.2.2.1 64)))) (r := fX15_openInput_380 X (b + 0) A4 A5 (rg_p lM b w0 (rg_wA y 64 (fU 12288 (fun i => vp_nar .short (y.2.2.1 32 i)) (y.2.2.1 64))))) (by omega) ?_ ?_
  · dsimp only at e
    rw [fU_0, wA_id rfl] at e
    exact e
  · intro M i hi
    dsimp only
    rw [fX15_openInput_349.eq_2]
    refine ei_n (nI_ge (b := 12288) hi (by omega)) (ob_v (rg_C rfl rfl) (ob_v (rg_C rfl rfl) (ob_v (rg_C rfl rfl) (ob_v (rg_A rfl (by decide) _ hi (by decide)) ?_))))
    rw [wA_n _ _ (by decide)]
    refine ob_v (rg_sA (vp_nar .short) rfl (by decide) _ _ hi (by decide)) ?_
    rw [wA_s, wA_wA, nI_1, ← fU_s i (fun i => vp_nar .short (y.2.2.1 32 i)) (y.2.2.1 64)]
  · intro M
    dsimp only
    rw [fX15_openInput_349.eq_2]
    exact ei_t (by decide) rfl
theorem m_o383 {A4 A5 : Int32} : fX15_openInput_380 X (b + 0) A4 A5 (rg_p lM b w0 y) = fX15_openInput_411 X (b + 0) A4 A5 (rg_p lM b w0 (rg_wA y 63 (fU 256 (fun i => y.2.2.1 56 i) (y.2.2.1 63)))) := by
  unfold fX15_openInput_380
  have e := rg_lpF (F := fun M (s : Int32 × rg_S) => fX15_openInput_383 X M (b + 0) A4 A5 s.1 (rg_p lM b w0 s.2)) 256 (fun i => (nI i, rg_wA y 63 (fU i (fun i => y.2.2.1 56 i) (y.2.2.1 63)))) (r := fX15_openInput_411 X (b + 0) A4 A5 (rg_p lM b w0 (rg_wA y 63 (fU 256 (fun i => y.2.2.1 56 i) (y.2.2.1 63))))) (by omega) ?_ ?_
  · dsimp only at e
    rw [fU_0, wA_id rfl] at e
    exact e
  · intro M i hi
    dsimp only
    rw [fX15_openInput_383.eq_2]
    refine ei_n (nI_ge (b := 256) hi (by omega)) (ob_v (rg_C rfl rfl) (ob_v (rg_C rfl rfl) (ob_v (rg_A rfl (by decide) _ hi (by decide)) ?_)))
    rw [wA_n _ _ (by decide)]
    refine ob_v (rg_sA id rfl (by decide) _ _ hi (by decide)) ?_
    rw [wA_s, wA_wA, nI_1, ← fU_s i (fun i => y.2.2.1 56 i) (y.2.2.1 63)]
    rfl
  · intro M
    dsimp only
    rw [fX15_openInput_383.eq_2]
    exact ei_t (by decide) rfl
/-- a picture that was read whole -/
theorem m_done {Q' st : Nat → Int32} {A4 A5 : Int32} (hg : gOk g) (h13 : y.1 4 13 = nI g.1) (hh : ∀ c, c < g.2.2.1 → y.2.2.1 8 c = nI (g.2.2.2.1 c)) (hv : ∀ c, c < g.2.2.1 → y.2.2.1 9 c = nI (g.2.2.2.2 c)) (hQ : ∀ i, i < 12288 → y.2.2.1 32 i = Q' i) (hQ2 : ∀ i, i < 12288 → cfOk (i % 64) (Q' i)) : ∃ y', ((pV (rg_p lM b w0 y) (b + 0) 15 8 (.int (-1))).bind fun w136 => (pZ w136 (b + 0) 15 17 1).bind fun w137 => (gR w137 (b + 0) 15 12).bind fun v138 => (gI w137 v138 14 13).bind fun v139 => (pV w137 (b + 0) 15 18 (.int v139)).bind fun w140 => (pV w140 (b + 0) 15 19 (.int (nI g.2.1))).bind fun w141 => (pV w141 (b + 0) 15 20 (.int (nI g.2.2.1))).bind fun w142 => fX15_openInput_296 X FU (b + 0) (nI g.2.2.1) A4 A5 0 w142) = some (0, rg_p lM b w0 y') ∧ FYO y y' ∧ (y'.1 0 7 = y.1 0 7 ∧ y'.1 0 8 = -1 ∧ y'.1 0 9 = A4 ∧ y'.1 0 10 = A5 ∧ y'.1 0 11 = y.1 0 11 + 1) ∧ y'.1 0 17 = 1 ∧ mPic y' g ∧ (∀ i, i < 12288 → y'.2.2.1 64 i = Q' i) ∧ ∀ i, i < 256 → y'.2.2.1 63 i = y.2.2.1 56 i := by
  have h4 := hg.2.2.2.2.2.1
  generalize hy1 : rg_wI (rg_wI (rg_wI (rg_wI (rg_wI y 0 8 (-1)) 0 17 1) 0 18 (nI g.1)) 0 19 (nI g.2.1)) 0 20 (nI g.2.2.1) = y1
  have i1 : ∀ p k, ¬ (p = 0 ∧ (k = 8 ∨ 17 ≤ k ∧ k ≤ 20)) → y1.1 p k = y.1 p k := by
    intro p k h
    rw [← hy1, wI_n _ _ (by omega), wI_n _ _ (by omega), wI_n _ _ (by omega), wI_n _ _ (by omega), wI_n _ _ (by omega)]
  have q1 : y1.2 = y.2 := by rw [← hy1]; rfl
  generalize hy2 : rg_wA (rg_wA y1 58 (fU g.2.2.1 (fun i => y1.2.2.1 8 i) (y1.2.2.1 58))) 59 (fU g.2.2.1 (fun i => y1.2.2.1 9 i) (y1.2.2.1 59)) = y2
  have i2 : y2.1 = y1.1 := by rw [← hy2]; rfl
  have a2 : ∀ a, a ≠ 58 → a ≠ 59 → y2.2.2.1 a = y.2.2.1 a := fun a h1 h2 => by rw [← hy2, wA_n _ _ h2, wA_n _ _ h1, q1]
  have fr : mFr y2 g := by
    refine ⟨?_, ?_, ?_, fun c hc => ?_, fun c hc => ?_⟩
    · rw [i2, ← hy1, wI_n _ _ (by omega), wI_n _ _ (by omega), wI_s]
    · rw [i2, ← hy1, wI_n _ _ (by omega), wI_s]
    · rw [i2, ← hy1, wI_s]
    · rw [← hy2, wA_n _ _ (by decide), wA_s, fU_lt hc, q1]
      exact hh c hc
    · rw [← hy2, wA_s, fU_lt hc, q1]
      exact hv c hc
  have lo := m_layOut (X := X) (b := b) (w0 := w0) hg fr
  have mp := ySt_pic fr
  generalize hy3 : ySt y2 g g.2.2.1 = y3 at *
  have i3 : ∀ p k, ¬ (p = 0 ∧ 26 ≤ k ∧ k ≤ 29) → y3.1 p k = y2.1 p k := by
    intro p k h
    rw [← hy3]
    unfold ySt ySt1 ySt0
    rw [wA_1, wA_1, wA_1, wI_n _ _ (by omega), wI_n _ _ (by omega), wI_n _ _ (by omega), wI_n _ _ (by omega)]
  have a3 : ∀ a, ¬ (60 ≤ a ∧ a ≤ 62) → y3.2.2.1 a = y2.2.2.1 a := by
    intro a h
    rw [← hy3]
    unfold ySt ySt1 ySt0
    rw [wA_n _ _ (by omega), wA_n _ _ (by omega), wA_n _ _ (by omega), wI_2, wI_2, wI_2, wI_2]
  generalize hy4 : rg_wA y3 64 (fU 12288 (fun i => vp_nar .short (y3.2.2.1 32 i)) (y3.2.2.1 64)) = y4
  generalize hy5 : rg_wA y4 63 (fU 256 (fun i => y4.2.2.1 56 i) (y4.2.2.1 63)) = y5
  have a5 : ∀ a, a ≠ 63 → a ≠ 64 → y5.2.2.1 a = y3.2.2.1 a := fun a h1 h2 => by rw [← hy5, wA_n _ _ h1, ← hy4, wA_n _ _ h2]
  have i5 : y5.1 = y3.1 := by rw [← hy5, wA_1, ← hy4, wA_1]
  refine ⟨rg_wI (rg_wI (rg_wI y5 0 9 A4) 0 10 A5) 0 11 (y.1 0 11 + 1), ?_, ⟨fun k hk => ?_, ?_, fun a ha => ?_⟩, ⟨?_, ?_, ?_, ?_, wI_s _ _ _ _⟩, ?_, ?_, fun i hi => ?_, fun i hi => ?_⟩
  · refine ob_v (rg_pI rfl rfl _) (ob_v (rg_pZ rfl rfl _ (Or.inr rfl)) (ob_v (rg_C rfl rfl) (ob_v (rg_I rfl rfl) ?_)))
    rw [wI_n _ _ (by omega), wI_n _ _ (by omega), h13]
    refine ob_v (rg_pI rfl rfl _) (ob_v (rg_pI rfl rfl _) (ob_v (rg_pI rfl rfl _) ?_))
    rw [hy1, m_o296 h4, hy2]
    unfold fX15_openInput_342
    refine ob_v (rg_O rfl) (ob_v lo ?_)
    rw [m_o349, hy4, m_o383, hy5]
    unfold fX15_openInput_411
    refine ob_v (rg_pI rfl rfl _) (ob_v (rg_pI rfl rfl _) (ob_v (rg_I rfl rfl) ?_))
    rw [wI_n _ _ (by omega), wI_n _ _ (by omega), i5, i3 _ _ (by omega), i2, i1 _ _ (by omega)]
    exact ob_v (rg_pI rfl rfl _) rfl
  · rw [wI_n _ _ (by omega), wI_n _ _ (by omega), wI_n _ _ (by omega), i5, i3 _ _ (by omega), i2, i1 _ _ (by omega)]
  · rw [wI_n _ _ (by omega), wI_n _ _ (by omega), wI_n _ _ (by omega), i5, i3 _ _ (by omega), i2, i1 _ _ (by omega)]
  · rw [wI_2, wI_2, wI_2, a5 a (by omega) (by omega), a3 a (by omega), a2 a (by omega) (by omega)]
  · rw [wI_n _ _ (by omega), wI_n _ _ (by omega), wI_n _ _ (by omega), i5, i3 _ _ (by omega), i2, i1 _ _ (by omega)]
  · rw [wI_n _ _ (by omega), wI_n _ _ (by omega), wI_n _ _ (by omega), i5, i3 _ _ (by omega), i2, ← hy1, wI_n _ _ (by omega), wI_n _ _ (by omega), wI_n _ _ (by omega), wI_n _ _ (by omega), wI_s]
  · rw [wI_n _ _ (by omega), wI_n _ _ (by omega), wI_s]
  · rw [wI_n _ _ (by omega), wI_s]
  · rw [wI_n _ _ (by omega), wI_n _ _ (by omega), wI_n _ _ (by omega), i5, i3 _ _ (by omega), i2, ← hy1, wI_n _ _ (by omega), wI_n _ _ (by omega), wI_n _ _ (by omega), wI_s]
  · refine mPic.c2 (y := y3) mp (fun k k1 k2 => ?_) (fun a a1 a2 => ?_)
    · rw [wI_n _ _ (by omega), wI_n _ _ (by omega), wI_n _ _ (by omega), i5]
    · rw [wI_2, wI_2, wI_2, a5 a (by omega) (by omega)]
  · rw [wI_2, wI_2, wI_2, ← hy5, wA_n _ _ (by decide), ← hy4, wA_s, fU_lt hi, a3 32 (by omega), a2 32 (by decide) (by decide), hQ i hi]
    exact nar_ok (hQ2 i hi)
  · rw [wI_2, wI_2, wI_2, ← hy5, wA_s, fU_lt hi, ← hy4, wA_n _ _ (by decide), a3 56 (by omega), a2 56 (by decide) (by decide)]
end
