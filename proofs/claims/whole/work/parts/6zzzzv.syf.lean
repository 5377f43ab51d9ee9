/-! a frame read by the reference -/
def csY (y : rg_S) (n : Nat) (cs : sg4) : Prop := ∀ i, i < n → y.2.2.1 7 i = nI (cs i).1 ∧ y.2.2.1 8 i = nI (cs i).2.1 ∧ y.2.2.1 9 i = nI (cs i).2.2.1 ∧ y.2.2.1 10 i = nI (cs i).2.2.2
def FYc (y y' : rg_S) : Prop := (∀ p k, ¬ (p = 4 ∧ 4 ≤ k ∧ k ≤ 6) → y'.1 p k = y.1 p k) ∧ y'.2.1 = y.2.1 ∧ (∀ a, ¬ (7 ≤ a ∧ a ≤ 10) → y'.2.2.1 a = y.2.2.1 a) ∧ y'.2.2.2 = y.2.2.2
theorem FYc.rfl {y : rg_S} : FYc y y := ⟨fun _ _ _ => Eq.refl _, Eq.refl _, fun _ _ => Eq.refl _, Eq.refl _⟩
theorem FYc.trans {y y1 y2 : rg_S} (h : FYc y y1) (h2 : FYc y1 y2) : FYc y y2 := ⟨fun p k a => (h2.1 p k a).trans (h.1 p k a), h2.2.1.trans h.2.1, fun a e => (h2.2.2.1 a e).trans (h.2.2.1 a e), h2.2.2.2.trans h.2.2.2⟩
theorem FYq.c {y y' : rg_S} (h : FYq y y') : FYc y y' := ⟨h.1, by rw [h.2], fun _ _ => by rw [h.2], by rw [h.2]⟩
theorem FYc.wA {a : Nat} {y : rg_S} {f : Nat → Int32} (h : 7 ≤ a ∧ a ≤ 10) : FYc y (rg_wA y a f) := ⟨fun _ _ _ => Eq.refl _, Eq.refl _, fun _ _ => wA_n _ _ (by omega), Eq.refl _⟩
theorem FYc.g {y y' : rg_S} (h : FYc y y') : FYg y y' := ⟨fun p k a => h.1 p k (by omega), ⟨h.1 _ _ (by omega), h.1 _ _ (by omega)⟩, h.2.1, fun a e => h.2.2.1 a (by omega), h.2.2.2⟩
section
variable {X : px_X} {b B : Nat} {w0 w1 : px_W} {y y' z z' : rg_S} {c : sgC} {p i n : Nat} {f : sgF} {cs : sg4} {A1 A2 A3 A4 s0 : Int32}
theorem m_f130_0 {M : Nat} (h : ftY y f) : ∃ y', fX14_readFrame_130 X (M + 1) (b + 4) A1 A2 A3 (rg_p lM b w0 y) = some (rg_p lM b w0 y') ∧ FYg y y' ∧ ftY y' f := by
  have e : fX14_readFrame_345 X (b + 4) A1 A2 (rg_p lM b w0 y) = some (rg_p lM b w0 (rg_wI (rg_wI y 4 15 A2) 4 12 A1)) := by
    unfold fX14_readFrame_345
    exact ob_v (rg_pI rfl rfl _) (ob_v (rg_pI rfl rfl _) rfl)
  refine ⟨rg_wI (rg_wI y 4 15 A2) 4 12 A1, ?_, (FYg.wI (by omega)).trans (FYg.wI (by omega)), (h.wi (by omega)).wi (by omega)⟩
  rw [fX14_readFrame_130.eq_2]
  exact ei_c (fun _ => e) (fun _ => ob_v (rg_I rfl rfl) (ei_n h.n e))
theorem m_f300_0 {M : Nat} (hi : i < 4) (hm : fX14_must X (rg_p lM b w0 z) (b + 4) s0 = some (rg_p lM b w0 z')) (hf : ftY z' f) : ∃ y', fX14_readFrame_300 X (fX14_readFrame_130 X (M + 1)) (b + 4) A1 A2 (nI i) s0 (b + 4) (rg_p lM b w0 z) = some (rg_p lM b w0 y') ∧ FYg z' y' ∧ ftY y' f := by
  obtain ⟨y', e, F, g⟩ := m_f130_0 (X := X) (b := b) (w0 := w0) (y := rg_wA z' 10 (upd (z'.2.2.1 10) i 0)) (A1 := A1) (A2 := A2) (A3 := nI i + 1) (M := M) (show ftY _ f from hf)
  refine ⟨y', ?_, (FYg.wA (by omega)).trans F, g⟩
  unfold fX14_readFrame_300
  refine ob_v (rg_O rfl) (ob_v hm (ob_v (rg_C rfl rfl) (ob_v (rg_O rfl) (ob_v (m_nx0 hf) (ob_v (rg_sA id rfl (by decide) _ _ hi (by decide)) (ob_v (rg_I rfl rfl) (ei_t (show ftY _ f from hf).l ?_)))))))
  unfold fX14_readFrame_331 fX14_readFrame_336
  exact ob_v (rg_O rfl) (ob_v (m_must1 (by decide)) e)
theorem m_f216_0 {M : Nat} (hi : i < 4) (hm : fX14_must X (rg_p lM b w0 z) (b + 4) s0 = some (rg_p lM b w0 z')) (hf : ftY z' f) : ∃ y', fX14_readFrame_216 X (fX14_readFrame_130 X (M + 1)) (b + 4) A1 A2 (nI i) s0 (b + 4) (rg_p lM b w0 z) = some (rg_p lM b w0 y') ∧ FYg z' y' ∧ ftY y' f := by
  obtain ⟨y', e, F, g⟩ := m_f300_0 (X := X) (b := b) (w0 := w0) (z := rg_wA (rg_wA z' 8 (upd (z'.2.2.1 8) i 0)) 9 (upd (z'.2.2.1 9) i 0)) (z' := rg_wA (rg_wA z' 8 (upd (z'.2.2.1 8) i 0)) 9 (upd (z'.2.2.1 9) i 0)) (A1 := A1) (A2 := A2) (s0 := 1) (M := M) hi (m_must1 (by decide)) (show ftY _ f from hf)
  refine ⟨y', ?_, ((FYg.wA (by omega)).trans (FYg.wA (by omega))).trans F, g⟩
  unfold fX14_readFrame_216
  refine ob_v (rg_O rfl) (ob_v hm (ob_v (rg_O rfl) (ob_v (m_nx0 hf) (ob_v (rg_C rfl rfl) (ob_v (show dI 0 16 = some 0 from rfl) (ob_v (rg_sA id rfl (by decide) _ _ hi (by decide)) (ob_v (rg_C rfl rfl) (ob_v (show rI 0 16 = some 0 from rfl) (ob_v (rg_sA id rfl (by decide) _ _ hi (by decide)) (ob_v (rg_I rfl rfl) (ei_t (show ftY _ f from hf).l ?_)))))))))))
  dsimp only [id]
  rw [wA_n _ _ (show 9 ≠ 8 by decide)]
  unfold fX14_readFrame_295
  exact e
theorem m_f198_0 {M : Nat} (hi : i < 4) (hf : ftY y f) : ∃ y', fX14_readFrame_198 X (fX14_readFrame_130 X (M + 1)) (b + 4) A1 A2 (nI i) A4 (rg_p lM b w0 y) = some (rg_p lM b w0 y') ∧ FYg y y' ∧ ftY y' f := by
  obtain ⟨y', e, F, g⟩ := m_f216_0 (X := X) (b := b) (w0 := w0) (z := y) (z' := y) (A1 := A1) (A2 := A2) (s0 := 1) (M := M) hi (m_must1 (by decide)) hf
  refine ⟨y', ?_, F, g⟩
  unfold fX14_readFrame_198
  refine ob_v (rg_I rfl rfl) (ei_t hf.l ?_)
  unfold fX14_readFrame_211
  exact e
theorem m_f158 {k130 : Nat → Int32 → Int32 → Int32 → px_W → Option (px_W)} (hi : i < 4) : ∀ (r j M : Nat) (A4 : Int32), j + r = i → r < M → ∃ A4', fX14_readFrame_158 X k130 M (b + 4) A1 A2 (nI i) A4 (nI j) (rg_p lM b w0 y) = fX14_readFrame_198 X k130 (b + 4) A1 A2 (nI i) A4' (rg_p lM b w0 y) ∧ (A4' = 0 ↔ A4 = 0 ∧ ∀ k, j ≤ k → k < i → y.2.2.1 7 k ≠ y.2.2.1 7 i) := by
  intro r
  induction r with
  | zero =>
    intro j M A4 hj hM
    obtain ⟨M, rfl⟩ : ∃ M', M = M' + 1 := ⟨M - 1, by omega⟩
    refine ⟨A4, ?_, ⟨fun h => ⟨h, fun k a b => by omega⟩, fun h => h.1⟩⟩
    rw [fX14_readFrame_158.eq_2]
    exact ei_t (nI_le (by omega) (by omega)) rfl
  | succ r ih =>
    intro j M A4 hj hM
    obtain ⟨M, rfl⟩ : ∃ M', M = M' + 1 := ⟨M - 1, by omega⟩
    by_cases a0 : A4 = 0
    · by_cases e : y.2.2.1 7 j = y.2.2.1 7 i
      · obtain ⟨A', e1, e2⟩ := ih (j + 1) M 1 (by omega) (by omega)
        refine ⟨A', ?_, ⟨fun h => absurd (e2.mp h).1 (by decide), fun h => absurd e (h.2 j (Nat.le_refl _) (by omega))⟩⟩
        rw [fX14_readFrame_158.eq_2]
        refine ei_n (nI_ge (by omega) (by omega)) (ei_t a0 (ob_v (rg_C rfl rfl) (ob_v (rg_A rfl (by decide) _ (by omega) (by decide)) (ob_v (rg_C rfl rfl) (ob_v (rg_A rfl (by decide) _ hi (by decide)) (ei_t e ?_))))))
        unfold fX14_readFrame_185 fX14_readFrame_190
        rw [nI_1]
        exact e1
      · obtain ⟨A', e1, e2⟩ := ih (j + 1) M 0 (by omega) (by omega)
        refine ⟨A', ?_, ⟨fun h => ⟨a0, fun k ka kb => ?_⟩, fun h => e2.mpr ⟨rfl, fun k ka kb => h.2 k (by omega) kb⟩⟩⟩
        · rw [fX14_readFrame_158.eq_2]
          refine ei_n (nI_ge (by omega) (by omega)) (ei_t a0 (ob_v (rg_C rfl rfl) (ob_v (rg_A rfl (by decide) _ (by omega) (by decide)) (ob_v (rg_C rfl rfl) (ob_v (rg_A rfl (by decide) _ hi (by decide)) (ei_n e ?_))))))
          unfold fX14_readFrame_190
          rw [nI_1]
          exact e1
        · rcases Nat.eq_or_lt_of_le ka with z | z
          · rw [← z]
            exact e
          · exact (e2.mp h).2 k z kb
    · obtain ⟨A', e1, e2⟩ := ih (j + 1) M 1 (by omega) (by omega)
      refine ⟨A', ?_, ⟨fun h => absurd (e2.mp h).1 (by decide), fun h => absurd h.1 a0⟩⟩
      rw [fX14_readFrame_158.eq_2]
      refine ei_n (nI_ge (by omega) (by omega)) (ei_n a0 ?_)
      unfold fX14_readFrame_185 fX14_readFrame_190
      rw [nI_1]
      exact e1
theorem m_cm (hn : n ≤ 4) : ∀ (r i p M : Nat) (cs : sg4) (y : rg_S), i + r = n → r + 1 < M → csOk i cs → kY y c p → csY y i cs → ∃ y', fX14_readFrame_130 X M (b + 4) A1 (nI n) (nI i) (rg_p lM b w0 y) = some (rg_p lM b w0 y') ∧ FYg y y' ∧ ((∃ f, sgCm c r i p cs = .inl f ∧ ftY y' f) ∨ ∃ p' cs', sgCm c r i p cs = .inr (p', cs') ∧ kY y' c p' ∧ csY y' n cs' ∧ y'.1 4 15 = nI n ∧ y'.1 4 12 = A1 ∧ (∀ k, ¬ (4 ≤ k ∧ k ≤ 6) → k ≠ 12 → k ≠ 15 → y'.1 4 k = y.1 4 k) ∧ ∀ a, ¬ (7 ≤ a ∧ a ≤ 10) → y'.2.2.1 a = y.2.2.1 a) := by
  intro r
  induction r with
  | zero =>
    intro i p M cs y hi hM ok h hc
    obtain rfl : i = n := by omega
    obtain ⟨M, rfl⟩ : ∃ M', M = M' + 1 := ⟨M - 1, by omega⟩
    refine ⟨rg_wI (rg_wI y 4 15 (nI i)) 4 12 A1, ?_, (FYg.wI (by omega)).trans (FYg.wI (by omega)), Or.inr ⟨p, cs, rfl, (h.wi (by omega)).wi (by omega), hc, by rw [wI_n _ _ (by omega), wI_s], wI_s _ _ _ _, fun k h1 h2 h3 => by rw [wI_n _ _ (by omega), wI_n _ _ (by omega)], fun _ _ => rfl⟩⟩
    rw [fX14_readFrame_130.eq_2]
    refine ei_t (nI_le (Nat.le_refl _) (by omega)) ?_
    unfold fX14_readFrame_345
    exact ob_v (rg_pI rfl rfl _) (ob_v (rg_pI rfl rfl _) rfl)
  | succ r ih =>
    intro i p M cs y hi hM ok h hc
    obtain ⟨M, rfl⟩ : ∃ M', M = M' + 1 := ⟨M - 1, by omega⟩
    obtain ⟨M0, hM0⟩ : ∃ M', M = M' + 1 := ⟨M - 1, by omega⟩
    have i4 : i < 4 := by omega
    have hL := h.2.2.2.2.2.1
    obtain ⟨v, y1, e1, F1, o1⟩ := m_nx (X := X) (b := b) (w0 := w0) h
    generalize hy2 : rg_wA y1 7 (upd (y1.2.2.1 7) i v) = y2
    have F2 : FYc y y2 := by
      rw [← hy2]
      exact F1.c.trans (FYc.wA (by omega))
    obtain ⟨A4', e2, e2'⟩ := m_f158 (X := X) (b := b) (w0 := w0) (y := y2) (A1 := A1) (A2 := nI n) (k130 := fX14_readFrame_130 X M) i4 i 0 FU 0 (by omega) (by unfold FU; omega)
    have start : ∀ z, fX14_readFrame_198 X (fX14_readFrame_130 X M) (b + 4) A1 (nI n) (nI i) A4' (rg_p lM b w0 y2) = z → fX14_readFrame_130 X (M + 1) (b + 4) A1 (nI n) (nI i) (rg_p lM b w0 y) = z := by
      intro z hz
      rw [fX14_readFrame_130.eq_2]
      refine ei_n (nI_ge (by omega) (by omega)) (ob_v (rg_I rfl rfl) (ei_t h.2.2.2.1 (ob_v (rg_C rfl rfl) (ob_v (rg_O rfl) (ob_v e1 (ob_v (rg_sA id rfl (by decide) _ _ i4 (by decide)) ?_))))))
      dsimp only [id]
      rw [hy2]
      exact (show fX14_readFrame_158 X (fX14_readFrame_130 X M) FU (b + 4) A1 (nI n) (nI i) 0 (nI 0) (rg_p lM b w0 y2) = _ from e2).trans hz
    unfold sgCm
    rcases o1 with ⟨f, r1, r2, r3⟩ | ⟨u, p1, r1, r2, r3, r4⟩
    · rw [r1]
      have r3' : ftY y2 f := by rw [← hy2]; exact r3
      obtain ⟨y3, e3, F3, f3⟩ := m_f198_0 (X := X) (b := b) (w0 := w0) (A1 := A1) (A2 := nI n) (A4 := A4') (M := M0) i4 r3'
      rw [← hM0] at e3
      exact ⟨y3, start _ e3, F2.g.trans F3, Or.inl ⟨f, rfl, f3⟩⟩
    have g1 := sgN_p r1
    have k2 : kY y2 c p1 := by
      rw [← hy2]
      exact r4.w (by decide)
    have n4 : ¬ 0 < y2.1 4 4 := by rw [k2.2.2.2.1]; decide
    have hA : A4' = 0 ↔ sgX cs u i = 0 := by
      rw [e2', sgX_0]
      refine ⟨fun hh j hj z => ?_, fun hh => ⟨rfl, fun k _ hk z => ?_⟩⟩
      · refine hh.2 j (Nat.zero_le _) hj ?_
        rw [← hy2, wA_s, pk_us, pk_un (by omega), F1.2, (hc j hj).1, z, r3]
      · rw [← hy2, wA_s, pk_us, pk_un (by omega), F1.2, (hc k hk).1, r3] at z
        exact hh k hk ((nI_eq (by have := (ok k hk).1; omega) (by omega)).mp z)
    rw [r1]
    show ∃ y', _ ∧ _ ∧ ((∃ f, (if sgX cs u i ≠ 0 then .inl (6, p) else sgB (sgN c p1) fun b => if b.1 ≠ 17 ∧ b.1 ≠ 18 ∧ b.1 ≠ 33 ∧ b.1 ≠ 34 then .inl (6, p1) else sgB (sgI c 0 3 b.2) fun d => sgCm c r (i + 1) d.2 (uG cs i (u, b.1 / 16, b.1 % 16, d.1))) = .inl f ∧ _) ∨ ∃ p' cs', (if sgX cs u i ≠ 0 then .inl (6, p) else sgB (sgN c p1) fun b => if b.1 ≠ 17 ∧ b.1 ≠ 18 ∧ b.1 ≠ 33 ∧ b.1 ≠ 34 then .inl (6, p1) else sgB (sgI c 0 3 b.2) fun d => sgCm c r (i + 1) d.2 (uG cs i (u, b.1 / 16, b.1 % 16, d.1))) = .inr (p', cs') ∧ _)
    by_cases d1 : sgX cs u i ≠ 0
    · rw [if_pos d1]
      obtain ⟨y3, e3, F3, f3⟩ := m_mustF (X := X) (b := b) (w0 := w0) (y := y2) k2.2.2.2.1 k2.1 (by omega) (by omega)
      rw [show (6, p1 - 1) = (6, p) by rw [g1.1]; rfl] at f3
      obtain ⟨y4, e4, F4, f4⟩ := m_f216_0 (X := X) (b := b) (w0 := w0) (A1 := A1) (A2 := nI n) (M := M0) i4 e3 f3
      rw [← hM0] at e4
      refine ⟨y4, start _ ?_, F2.g.trans (F3.g.trans F4), Or.inl ⟨_, rfl, f4⟩⟩
      unfold fX14_readFrame_198
      exact ob_v (rg_I rfl rfl) (ei_n n4 (ei_n (fun e => d1 (hA.mp e)) e4))
    rw [if_neg d1]
    have d1 := Classical.not_not.mp d1
    obtain ⟨v3, y3, e3, F3, o3⟩ := m_nx (X := X) (b := b) (w0 := w0) k2
    have start2 : ∀ z, fX14_readFrame_216 X (fX14_readFrame_130 X M) (b + 4) A1 (nI n) (nI i) 1 (b + 4) (rg_p lM b w0 y2) = z → fX14_readFrame_130 X (M + 1) (b + 4) A1 (nI n) (nI i) (rg_p lM b w0 y) = z := by
      intro z hz
      refine start _ ?_
      unfold fX14_readFrame_198
      exact ob_v (rg_I rfl rfl) (ei_n n4 (ei_t (hA.mpr d1) hz))
    rcases o3 with ⟨f, s1, s2, s3⟩ | ⟨hv, p3, s1, s2, s3, s4⟩
    · rw [s1]
      generalize hy4 : rg_wA (rg_wA y3 8 (upd (y3.2.2.1 8) i 0)) 9 (upd (y3.2.2.1 9) i 0) = y4
      have f4 : ftY y4 f := by rw [← hy4]; exact s3
      obtain ⟨y5, e5, F5, f5⟩ := m_f300_0 (X := X) (b := b) (w0 := w0) (z := y4) (z' := y4) (A1 := A1) (A2 := nI n) (s0 := 1) (M := M0) i4 (m_must1 (by decide)) f4
      rw [← hM0] at e5
      have F4 : FYc y3 y4 := by
        rw [← hy4]
        exact (FYc.wA (by omega)).trans (FYc.wA (by omega))
      refine ⟨y5, start2 _ ?_, F2.g.trans (F3.g.trans (F4.g.trans F5)), Or.inl ⟨f, rfl, f5⟩⟩
      unfold fX14_readFrame_216
      refine ob_v (rg_O rfl) (ob_v (m_must1 (by decide)) (ob_v (rg_O rfl) (ob_v e3 (ob_v (rg_C rfl rfl) ?_))))
      dsimp only
      rw [s2]
      refine ob_v (show dI 0 16 = some 0 from rfl) (ob_v (rg_sA id rfl (by decide) _ _ i4 (by decide)) (ob_v (rg_C rfl rfl) (ob_v (show rI 0 16 = some 0 from rfl) (ob_v (rg_sA id rfl (by decide) _ _ i4 (by decide)) (ob_v (rg_I rfl rfl) ?_)))))
      dsimp only [id]
      rw [wA_n _ _ (show 9 ≠ 8 by decide), hy4]
      refine ei_t f4.l ?_
      unfold fX14_readFrame_295
      exact e5
    have g3 := sgN_p s1
    rw [s1]
    show ∃ y', _ ∧ _ ∧ ((∃ f, (if hv ≠ 17 ∧ hv ≠ 18 ∧ hv ≠ 33 ∧ hv ≠ 34 then .inl (6, p1) else sgB (sgI c 0 3 p3) fun d => sgCm c r (i + 1) d.2 (uG cs i (u, hv / 16, hv % 16, d.1))) = .inl f ∧ _) ∨ ∃ p' cs', (if hv ≠ 17 ∧ hv ≠ 18 ∧ hv ≠ 33 ∧ hv ≠ 34 then .inl (6, p1) else sgB (sgI c 0 3 p3) fun d => sgCm c r (i + 1) d.2 (uG cs i (u, hv / 16, hv % 16, d.1))) = .inr (p', cs') ∧ _)
    generalize hy4 : rg_wA (rg_wA y3 8 (upd (y3.2.2.1 8) i (nI (hv / 16)))) 9 (upd (y3.2.2.1 9) i (nI (hv % 16))) = y4
    have F4 : FYc y3 y4 := by
      rw [← hy4]
      exact (FYc.wA (by omega)).trans (FYc.wA (by omega))
    have k4 : kY y4 c p3 := by
      rw [← hy4]
      exact (s4.w (by decide)).w (by decide)
    have n44 : ¬ 0 < y4.1 4 4 := by rw [k4.2.2.2.1]; decide
    have a8 : y4.2.2.1 8 i = nI (hv / 16) := by rw [← hy4, wA_n _ _ (by decide), wA_s, pk_us]
    have a9 : y4.2.2.1 9 i = nI (hv % 16) := by rw [← hy4, wA_s, pk_us]
    have start3 : ∀ z, (if nI (hv / 16) < 1 then fX14_readFrame_299 X (fX14_readFrame_130 X M) (b + 4) A1 (nI n) (nI i) (b + 4) (rg_p lM b w0 y4) else if 2 < nI (hv / 16) then fX14_readFrame_299 X (fX14_readFrame_130 X M) (b + 4) A1 (nI n) (nI i) (b + 4) (rg_p lM b w0 y4) else if nI (hv % 16) < 1 then fX14_readFrame_299 X (fX14_readFrame_130 X M) (b + 4) A1 (nI n) (nI i) (b + 4) (rg_p lM b w0 y4) else if 2 < nI (hv % 16) then fX14_readFrame_299 X (fX14_readFrame_130 X M) (b + 4) A1 (nI n) (nI i) (b + 4) (rg_p lM b w0 y4) else fX14_readFrame_295 X (fX14_readFrame_130 X M) (b + 4) A1 (nI n) (nI i) (b + 4) (rg_p lM b w0 y4)) = z → fX14_readFrame_130 X (M + 1) (b + 4) A1 (nI n) (nI i) (rg_p lM b w0 y) = z := by
      intro z hz
      refine start2 _ ?_
      unfold fX14_readFrame_216
      refine ob_v (rg_O rfl) (ob_v (m_must1 (by decide)) (ob_v (rg_O rfl) (ob_v e3 (ob_v (rg_C rfl rfl) ?_))))
      dsimp only
      rw [s3]
      refine ob_v (dI_n (d := 16) (by omega) (by decide) (by decide)) (ob_v (rg_sA id rfl (by decide) _ _ i4 (by decide)) (ob_v (rg_C rfl rfl) (ob_v (rI_n (d := 16) (by omega) (by decide) (by decide)) (ob_v (rg_sA id rfl (by decide) _ _ i4 (by decide)) (ob_v (rg_I rfl rfl) ?_)))))
      dsimp only [id]
      rw [wA_n _ _ (show 9 ≠ 8 by decide), hy4]
      refine ei_n n44 (ob_v (rg_C rfl rfl) (ob_v (rg_A rfl (by decide) _ i4 (by decide)) ?_))
      rw [a8]
      by_cases c1 : nI (hv / 16) < 1
      · rw [if_pos c1] at hz
        exact ei_t c1 hz
      rw [if_neg c1] at hz
      refine ei_n c1 (ob_v (rg_C rfl rfl) (ob_v (rg_A rfl (by decide) _ i4 (by decide)) ?_))
      rw [a8]
      by_cases c2 : 2 < nI (hv / 16)
      · rw [if_pos c2] at hz
        exact ei_t c2 hz
      rw [if_neg c2] at hz
      refine ei_n c2 (ob_v (rg_C rfl rfl) (ob_v (rg_A rfl (by decide) _ i4 (by decide)) ?_))
      rw [a9]
      by_cases c3 : nI (hv % 16) < 1
      · rw [if_pos c3] at hz
        exact ei_t c3 hz
      rw [if_neg c3] at hz
      refine ei_n c3 (ob_v (rg_C rfl rfl) (ob_v (rg_A rfl (by decide) _ i4 (by decide)) ?_))
      rw [a9]
      by_cases c4 : 2 < nI (hv % 16)
      · rw [if_pos c4] at hz
        exact ei_t c4 hz
      rw [if_neg c4] at hz
      exact ei_n c4 hz
    by_cases d2 : hv ≠ 17 ∧ hv ≠ 18 ∧ hv ≠ 33 ∧ hv ≠ 34
    · rw [if_pos d2]
      obtain ⟨y5, e5, F5, f5⟩ := m_mustF (X := X) (b := b) (w0 := w0) (y := y4) k4.2.2.2.1 k4.1 (by omega) (by omega)
      rw [show (6, p3 - 1) = (6, p1) by rw [g3.1]; rfl] at f5
      obtain ⟨y6, e6, F6, f6⟩ := m_f300_0 (X := X) (b := b) (w0 := w0) (A1 := A1) (A2 := nI n) (M := M0) i4 e5 f5
      rw [← hM0] at e6
      have e299 : fX14_readFrame_299 X (fX14_readFrame_130 X M) (b + 4) A1 (nI n) (nI i) (b + 4) (rg_p lM b w0 y4) = some (rg_p lM b w0 y6) := by
        unfold fX14_readFrame_299
        exact e6
      refine ⟨y6, start3 _ ?_, F2.g.trans (F3.g.trans (F4.g.trans (F5.g.trans F6))), Or.inl ⟨_, rfl, f6⟩⟩
      by_cases c1 : hv / 16 < 1
      · exact ei_t (nI_lt (b := 1) c1 (by omega)) e299
      refine ei_n (nI_nlt (b := 1) (by omega) (by omega)) ?_
      by_cases c2 : 2 < hv / 16
      · exact ei_t (nI_lt (a := 2) c2 (by omega)) e299
      refine ei_n (nI_nlt (a := 2) (by omega) (by omega)) ?_
      by_cases c3 : hv % 16 < 1
      · exact ei_t (nI_lt (b := 1) c3 (by omega)) e299
      refine ei_n (nI_nlt (b := 1) (by omega) (by omega)) ?_
      exact ei_t (nI_lt (a := 2) (by omega) (by omega)) e299
    rw [if_neg d2]
    have vals : 1 ≤ hv / 16 ∧ hv / 16 ≤ 2 ∧ 1 ≤ hv % 16 ∧ hv % 16 ≤ 2 := by omega
    have start4 : ∀ z, fX14_readFrame_300 X (fX14_readFrame_130 X M) (b + 4) A1 (nI n) (nI i) 1 (b + 4) (rg_p lM b w0 y4) = z → fX14_readFrame_130 X (M + 1) (b + 4) A1 (nI n) (nI i) (rg_p lM b w0 y) = z := by
      intro z hz
      exact start3 _ (ei_n (nI_nlt (b := 1) (by omega) (by omega)) (ei_n (nI_nlt (a := 2) (by omega) (by omega)) (ei_n (nI_nlt (b := 1) (by omega) (by omega)) (ei_n (nI_nlt (a := 2) (by omega) (by omega)) hz))))
    obtain ⟨v5, y5, e5, F5, o5⟩ := m_nx (X := X) (b := b) (w0 := w0) k4
    generalize hy6 : rg_wA y5 10 (upd (y5.2.2.1 10) i v5) = y6
    have F6 : FYc y5 y6 := by
      rw [← hy6]
      exact FYc.wA (by omega)
    have a10 : y6.2.2.1 10 i = v5 := by rw [← hy6, wA_s, pk_us]
    have Fall : FYc y y6 := F2.trans (F3.c.trans (F4.trans (F5.c.trans F6)))
    have start5 : ∀ z, (if 0 < y6.1 4 4 then fX14_readFrame_331 X (fX14_readFrame_130 X M) (b + 4) A1 (nI n) (nI i) (b + 4) (rg_p lM b w0 y6) else if 4 ≤ v5 then fX14_readFrame_336 X (fX14_readFrame_130 X M) (b + 4) A1 (nI n) (nI i) 0 (b + 4) (rg_p lM b w0 y6) else fX14_readFrame_331 X (fX14_readFrame_130 X M) (b + 4) A1 (nI n) (nI i) (b + 4) (rg_p lM b w0 y6)) = z → fX14_readFrame_130 X (M + 1) (b + 4) A1 (nI n) (nI i) (rg_p lM b w0 y) = z := by
      intro z hz
      refine start4 _ ?_
      unfold fX14_readFrame_300
      refine ob_v (rg_O rfl) (ob_v (m_must1 (by decide)) (ob_v (rg_C rfl rfl) (ob_v (rg_O rfl) (ob_v e5 (ob_v (rg_sA id rfl (by decide) _ _ i4 (by decide)) ?_)))))
      dsimp only [id]
      rw [hy6]
      refine ob_v (rg_I rfl rfl) ?_
      by_cases c1 : 0 < y6.1 4 4
      · rw [if_pos c1] at hz
        exact ei_t c1 hz
      · rw [if_neg c1] at hz
        refine ei_n c1 (ob_v (rg_C rfl rfl) (ob_v (rg_A rfl (by decide) _ i4 (by decide)) ?_))
        rw [a10]
        exact hz
    have e336 : ∀ (z z' : rg_S) (s0 : Int32), fX14_must X (rg_p lM b w0 z) (b + 4) s0 = some (rg_p lM b w0 z') → fX14_readFrame_336 X (fX14_readFrame_130 X M) (b + 4) A1 (nI n) (nI i) s0 (b + 4) (rg_p lM b w0 z) = fX14_readFrame_130 X M (b + 4) A1 (nI n) (nI (i + 1)) (rg_p lM b w0 z') := by
      intro z z' s0 hm
      unfold fX14_readFrame_336
      refine ob_v (rg_O rfl) (ob_v hm ?_)
      rw [nI_1]
    unfold sgI
    rcases o5 with ⟨f, t1, t2, t3⟩ | ⟨tq, p5, t1, t2, t3, t4⟩
    · rw [t1]
      have f6 : ftY y6 f := by rw [← hy6]; exact t3
      obtain ⟨y7, e7, F7, f7⟩ := m_f130_0 (X := X) (b := b) (w0 := w0) (A1 := A1) (A2 := nI n) (A3 := nI (i + 1)) (M := M0) f6
      rw [← hM0] at e7
      refine ⟨y7, start5 _ (ei_t f6.l ?_), Fall.g.trans F7, Or.inl ⟨f, rfl, f7⟩⟩
      unfold fX14_readFrame_331
      rw [e336 y6 y6 1 (m_must1 (by decide))]
      exact e7
    have g5 := sgN_p t1
    have k6 : kY y6 c p5 := by
      rw [← hy6]
      exact t4.w (by decide)
    have n46 : ¬ 0 < y6.1 4 4 := by rw [k6.2.2.2.1]; decide
    rw [t1]
    show ∃ y', _ ∧ _ ∧ ((∃ f, sgB (if tq < 0 ∨ 3 < tq then (.inl (6, p3) : sgF ⊕ (Nat × Nat)) else .inr (tq, p5)) (fun d => sgCm c r (i + 1) d.2 (uG cs i (u, hv / 16, hv % 16, d.1))) = .inl f ∧ _) ∨ ∃ p' cs', sgB (if tq < 0 ∨ 3 < tq then (.inl (6, p3) : sgF ⊕ (Nat × Nat)) else .inr (tq, p5)) (fun d => sgCm c r (i + 1) d.2 (uG cs i (u, hv / 16, hv % 16, d.1))) = .inr (p', cs') ∧ _)
    by_cases d5 : 3 < tq
    · rw [if_pos (by omega)]
      obtain ⟨y7, e7, F7, f7⟩ := m_mustF (X := X) (b := b) (w0 := w0) (y := y6) k6.2.2.2.1 k6.1 (by omega) (by omega)
      rw [show (6, p5 - 1) = (6, p3) by rw [g5.1]; rfl] at f7
      obtain ⟨y8, e8, F8, f8⟩ := m_f130_0 (X := X) (b := b) (w0 := w0) (A1 := A1) (A2 := nI n) (A3 := nI (i + 1)) (M := M0) f7
      rw [← hM0] at e8
      refine ⟨y8, start5 _ (ei_n n46 (ei_t (by rw [t3]; exact nI_le (a := 4) (by omega) (by omega)) ?_)), Fall.g.trans (F7.g.trans F8), Or.inl ⟨_, rfl, f8⟩⟩
      rw [e336 y6 y7 0 e7]
      exact e8
    rw [if_neg (by omega)]
    show ∃ y', _ ∧ _ ∧ ((∃ f, sgCm c r (i + 1) p5 (uG cs i (u, hv / 16, hv % 16, tq)) = .inl f ∧ _) ∨ ∃ p' cs', sgCm c r (i + 1) p5 (uG cs i (u, hv / 16, hv % 16, tq)) = .inr (p', cs') ∧ _)
    have ok1 : csOk (i + 1) (uG cs i (u, hv / 16, hv % 16, tq)) := by
      intro k hk
      rcases Nat.lt_or_ge k i with z | z
      · rw [uG_n _ _ (show k ≠ i by omega)]
        obtain ⟨k1, k2, k3, k4, k5⟩ := ok k z
        exact ⟨k1, k2, k3, k4, fun j hj => by rw [uG_n _ _ (show j ≠ i by omega)]; exact k5 j hj⟩
      · obtain rfl : k = i := by omega
        rw [uG_s]
        refine ⟨r2, ⟨vals.1, vals.2.1⟩, ⟨vals.2.2.1, vals.2.2.2⟩, by show tq < 4; omega, fun j hj => ?_⟩
        rw [uG_n _ _ (show j ≠ k by omega)]
        exact (sgX_0 k).mp d1 j hj
    obtain ⟨y7, e7, F7, o7⟩ := ih (i + 1) p5 M _ y6 (by omega) (by omega) ok1 k6 (by
      intro k hk
      rw [← hy6, wA_n _ _ (show 7 ≠ 10 by decide), wA_n _ _ (show 8 ≠ 10 by decide), wA_n _ _ (show 9 ≠ 10 by decide), wA_s, F5.2, ← hy4, wA_n _ _ (show 7 ≠ 9 by decide), wA_n _ _ (show 7 ≠ 8 by decide), wA_n _ _ (show 8 ≠ 9 by decide), wA_s, wA_s, wA_n _ _ (show 10 ≠ 9 by decide), wA_n _ _ (show 10 ≠ 8 by decide), F3.2, ← hy2, wA_s, wA_n _ _ (show 8 ≠ 7 by decide), wA_n _ _ (show 9 ≠ 7 by decide), wA_n _ _ (show 10 ≠ 7 by decide)]
      by_cases z : k = i
      · rw [z, pk_us, pk_us, pk_us, pk_us, uG_s]
        exact ⟨r3, rfl, rfl, t3⟩
      · rw [pk_un z, pk_un z, pk_un z, pk_un z, uG_n _ _ z, F1.2]
        exact hc k (by omega))
    refine ⟨y7, start5 _ (ei_n n46 (ei_n (by rw [t3]; exact nI_ge (b := 4) (by omega) (by omega)) ?_)), Fall.g.trans F7, ?_⟩
    · unfold fX14_readFrame_331
      rw [e336 y6 y6 1 (m_must1 (by decide))]
      exact e7
    · rcases o7 with o7 | ⟨p', cs', q1, q2, q3, q4, q5, q6, q7⟩
      · exact Or.inl o7
      · exact Or.inr ⟨p', cs', q1, q2, q3, q4, q5, fun k h1 h2 h3 => (q6 k h1 h2 h3).trans (Fall.1 _ _ (by omega)), fun a ha => (q7 a ha).trans (Fall.2.2.1 a ha)⟩
end
