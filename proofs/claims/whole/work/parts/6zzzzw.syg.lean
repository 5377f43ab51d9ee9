/-! a whole frame, by the reference -/
def sgFr1 (c : sgC) (p : Nat) : sgF ⊕ (Nat × Nat × Nat × Nat × sg4) := sgB (sgI c 8 8 p) fun a => sgB (sgU c 0 64 a.2) fun h => sgB (sgU c 1 64 h.2) fun w => sgB (sgI c 1 4 w.2) fun n => sgB (sgCm c n.1 0 n.2 (fun _ => (0, 0, 0, 0))) fun m => .inr (h.1, w.1, n.1, m)
theorem sgFr_1 {c : sgC} {p : Nat} : sgFr c p = sgB (sgFr1 c p) fun f => sgE c f.2.2.2.1 f := by
  unfold sgFr sgFr1
  rw [sgB_B]
  congr 1
  funext a
  rw [sgB_B]
  congr 1
  funext h
  rw [sgB_B]
  congr 1
  funext w
  rw [sgB_B]
  congr 1
  funext n
  rw [sgB_B]
  rfl
section
variable {X : px_X} {b B : Nat} {w0 w1 : px_W} {y y' z z' : rg_S} {c : sgC} {p i n : Nat} {f : sgF} {cs : sg4} {A1 A2 A3 A4 s0 : Int32}
theorem m_f125_0 (hm : fX14_must X (rg_p lM b w0 z) (b + 4) s0 = some (rg_p lM b w0 z')) (hf : ftY z' f) : ∃ y', fX14_readFrame_125 X (b + 4) A1 A2 s0 (b + 4) (rg_p lM b w0 z) = some (rg_p lM b w0 y') ∧ FYg z' y' ∧ ftY y' f := by
  obtain ⟨y', e, F, g⟩ := m_f130_0 (X := X) (b := b) (w0 := w0) (A1 := A1) (A2 := A2) (A3 := 0) (M := 3999999) hf
  refine ⟨y', ?_, F, g⟩
  unfold fX14_readFrame_125
  exact ob_v (rg_O rfl) (ob_v hm e)
theorem m_f95_0 (hm : fX14_must X (rg_p lM b w0 z) (b + 4) s0 = some (rg_p lM b w0 z')) (hf : ftY z' f) : ∃ y', fX14_readFrame_95 X (b + 4) A1 s0 (b + 4) (rg_p lM b w0 z) = some (rg_p lM b w0 y') ∧ FYg z' y' ∧ ftY y' f := by
  obtain ⟨y', e, F, g⟩ := m_f125_0 (X := X) (b := b) (w0 := w0) (z := z') (z' := z') (A1 := A1) (A2 := 0) (s0 := 1) (m_must1 (by decide)) hf
  refine ⟨y', ?_, F, g⟩
  unfold fX14_readFrame_95
  refine ob_v (rg_O rfl) (ob_v hm (ob_v (rg_O rfl) (ob_v (m_nx0 hf) (ob_v (rg_I rfl rfl) (ei_t hf.l ?_)))))
  unfold fX14_readFrame_120
  exact e
theorem m_f55_0 (hm : fX14_must X (rg_p lM b w0 z) (b + 4) s0 = some (rg_p lM b w0 z')) (hf : ftY z' f) : ∃ y', fX14_readFrame_55 X (b + 4) A1 s0 (b + 4) (rg_p lM b w0 z) = some (rg_p lM b w0 y') ∧ FYg z' y' ∧ ftY y' f := by
  have hf2 : ftY (rg_wI z' 4 13 0) f := hf.wi (by omega)
  obtain ⟨y', e, F, g⟩ := m_f95_0 (X := X) (b := b) (w0 := w0) (z := rg_wI z' 4 13 0) (z' := rg_wI z' 4 13 0) (A1 := A1) (s0 := 1) (m_must1 (by decide)) hf2
  refine ⟨y', ?_, (FYg.wI (by omega)).trans F, g⟩
  unfold fX14_readFrame_55
  refine ob_v (rg_O rfl) (ob_v hm (ob_v (rg_O rfl) (ob_v (m_two0 hf) (ob_v (rg_pI rfl rfl _) (ob_v (rg_I rfl rfl) (ei_t hf2.l ?_))))))
  unfold fX14_readFrame_90
  exact e
theorem m_f22_0 (hm : fX14_must X (rg_p lM b w0 z) (b + 4) s0 = some (rg_p lM b w0 z')) (hf : ftY z' f) : ∃ y', fX14_readFrame_22 X (b + 4) A1 s0 (b + 4) (rg_p lM b w0 z) = some (rg_p lM b w0 y') ∧ FYg z' y' ∧ ftY y' f := by
  have hf2 : ftY (rg_wI z' 4 14 0) f := hf.wi (by omega)
  obtain ⟨y', e, F, g⟩ := m_f55_0 (X := X) (b := b) (w0 := w0) (z := rg_wI z' 4 14 0) (z' := rg_wI z' 4 14 0) (A1 := A1) (s0 := 1) (m_must1 (by decide)) hf2
  refine ⟨y', ?_, (FYg.wI (by omega)).trans F, g⟩
  unfold fX14_readFrame_22
  refine ob_v (rg_O rfl) (ob_v hm (ob_v (rg_O rfl) (ob_v (m_two0 hf) (ob_v (rg_pI rfl rfl _) (ob_v (rg_I rfl rfl) (ei_t hf2.l ?_))))))
  unfold fX14_readFrame_50
  exact e
theorem m_fr (h : kY y c p) : ∃ y', fX14_readFrame X (rg_p lM b w0 y) (b + 4) A1 = some (rg_p lM b w0 y') ∧ FYg y y' ∧ ((∃ f, sgFr1 c p = .inl f ∧ ftY y' f) ∨ ∃ hh ww n p' cs', sgFr1 c p = .inr (hh, ww, n, p', cs') ∧ kY y' c p' ∧ csY y' n cs' ∧ y'.1 4 14 = nI hh ∧ y'.1 4 13 = nI ww ∧ y'.1 4 15 = nI n ∧ y'.1 4 12 = A1 ∧ (∀ k, ¬ (4 ≤ k ∧ k ≤ 6) → ¬ (12 ≤ k ∧ k ≤ 15) → y'.1 4 k = y.1 4 k) ∧ ∀ a, ¬ (7 ≤ a ∧ a ≤ 10) → y'.2.2.1 a = y.2.2.1 a) := by
  have hL := h.2.2.2.2.2.1
  unfold sgFr1 sgI
  obtain ⟨v1, y1, e1, F1, o1⟩ := m_nx (X := X) (b := b) (w0 := w0) h
  have start : ∀ z, (if v1 = 8 then fX14_readFrame_17 X (b + 4) A1 (b + 4) (rg_p lM b w0 y1) else if y1.1 4 4 ≤ 0 then fX14_readFrame_22 X (b + 4) A1 0 (b + 4) (rg_p lM b w0 y1) else fX14_readFrame_17 X (b + 4) A1 (b + 4) (rg_p lM b w0 y1)) = z → fX14_readFrame X (rg_p lM b w0 y) (b + 4) A1 = z := by
    intro z hz
    unfold fX14_readFrame
    refine ob_v (rg_O rfl) (ob_v e1 ?_)
    by_cases c1 : v1 = 8
    · rw [if_pos c1] at hz
      exact ei_t c1 hz
    · rw [if_neg c1] at hz
      exact ei_n c1 (ob_v (rg_I rfl rfl) hz)
  rcases o1 with ⟨f, r1, r2, r3⟩ | ⟨u1, p1, r1, r2, r3, r4⟩
  · rw [r1]
    obtain ⟨y2, e2, F2, f2⟩ := m_f22_0 (X := X) (b := b) (w0 := w0) (z := y1) (z' := y1) (A1 := A1) (s0 := 1) (m_must1 (by decide)) r3
    exact ⟨y2, start _ (ei_n (by rw [r2]; decide) (ei_n r3.g e2)), F1.g.trans F2, Or.inl ⟨f, rfl, f2⟩⟩
  have g1 := sgN_p r1
  rw [r1]
  show ∃ y', _ ∧ _ ∧ ((∃ f, sgB (if u1 < 8 ∨ 8 < u1 then (.inl (6, p) : sgF ⊕ (Nat × Nat)) else .inr (u1, p1)) _ = .inl f ∧ _) ∨ ∃ hh ww n p' cs', sgB (if u1 < 8 ∨ 8 < u1 then (.inl (6, p) : sgF ⊕ (Nat × Nat)) else .inr (u1, p1)) _ = .inr (hh, ww, n, p', cs') ∧ _)
  have kb1 := r4.2.2.2.2.2.1
  by_cases d1 : u1 ≠ 8
  · rw [if_pos (by omega)]
    obtain ⟨y2, e2, F2, f2⟩ := m_mustF (X := X) (b := b) (w0 := w0) (y := y1) r4.2.2.2.1 r4.1 (by omega) (by omega)
    rw [show (6, p1 - 1) = (6, p) by rw [g1.1]; rfl] at f2
    obtain ⟨y3, e3, F3, f3⟩ := m_f22_0 (X := X) (b := b) (w0 := w0) (A1 := A1) e2 f2
    exact ⟨y3, start _ (ei_n (by rw [r3]; exact fun e => d1 ((nI_eq (b := 8) (by omega) (by omega)).mp e)) (ei_t (by rw [r4.2.2.2.1]; decide) e3)), F1.g.trans (F2.g.trans F3), Or.inl ⟨_, rfl, f3⟩⟩
  have d1 := Classical.not_not.mp d1
  rw [if_neg (by omega)]
  -- the height
  show ∃ y', _ ∧ _ ∧ ((∃ f, sgB (sgU c 0 64 p1) _ = .inl f ∧ _) ∨ ∃ hh ww n p' cs', sgB (sgU c 0 64 p1) _ = .inr (hh, ww, n, p', cs') ∧ _)
  unfold sgU
  obtain ⟨v2, y2, e2, F2, o2⟩ := m_two (X := X) (b := b) (w0 := w0) r4
  generalize hy3 : rg_wI y2 4 14 v2 = y3
  have F3 : FYg y y3 := by
    rw [← hy3]
    exact (F1.trans F2).g.trans (FYg.wI (by omega))
  have i3 : y3.1 4 14 = v2 := by rw [← hy3, wI_s]
  have start2 : ∀ z, (if 0 < y3.1 4 4 then fX14_readFrame_50 X (b + 4) A1 (b + 4) (rg_p lM b w0 y3) else if 64 < v2 then fX14_readFrame_55 X (b + 4) A1 0 (b + 4) (rg_p lM b w0 y3) else fX14_readFrame_50 X (b + 4) A1 (b + 4) (rg_p lM b w0 y3)) = z → fX14_readFrame X (rg_p lM b w0 y) (b + 4) A1 = z := by
    intro z hz
    refine start _ (ei_t (by rw [r3, d1]; rfl) ?_)
    unfold fX14_readFrame_17 fX14_readFrame_22
    refine ob_v (rg_O rfl) (ob_v (m_must1 (by decide)) (ob_v (rg_O rfl) (ob_v e2 (ob_v (rg_pI rfl rfl _) ?_))))
    rw [hy3]
    refine ob_v (rg_I rfl rfl) ?_
    by_cases c1 : 0 < y3.1 4 4
    · rw [if_pos c1] at hz
      exact ei_t c1 hz
    · rw [if_neg c1] at hz
      refine ei_n c1 (ob_v (rg_I rfl rfl) ?_)
      rw [i3]
      exact hz
  rcases o2 with ⟨f, s1, s2⟩ | ⟨u2, p2, s1, s2, s3, s4, s5⟩
  · rw [s1]
    have f3 : ftY y3 f := by rw [← hy3]; exact s2.wi (by omega)
    obtain ⟨y4, e4, F4, f4⟩ := m_f55_0 (X := X) (b := b) (w0 := w0) (z := y3) (z' := y3) (A1 := A1) (s0 := 1) (m_must1 (by decide)) f3
    exact ⟨y4, start2 _ (ei_t f3.l e4), F3.trans F4, Or.inl ⟨f, rfl, f4⟩⟩
  have k3 : kY y3 c p2 := by rw [← hy3]; exact s4.wi (by omega)
  have n3 : ¬ 0 < y3.1 4 4 := by rw [k3.2.2.2.1]; decide
  have kb2 := k3.2.2.2.2.2.1
  rw [s1]
  show ∃ y', _ ∧ _ ∧ ((∃ f, sgB (if u2 < 0 ∨ 64 < u2 then (.inl (6, p1 + 1) : sgF ⊕ (Nat × Nat)) else .inr (u2, p2)) _ = .inl f ∧ _) ∨ ∃ hh ww n p' cs', sgB (if u2 < 0 ∨ 64 < u2 then (.inl (6, p1 + 1) : sgF ⊕ (Nat × Nat)) else .inr (u2, p2)) _ = .inr (hh, ww, n, p', cs') ∧ _)
  by_cases d2 : 64 < u2
  · rw [if_pos (by omega)]
    obtain ⟨y4, e4, F4, f4⟩ := m_mustF (X := X) (b := b) (w0 := w0) (y := y3) k3.2.2.2.1 k3.1 (by omega) (by omega)
    rw [show (6, p2 - 1) = (6, p1 + 1) by rw [s5]; rfl] at f4
    obtain ⟨y5, e5, F5, f5⟩ := m_f55_0 (X := X) (b := b) (w0 := w0) (A1 := A1) e4 f4
    exact ⟨y5, start2 _ (ei_n n3 (ei_t (by rw [s3]; exact nI_lt (a := 64) d2 (by omega)) e5)), F3.trans (F4.g.trans F5), Or.inl ⟨_, rfl, f5⟩⟩
  rw [if_neg (by omega)]
  -- the width
  show ∃ y', _ ∧ _ ∧ ((∃ f, sgB (sgB (sgT c p2) _) _ = .inl f ∧ _) ∨ ∃ hh ww n p' cs', sgB (sgB (sgT c p2) _) _ = .inr (hh, ww, n, p', cs') ∧ _)
  obtain ⟨v4, y4, e4, F4, o4⟩ := m_two (X := X) (b := b) (w0 := w0) k3
  generalize hy5 : rg_wI y4 4 13 v4 = y5
  have F5 : FYg y y5 := by
    rw [← hy5]
    exact F3.trans (F4.g.trans (FYg.wI (by omega)))
  have i5 : y5.1 4 13 = v4 := by rw [← hy5, wI_s]
  have start3 : ∀ z, (if 0 < y5.1 4 4 then fX14_readFrame_90 X (b + 4) A1 (b + 4) (rg_p lM b w0 y5) else if v4 ≤ 0 then fX14_readFrame_94 X (b + 4) A1 (b + 4) (rg_p lM b w0 y5) else if 64 < v4 then fX14_readFrame_94 X (b + 4) A1 (b + 4) (rg_p lM b w0 y5) else fX14_readFrame_90 X (b + 4) A1 (b + 4) (rg_p lM b w0 y5)) = z → fX14_readFrame X (rg_p lM b w0 y) (b + 4) A1 = z := by
    intro z hz
    refine start2 _ (ei_n n3 (ei_n (by rw [s3]; exact nI_nlt (a := 64) (by omega) (by omega)) ?_))
    unfold fX14_readFrame_50 fX14_readFrame_55
    refine ob_v (rg_O rfl) (ob_v (m_must1 (by decide)) (ob_v (rg_O rfl) (ob_v e4 (ob_v (rg_pI rfl rfl _) ?_))))
    rw [hy5]
    refine ob_v (rg_I rfl rfl) ?_
    by_cases c1 : 0 < y5.1 4 4
    · rw [if_pos c1] at hz
      exact ei_t c1 hz
    · rw [if_neg c1] at hz
      refine ei_n c1 (ob_v (rg_I rfl rfl) ?_)
      rw [i5]
      by_cases c2 : v4 ≤ 0
      · rw [if_pos c2] at hz
        exact ei_t c2 hz
      · rw [if_neg c2] at hz
        refine ei_n c2 (ob_v (rg_I rfl rfl) ?_)
        rw [i5]
        exact hz
  rcases o4 with ⟨f, t1, t2⟩ | ⟨u4, p4, t1, t2, t3, t4, t5⟩
  · rw [t1]
    have f5 : ftY y5 f := by rw [← hy5]; exact t2.wi (by omega)
    obtain ⟨y6, e6, F6, f6⟩ := m_f95_0 (X := X) (b := b) (w0 := w0) (z := y5) (z' := y5) (A1 := A1) (s0 := 1) (m_must1 (by decide)) f5
    exact ⟨y6, start3 _ (ei_t f5.l e6), F5.trans F6, Or.inl ⟨f, rfl, f6⟩⟩
  have k5 : kY y5 c p4 := by rw [← hy5]; exact t4.wi (by omega)
  have n5 : ¬ 0 < y5.1 4 4 := by rw [k5.2.2.2.1]; decide
  have kb4 := k5.2.2.2.2.2.1
  rw [t1]
  show ∃ y', _ ∧ _ ∧ ((∃ f, sgB (if u4 < 1 ∨ 64 < u4 then (.inl (6, p2 + 1) : sgF ⊕ (Nat × Nat)) else .inr (u4, p4)) _ = .inl f ∧ _) ∨ ∃ hh ww n p' cs', sgB (if u4 < 1 ∨ 64 < u4 then (.inl (6, p2 + 1) : sgF ⊕ (Nat × Nat)) else .inr (u4, p4)) _ = .inr (hh, ww, n, p', cs') ∧ _)
  by_cases d4 : u4 < 1 ∨ 64 < u4
  · rw [if_pos d4]
    obtain ⟨y6, e6, F6, f6⟩ := m_mustF (X := X) (b := b) (w0 := w0) (y := y5) k5.2.2.2.1 k5.1 (by omega) (by omega)
    rw [show (6, p4 - 1) = (6, p2 + 1) by rw [t5]; rfl] at f6
    obtain ⟨y7, e7, F7, f7⟩ := m_f95_0 (X := X) (b := b) (w0 := w0) (A1 := A1) e6 f6
    refine ⟨y7, start3 _ (ei_n n5 ?_), F5.trans (F6.g.trans F7), Or.inl ⟨_, rfl, f7⟩⟩
    rw [t3]
    by_cases d5 : u4 = 0
    · exact ei_t (by rw [d5]; decide) e7
    · exact ei_n (nI_nle (by omega) (by omega)) (ei_t (nI_lt (a := 64) (by omega) (by omega)) e7)
  rw [if_neg d4]
  -- how many
  show ∃ y', _ ∧ _ ∧ ((∃ f, sgB (sgB (sgN c p4) _) _ = .inl f ∧ _) ∨ ∃ hh ww n p' cs', sgB (sgB (sgN c p4) _) _ = .inr (hh, ww, n, p', cs') ∧ _)
  obtain ⟨v6, y6, e6, F6, o6⟩ := m_nx (X := X) (b := b) (w0 := w0) k5
  have start4 : ∀ z, (if 0 < y6.1 4 4 then fX14_readFrame_120 X (b + 4) A1 v6 (b + 4) (rg_p lM b w0 y6) else if v6 ≤ 0 then fX14_readFrame_124 X (b + 4) A1 v6 (b + 4) (rg_p lM b w0 y6) else if 5 ≤ v6 then fX14_readFrame_124 X (b + 4) A1 v6 (b + 4) (rg_p lM b w0 y6) else fX14_readFrame_120 X (b + 4) A1 v6 (b + 4) (rg_p lM b w0 y6)) = z → fX14_readFrame X (rg_p lM b w0 y) (b + 4) A1 = z := by
    intro z hz
    refine start3 _ (ei_n n5 ?_)
    rw [t3]
    refine ei_n (nI_nle (by omega) (by omega)) (ei_n (nI_nlt (a := 64) (by omega) (by omega)) ?_)
    unfold fX14_readFrame_90 fX14_readFrame_95
    exact ob_v (rg_O rfl) (ob_v (m_must1 (by decide)) (ob_v (rg_O rfl) (ob_v e6 (ob_v (rg_I rfl rfl) hz))))
  rcases o6 with ⟨f, q1, q2, q3⟩ | ⟨n, p6, q1, q2, q3, q4⟩
  · rw [q1]
    obtain ⟨y7, e7, F7, f7⟩ := m_f125_0 (X := X) (b := b) (w0 := w0) (z := y6) (z' := y6) (A1 := A1) (A2 := v6) (s0 := 1) (m_must1 (by decide)) q3
    exact ⟨y7, start4 _ (ei_t q3.l e7), F5.trans (F6.g.trans F7), Or.inl ⟨f, rfl, f7⟩⟩
  have g6 := sgN_p q1
  have n6 : ¬ 0 < y6.1 4 4 := by rw [q4.2.2.2.1]; decide
  have kb6 := q4.2.2.2.2.2.1
  rw [q1]
  show ∃ y', _ ∧ _ ∧ ((∃ f, sgB (if n < 1 ∨ 4 < n then (.inl (6, p4) : sgF ⊕ (Nat × Nat)) else .inr (n, p6)) _ = .inl f ∧ _) ∨ ∃ hh ww n' p' cs', sgB (if n < 1 ∨ 4 < n then (.inl (6, p4) : sgF ⊕ (Nat × Nat)) else .inr (n, p6)) _ = .inr (hh, ww, n', p', cs') ∧ _)
  by_cases d6 : n < 1 ∨ 4 < n
  · rw [if_pos d6]
    obtain ⟨y7, e7, F7, f7⟩ := m_mustF (X := X) (b := b) (w0 := w0) (y := y6) q4.2.2.2.1 q4.1 (by omega) (by omega)
    rw [show (6, p6 - 1) = (6, p4) by rw [g6.1]; rfl] at f7
    obtain ⟨y8, e8, F8, f8⟩ := m_f125_0 (X := X) (b := b) (w0 := w0) (A1 := A1) (A2 := v6) e7 f7
    refine ⟨y8, start4 _ (ei_n n6 ?_), F5.trans (F6.g.trans (F7.g.trans F8)), Or.inl ⟨_, rfl, f8⟩⟩
    by_cases d7 : n = 0
    · exact ei_t (by rw [q3, d7]; decide) e8
    · exact ei_n (by rw [q3]; exact nI_nle (by omega) (by omega)) (ei_t (by rw [q3]; exact nI_le (a := 5) (by omega) (by omega)) e8)
  rw [if_neg d6]
  show ∃ y', _ ∧ _ ∧ ((∃ f, sgB (sgCm c n 0 p6 (fun _ => (0, 0, 0, 0))) (fun m => (.inr (u2, u4, n, m) : sgF ⊕ (Nat × Nat × Nat × Nat × sg4))) = .inl f ∧ _) ∨ ∃ hh ww n' p' cs', sgB (sgCm c n 0 p6 (fun _ => (0, 0, 0, 0))) (fun m => (.inr (u2, u4, n, m) : sgF ⊕ (Nat × Nat × Nat × Nat × sg4))) = .inr (hh, ww, n', p', cs') ∧ _)
  obtain ⟨y7, e7, F7, o7⟩ := m_cm (X := X) (b := b) (w0 := w0) (c := c) (A1 := A1) (n := n) (by omega) n 0 p6 FU (fun _ => (0, 0, 0, 0)) y6 (by omega) (by unfold FU; omega) (fun i hi => absurd hi (Nat.not_lt_zero _)) q4 (fun i hi => absurd hi (Nat.not_lt_zero _))
  have fin : fX14_readFrame X (rg_p lM b w0 y) (b + 4) A1 = some (rg_p lM b w0 y7) := by
    refine start4 _ (ei_n n6 (ei_n (by rw [q3]; exact nI_nle (by omega) (by omega)) (ei_n (by rw [q3]; exact nI_ge (b := 5) (by omega) (by omega)) ?_)))
    unfold fX14_readFrame_120 fX14_readFrame_125
    refine ob_v (rg_O rfl) (ob_v (m_must1 (by decide)) ?_)
    rw [q3]
    exact e7
  have Fall : FYg y y7 := F5.trans (F6.g.trans F7)
  rcases o7 with ⟨f, w1, w2⟩ | ⟨p7, cs7, w1, w2, w3, w4, w5, w6, w7⟩
  · rw [w1]
    exact ⟨y7, fin, Fall, Or.inl ⟨f, rfl, w2⟩⟩
  rw [w1]
  refine ⟨y7, fin, Fall, Or.inr ⟨u2, u4, n, p7, cs7, rfl, w2, w3, ?_, ?_, w4, w5, fun k h1 h2 => ?_, fun a ha => ?_⟩⟩
  · rw [w6 14 (by omega) (by omega) (by omega), F6.1 _ _ (by omega), ← hy5, wI_n _ _ (by omega), F4.1 _ _ (by omega), i3, s3]
  · rw [w6 13 (by omega) (by omega) (by omega), F6.1 _ _ (by omega), i5, t3]
  · rw [w6 k h1 (by omega) (by omega), F6.1 _ _ (by omega), ← hy5, wI_n _ _ (by omega), F4.1 _ _ (by omega), ← hy3, wI_n _ _ (by omega), F2.1 _ _ (by omega), F1.1 _ _ (by omega)]
  · rw [w7 a ha, F6.2, ← hy5, wI_2, F4.2, ← hy3, wI_2, F2.2, F1.2]
end
