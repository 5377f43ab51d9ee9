/-! bytes of a segment taken by the reference -/
def kY (y : rg_S) (c : sgC) (p : Nat) : Prop := y.1 4 6 = nI p ∧ y.1 4 36 = nI c.2.2.2 ∧ y.1 4 7 = nI c.2.2.1 ∧ y.1 4 4 = 0 ∧ y.1 4 1 = nI c.2.1 ∧ (c.2.1 ≤ 16384 ∧ c.2.2.1 < 100000 ∧ c.2.2.2 ≤ 16384 ∧ p ≤ c.2.1 ∧ p ≤ c.2.2.1 ∧ y.1 4 5 = -1) ∧ ∀ i, i < c.2.1 → y.2.2.1 5 i &&& 255 = nI (c.1 i) ∧ c.1 i < 256
def FYq (y y' : rg_S) : Prop := (∀ p k, ¬ (p = 4 ∧ 4 ≤ k ∧ k ≤ 6) → y'.1 p k = y.1 p k) ∧ y'.2 = y.2
theorem FYq.rfl {y : rg_S} : FYq y y := ⟨fun _ _ _ => Eq.refl _, Eq.refl _⟩
theorem FYq.trans {y y1 y2 : rg_S} (h : FYq y y1) (h2 : FYq y1 y2) : FYq y y2 := ⟨fun p k a => (h2.1 p k a).trans (h.1 p k a), h2.2.trans h.2⟩
theorem FYq.wI {y : rg_S} {k : Nat} {v : Int32} (h : 4 ≤ k ∧ k ≤ 6) : FYq y (rg_wI y 4 k v) := ⟨fun p k' a => wI_n _ _ (by omega), Eq.refl _⟩
def ftY (y : rg_S) (f : sgF) : Prop := y.1 4 4 = nI f.1 ∧ y.1 4 5 = nI f.2 ∧ 1 ≤ f.1 ∧ f.1 ≤ 8 ∧ f.2 ≤ 20000
def oY (y : rg_S) (c : sgC) (o : sgF ⊕ (Nat × Nat)) (b : Nat) (v : Int32) (y' : rg_S) : Prop := FYq y y' ∧ ((∃ f, o = .inl f ∧ v = 0 ∧ ftY y' f) ∨ ∃ u p, o = .inr (u, p) ∧ u < b ∧ v = nI u ∧ kY y' c p)
/-- the reference's segments alone have changed -/
def FYg (y y' : rg_S) : Prop := (∀ p k, p ≠ 4 → y'.1 p k = y.1 p k) ∧ (y'.1 4 1 = y.1 4 1 ∧ y'.1 4 3 = y.1 4 3) ∧ y'.2.1 = y.2.1 ∧ (∀ a, ¬ (6 ≤ a ∧ a ≤ 23) → y'.2.2.1 a = y.2.2.1 a) ∧ y'.2.2.2 = y.2.2.2
theorem FYg.rfl {y : rg_S} : FYg y y := ⟨fun _ _ _ => Eq.refl _, ⟨Eq.refl _, Eq.refl _⟩, Eq.refl _, fun _ _ => Eq.refl _, Eq.refl _⟩
theorem FYg.trans {y y1 y2 : rg_S} (h : FYg y y1) (h2 : FYg y1 y2) : FYg y y2 := ⟨fun p k a => (h2.1 p k a).trans (h.1 p k a), ⟨h2.2.1.1.trans h.2.1.1, h2.2.1.2.trans h.2.1.2⟩, h2.2.2.1.trans h.2.2.1, fun a e => (h2.2.2.2.1 a e).trans (h.2.2.2.1 a e), h2.2.2.2.2.trans h.2.2.2.2⟩
theorem FYq.g {y y' : rg_S} (h : FYq y y') : FYg y y' := ⟨fun p k a => h.1 p k (by omega), ⟨h.1 _ _ (by omega), h.1 _ _ (by omega)⟩, by rw [h.2], fun _ _ => by rw [h.2], by rw [h.2]⟩
theorem FYg.wI {y : rg_S} {k : Nat} {v : Int32} (h : k ≠ 1 ∧ k ≠ 3) : FYg y (rg_wI y 4 k v) := ⟨fun p k' a => wI_n _ _ (by omega), ⟨wI_n _ _ (by omega), wI_n _ _ (by omega)⟩, Eq.refl _, fun _ _ => Eq.refl _, Eq.refl _⟩
theorem FYg.wA {y : rg_S} {a : Nat} {f : Nat → Int32} (h : 6 ≤ a ∧ a ≤ 23) : FYg y (rg_wA y a f) := ⟨fun _ _ _ => Eq.refl _, ⟨Eq.refl _, Eq.refl _⟩, Eq.refl _, fun _ _ => wA_n _ _ (by omega), Eq.refl _⟩
section
variable {X : px_X} {b B : Nat} {w0 w1 : px_W} {y y' : rg_S} {c : sgC} {p lo hi : Nat} {f : sgF}
theorem kY.k (h : kY y c p) (F : FYq y y') (h4 : y'.1 4 4 = 0) {p' : Nat} (h6 : y'.1 4 6 = nI p') (hp : p' ≤ c.2.1) (hp2 : p' ≤ c.2.2.1) (h5' : y'.1 4 5 = y.1 4 5) : kY y' c p' := by
  obtain ⟨h1, h2, h3, _, h5, h7, h9⟩ := h
  exact ⟨h6, by rw [F.1 _ _ (by omega)]; exact h2, by rw [F.1 _ _ (by omega)]; exact h3, h4, by rw [F.1 _ _ (by omega)]; exact h5, ⟨h7.1, h7.2.1, h7.2.2.1, hp, hp2, by rw [h5']; exact h7.2.2.2.2.2⟩, by rw [F.2]; exact h9⟩
theorem kY.w (h : kY y c p) {o : Nat} (ho : 5 ≠ o) {f : Nat → Int32} : kY (rg_wA y o f) c p := by
  obtain ⟨h1, h2, h3, h4, h5, h7, h9⟩ := h
  exact ⟨h1, h2, h3, h4, h5, h7, by rw [wA_n _ _ ho]; exact h9⟩
theorem kY.wi {k : Nat} {v : Int32} (h : kY y c p) (hk : k ≠ 6 ∧ k ≠ 36 ∧ k ≠ 7 ∧ k ≠ 4 ∧ k ≠ 1 ∧ k ≠ 5) : kY (rg_wI y 4 k v) c p := by
  obtain ⟨h1, h2, h3, h4, h5, h7, h9⟩ := h
  exact ⟨by rw [wI_n _ _ (by omega)]; exact h1, by rw [wI_n _ _ (by omega)]; exact h2, by rw [wI_n _ _ (by omega)]; exact h3, by rw [wI_n _ _ (by omega)]; exact h4, by rw [wI_n _ _ (by omega)]; exact h5, ⟨h7.1, h7.2.1, h7.2.2.1, h7.2.2.2.1, h7.2.2.2.2.1, by rw [wI_n _ _ (by omega)]; exact h7.2.2.2.2.2⟩, h9⟩
theorem ftY.i {f q : Nat} (h1 : y.1 4 4 = nI f) (h2 : y.1 4 5 = nI q) (a : 1 ≤ f) (b : f ≤ 8) (d : q ≤ 20000) : ftY y (f, q) := ⟨h1, h2, a, b, d⟩
theorem ftY.n (h : ftY y f) : ¬ y.1 4 4 = 0 := by
  rw [h.1]
  have := h.2.2
  exact nI_ne0 (by omega) (by omega)
theorem ftY.g (h : ftY y f) : ¬ y.1 4 4 ≤ 0 := by
  rw [h.1]
  have := h.2.2
  exact nI_nle (by omega) (by omega)
theorem ftY.l (h : ftY y f) : 0 < y.1 4 4 := by
  rw [h.1]
  have := h.2.2
  exact nI_lt (a := 0) (by omega) (by omega)
theorem ftY.w (h : ftY y f) {o : Nat} {q : Nat → Int32} : ftY (rg_wA y o q) f := h
theorem ftY.wi (h : ftY y f) {k : Nat} {v : Int32} (hk : k ≠ 4 ∧ k ≠ 5) : ftY (rg_wI y 4 k v) f := ⟨by rw [wI_n _ _ (by omega)]; exact h.1, by rw [wI_n _ _ (by omega)]; exact h.2.1, h.2.2⟩
theorem m_sw {f q : Nat} (h : y.1 4 4 = 0) : ∃ y', fX14_wrong X (rg_p lM b w0 y) (b + 4) (nI f) (nI q) = some (0, rg_p lM b w0 y') ∧ FYq y y' ∧ y'.1 4 4 = nI f ∧ y'.1 4 5 = nI q := by
  refine ⟨rg_wI (rg_wI y 4 4 (nI f)) 4 5 (nI q), ?_, (FYq.wI (by omega)).trans (FYq.wI (by omega)), ?_, wI_s _ _ _ _⟩
  · unfold fX14_wrong
    exact ob_v (rg_I rfl rfl) (ei_t h (ob_v (rg_pI rfl rfl _) (ob_v (rg_pI rfl rfl _) rfl)))
  · rw [wI_n _ _ (by omega), wI_s]
theorem m_wr0 {A1 A2 : Int32} (h : ftY y f) : fX14_wrong X (rg_p lM b w0 y) (b + 4) A1 A2 = some (0, rg_p lM b w0 y) := by
  unfold fX14_wrong
  exact ob_v (rg_I rfl rfl) (ei_n h.n rfl)
theorem m_nx (h : kY y c p) : ∃ v y', fX14_next X (rg_p lM b w0 y) (b + 4) = some (v, rg_p lM b w0 y') ∧ oY y c (sgN c p) 256 v y' := by
  have hh := h
  obtain ⟨h1, h2, h3, h4, h5, ⟨h7, h7b, h7d, h7c, h7e⟩, h9⟩ := h
  have en : ¬ y.1 4 7 < 0 := by
    rw [h3]
    exact nI_nlt (b := 0) (by omega) (by omega)
  unfold sgN fX14_next
  by_cases e1 : c.2.2.1 ≤ p
  · obtain ⟨y', e, F, f1, f2⟩ := m_sw (X := X) (b := b) (w0 := w0) (y := y) (f := 5) (q := c.2.2.2) h4
    rw [if_pos e1]
    refine ⟨0, y', ?_, F, Or.inl ⟨_, rfl, rfl, ftY.i f1 f2 (by decide) (by decide) (by omega)⟩⟩
    refine ob_v (rg_I rfl rfl) (ei_t (by rw [h4]; decide) (ob_v (rg_I rfl rfl) (ei_n en (ob_v (rg_I rfl rfl) (ob_v (rg_I rfl rfl) ?_)))))
    rw [h1, h3]
    refine ei_t (by rw [show p = c.2.2.1 by omega]) (ob_v (rg_O rfl) (ob_v (v := (nI c.2.2.2, rg_p lM b w0 y)) ?_ (ob_v (rg_O rfl) (ob_v e rfl))))
    unfold fX14_lengthAt
    refine ob_v (rg_I rfl rfl) ?_
    rw [h2]
  · rw [if_neg e1]
    have st : ∀ z, fX14_next_37 X (b + 4) (rg_p lM b w0 y) = z → (gI (rg_p lM b w0 y) (b + 4) 14 4).bind (fun v30 => if v30 ≤ 0 then (gI (rg_p lM b w0 y) (b + 4) 14 7).bind fun v32 => if v32 < 0 then fX14_next_37 X (b + 4) (rg_p lM b w0 y) else (gI (rg_p lM b w0 y) (b + 4) 14 6).bind fun v34 => (gI (rg_p lM b w0 y) (b + 4) 14 7).bind fun v35 => if v34 = v35 then (gO (rg_p lM b w0 y) (b + 4) 14).bind fun o37 => (fX14_lengthAt X (rg_p lM b w0 y) (b + 4)).bind fun q38 => (gO q38.2 (b + 4) 14).bind fun o39 => (fX14_wrong X q38.2 (b + 4) 5 q38.1).bind fun q40 => some (q40.1, q40.2) else fX14_next_37 X (b + 4) (rg_p lM b w0 y) else some (0, rg_p lM b w0 y)) = z := by
      intro z hz
      refine ob_v (rg_I rfl rfl) (ei_t (by rw [h4]; decide) (ob_v (rg_I rfl rfl) (ei_n en (ob_v (rg_I rfl rfl) (ob_v (rg_I rfl rfl) ?_)))))
      rw [h1, h3]
      exact ei_n (fun e => e1 (by have := (nI_eq (by omega) (by omega)).mp e; omega)) hz
    by_cases e2 : c.2.1 ≤ p
    · obtain ⟨y', e, F, f1, f2⟩ := m_sw (X := X) (b := b) (w0 := w0) (y := y) (f := 1) (q := c.2.1) h4
      rw [if_pos e2]
      refine ⟨0, y', st _ ?_, F, Or.inl ⟨_, rfl, rfl, ftY.i f1 f2 (by decide) (by decide) (by omega)⟩⟩
      unfold fX14_next_37
      refine ob_v (rg_I rfl rfl) (ob_v (rg_I rfl rfl) ?_)
      rw [h1, h5]
      refine ei_t (by rw [show p = c.2.1 by omega]) (ob_v (rg_I rfl rfl) (ob_v (rg_O rfl) ?_))
      rw [h5]
      exact ob_v e rfl
    · rw [if_neg e2]
      have F : FYq y (rg_wI y 4 6 (nI (p + 1))) := FYq.wI (by omega)
      refine ⟨nI (c.1 p), rg_wI y 4 6 (nI (p + 1)), st _ ?_, F, Or.inr ⟨_, _, rfl, (h9 p (by omega)).2, rfl, hh.k F (by rw [wI_n _ _ (by omega)]; exact h4) (wI_s _ _ _ _) (by omega) (by omega) (wI_n _ _ (by omega))⟩⟩
      unfold fX14_next_37
      refine ob_v (rg_I rfl rfl) (ob_v (rg_I rfl rfl) ?_)
      rw [h1, h5]
      refine ei_n (fun e => e2 (by have := (nI_eq (by omega) (by omega)).mp e; omega)) (ob_v (rg_I rfl rfl) ?_)
      rw [h1, nI_1]
      refine ob_v (rg_pI rfl rfl _) (ob_v (rg_I rfl rfl) (ob_v (rg_O rfl) (ob_v (v := (nI (c.1 p), rg_p lM b w0 (rg_wI y 4 6 (nI (p + 1))))) ?_ rfl)))
      rw [wI_s, show nI (p + 1) - 1 = nI p from pk_sub (a := p + 1) (b := 1) (by omega)]
      unfold fX14_byteAt
      refine ob_v (rg_C rfl rfl) (ob_v (rg_A rfl (by decide) _ (by omega) (by decide)) ?_)
      rw [wI_2, (h9 p (by omega)).1]
theorem m_nx0 (h : ftY y f) : fX14_next X (rg_p lM b w0 y) (b + 4) = some (0, rg_p lM b w0 y) := by
  unfold fX14_next
  exact ob_v (rg_I rfl rfl) (ei_n h.g rfl)
theorem m_two (h : kY y c p) : ∃ v y', fX14_two X (rg_p lM b w0 y) (b + 4) = some (v, rg_p lM b w0 y') ∧ FYq y y' ∧ ((∃ f, sgT c p = .inl f ∧ ftY y' f) ∨ ∃ u q, sgT c p = .inr (u, q) ∧ u < 65536 ∧ v = nI u ∧ kY y' c q ∧ q = p + 2) := by
  obtain ⟨v1, y1, e1, F1, o1⟩ := m_nx (X := X) (b := b) (w0 := w0) h
  unfold fX14_two sgT
  rcases o1 with ⟨f, r1, r2, r3⟩ | ⟨u, q, r1, r2, r3, r4⟩
  · rw [r1]
    exact ⟨_, y1, ob_v (rg_O rfl) (ob_v e1 (ob_v (rg_O rfl) (ob_v (m_nx0 r3) rfl))), F1, Or.inl ⟨f, rfl, r3⟩⟩
  · have g1 := sgN_p r1
    rw [r1]
    obtain ⟨v2, y2, e2, F2, o2⟩ := m_nx (X := X) (b := b) (w0 := w0) r4
    rcases o2 with ⟨f, s1, s2, s3⟩ | ⟨u2, q2, s1, s2, s3, s4⟩
    · show ∃ v y', _ ∧ _ ∧ ((∃ f, sgB (sgN c q) (fun d => (.inr (256 * u + d.1, d.2) : sgF ⊕ (Nat × Nat))) = .inl f ∧ _) ∨ ∃ u' q', sgB (sgN c q) (fun d => (.inr (256 * u + d.1, d.2) : sgF ⊕ (Nat × Nat))) = .inr (u', q') ∧ _)
      rw [s1]
      exact ⟨_, y2, ob_v (rg_O rfl) (ob_v e1 (ob_v (rg_O rfl) (ob_v e2 rfl))), F1.trans F2, Or.inl ⟨f, rfl, s3⟩⟩
    · have g2 := sgN_p s1
      show ∃ v y', _ ∧ _ ∧ ((∃ f, sgB (sgN c q) (fun d => (.inr (256 * u + d.1, d.2) : sgF ⊕ (Nat × Nat))) = .inl f ∧ _) ∨ ∃ u' q', sgB (sgN c q) (fun d => (.inr (256 * u + d.1, d.2) : sgF ⊕ (Nat × Nat))) = .inr (u', q') ∧ _)
      rw [s1]
      refine ⟨_, y2, ob_v (rg_O rfl) (ob_v e1 (ob_v (rg_O rfl) (ob_v e2 rfl))), F1.trans F2, Or.inr ⟨_, _, rfl, by omega, ?_, s4, by omega⟩⟩
      dsimp only
      rw [r3, s3, show (256 : Int32) = nI 256 from rfl, pk_mul, nI_add]
theorem m_two0 (h : ftY y f) : fX14_two X (rg_p lM b w0 y) (b + 4) = some (0, rg_p lM b w0 y) := by
  unfold fX14_two
  exact ob_v (rg_O rfl) (ob_v (m_nx0 h) (ob_v (rg_O rfl) (ob_v (m_nx0 h) rfl)))
theorem m_must1 {v : Int32} (hv : ¬ v = 0) : fX14_must X (rg_p lM b w0 y) (b + 4) v = some (rg_p lM b w0 y) := by
  unfold fX14_must
  exact ei_n hv rfl
theorem m_must0 {v : Int32} (h : ftY y f) : fX14_must X (rg_p lM b w0 y) (b + 4) v = some (rg_p lM b w0 y) := by
  unfold fX14_must
  exact ei_c (fun _ => ob_v (rg_I rfl rfl) (ob_v (rg_O rfl) (ob_v (m_wr0 h) rfl))) (fun _ => rfl)
theorem m_mustF (h : y.1 4 4 = 0) (h6 : y.1 4 6 = nI p) (hp : 1 ≤ p) (hp2 : p ≤ 20000) : ∃ y', fX14_must X (rg_p lM b w0 y) (b + 4) 0 = some (rg_p lM b w0 y') ∧ FYq y y' ∧ ftY y' (6, p - 1) := by
  obtain ⟨y', e, F, f1, f2⟩ := m_sw (X := X) (b := b) (w0 := w0) (y := y) (f := 6) (q := p - 1) h
  refine ⟨y', ?_, F, ftY.i f1 f2 (by decide) (by decide) (by omega)⟩
  unfold fX14_must
  refine ei_t rfl (ob_v (rg_I rfl rfl) (ob_v (rg_O rfl) ?_))
  rw [h6, show nI p - 1 = nI (p - 1) from pk_sub (b := 1) hp]
  exact ob_v e rfl
end
