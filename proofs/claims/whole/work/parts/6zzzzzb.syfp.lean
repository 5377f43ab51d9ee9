/-! bytes of the file, markers, a segment's beginning and end, by the reference -/
def fpY (y : rg_S) (D : Nat → Nat) (L p : Nat) : Prop := y.1 4 6 = nI p ∧ y.1 4 4 = 0 ∧ y.1 4 7 = -1 ∧ y.1 4 1 = nI L ∧ (L ≤ 16384 ∧ p ≤ L ∧ y.1 4 5 = -1) ∧ ∀ i, i < L → y.2.2.1 5 i &&& 255 = nI (D i) ∧ D i < 256
def FYkk (y y' : rg_S) : Prop := (∀ p k, ¬ (p = 4 ∧ (4 ≤ k ∧ k ≤ 9 ∨ k = 36)) → y'.1 p k = y.1 p k) ∧ y'.2 = y.2
theorem FYkk.rfl {y : rg_S} : FYkk y y := ⟨fun _ _ _ => Eq.refl _, Eq.refl _⟩
theorem FYkk.trans {y y1 y2 : rg_S} (h : FYkk y y1) (h2 : FYkk y1 y2) : FYkk y y2 := ⟨fun p k a => (h2.1 p k a).trans (h.1 p k a), h2.2.trans h.2⟩
theorem FYq.k {y y' : rg_S} (h : FYq y y') : FYkk y y' := ⟨fun p k a => h.1 p k (by omega), h.2⟩
theorem FYkk.wI {y : rg_S} {k : Nat} {v : Int32} (h : 4 ≤ k ∧ k ≤ 9 ∨ k = 36) : FYkk y (rg_wI y 4 k v) := ⟨fun p k' a => wI_n _ _ (by omega), Eq.refl _⟩
theorem FYkk.g {y y' : rg_S} (h : FYkk y y') : FYg y y' := ⟨fun p k a => h.1 p k (by omega), ⟨h.1 _ _ (by omega), h.1 _ _ (by omega)⟩, by rw [h.2], fun _ _ => by rw [h.2], by rw [h.2]⟩
theorem fsY.k {y y' : rg_S} {s : sgS} (h : fsY y s) (F : FYkk y y') : fsY y' s := h.f (fun k hk => F.1 _ _ (by omega)) (fun a _ => by rw [F.2])
theorem fsY.n {y : rg_S} {s s2 : sgS} (h : fsY y s) (e : ∀ k, 1 ≤ k → k ≤ 8 → k ≠ 7 → s2.1 k = s.1 k) (e2 : s2.2.1 = s.2.1) (e3 : s2.2.2.1 = s.2.2.1) (e4 : s2.2.2.2.1 = s.2.2.2.1) (e5 : s2.2.2.2.2.1 = s.2.2.2.2.1) : fsY y s2 := by
  obtain ⟨h1, h2, h3, h4, h5, h6, h7, h8, h9, h10⟩ := h
  unfold fsY
  rw [e 1 (by omega) (by omega) (by omega), e 2 (by omega) (by omega) (by omega), e 3 (by omega) (by omega) (by omega), e 4 (by omega) (by omega) (by omega), e 5 (by omega) (by omega) (by omega), e 6 (by omega) (by omega) (by omega), e 8 (by omega) (by omega) (by omega), e2, e3, e4, e5]
  exact ⟨h1, h2, h3, h4, h5, h6, h7, h8, h9, h10⟩
section
variable {X : px_X} {b B : Nat} {w0 w1 : px_W} {y y' z z' : rg_S} {c : sgC} {p i n nn L kd : Nat} {f : sgF} {s : sgS} {D : Nat → Nat}
theorem fpY.q {p' : Nat} (h : fpY y D L p) (F : FYq y y') (h4 : y'.1 4 4 = 0) (h6 : y'.1 4 6 = nI p') (hp : p' ≤ L) (h5' : y'.1 4 5 = y.1 4 5) : fpY y' D L p' := ⟨h6, h4, by rw [F.1 _ _ (by omega)]; exact h.2.2.1, by rw [F.1 _ _ (by omega)]; exact h.2.2.2.1, ⟨h.2.2.2.2.1.1, hp, h5'.trans h.2.2.2.2.1.2.2⟩, by rw [F.2]; exact h.2.2.2.2.2⟩
theorem fpY.wi {k : Nat} {v : Int32} (h : fpY y D L p) (hk : k ≠ 6 ∧ k ≠ 4 ∧ k ≠ 7 ∧ k ≠ 1 ∧ k ≠ 5) : fpY (rg_wI y 4 k v) D L p := ⟨by rw [wI_n _ _ (by omega)]; exact h.1, by rw [wI_n _ _ (by omega)]; exact h.2.1, by rw [wI_n _ _ (by omega)]; exact h.2.2.1, by rw [wI_n _ _ (by omega)]; exact h.2.2.2.1, ⟨h.2.2.2.2.1.1, h.2.2.2.2.1.2.1, by rw [wI_n _ _ (by omega)]; exact h.2.2.2.2.1.2.2⟩, h.2.2.2.2.2⟩
theorem m_nf (h : fpY y D L p) : ∃ v y', fX14_next X (rg_p lM b w0 y) (b + 4) = some (v, rg_p lM b w0 y') ∧ FYq y y' ∧ ((L ≤ p ∧ v = 0 ∧ ftY y' (1, L)) ∨ (p < L ∧ v = nI (D p) ∧ fpY y' D L (p + 1))) := by
  have hh := h
  obtain ⟨h6, h4, h7, h1, ⟨hL, hp, h5⟩, h9⟩ := h
  unfold fX14_next
  have st : ∀ z, fX14_next_37 X (b + 4) (rg_p lM b w0 y) = z → (gI (rg_p lM b w0 y) (b + 4) 14 4).bind (fun v30 => if v30 ≤ 0 then (gI (rg_p lM b w0 y) (b + 4) 14 7).bind fun v32 => if v32 < 0 then fX14_next_37 X (b + 4) (rg_p lM b w0 y) else (gI (rg_p lM b w0 y) (b + 4) 14 6).bind fun v34 => (gI (rg_p lM b w0 y) (b + 4) 14 7).bind fun v35 => if v34 = v35 then (gO (rg_p lM b w0 y) (b + 4) 14).bind fun o37 => (fX14_lengthAt X (rg_p lM b w0 y) (b + 4)).bind fun q38 => (gO q38.2 (b + 4) 14).bind fun o39 => (fX14_wrong X q38.2 (b + 4) 5 q38.1).bind fun q40 => some (q40.1, q40.2) else fX14_next_37 X (b + 4) (rg_p lM b w0 y) else some (0, rg_p lM b w0 y)) = z := by
    intro z hz
    exact ob_v (rg_I rfl rfl) (ei_t (by rw [h4]; decide) (ob_v (rg_I rfl rfl) (ei_t (by rw [h7]; decide) hz)))
  by_cases e2 : L ≤ p
  · obtain ⟨y', e, F, f1, f2⟩ := m_sw (X := X) (b := b) (w0 := w0) (y := y) (f := 1) (q := L) h4
    refine ⟨0, y', st _ ?_, F, Or.inl ⟨e2, rfl, ftY.i f1 f2 (by decide) (by decide) (by omega)⟩⟩
    unfold fX14_next_37
    refine ob_v (rg_I rfl rfl) (ob_v (rg_I rfl rfl) ?_)
    rw [h6, h1]
    refine ei_t (by rw [show p = L by omega]) (ob_v (rg_I rfl rfl) (ob_v (rg_O rfl) ?_))
    rw [h1]
    exact ob_v e rfl
  · have F : FYq y (rg_wI y 4 6 (nI (p + 1))) := FYq.wI (by omega)
    refine ⟨nI (D p), rg_wI y 4 6 (nI (p + 1)), st _ ?_, F, Or.inr ⟨by omega, rfl, hh.q F (by rw [wI_n _ _ (by omega)]; exact h4) (wI_s _ _ _ _) (by omega) (wI_n _ _ (by omega))⟩⟩
    unfold fX14_next_37
    refine ob_v (rg_I rfl rfl) (ob_v (rg_I rfl rfl) ?_)
    rw [h6, h1]
    refine ei_n (fun e => e2 (by have := (nI_eq (by omega) (by omega)).mp e; omega)) (ob_v (rg_I rfl rfl) ?_)
    rw [h6, nI_1]
    refine ob_v (rg_pI rfl rfl _) (ob_v (rg_I rfl rfl) (ob_v (rg_O rfl) (ob_v (v := (nI (D p), rg_p lM b w0 (rg_wI y 4 6 (nI (p + 1))))) ?_ rfl)))
    rw [wI_s, show nI (p + 1) - 1 = nI p from pk_sub (a := p + 1) (b := 1) (by omega)]
    unfold fX14_byteAt
    refine ob_v (rg_C rfl rfl) (ob_v (rg_A rfl (by decide) _ (by omega) (by decide)) ?_)
    rw [wI_2, (h9 p (by omega)).1]
/-- filling bytes, then a marker's code -/
theorem m_m61_0 (h : ftY y f) : fX14_marker_61 X (b + 4) 0 (rg_p lM b w0 y) = some (0, rg_p lM b w0 y) := by
  unfold fX14_marker_61
  exact ob_v (rg_I rfl rfl) (ei_n h.n rfl)
theorem m_m39_0 {M : Nat} (h : ftY y f) : fX14_marker_39 X (M + 1) (b + 4) 0 (rg_p lM b w0 y) = some (0, rg_p lM b w0 y) := by
  rw [fX14_marker_39.eq_2]
  exact ob_v (rg_I rfl rfl) (ei_n h.n (m_m61_0 h))
theorem m_sk2 : ∀ (r p M : Nat) (y : rg_S), L < p + r → r + 2 < M → 1 ≤ p → fpY y D L p → ∃ v y', fX14_marker_39 X M (b + 4) 255 (rg_p lM b w0 y) = some (v, rg_p lM b w0 y') ∧ FYq y y' ∧ ((∃ f, sgSk2 D L r p = .inl f ∧ v = 0 ∧ ftY y' f) ∨ (∃ q, sgSk2 D L r p = .inr (0, q) ∧ v = 0 ∧ ftY y' (4, q - 1)) ∨ ∃ u q, sgSk2 D L r p = .inr (u, q) ∧ u ≠ 0 ∧ u < 256 ∧ v = nI u ∧ fpY y' D L q) := by
  intro r
  induction r with
  | zero =>
    intro p M y hr _ _ h
    have := h.2.2.2.2.1.2
    omega
  | succ r ih =>
    intro p M y hr hM p1 h
    obtain ⟨M, rfl⟩ : ∃ M', M = M' + 1 := ⟨M - 1, by omega⟩
    obtain ⟨M, rfl⟩ : ∃ M', M = M' + 1 := ⟨M - 1, by omega⟩
    have hL := h.2.2.2.2.1
    obtain ⟨v1, y1, e1, F1, o1⟩ := m_nf (X := X) (b := b) (w0 := w0) h
    have start : ∀ z, fX14_marker_39 X (M + 1) (b + 4) v1 (rg_p lM b w0 y1) = z → fX14_marker_39 X (M + 1 + 1) (b + 4) 255 (rg_p lM b w0 y) = z := by
      intro z hz
      rw [fX14_marker_39.eq_2]
      exact ob_v (rg_I rfl rfl) (ei_t h.2.1 (ei_t rfl (ob_v (rg_O rfl) (ob_v e1 hz))))
    unfold sgSk2
    rcases o1 with ⟨a1, a2, a3⟩ | ⟨a1, a2, a3⟩
    · rw [if_pos a1]
      rw [a2] at start
      exact ⟨0, y1, start _ (m_m39_0 a3), F1, Or.inl ⟨_, rfl, rfl, a3⟩⟩
    rw [if_neg (by omega)]
    have hD := (h.2.2.2.2.2 p a1).2
    by_cases d : D p = 255
    · rw [if_pos d]
      rw [a2, d] at start
      obtain ⟨v2, y2, e2, F2, o2⟩ := ih (p + 1) (M + 1) y1 (by omega) (by omega) (by omega) a3
      exact ⟨v2, y2, start _ e2, F1.trans F2, o2⟩
    · rw [if_neg d]
      have nd : ¬ v1 = 255 := by rw [a2]; exact fun e => d ((nI_eq (b := 255) (by omega) (by omega)).mp e)
      have start2 : ∀ z, fX14_marker_61 X (b + 4) v1 (rg_p lM b w0 y1) = z → fX14_marker_39 X (M + 1 + 1) (b + 4) 255 (rg_p lM b w0 y) = z := by
        intro z hz
        refine start _ ?_
        rw [fX14_marker_39.eq_2]
        exact ob_v (rg_I rfl rfl) (ei_t a3.2.1 (ei_n nd hz))
      by_cases d0 : D p = 0
      · obtain ⟨y2, e2, F2, f1, f2⟩ := m_sw (X := X) (b := b) (w0 := w0) (y := y1) (f := 4) (q := p) a3.2.1
        refine ⟨0, y2, start2 _ ?_, F1.trans F2, Or.inr (Or.inl ⟨p + 1, by rw [d0], rfl, ftY.i f1 f2 (by decide) (by decide) (by omega)⟩)⟩
        unfold fX14_marker_61
        refine ob_v (rg_I rfl rfl) (ei_t a3.2.1 (ei_t (by rw [a2, d0]; rfl) (ob_v (rg_I rfl rfl) (ob_v (rg_O rfl) ?_))))
        rw [a3.1, show nI (p + 1) - 1 = nI p from pk_sub (a := p + 1) (b := 1) (by omega)]
        exact ob_v e2 rfl
      · refine ⟨nI (D p), y1, start2 _ ?_, F1, Or.inr (Or.inr ⟨D p, p + 1, rfl, d0, hD, rfl, a3⟩)⟩
        unfold fX14_marker_61
        refine ob_v (rg_I rfl rfl) (ei_t a3.2.1 (ei_n ?_ ?_))
        · rw [a2]
          exact nI_ne0 (by omega) (by omega)
        · rw [a2]
theorem m_mk (h : fpY y D L p) : ∃ v y', fX14_marker X (rg_p lM b w0 y) (b + 4) = some (v, rg_p lM b w0 y') ∧ FYkk y y' ∧ ((∃ f, sgMk D L p = .inl f ∧ v = 0 ∧ ftY y' f) ∨ (∃ q, sgMk D L p = .inr (0, q) ∧ v = 0 ∧ ftY y' (4, q - 1)) ∨ ∃ u q, sgMk D L p = .inr (u, q) ∧ u ≠ 0 ∧ u < 256 ∧ v = nI u ∧ fpY y' D L q) := by
  have hL := h.2.2.2.2.1
  generalize hy0 : rg_wI y 4 8 (y.1 4 6) = y0
  have h0 : fpY y0 D L p := by rw [← hy0]; exact h.wi (by omega)
  have G0 : FYkk y y0 := by rw [← hy0]; exact FYkk.wI (by omega)
  obtain ⟨v1, y1, e1, F1, o1⟩ := m_nf (X := X) (b := b) (w0 := w0) h0
  have start : ∀ z, (if y1.1 4 4 = 0 then (if v1 = 255 then fX14_marker_39 X FU (b + 4) v1 (rg_p lM b w0 y1) else (fX14_wrong X (rg_p lM b w0 y1) (b + 4) 3 (y1.1 4 6 - 1)).bind fun q36 => some (q36.1, q36.2)) else fX14_marker_39 X FU (b + 4) v1 (rg_p lM b w0 y1)) = z → fX14_marker X (rg_p lM b w0 y) (b + 4) = z := by
    intro z hz
    unfold fX14_marker
    refine ob_v (rg_I rfl rfl) (ob_v (rg_pI rfl rfl _) ?_)
    rw [hy0]
    refine ob_v (rg_O rfl) (ob_v e1 (ob_v (rg_I rfl rfl) ?_))
    by_cases c1 : y1.1 4 4 = 0
    · rw [if_pos c1] at hz
      refine ei_t c1 ?_
      by_cases c2 : v1 = 255
      · rw [if_pos c2] at hz
        exact ei_t c2 hz
      · rw [if_neg c2] at hz
        exact ei_n c2 (ob_v (rg_I rfl rfl) (ob_v (rg_O rfl) hz))
    · rw [if_neg c1] at hz
      exact ei_n c1 hz
  unfold sgMk
  rcases o1 with ⟨a1, a2, a3⟩ | ⟨a1, a2, a3⟩
  · rw [if_neg (by omega)]
    refine ⟨0, y1, start _ (ei_n a3.n ?_), G0.trans F1.k, Or.inl ⟨(1, L), ?_, rfl, a3⟩⟩
    · rw [a2]
      exact m_m39_0 (M := 3999999) a3
    · unfold sgSk2
      rw [if_pos a1]
  have hD := (h.2.2.2.2.2 p a1).2
  by_cases d : D p = 255
  · rw [if_neg (by omega)]
    rw [a2, d] at start
    obtain ⟨v2, y2, e2, F2, o2⟩ := m_sk2 (X := X) (b := b) (w0 := w0) (D := D) (L := L) L (p + 1) FU y1 (by omega) (by unfold FU; omega) (by omega) a3
    refine ⟨v2, y2, start _ (ei_t a3.2.1 (ei_t rfl e2)), G0.trans (F1.trans F2).k, ?_⟩
    have es : sgSk2 D L (L + 1) p = sgSk2 D L L (p + 1) := by
      conv => lhs; unfold sgSk2
      rw [if_neg (by omega), if_pos d]
    rw [es]
    exact o2
  · rw [if_pos ⟨a1, d⟩]
    obtain ⟨y2, e2, F2, f1, f2⟩ := m_sw (X := X) (b := b) (w0 := w0) (y := y1) (f := 3) (q := p) a3.2.1
    refine ⟨0, y2, start _ (ei_t a3.2.1 (ei_n ?_ ?_)), G0.trans (F1.trans F2).k, Or.inl ⟨_, rfl, rfl, ftY.i f1 f2 (by decide) (by decide) (by omega)⟩⟩
    · rw [a2]
      exact fun e => d ((nI_eq (b := 255) (by omega) (by omega)).mp e)
    · rw [a3.1, show nI (p + 1) - 1 = nI p from pk_sub (a := p + 1) (b := 1) (by omega)]
      exact ob_v e2 rfl
/-- whether each component was sent -/
theorem m_s15 {lt : Nat → Nat} (n4 : n ≤ 4) (hn : y.1 4 15 = nI n) (hl : laY y lt) : ∀ (r i M : Nat) (A1 : Int32), i + r = n → r < M → (A1 = 0 ∨ A1 = 1) → fX14_isSent_15 X M (b + 4) A1 (nI i) (rg_p lM b w0 y) = some (if A1 = 1 ∧ ∀ k, k < n → i ≤ k → lt (64 * k) ≠ 0 then 1 else 0, rg_p lM b w0 y) := by
  intro r
  induction r with
  | zero =>
    intro i M A1 hi hM hA
    obtain ⟨M, rfl⟩ : ∃ M', M = M' + 1 := ⟨M - 1, by omega⟩
    rw [fX14_isSent_15.eq_2]
    refine ob_v (rg_I rfl rfl) ?_
    rw [hn]
    refine ei_t (nI_le (by omega) (by omega)) ?_
    unfold zR
    rw [if_pos hA]
    rcases hA with hA | hA
    · rw [if_neg (fun e => by rw [hA] at e; exact absurd e.1 (by decide)), hA]
    · rw [if_pos ⟨hA, fun k h1 h2 => by omega⟩, hA]
  | succ r ih =>
    intro i M A1 hi hM hA
    obtain ⟨M, rfl⟩ : ∃ M', M = M' + 1 := ⟨M - 1, by omega⟩
    have l0 := hl (64 * i) (by omega)
    rw [fX14_isSent_15.eq_2]
    refine ob_v (rg_I rfl rfl) ?_
    rw [hn]
    refine ei_n (nI_ge (by omega) (by omega)) ?_
    have e43 : (¬ (A1 = 1 ∧ ∀ k, k < n → i ≤ k → lt (64 * k) ≠ 0)) → fX14_isSent_43 X (fX14_isSent_15 X M) (b + 4) (nI i) (rg_p lM b w0 y) = some (if A1 = 1 ∧ ∀ k, k < n → i ≤ k → lt (64 * k) ≠ 0 then 1 else 0, rg_p lM b w0 y) := by
      intro hne
      rw [if_neg hne]
      unfold fX14_isSent_43 fX14_isSent_44
      rw [nI_1, ih (i + 1) M 0 (by omega) (by omega) (Or.inl rfl), if_neg (fun e => absurd e.1 (by decide))]
    by_cases c1 : A1 = 0
    · exact ei_t c1 (e43 (fun e => by rw [c1] at e; exact absurd e.1 (by decide)))
    have c2 : A1 = 1 := by
      rcases hA with hA | hA
      · exact absurd hA c1
      · exact hA
    refine ei_n c1 (ob_v (rg_C rfl rfl) ?_)
    rw [show (64 : Int32) * nI i = nI (64 * i) from by rw [show (64 : Int32) = nI 64 from rfl, pk_mul]]
    refine ob_v (rg_A rfl (by decide) _ (by omega) (by decide)) ?_
    rw [l0.1]
    by_cases d : lt (64 * i) = 0
    · exact ei_t ((ltI_neg (by omega)).mpr d) (e43 (fun e => e.2 i (by omega) (by omega) d))
    · refine ei_n (fun z => d ((ltI_neg (by omega)).mp z)) ?_
      unfold fX14_isSent_44
      rw [nI_1, ih (i + 1) M 1 (by omega) (by omega) (Or.inr rfl)]
      by_cases g : ∀ k, k < n → i + 1 ≤ k → lt (64 * k) ≠ 0
      · rw [if_pos ⟨rfl, g⟩, if_pos ⟨c2, fun k h1 h2 => by
          by_cases ki : k = i
          · rw [ki]; exact d
          · exact g k h1 (by omega)⟩]
      · rw [if_neg (fun e => g e.2), if_neg (fun e => g (fun k h1 h2 => e.2 k h1 (by omega)))]
theorem m_sent {lt : Nat → Nat} (n4 : n ≤ 4) (hn : y.1 4 15 = nI n) (hl : laY y lt) : fX14_isSent X (rg_p lM b w0 y) (b + 4) = some (if 0 < n ∧ ∀ k, k < n → lt (64 * k) ≠ 0 then 1 else 0, rg_p lM b w0 y) := by
  unfold fX14_isSent fX14_isSent_12
  refine ob_v (rg_I rfl rfl) ?_
  rw [hn]
  by_cases z : n = 0
  · refine ei_t (by rw [z]; decide) ?_
    rw [show (0 : Int32) = nI 0 from rfl, m_s15 (X := X) n4 hn hl n 0 FU (nI 0) (by omega) (by unfold FU; omega) (Or.inl rfl), if_neg (fun e => absurd e.1 (by decide)), if_neg (fun e => by have := e.1; omega)]
    rfl
  · refine ei_n (nI_nle (by omega) (by omega)) ?_
    have e := m_s15 (X := X) (b := b) (w0 := w0) n4 hn hl n 0 FU 1 (by omega) (by unfold FU; omega) (Or.inr rfl)
    refine Eq.trans e ?_
    by_cases g : ∀ k, k < n → lt (64 * k) ≠ 0
    · rw [if_pos ⟨rfl, fun k h _ => g k h⟩, if_pos ⟨by omega, g⟩]
    · rw [if_neg (fun e => g (fun k h => e.2 k h (by omega))), if_neg (fun e => g e.2)]
end
