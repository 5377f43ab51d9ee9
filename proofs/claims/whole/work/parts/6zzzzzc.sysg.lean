/-! a segment's beginning, its end, contents of no matter, by the reference -/
def wRa (y : rg_S) (a j : Nat) (v : Int32) : rg_S := rg_wA y a (upd (y.2.2.1 a) j v)
theorem wRa_s {y : rg_S} {a j k : Nat} {v : Int32} : (wRa y a j v).2.2.1 a k = if k = j then v else y.2.2.1 a k := by
  unfold wRa
  rw [wA_s]
  rfl
theorem wRa_n {y : rg_S} {a a' j : Nat} {v : Int32} (h : a' ≠ a) : (wRa y a j v).2.2.1 a' = y.2.2.1 a' := wA_n _ _ h
theorem wRa_1 {y : rg_S} {a j : Nat} {v : Int32} : (wRa y a j v).1 = y.1 := rfl
section
variable {X : px_X} {b B : Nat} {w0 w1 : px_W} {y y' z z' : rg_S} {c : sgC} {p i n nn L kd : Nat} {f : sgF} {s : sgS} {D : Nat → Nat}
theorem m_twf (h : fpY y D L p) : ∃ v y', fX14_two X (rg_p lM b w0 y) (b + 4) = some (v, rg_p lM b w0 y') ∧ FYq y y' ∧ ((L ≤ p + 1 ∧ ftY y' (1, L)) ∨ (p + 1 < L ∧ v = nI (256 * D p + D (p + 1)) ∧ fpY y' D L (p + 2))) := by
  obtain ⟨v1, y1, e1, F1, o1⟩ := m_nf (X := X) (b := b) (w0 := w0) h
  unfold fX14_two
  rcases o1 with ⟨a1, a2, a3⟩ | ⟨a1, a2, a3⟩
  · exact ⟨_, y1, ob_v (rg_O rfl) (ob_v e1 (ob_v (rg_O rfl) (ob_v (m_nx0 a3) rfl))), F1, Or.inl ⟨by omega, a3⟩⟩
  obtain ⟨v2, y2, e2, F2, o2⟩ := m_nf (X := X) (b := b) (w0 := w0) a3
  rcases o2 with ⟨c1, c2, c3⟩ | ⟨c1, c2, c3⟩
  · exact ⟨_, y2, ob_v (rg_O rfl) (ob_v e1 (ob_v (rg_O rfl) (ob_v e2 rfl))), F1.trans F2, Or.inl ⟨c1, c3⟩⟩
  · refine ⟨_, y2, ob_v (rg_O rfl) (ob_v e1 (ob_v (rg_O rfl) (ob_v e2 rfl))), F1.trans F2, Or.inr ⟨c1, ?_, c3⟩⟩
    dsimp only
    rw [a2, c2, show (256 : Int32) = nI 256 from rfl, pk_mul, nI_add]
theorem m_bg (h : fpY y D L p) : ∃ y', fX14_begun X (rg_p lM b w0 y) (b + 4) = some (rg_p lM b w0 y') ∧ FYkk y y' ∧ ((L ≤ p + 1 ∧ ftY y' (1, L)) ∨ (p + 1 < L ∧ 256 * D p + D (p + 1) < 2 ∧ ftY y' (5, p)) ∨ (p + 1 < L ∧ 2 ≤ 256 * D p + D (p + 1) ∧ kY y' (D, L, p + (256 * D p + D (p + 1)), p) (p + 2))) := by
  have hL := h.2.2.2.2.1
  generalize hy0 : rg_wI y 4 36 (nI p) = y0
  have h0 : fpY y0 D L p := by rw [← hy0]; exact h.wi (by omega)
  have G0 : FYkk y y0 := by rw [← hy0]; exact FYkk.wI (by omega)
  obtain ⟨v1, y1, e1, F1, o1⟩ := m_twf (X := X) (b := b) (w0 := w0) h0
  have i36 : y1.1 4 36 = nI p := by rw [F1.1 _ _ (by omega), ← hy0, wI_s]
  have start : ∀ z, (if y1.1 4 4 = 0 then (if 2 ≤ v1 then fX14_begun_35 X (b + 4) v1 (rg_p lM b w0 y1) else (fX14_wrong X (rg_p lM b w0 y1) (b + 4) 5 (nI p)).bind fun q22 => fX14_begun_35 X (b + 4) v1 q22.2) else fX14_begun_35 X (b + 4) v1 (rg_p lM b w0 y1)) = z → fX14_begun X (rg_p lM b w0 y) (b + 4) = z := by
    intro z hz
    unfold fX14_begun
    refine ob_v (rg_I rfl rfl) ?_
    rw [h.1]
    refine ob_v (rg_pI rfl rfl _) ?_
    rw [hy0]
    refine ob_v (rg_O rfl) (ob_v e1 (ob_v (rg_I rfl rfl) ?_))
    by_cases c1 : y1.1 4 4 = 0
    · rw [if_pos c1] at hz
      refine ei_t c1 ?_
      by_cases c2 : 2 ≤ v1
      · rw [if_pos c2] at hz
        exact ei_t c2 hz
      · rw [if_neg c2] at hz
        refine ei_n c2 (ob_v (rg_I rfl rfl) ?_)
        rw [i36]
        exact ob_v (rg_O rfl) hz
    · rw [if_neg c1] at hz
      exact ei_n c1 hz
  have e35 : ∀ (z : rg_S), fX14_begun_35 X (b + 4) v1 (rg_p lM b w0 z) = some (rg_p lM b w0 (rg_wI z 4 7 (z.1 4 36 + v1))) := by
    intro z
    unfold fX14_begun_35
    exact ob_v (rg_I rfl rfl) (ob_v (rg_pI rfl rfl _) rfl)
  rcases o1 with ⟨a1, a3⟩ | ⟨a1, a2, a3⟩
  · exact ⟨_, start _ (ei_n a3.n (e35 y1)), G0.trans (F1.k.trans (FYkk.wI (by omega))), Or.inl ⟨a1, a3.wi (by omega)⟩⟩
  have D1 := (h.2.2.2.2.2 p (by omega)).2
  have D2 := (h.2.2.2.2.2 (p + 1) (by omega)).2
  generalize hn : 256 * D p + D (p + 1) = n at *
  by_cases d : n < 2
  · obtain ⟨y2, e2, F2, f1, f2⟩ := m_sw (X := X) (b := b) (w0 := w0) (y := y1) (f := 5) (q := p) a3.2.1
    exact ⟨_, start _ (ei_t a3.2.1 (ei_n (by rw [a2]; exact nI_ge (b := 2) d (by omega)) (ob_v e2 (e35 y2)))), G0.trans (F1.k.trans (F2.k.trans (FYkk.wI (by omega)))), Or.inr (Or.inl ⟨a1, d, (ftY.i f1 f2 (by decide) (by decide) (by omega)).wi (by omega)⟩)⟩
  · refine ⟨_, start _ (ei_t a3.2.1 (ei_t (by rw [a2]; exact nI_le (a := 2) (by omega) (by omega)) (e35 y1))), G0.trans (F1.k.trans (FYkk.wI (by omega))), Or.inr (Or.inr ⟨a1, by omega, ?_⟩)⟩
    refine ⟨by rw [wI_n _ _ (by omega)]; exact a3.1, by rw [wI_n _ _ (by omega)]; exact i36, ?_, by rw [wI_n _ _ (by omega)]; exact a3.2.1, by rw [wI_n _ _ (by omega)]; exact a3.2.2.2.1, ⟨hL.1, by show p + n < 100000; omega, by show p ≤ 16384; omega, by show p + 2 ≤ L; omega, by show p + 2 ≤ p + n; omega, by rw [wI_n _ _ (by omega)]; exact a3.2.2.2.2.1.2.2⟩, ?_⟩
    · rw [wI_s, i36, a2, nI_add]
    · rw [wI_2]
      exact a3.2.2.2.2.2
theorem m_any : ∀ (r p M : Nat) (y : rg_S), c.2.1 < p + r → r + 1 < M → kY y c p → ∃ y', fX14_any_0 X M (b + 4) (rg_p lM b w0 y) = some (rg_p lM b w0 y') ∧ FYq y y' ∧ ((c.2.1 < c.2.2.1 ∧ ftY y' (1, c.2.1)) ∨ (c.2.2.1 ≤ c.2.1 ∧ kY y' c c.2.2.1)) := by
  intro r
  induction r with
  | zero =>
    intro p M y hr _ h
    have := h.2.2.2.2.2.1
    omega
  | succ r ih =>
    intro p M y hr hM h
    obtain ⟨M, rfl⟩ : ∃ M', M = M' + 1 := ⟨M - 1, by omega⟩
    obtain ⟨M0, hM0⟩ : ∃ M', M = M' + 1 := ⟨M - 1, by omega⟩
    have hL := h.2.2.2.2.2.1
    by_cases d : p = c.2.2.1
    · refine ⟨y, ?_, FYq.rfl, Or.inr ⟨by omega, by rw [← d]; exact h⟩⟩
      rw [fX14_any_0.eq_2]
      refine ob_v (rg_I rfl rfl) (ei_t h.2.2.2.1 (ob_v (rg_I rfl rfl) (ob_v (rg_I rfl rfl) ?_)))
      rw [h.1, h.2.2.1]
      exact ei_t (nI_le (by omega) (by omega)) rfl
    obtain ⟨v1, y1, e1, F1, o1⟩ := m_nx (X := X) (b := b) (w0 := w0) h
    have start : ∀ z, fX14_any_0 X M (b + 4) (rg_p lM b w0 y1) = z → fX14_any_0 X (M + 1) (b + 4) (rg_p lM b w0 y) = z := by
      intro z hz
      rw [fX14_any_0.eq_2]
      refine ob_v (rg_I rfl rfl) (ei_t h.2.2.2.1 (ob_v (rg_I rfl rfl) (ob_v (rg_I rfl rfl) ?_)))
      rw [h.1, h.2.2.1]
      exact ei_n (nI_ge (by omega) (by omega)) (ob_v (rg_O rfl) (ob_v e1 hz))
    unfold sgN at o1
    rw [if_neg (by omega)] at o1
    by_cases d2 : c.2.1 ≤ p
    · rw [if_pos d2] at o1
      rcases o1 with ⟨f, r1, r2, r3⟩ | ⟨u, q, r1, _⟩
      · have := Sum.inl.inj r1
        rw [← this] at r3
        refine ⟨y1, start _ ?_, F1, Or.inl ⟨by omega, r3⟩⟩
        rw [hM0, fX14_any_0.eq_2]
        exact ob_v (rg_I rfl rfl) (ei_n r3.n rfl)
      · cases r1
    · rw [if_neg d2] at o1
      rcases o1 with ⟨f, r1, _⟩ | ⟨u, q, r1, r2, r3, r4⟩
      · cases r1
      · have := Sum.inr.inj r1
        have hq : p + 1 = q := congrArg Prod.snd this
        rw [← hq] at r4
        obtain ⟨y2, e2, F2, o2⟩ := ih (p + 1) M y1 (by omega) (by omega) r4
        exact ⟨y2, start _ e2, F1.trans F2, o2⟩
theorem m_cl0 {A1 : Int32} (h : ftY y f) : ∃ y', fX14_close X (rg_p lM b w0 y) (b + 4) A1 = some (rg_p lM b w0 y') ∧ FYg y y' ∧ ftY y' f := by
  refine ⟨rg_wI y 4 7 (-1), ?_, FYg.wI (by omega), h.wi (by omega)⟩
  unfold fX14_close fX14_close_28 fX14_close_104
  exact ob_v (rg_I rfl rfl) (ei_n h.n (ob_v (rg_I rfl rfl) (ei_n h.n (ob_v (rg_pI rfl rfl _) rfl))))
theorem m_clF {A1 : Int32} (h : kY y c p) (hp : p ≠ c.2.2.1) : ∃ y', fX14_close X (rg_p lM b w0 y) (b + 4) A1 = some (rg_p lM b w0 y') ∧ FYg y y' ∧ ftY y' (5, c.2.2.2) := by
  have hL := h.2.2.2.2.2.1
  obtain ⟨y2, e2, F2, f1, f2⟩ := m_sw (X := X) (b := b) (w0 := w0) (y := y) (f := 5) (q := c.2.2.2) h.2.2.2.1
  have ft : ftY y2 (5, c.2.2.2) := ftY.i f1 f2 (by decide) (by decide) (by omega)
  refine ⟨rg_wI y2 4 7 (-1), ?_, F2.g.trans (FYg.wI (by omega)), ft.wi (by omega)⟩
  unfold fX14_close
  refine ob_v (rg_I rfl rfl) (ei_t h.2.2.2.1 (ob_v (rg_I rfl rfl) (ob_v (rg_I rfl rfl) ?_)))
  rw [h.1, h.2.2.1]
  refine ei_n (fun e => hp ((nI_eq (by omega) (by omega)).mp e)) (ob_v (rg_I rfl rfl) (ob_v (rg_O rfl) ?_))
  rw [h.2.1]
  refine ob_v e2 ?_
  unfold fX14_close_28 fX14_close_104
  exact ob_v (rg_I rfl rfl) (ei_n ft.n (ob_v (rg_pI rfl rfl _) rfl))
theorem m_cl1 {A1 : Int32} {k : Nat} (h : kY y c c.2.2.1) (hk : y.1 4 10 = nI k) (k4 : 4 * k + 3 < 16384) : ∃ y', fX14_close X (rg_p lM b w0 y) (b + 4) A1 = some (rg_p lM b w0 y') ∧ FYg y y' ∧ fpY y' c.1 c.2.1 c.2.2.1 ∧ y'.1 4 10 = nI (k + 1) ∧ (∀ j, j ≠ 7 → j ≠ 10 → y'.1 4 j = y.1 4 j) ∧ ∀ a, a ≠ 6 → y'.2.2.1 a = y.2.2.1 a := by
  have hL := h.2.2.2.2.2.1
  obtain ⟨a6, a36, a7, a4, a1, _, aD⟩ := h
  generalize hy1 : wRa (wRa (wRa (wRa y 6 (4 * k) A1) 6 (4 * k + 1) (y.1 4 8)) 6 (4 * k + 2) (y.1 4 36 + 2)) 6 (4 * k + 3) (y.1 4 7 - y.1 4 36 - 2) = y1
  have G : FYg y y1 := by
    rw [← hy1]
    exact (FYg.wA (by omega)).trans ((FYg.wA (by omega)).trans ((FYg.wA (by omega)).trans (FYg.wA (by omega))))
  have i1 : y1.1 = y.1 := by rw [← hy1]; rfl
  have q1 : ∀ a, a ≠ 6 → y1.2.2.1 a = y.2.2.1 a := by
    intro a ha
    rw [← hy1, wRa_n ha, wRa_n ha, wRa_n ha, wRa_n ha]
  refine ⟨rg_wI (rg_wI y1 4 10 (nI (k + 1))) 4 7 (-1), ?_, G.trans ((FYg.wI (by omega)).trans (FYg.wI (by omega))), ?_, ?_, ?_, ?_⟩
  · unfold fX14_close
    refine ob_v (rg_I rfl rfl) (ei_t a4 (ob_v (rg_I rfl rfl) (ob_v (rg_I rfl rfl) ?_)))
    rw [a6, a7]
    refine ei_t rfl ?_
    unfold fX14_close_28
    refine ob_v (rg_I rfl rfl) (ei_t a4 (ob_v (rg_I rfl rfl) ?_))
    rw [hk, show (4 : Int32) * nI k = nI (4 * k) from by rw [show (4 : Int32) = nI 4 from rfl, pk_mul], show nI (4 * k) + 1 = nI (4 * k + 1) from nI_add _ 1, show nI (4 * k) + 2 = nI (4 * k + 2) from nI_add _ 2, show nI (4 * k) + 3 = nI (4 * k + 3) from nI_add _ 3]
    refine ob_v (rg_C rfl rfl) (ob_v (rg_sA _ rfl (by decide) _ _ (by omega) (by decide)) (ob_v (rg_C rfl rfl) (ob_v (rg_I rfl rfl) (ob_v (rg_sA _ rfl (by decide) _ _ (by omega) (by decide)) (ob_v (rg_C rfl rfl) (ob_v (rg_I rfl rfl) (ob_v (rg_sA _ rfl (by decide) _ _ (by omega) (by decide)) (ob_v (rg_C rfl rfl) (ob_v (rg_I rfl rfl) (ob_v (rg_I rfl rfl) (ob_v (rg_sA _ rfl (by decide) _ _ (by omega) (by decide)) ?_)))))))))))
    refine Eq.trans (b := (gI (rg_p lM b w0 y1) (b + 4) 14 10).bind (fun v40 => (pV (rg_p lM b w0 y1) (b + 4) 14 10 (.int (v40 + 1))).bind fun w41 => fX14_close_104 X (b + 4) w41)) (by rw [← hy1]; rfl) ?_
    refine ob_v (rg_I rfl rfl) ?_
    rw [i1, hk, nI_1]
    refine ob_v (rg_pI rfl rfl _) ?_
    unfold fX14_close_104
    exact ob_v (rg_pI rfl rfl _) rfl
  · refine ⟨?_, ?_, wI_s _ _ _ _, ?_, ⟨hL.1, hL.2.2.2.1, by rw [wI_n _ _ (by omega), wI_n _ _ (by omega), i1]; exact hL.2.2.2.2.2⟩, ?_⟩
    · rw [wI_n _ _ (by omega), wI_n _ _ (by omega), i1]; exact a6
    · rw [wI_n _ _ (by omega), wI_n _ _ (by omega), i1]; exact a4
    · rw [wI_n _ _ (by omega), wI_n _ _ (by omega), i1]; exact a1
    · rw [wI_2, wI_2, q1 5 (by omega)]; exact aD
  · rw [wI_n _ _ (by omega), wI_s]
  · intro j h1 h2
    rw [wI_n _ _ (by omega), wI_n _ _ (by omega), i1]
  · intro a ha
    rw [wI_2, wI_2, q1 a ha]
end
