/-! a scan's band, and whether it fits, by the reference -/
def FYb2 (y y' : rg_S) : Prop := (∀ p k, ¬ (p = 4 ∧ (4 ≤ k ∧ k ≤ 6 ∨ 37 ≤ k ∧ k ≤ 40)) → y'.1 p k = y.1 p k) ∧ y'.2 = y.2
theorem FYb2.trans {y y1 y2 : rg_S} (h : FYb2 y y1) (h2 : FYb2 y1 y2) : FYb2 y y2 := ⟨fun p k a => (h2.1 p k a).trans (h.1 p k a), h2.2.trans h.2⟩
theorem FYq.b2 {y y' : rg_S} (h : FYq y y') : FYb2 y y' := ⟨fun p k a => h.1 p k (by omega), h.2⟩
theorem FYb2.wI {k : Nat} {y : rg_S} {v : Int32} (h : 37 ≤ k ∧ k ≤ 40) : FYb2 y (rg_wI y 4 k v) := ⟨fun p k' a => wI_n _ _ (by omega), Eq.refl _⟩
theorem FYb2.g {y y' : rg_S} (h : FYb2 y y') : FYg y y' := ⟨fun p k a => h.1 p k (by omega), ⟨h.1 _ _ (by omega), h.1 _ _ (by omega)⟩, by rw [h.2], fun _ _ => by rw [h.2], by rw [h.2]⟩
section
variable {X : px_X} {b B : Nat} {w0 w1 : px_W} {y y' z z' : rg_S} {c : sgC} {p i n nn : Nat} {f : sgF} {cs mb : sg4} {A1 A2 A3 A4 s0 : Int32} {lt q : Nat → Nat} {T : sgW}
theorem m_bn {kd sm : Nat} (hkd : kd = 192 ∨ kd = 194) (h12 : y.1 4 12 = nI kd) (h30 : y.1 4 30 = nI sm) (hsm : 1 ≤ sm ∧ sm ≤ 4) (h : kY y c p) : ∃ y', ((∃ f, sgBn c kd sm p = .inl f ∧ FYg y y' ∧ ftY y' f ∧ fX14_readScan_236 X (b + 4) (rg_p lM b w0 y) = some (rg_p lM b w0 y')) ∨ ∃ fi la bf bb p', sgBn c kd sm p = .inr (fi, la, bf, bb, p') ∧ FYb2 y y' ∧ kY y' c p' ∧ y'.1 4 37 = nI fi ∧ y'.1 4 38 = nI la ∧ y'.1 4 39 = nI bf ∧ y'.1 4 40 = nI bb ∧ fX14_readScan_236 X (b + 4) (rg_p lM b w0 y) = fX14_readScan_475 X FU (b + 4) (if kd = 194 then 1 else 0) 0 (rg_p lM b w0 y')) := by
  have hL := h.2.2.2.2.2.1
  generalize hpr : (if kd = 194 then (1 : Int32) else 0) = pr
  have pr0 : pr = 0 ↔ ¬ kd = 194 := by
    rw [← hpr]
    split
    · exact ⟨fun e => absurd e (by decide), fun e => absurd (by assumption) e⟩
    · exact ⟨fun _ => by assumption, fun _ => rfl⟩
  unfold sgBn sgI
  obtain ⟨v1, y1, e1, F1, o1⟩ := m_nx (X := X) (b := b) (w0 := w0) h
  generalize hy2 : rg_wI y1 4 37 v1 = y2
  have F2 : FYb2 y y2 := by
    rw [← hy2]
    exact F1.b2.trans (FYb2.wI (by omega))
  have i37 : y2.1 4 37 = v1 := by rw [← hy2, wI_s]
  have start : ∀ z, (if 0 < y2.1 4 4 then fX14_readScan_306 X (b + 4) pr (b + 4) (rg_p lM b w0 y2) else if pr = 0 then (if v1 = 0 then fX14_readScan_306 X (b + 4) pr (b + 4) (rg_p lM b w0 y2) else fX14_readScan_310 X (b + 4) pr (b + 4) (rg_p lM b w0 y2)) else if 64 ≤ v1 then fX14_readScan_310 X (b + 4) pr (b + 4) (rg_p lM b w0 y2) else if v1 = 0 then fX14_readScan_306 X (b + 4) pr (b + 4) (rg_p lM b w0 y2) else if nI sm = 1 then fX14_readScan_306 X (b + 4) pr (b + 4) (rg_p lM b w0 y2) else fX14_readScan_310 X (b + 4) pr (b + 4) (rg_p lM b w0 y2)) = z → fX14_readScan_236 X (b + 4) (rg_p lM b w0 y) = z := by
    intro z hz
    have e251 : fX14_readScan_251 X (b + 4) pr (rg_p lM b w0 y) = z := by
      unfold fX14_readScan_251
      refine ob_v (rg_O rfl) (ob_v e1 (ob_v (rg_pI rfl rfl _) ?_))
      rw [hy2]
      refine ob_v (rg_I rfl rfl) ?_
      by_cases c1 : 0 < y2.1 4 4
      · rw [if_pos c1] at hz
        exact ei_t c1 hz
      rw [if_neg c1] at hz
      refine ei_n c1 ?_
      by_cases c2 : pr = 0
      · rw [if_pos c2] at hz
        refine ei_t c2 (ob_v (rg_I rfl rfl) ?_)
        rw [i37]
        exact hz
      rw [if_neg c2] at hz
      refine ei_n c2 (ob_v (rg_I rfl rfl) ?_)
      rw [i37]
      by_cases c3 : 64 ≤ v1
      · rw [if_pos c3] at hz
        exact ei_t c3 hz
      rw [if_neg c3] at hz
      refine ei_n c3 (ob_v (rg_I rfl rfl) ?_)
      rw [i37]
      by_cases c4 : v1 = 0
      · rw [if_pos c4] at hz
        exact ei_t c4 hz
      rw [if_neg c4] at hz
      refine ei_n c4 (ob_v (rg_I rfl rfl) ?_)
      rw [show y2.1 4 30 = nI sm by rw [F2.1 _ _ (by omega)]; exact h30]
      exact hz
    unfold fX14_readScan_236
    refine ob_v (rg_I rfl rfl) ?_
    rw [h12]
    by_cases k4 : kd = 194
    · rw [if_pos k4] at hpr
      rw [← hpr] at e251
      exact ei_t (by rw [k4]; rfl) e251
    · rw [if_neg k4] at hpr
      rw [← hpr] at e251
      exact ei_n (fun e => k4 ((nI_eq (b := 194) (by omega) (by omega)).mp e)) e251
  rcases o1 with ⟨f, r1, r2, r3⟩ | ⟨fi, p1, r1, r2, r3, r4⟩
  · rw [r1]
    have f2 : ftY y2 f := by rw [← hy2]; exact r3.wi (by omega)
    obtain ⟨y3, e3, F3, f3⟩ := m_s311_0 (X := X) (b := b) (w0 := w0) (z := y2) (z' := y2) (A3 := pr) (s0 := 1) (m_must1 (by decide)) f2
    exact ⟨y3, Or.inl ⟨f, rfl, F2.g.trans F3, f3, start _ (ei_t f2.l e3)⟩⟩
  have g1 := sgN_p r1
  have k2 : kY y2 c p1 := by rw [← hy2]; exact r4.wi (by omega)
  have n2 : ¬ 0 < y2.1 4 4 := by rw [k2.2.2.2.1]; decide
  rw [r1]
  show ∃ y', ((∃ f, sgB (if fi < 0 ∨ (if kd = 194 ∧ sm = 1 then 63 else 0) < fi then (.inl (6, p) : sgF ⊕ (Nat × Nat)) else .inr (fi, p1)) _ = .inl f ∧ _) ∨ ∃ a1 a2 a3 a4 a5, sgB (if fi < 0 ∨ (if kd = 194 ∧ sm = 1 then 63 else 0) < fi then (.inl (6, p) : sgF ⊕ (Nat × Nat)) else .inr (fi, p1)) _ = .inr (a1, a2, a3, a4, a5) ∧ _)
  by_cases d1 : (if kd = 194 ∧ sm = 1 then 63 else 0) < fi
  · rw [if_pos (Or.inr d1)]
    obtain ⟨y3, e3, F3, f3⟩ := m_mustF (X := X) (b := b) (w0 := w0) (y := y2) k2.2.2.2.1 k2.1 (by omega) (by omega)
    rw [show (6, p1 - 1) = (6, p) by rw [g1.1]; rfl] at f3
    obtain ⟨y4, e4, F4, f4⟩ := m_s311_0 (X := X) (b := b) (w0 := w0) (A3 := pr) e3 f3
    have e310 : fX14_readScan_310 X (b + 4) pr (b + 4) (rg_p lM b w0 y2) = some (rg_p lM b w0 y4) := by
      unfold fX14_readScan_310
      exact e4
    refine ⟨y4, Or.inl ⟨_, rfl, F2.g.trans (F3.g.trans F4), f4, start _ (ei_n n2 ?_)⟩⟩
    rw [r3]
    by_cases k4 : kd = 194
    · refine ei_n (fun e => pr0.mp e k4) ?_
      by_cases c1 : 64 ≤ fi
      · exact ei_t (nI_le (a := 64) c1 (by omega)) e310
      · refine ei_n (nI_ge (b := 64) (by omega) (by omega)) (ei_n (nI_ne0 (by omega) (by omega)) (ei_n (fun e => ?_) e310))
        have s1 := (nI_eq (b := 1) (by omega) (by omega)).mp e
        rw [if_pos ⟨k4, s1⟩] at d1
        omega
    · exact ei_t (pr0.mpr k4) (ei_n (nI_ne0 (by omega) (by omega)) e310)
  rw [if_neg (fun e => e.elim (fun z => absurd z (Nat.not_lt_zero _)) d1)]
  have b1 : fi ≤ 63 := by
    split at d1 <;> omega
  have e306 : ∀ z, fX14_readScan_311 X (b + 4) pr 1 (b + 4) (rg_p lM b w0 y2) = z → fX14_readScan_236 X (b + 4) (rg_p lM b w0 y) = z := by
    intro z hz
    have e : fX14_readScan_306 X (b + 4) pr (b + 4) (rg_p lM b w0 y2) = z := by
      unfold fX14_readScan_306
      exact hz
    refine start _ (ei_n n2 ?_)
    rw [r3]
    by_cases k4 : kd = 194
    · refine ei_n (fun e => pr0.mp e k4) (ei_n (nI_ge (b := 64) (by omega) (by omega)) ?_)
      by_cases c1 : fi = 0
      · exact ei_t (by rw [c1]; rfl) e
      · refine ei_n (nI_ne0 (by omega) (by omega)) (ei_t ?_ e)
        by_cases s1 : sm = 1
        · rw [s1]; rfl
        · rw [if_neg (fun e => s1 e.2)] at d1
          omega
    · rw [if_neg (fun e => k4 e.1)] at d1
      exact ei_t (pr0.mpr k4) (ei_t (by rw [show fi = 0 by omega]; rfl) e)
  -- the last
  show ∃ y', ((∃ f, sgB (sgB (sgN c p1) (fun q => if q.1 < (if kd = 194 then fi else 63) ∨ (if kd = 194 ∧ fi = 0 then 0 else 63) < q.1 then .inl (6, p1) else .inr q)) _ = .inl f ∧ _) ∨ ∃ a1 a2 a3 a4 a5, sgB (sgB (sgN c p1) (fun q => if q.1 < (if kd = 194 then fi else 63) ∨ (if kd = 194 ∧ fi = 0 then 0 else 63) < q.1 then .inl (6, p1) else .inr q)) _ = .inr (a1, a2, a3, a4, a5) ∧ _)
  obtain ⟨v3, y3, e3, F3, o3⟩ := m_nx (X := X) (b := b) (w0 := w0) k2
  generalize hy4 : rg_wI y3 4 38 v3 = y4
  have F4 : FYb2 y y4 := by
    rw [← hy4]
    exact F2.trans (F3.b2.trans (FYb2.wI (by omega)))
  have i38 : y4.1 4 38 = v3 := by rw [← hy4, wI_s]
  have j37 : y4.1 4 37 = nI fi := by rw [← hy4, wI_n _ _ (by omega), F3.1 _ _ (by omega), i37, r3]
  have start2 : ∀ z, (if 0 < y4.1 4 4 then fX14_readScan_383 X (b + 4) pr (b + 4) (rg_p lM b w0 y4) else if pr = 0 then (if v3 = 63 then fX14_readScan_383 X (b + 4) pr (b + 4) (rg_p lM b w0 y4) else fX14_readScan_387 X (b + 4) pr (b + 4) (rg_p lM b w0 y4)) else if nI fi = 0 then (if v3 = 0 then fX14_readScan_383 X (b + 4) pr (b + 4) (rg_p lM b w0 y4) else fX14_readScan_387 X (b + 4) pr (b + 4) (rg_p lM b w0 y4)) else if v3 < nI fi then fX14_readScan_387 X (b + 4) pr (b + 4) (rg_p lM b w0 y4) else if 64 ≤ v3 then fX14_readScan_387 X (b + 4) pr (b + 4) (rg_p lM b w0 y4) else fX14_readScan_383 X (b + 4) pr (b + 4) (rg_p lM b w0 y4)) = z → fX14_readScan_236 X (b + 4) (rg_p lM b w0 y) = z := by
    intro z hz
    refine e306 _ ?_
    unfold fX14_readScan_311
    refine ob_v (rg_O rfl) (ob_v (m_must1 (by decide)) (ob_v (rg_O rfl) (ob_v e3 (ob_v (rg_pI rfl rfl _) ?_))))
    rw [hy4]
    refine ob_v (rg_I rfl rfl) ?_
    by_cases c1 : 0 < y4.1 4 4
    · rw [if_pos c1] at hz
      exact ei_t c1 hz
    rw [if_neg c1] at hz
    refine ei_n c1 ?_
    by_cases c2 : pr = 0
    · rw [if_pos c2] at hz
      refine ei_t c2 (ob_v (rg_I rfl rfl) ?_)
      rw [i38]
      exact hz
    rw [if_neg c2] at hz
    refine ei_n c2 (ob_v (rg_I rfl rfl) ?_)
    rw [j37]
    by_cases c3 : nI fi = 0
    · rw [if_pos c3] at hz
      refine ei_t c3 (ob_v (rg_I rfl rfl) ?_)
      rw [i38]
      exact hz
    rw [if_neg c3] at hz
    refine ei_n c3 (ob_v (rg_I rfl rfl) (ob_v (rg_I rfl rfl) ?_))
    rw [i38, j37]
    by_cases c4 : v3 < nI fi
    · rw [if_pos c4] at hz
      exact ei_t c4 hz
    rw [if_neg c4] at hz
    refine ei_n c4 (ob_v (rg_I rfl rfl) ?_)
    rw [i38]
    exact hz
  rcases o3 with ⟨f, s1, s2, s3⟩ | ⟨la, p3, s1, s2, s3, s4⟩
  · rw [s1]
    have f4 : ftY y4 f := by rw [← hy4]; exact s3.wi (by omega)
    obtain ⟨y5, e5, F5, f5⟩ := m_s388_0 (X := X) (b := b) (w0 := w0) (z := y4) (z' := y4) (A3 := pr) (s0 := 1) (m_must1 (by decide)) f4
    exact ⟨y5, Or.inl ⟨f, rfl, F4.g.trans F5, f5, start2 _ (ei_t f4.l e5)⟩⟩
  have g3 := sgN_p s1
  have k4' : kY y4 c p3 := by rw [← hy4]; exact s4.wi (by omega)
  have n4 : ¬ 0 < y4.1 4 4 := by rw [k4'.2.2.2.1]; decide
  rw [s1]
  show ∃ y', ((∃ f, sgB (if la < (if kd = 194 then fi else 63) ∨ (if kd = 194 ∧ fi = 0 then 0 else 63) < la then (.inl (6, p1) : sgF ⊕ (Nat × Nat)) else .inr (la, p3)) _ = .inl f ∧ _) ∨ ∃ a1 a2 a3 a4 a5, sgB (if la < (if kd = 194 then fi else 63) ∨ (if kd = 194 ∧ fi = 0 then 0 else 63) < la then (.inl (6, p1) : sgF ⊕ (Nat × Nat)) else .inr (la, p3)) _ = .inr (a1, a2, a3, a4, a5) ∧ _)
  have kb4 := k4'.2.2.2.2.2.1
  by_cases d2 : la < (if kd = 194 then fi else 63) ∨ (if kd = 194 ∧ fi = 0 then 0 else 63) < la
  · rw [if_pos d2]
    obtain ⟨y5, e5, F5, f5⟩ := m_mustF (X := X) (b := b) (w0 := w0) (y := y4) k4'.2.2.2.1 k4'.1 (by omega) (by omega)
    rw [show (6, p3 - 1) = (6, p1) by rw [g3.1]; rfl] at f5
    obtain ⟨y6, e6, F6, f6⟩ := m_s388_0 (X := X) (b := b) (w0 := w0) (A3 := pr) e5 f5
    have e387 : fX14_readScan_387 X (b + 4) pr (b + 4) (rg_p lM b w0 y4) = some (rg_p lM b w0 y6) := by
      unfold fX14_readScan_387
      exact e6
    refine ⟨y6, Or.inl ⟨_, rfl, F4.g.trans (F5.g.trans F6), f6, start2 _ (ei_n n4 ?_)⟩⟩
    rw [s3]
    by_cases k4 : kd = 194
    · rw [if_pos k4] at d2
      refine ei_n (fun e => pr0.mp e k4) ?_
      by_cases f0 : fi = 0
      · rw [if_pos ⟨k4, f0⟩] at d2
        exact ei_t (by rw [f0]; rfl) (ei_n (nI_ne0 (by omega) (by omega)) e387)
      · rw [if_neg (fun e => f0 e.2)] at d2
        refine ei_n (nI_ne0 (by omega) (by omega)) ?_
        by_cases c1 : la < fi
        · exact ei_t (nI_lt c1 (by omega)) e387
        · exact ei_n (nI_nlt (by omega) (by omega)) (ei_t (nI_le (a := 64) (by omega) (by omega)) e387)
    · rw [if_neg k4, if_neg (fun e => k4 e.1)] at d2
      exact ei_t (pr0.mpr k4) (ei_n (fun e => by have := (nI_eq (b := 63) (by omega) (by omega)).mp e; omega) e387)
  rw [if_neg d2]
  have b2 : la ≤ 63 ∧ fi ≤ la ∧ (kd = 194 → fi = 0 → la = 0) ∧ (kd ≠ 194 → la = 63) := by
    by_cases k4 : kd = 194
    · rw [if_pos k4] at d2
      by_cases f0 : fi = 0
      · rw [if_pos ⟨k4, f0⟩] at d2
        omega
      · rw [if_neg (fun e => f0 e.2)] at d2
        omega
    · rw [if_neg k4, if_neg (fun e => k4 e.1)] at d2
      omega
  have e383 : ∀ z, fX14_readScan_388 X (b + 4) pr 1 (b + 4) (rg_p lM b w0 y4) = z → fX14_readScan_236 X (b + 4) (rg_p lM b w0 y) = z := by
    intro z hz
    have e : fX14_readScan_383 X (b + 4) pr (b + 4) (rg_p lM b w0 y4) = z := by
      unfold fX14_readScan_383
      exact hz
    refine start2 _ (ei_n n4 ?_)
    rw [s3]
    by_cases k4 : kd = 194
    · refine ei_n (fun e => pr0.mp e k4) ?_
      by_cases f0 : fi = 0
      · exact ei_t (by rw [f0]; rfl) (ei_t (by rw [b2.2.2.1 k4 f0]; rfl) e)
      · exact ei_n (nI_ne0 (by omega) (by omega)) (ei_n (nI_nlt (by omega) (by omega)) (ei_n (nI_ge (b := 64) (by omega) (by omega)) e))
    · exact ei_t (pr0.mpr k4) (ei_t (by rw [b2.2.2.2 k4]; rfl) e)
  -- the bits
  show ∃ y', ((∃ f, sgB (sgB (sgN c p3) (fun q => if q.1 < 0 ∨ (if kd = 194 then 255 else 0) < q.1 then .inl (6, p3) else .inr q)) _ = .inl f ∧ _) ∨ ∃ a1 a2 a3 a4 a5, sgB (sgB (sgN c p3) (fun q => if q.1 < 0 ∨ (if kd = 194 then 255 else 0) < q.1 then .inl (6, p3) else .inr q)) _ = .inr (a1, a2, a3, a4, a5) ∧ _)
  obtain ⟨v5, y5, e5, F5, o5⟩ := m_nx (X := X) (b := b) (w0 := w0) k4'
  rcases o5 with ⟨f, t1, t2, t3⟩ | ⟨bo, p5, t1, t2, t3, t4⟩
  · rw [t1]
    have h2 : ftY (rg_wI (rg_wI y5 4 39 0) 4 40 0) f := (t3.wi (by omega)).wi (by omega)
    refine ⟨rg_wI (rg_wI y5 4 39 0) 4 40 0, Or.inl ⟨f, rfl, F4.g.trans (F5.g.trans ((FYg.wI (by omega)).trans (FYg.wI (by omega)))), h2, e383 _ ?_⟩⟩
    unfold fX14_readScan_388
    refine ob_v (rg_O rfl) (ob_v (m_must1 (by decide)) (ob_v (rg_O rfl) (ob_v e5 ?_)))
    dsimp only
    rw [t2]
    refine ob_v (show dI 0 16 = some 0 from rfl) (ob_v (rg_pI rfl rfl _) (ob_v (show rI 0 16 = some 0 from rfl) (ob_v (rg_pI rfl rfl _) (ob_v (rg_I rfl rfl) (ei_t h2.l ?_)))))
    unfold fX14_readScan_464
    exact m_s469_0 (m_must1 (by decide)) h2
  have g5 := sgN_p t1
  generalize hy6 : rg_wI (rg_wI y5 4 39 (nI (bo / 16))) 4 40 (nI (bo % 16)) = y6
  have F6 : FYb2 y y6 := by
    rw [← hy6]
    exact F4.trans (F5.b2.trans ((FYb2.wI (by omega)).trans (FYb2.wI (by omega))))
  have k6 : kY y6 c p5 := by rw [← hy6]; exact (t4.wi (by omega)).wi (by omega)
  have n6 : ¬ 0 < y6.1 4 4 := by rw [k6.2.2.2.1]; decide
  have j39 : y6.1 4 39 = nI (bo / 16) := by rw [← hy6, wI_n _ _ (by omega), wI_s]
  have j40 : y6.1 4 40 = nI (bo % 16) := by rw [← hy6, wI_s]
  have j37' : y6.1 4 37 = nI fi := by rw [← hy6, wI_n _ _ (by omega), wI_n _ _ (by omega), F5.1 _ _ (by omega)]; exact j37
  have j38' : y6.1 4 38 = nI la := by rw [← hy6, wI_n _ _ (by omega), wI_n _ _ (by omega), F5.1 _ _ (by omega), i38, s3]
  have kb6 := k6.2.2.2.2.2.1
  have start3 : ∀ z, (if pr = 0 then (if nI bo = 0 then fX14_readScan_464 X (b + 4) pr (b + 4) (rg_p lM b w0 y6) else fX14_readScan_468 X (b + 4) pr (b + 4) (rg_p lM b w0 y6)) else if 13 < nI (bo % 16) then fX14_readScan_468 X (b + 4) pr (b + 4) (rg_p lM b w0 y6) else if nI (bo / 16) = 0 then fX14_readScan_464 X (b + 4) pr (b + 4) (rg_p lM b w0 y6) else if nI (bo / 16) = nI (bo % 16 + 1) then fX14_readScan_464 X (b + 4) pr (b + 4) (rg_p lM b w0 y6) else fX14_readScan_468 X (b + 4) pr (b + 4) (rg_p lM b w0 y6)) = z → fX14_readScan_236 X (b + 4) (rg_p lM b w0 y) = z := by
    intro z hz
    refine e383 _ ?_
    unfold fX14_readScan_388
    refine ob_v (rg_O rfl) (ob_v (m_must1 (by decide)) (ob_v (rg_O rfl) (ob_v e5 ?_)))
    dsimp only
    rw [t3]
    refine ob_v (dI_n (d := 16) (by omega) (by decide) (by decide)) (ob_v (rg_pI rfl rfl _) (ob_v (rI_n (d := 16) (by omega) (by decide) (by decide)) (ob_v (rg_pI rfl rfl _) ?_)))
    rw [hy6]
    refine ob_v (rg_I rfl rfl) (ei_n n6 ?_)
    by_cases c2 : pr = 0
    · rw [if_pos c2] at hz
      exact ei_t c2 hz
    rw [if_neg c2] at hz
    refine ei_n c2 (ob_v (rg_I rfl rfl) ?_)
    rw [j40]
    by_cases c3 : 13 < nI (bo % 16)
    · rw [if_pos c3] at hz
      exact ei_t c3 hz
    rw [if_neg c3] at hz
    refine ei_n c3 (ob_v (rg_I rfl rfl) ?_)
    rw [j39]
    by_cases c4 : nI (bo / 16) = 0
    · rw [if_pos c4] at hz
      exact ei_t c4 hz
    rw [if_neg c4] at hz
    refine ei_n c4 (ob_v (rg_I rfl rfl) (ob_v (rg_I rfl rfl) ?_))
    rw [j39, j40, nI_1]
    exact hz
  rw [t1]
  obtain ⟨y7, e7, F7, f7⟩ := m_mustF (X := X) (b := b) (w0 := w0) (y := y6) k6.2.2.2.1 k6.1 (by omega) (by omega)
  rw [show (6, p5 - 1) = (6, p3) by rw [g5.1]; rfl] at f7
  have e468 : fX14_readScan_468 X (b + 4) pr (b + 4) (rg_p lM b w0 y6) = some (rg_p lM b w0 y7) := by
    unfold fX14_readScan_468
    exact m_s469_0 e7 f7
  have e464 : fX14_readScan_464 X (b + 4) pr (b + 4) (rg_p lM b w0 y6) = fX14_readScan_475 X FU (b + 4) pr 0 (rg_p lM b w0 y6) := by
    unfold fX14_readScan_464 fX14_readScan_469
    exact ob_v (rg_O rfl) (ob_v (m_must1 (by decide)) rfl)
  show ∃ y', ((∃ f, sgB (if bo < 0 ∨ (if kd = 194 then 255 else 0) < bo then (.inl (6, p3) : sgF ⊕ (Nat × Nat)) else .inr (bo, p5)) (fun b => if 13 < b.1 % 16 ∨ b.1 / 16 ≠ 0 ∧ b.1 / 16 ≠ b.1 % 16 + 1 then (.inl (6, p3) : sgF ⊕ (Nat × Nat × Nat × Nat × Nat)) else .inr (fi, la, b.1 / 16, b.1 % 16, b.2)) = .inl f ∧ _) ∨ ∃ a1 a2 a3 a4 a5, sgB (if bo < 0 ∨ (if kd = 194 then 255 else 0) < bo then (.inl (6, p3) : sgF ⊕ (Nat × Nat)) else .inr (bo, p5)) (fun b => if 13 < b.1 % 16 ∨ b.1 / 16 ≠ 0 ∧ b.1 / 16 ≠ b.1 % 16 + 1 then (.inl (6, p3) : sgF ⊕ (Nat × Nat × Nat × Nat × Nat)) else .inr (fi, la, b.1 / 16, b.1 % 16, b.2)) = .inr (a1, a2, a3, a4, a5) ∧ _)
  by_cases k4 : kd = 194
  · rw [if_pos k4, if_neg (show ¬ (bo < 0 ∨ 255 < bo) by omega)]
    show ∃ y', ((∃ f, (if 13 < bo % 16 ∨ bo / 16 ≠ 0 ∧ bo / 16 ≠ bo % 16 + 1 then (.inl (6, p3) : sgF ⊕ (Nat × Nat × Nat × Nat × Nat)) else .inr (fi, la, bo / 16, bo % 16, p5)) = .inl f ∧ _) ∨ ∃ a1 a2 a3 a4 a5, (if 13 < bo % 16 ∨ bo / 16 ≠ 0 ∧ bo / 16 ≠ bo % 16 + 1 then (.inl (6, p3) : sgF ⊕ (Nat × Nat × Nat × Nat × Nat)) else .inr (fi, la, bo / 16, bo % 16, p5)) = .inr (a1, a2, a3, a4, a5) ∧ _)
    have np : ¬ pr = 0 := fun e => pr0.mp e k4
    by_cases c1 : 13 < bo % 16
    · rw [if_pos (Or.inl c1)]
      exact ⟨y7, Or.inl ⟨_, rfl, F6.g.trans F7.g, f7, start3 _ (ei_n np (ei_t (nI_lt (a := 13) c1 (by omega)) e468))⟩⟩
    have nc1 : ¬ (13 : Int32) < nI (bo % 16) := nI_nlt (a := 13) (by omega) (by omega)
    by_cases c2 : bo / 16 = 0
    · rw [if_neg (by omega)]
      exact ⟨y6, Or.inr ⟨_, _, _, _, _, rfl, F6, k6, j37', j38', j39, j40, start3 _ (ei_n np (ei_n nc1 (ei_t (by rw [c2]; rfl) e464)))⟩⟩
    have nc2 : ¬ nI (bo / 16) = 0 := nI_ne0 (by omega) (by omega)
    by_cases c3 : bo / 16 = bo % 16 + 1
    · rw [if_neg (by omega)]
      exact ⟨y6, Or.inr ⟨_, _, _, _, _, rfl, F6, k6, j37', j38', j39, j40, start3 _ (ei_n np (ei_n nc1 (ei_n nc2 (ei_t (by rw [c3]) e464))))⟩⟩
    · rw [if_pos (Or.inr ⟨c2, c3⟩)]
      exact ⟨y7, Or.inl ⟨_, rfl, F6.g.trans F7.g, f7, start3 _ (ei_n np (ei_n nc1 (ei_n nc2 (ei_n (fun e => c3 ((nI_eq (by omega) (by omega)).mp e)) e468))))⟩⟩
  · rw [if_neg k4]
    have zp : pr = 0 := pr0.mpr k4
    by_cases c0 : bo = 0
    · rw [if_neg (show ¬ (bo < 0 ∨ 0 < bo) by omega)]
      show ∃ y', ((∃ f, (if 13 < bo % 16 ∨ bo / 16 ≠ 0 ∧ bo / 16 ≠ bo % 16 + 1 then (.inl (6, p3) : sgF ⊕ (Nat × Nat × Nat × Nat × Nat)) else .inr (fi, la, bo / 16, bo % 16, p5)) = .inl f ∧ _) ∨ ∃ a1 a2 a3 a4 a5, (if 13 < bo % 16 ∨ bo / 16 ≠ 0 ∧ bo / 16 ≠ bo % 16 + 1 then (.inl (6, p3) : sgF ⊕ (Nat × Nat × Nat × Nat × Nat)) else .inr (fi, la, bo / 16, bo % 16, p5)) = .inr (a1, a2, a3, a4, a5) ∧ _)
      rw [if_neg (by omega)]
      exact ⟨y6, Or.inr ⟨_, _, _, _, _, rfl, F6, k6, j37', j38', j39, j40, start3 _ (ei_t zp (ei_t (by rw [c0]; rfl) e464))⟩⟩
    · rw [if_pos (show bo < 0 ∨ 0 < bo by omega)]
      exact ⟨y7, Or.inl ⟨_, rfl, F6.g.trans F7.g, f7, start3 _ (ei_t zp (ei_n (nI_ne0 (by omega) (by omega)) e468))⟩⟩
end
