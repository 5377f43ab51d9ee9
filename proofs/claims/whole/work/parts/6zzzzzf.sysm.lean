/-! a segment, by the reference -/
section
variable {c : sgC}
theorem sgQs_e {p' : Nat} {q' : Nat → Nat} : ∀ (r p : Nat) (q : Nat → Nat), (∀ i, q i ≤ 255) → sgQs c r p q = .inr (p', q') → p' < c.2.2.1 → p + r ≤ p' := by
  intro r
  induction r with
  | zero =>
    intro p q h e _
    have e1 := congrArg Prod.fst (Sum.inr.inj e)
    dsimp only at e1
    omega
  | succ r ih =>
    intro p q h e hl
    unfold sgQs at e
    obtain ⟨t, e1, e2⟩ := sgB_i e
    obtain ⟨a, e3, e4⟩ := sgB_i e2
    have g := sgI_p (u := t.1) (q := t.2) e1
    obtain ⟨j1, j2, _⟩ := sgQk_ok (p' := a.1) (q' := a.2) 64 0 t.2 q h e3
    split at e4
    · have := ih a.1 a.2 j1 e4 hl
      omega
    · rename_i hn
      have h5 := congrArg Prod.fst (Sum.inr.inj e4)
      dsimp only at h5
      rw [h5] at hn
      exact absurd hl hn
theorem sgWs_e {p' : Nat} {T' : sgW} (hD : ∀ i, i < c.2.1 → c.1 i < 256) : ∀ (r p : Nat) (T : sgW), sgWs c r p T = .inr (p', T') → p' < c.2.2.1 → p + r ≤ p' := by
  intro r
  induction r with
  | zero =>
    intro p T e _
    have e1 := congrArg Prod.fst (Sum.inr.inj e)
    dsimp only at e1
    omega
  | succ r ih =>
    intro p T e hl
    unfold sgWs at e
    obtain ⟨t, e1, e2⟩ := sgB_i e
    have g := sgI_p (u := t.1) (q := t.2) e1
    split at e2
    · cases e2
    · obtain ⟨a, e3, e4⟩ := sgB_i e2
      obtain ⟨d, e5, e6⟩ := sgB_i e4
      have h1 := (sgCk_ok (p' := a.1) (s' := a.2.1) (f' := a.2.2) hD 16 1 t.2 0 0 (fun _ => 0) (by omega) (by omega) rfl rfl (fun k hk => by rw [show k = 0 by omega]; decide) (fun _ => Nat.zero_le _) (by omega) e3).2.2.2.2
      have h2 := (sgSk_ok (p' := d.1) (S' := d.2) (by split <;> decide) a.2.1 a.1 [] (fun i hi => absurd hi (by rw [List.length_nil]; omega)) (fun i j hi => absurd hi (by rw [List.length_nil]; omega)) e5).2.2.2
      split at e6
      · have := ih d.1 _ e6 hl
        omega
      · rename_i hn
        have h5 := congrArg Prod.fst (Sum.inr.inj e6)
        dsimp only at h5
        rw [h5] at hn
        exact absurd hl hn
end
/-- what a segment's code asks for -/
def sgD (X : px_X) (b : Nat) (a1 : Int32) (w : px_W) : Option (Int32 × px_W) := if a1 = 219 then (gO w (b + 4) 14).bind fun o77 => (fX14_readQuantisers X w (b + 4)).bind fun q78 => fX14_segment_161 X (b + 4) a1 q78
  else if a1 = 196 then (gO w (b + 4) 14).bind fun o75 => (fX14_readWords X w (b + 4)).bind fun q76 => fX14_segment_161 X (b + 4) a1 q76
  else if a1 = 221 then (gO w (b + 4) 14).bind fun o70 => (fX14_two X w (b + 4)).bind fun q71 => (gI q71.2 (b + 4) 14 4).bind fun v72 => if v72 = 0 then fX14_segment_69 X (b + 4) a1 q71.1 (b + 4) q71.2 else (gI q71.2 (b + 4) 14 20).bind fun v74 => fX14_segment_69 X (b + 4) a1 v74 (b + 4) q71.2
  else if a1 = 192 then fX14_segment_89 X (b + 4) a1 w
  else if a1 = 194 then fX14_segment_89 X (b + 4) a1 w
  else if a1 = 218 then (gO w (b + 4) 14).bind fun o68 => (fX14_readScan X w (b + 4)).bind fun q69 => fX14_segment_161 X (b + 4) a1 q69
  else if a1 = 220 then (gO w (b + 4) 14).bind fun o62 => (fX14_two X w (b + 4)).bind fun q63 => (gI q63.2 (b + 4) 14 4).bind fun v64 => if 0 < v64 then fX14_segment_141 X (b + 4) a1 q63.1 (b + 4) q63.2 else if q63.1 ≤ 0 then fX14_segment_145 X (b + 4) a1 q63.1 (b + 4) q63.2 else if 64 < q63.1 then fX14_segment_145 X (b + 4) a1 q63.1 (b + 4) q63.2 else fX14_segment_141 X (b + 4) a1 q63.1 (b + 4) q63.2
  else (gO w (b + 4) 14).bind fun o60 => (fX14_any X w (b + 4)).bind fun q61 => fX14_segment_161 X (b + 4) a1 q61
/-- the answer behind a scan -/
def sTl (b : Nat) (w : px_W) : Option (Int32 × px_W) := (gI w (b + 4) 14 14).bind fun v39 => if v39 = 0 then (gI w (b + 4) 14 27).bind fun v41 => if v41 = 1 then some (1, w) else some (0, w) else some (0, w)
section
variable {X : px_X} {b B : Nat} {w0 w1 : px_W} {y y' z z' : rg_S} {c : sgC} {p i n nn L kd K iv fi la bf bb fr code : Nat} {f : sgF} {s : sgS} {D : Nat → Nat} {A1 : Int32} {mb : sg4}
theorem m_seg (hp : fpY y D L p) : ∃ y1, FYkk y y1 ∧ ((L ≤ p + 1 ∧ ftY y1 (1, L) ∧ ∀ A, fX14_segment X (rg_p lM b w0 y) (b + 4) A = some (0, rg_p lM b w0 y1)) ∨ (p + 1 < L ∧ 256 * D p + D (p + 1) < 2 ∧ ftY y1 (5, p) ∧ ∀ A, fX14_segment X (rg_p lM b w0 y) (b + 4) A = some (0, rg_p lM b w0 y1)) ∨ (p + 1 < L ∧ 2 ≤ 256 * D p + D (p + 1) ∧ kY y1 (D, L, p + (256 * D p + D (p + 1)), p) (p + 2) ∧ ∀ A z, sgD X b A (rg_p lM b w0 y1) = z → fX14_segment X (rg_p lM b w0 y) (b + 4) A = z)) := by
  obtain ⟨y1, e1, F1, o1⟩ := m_bg (X := X) (b := b) (w0 := w0) hp
  refine ⟨y1, F1, ?_⟩
  rcases o1 with ⟨a1, a2⟩ | ⟨a1, a2, a3⟩ | ⟨a1, a2, a3⟩
  · refine Or.inl ⟨a1, a2, fun A => ?_⟩
    unfold fX14_segment
    exact ob_v (rg_O rfl) (ob_v e1 (ob_v (rg_I rfl rfl) (ei_n a2.g rfl)))
  · refine Or.inr (Or.inl ⟨a1, a2, a3, fun A => ?_⟩)
    unfold fX14_segment
    exact ob_v (rg_O rfl) (ob_v e1 (ob_v (rg_I rfl rfl) (ei_n a3.g rfl)))
  · refine Or.inr (Or.inr ⟨a1, a2, a3, fun A z hz => ?_⟩)
    unfold fX14_segment
    refine ob_v (rg_O rfl) (ob_v e1 (ob_v (rg_I rfl rfl) (ei_t ?_ ?_)))
    · rw [a3.2.2.2.1]; decide
    · unfold sgD at hz
      exact hz
theorem m_161f {A : Int32} (h : ftY y f) : ∃ y', fX14_segment_161 X (b + 4) A (rg_p lM b w0 y) = some (0, rg_p lM b w0 y') ∧ FYg y y' ∧ ftY y' f := by
  obtain ⟨y', e, F, g⟩ := m_cl0 (X := X) (b := b) (w0 := w0) (A1 := A) h
  refine ⟨y', ?_, F, g⟩
  unfold fX14_segment_161
  exact ob_v (rg_O rfl) (ob_v e (ei_c (fun _ => ob_v (rg_I rfl rfl) (ei_n g.n rfl)) (fun _ => rfl)))
theorem m_161F {A : Int32} (h : kY y c p) (hp : p ≠ c.2.2.1) : ∃ y', fX14_segment_161 X (b + 4) A (rg_p lM b w0 y) = some (0, rg_p lM b w0 y') ∧ FYg y y' ∧ ftY y' (5, c.2.2.2) := by
  obtain ⟨y', e, F, g⟩ := m_clF (X := X) (b := b) (w0 := w0) (A1 := A) h hp
  refine ⟨y', ?_, F, g⟩
  unfold fX14_segment_161
  exact ob_v (rg_O rfl) (ob_v e (ei_c (fun _ => ob_v (rg_I rfl rfl) (ei_n g.n rfl)) (fun _ => rfl)))
theorem m_161G {A : Int32} {k : Nat} (hA : ¬ A = 218) (h : kY y c c.2.2.1) (hk : y.1 4 10 = nI k) (k4 : 4 * k + 3 < 16384) : ∃ y', fX14_segment_161 X (b + 4) A (rg_p lM b w0 y) = some (0, rg_p lM b w0 y') ∧ FYg y y' ∧ fpY y' c.1 c.2.1 c.2.2.1 ∧ y'.1 4 10 = nI (k + 1) ∧ (∀ j, j ≠ 7 → j ≠ 10 → y'.1 4 j = y.1 4 j) ∧ ∀ a, a ≠ 6 → y'.2.2.1 a = y.2.2.1 a := by
  obtain ⟨y', e, F, g⟩ := m_cl1 (X := X) (b := b) (w0 := w0) (A1 := A) h hk k4
  refine ⟨y', ?_, F, g⟩
  unfold fX14_segment_161
  exact ob_v (rg_O rfl) (ob_v e (ei_n hA rfl))
/-- a segment that was closed -/
theorem fsY.cl {s2 : sgS} {k : Nat} (h : fsY y s) (h10 : y'.1 4 10 = nI (s2.1 2)) (hi : ∀ j, j ≠ 7 → j ≠ 10 → y'.1 4 j = y.1 4 j) (ha : ∀ a, a ≠ 6 → y'.2.2.1 a = y.2.2.1 a) (e : ∀ k, 1 ≤ k → k ≤ 8 → k ≠ 2 → k ≠ 7 → s2.1 k = s.1 k) (e2 : s2.2 = s.2) : fsY y' s2 := by
  obtain ⟨h1, h2, h3, h4, h5, h6, h7, h8, h9, h10'⟩ := h
  unfold fsY
  rw [e 1 (by omega) (by omega) (by omega) (by omega), e 3 (by omega) (by omega) (by omega) (by omega), e 4 (by omega) (by omega) (by omega) (by omega), e 5 (by omega) (by omega) (by omega) (by omega), e 6 (by omega) (by omega) (by omega) (by omega), e 8 (by omega) (by omega) (by omega) (by omega), e2]
  refine ⟨by rw [hi _ (by omega) (by omega)]; exact h1, h10, by rw [hi _ (by omega) (by omega)]; exact h3, fun z => ⟨by rw [hi _ (by omega) (by omega)]; exact (h4 z).1, by rw [hi _ (by omega) (by omega)]; exact (h4 z).2⟩, by rw [hi _ (by omega) (by omega)]; exact h5, by rw [hi _ (by omega) (by omega)]; exact h6, ?_, ?_, ?_, ?_⟩
  · unfold qY
    rw [ha 11 (by omega), ha 12 (by omega)]
    exact h7
  · unfold wsY
    rw [ha 13 (by omega), ha 14 (by omega), ha 15 (by omega), ha 16 (by omega)]
    exact h8
  · unfold laY
    rw [ha 18 (by omega)]
    exact h9
  · unfold csY
    rw [ha 7 (by omega), ha 8 (by omega), ha 9 (by omega), ha 10 (by omega)]
    exact h10'
theorem m_sg (hc : code < 256) (n218 : code ≠ 218) (hp : fpY y D L (s.1 0)) (hs : fsY y s) (ok : sgOk s) (hT : TOk s.2.2.1) (k4 : 4 * s.1 2 + 2 ≤ s.1 0) (k2 : 2 ≤ s.1 0) : ∃ y', fX14_segment X (rg_p lM b w0 y) (b + 4) (nI code) = some (0, rg_p lM b w0 y') ∧ FYg y y' ∧ ((∃ f, sgSg D L code s = .inl f ∧ ftY y' f) ∨ ∃ s2, sgSg D L code s = .inr s2 ∧ fpY y' D L (s2.1 0) ∧ fsY y' s2) := by
  have hL := hp.2.2.2.2.1
  have hD := hp.2.2.2.2.2
  rw [sgSg_e]
  generalize hpm : s.1 0 = p at *
  obtain ⟨y1, F1, o1⟩ := m_seg (X := X) (b := b) (w0 := w0) hp
  rcases o1 with ⟨a1, a2, a3⟩ | ⟨a1, a2, a3, a4⟩ | ⟨a1, a2, kk, start⟩
  · rw [if_pos a1]
    exact ⟨y1, a3 _, F1.g, Or.inl ⟨_, rfl, a2⟩⟩
  · rw [if_neg (by omega), if_pos a2]
    exact ⟨y1, a4 _, F1.g, Or.inl ⟨_, rfl, a3⟩⟩
  rw [if_neg (by omega), if_neg (by omega)]
  generalize hn : 256 * D p + D (p + 1) = n at *
  generalize hcc : ((D, L, p + n, p) : sgC) = c at *
  generalize hs1 : ((uG s.1 2 (s.1 2 + 1), s.2) : sgS) = s1
  have cD : c.1 = D ∧ c.2.1 = L ∧ c.2.2.1 = p + n ∧ c.2.2.2 = p := by rw [← hcc]; exact ⟨rfl, rfl, rfl, rfl⟩
  have w1 : s1.2 = s.2 := by rw [← hs1]
  have v1 : ∀ k, k ≠ 2 → s1.1 k = s.1 k := by
    intro k h
    rw [← hs1]
    exact uG_n _ _ h
  have v2 : s1.1 2 = s.1 2 + 1 := by rw [← hs1]; rfl
  have fs1 : fsY y1 s := hs.k F1
  have hDc : ∀ i, i < c.2.1 → c.1 i < 256 := by
    rw [cD.1, cD.2.1]
    exact fun i hi => (hD i hi).2
  have kb := kk.2.2.2.2.2.1
  have k4' : 4 * s.1 2 + 3 < 16384 := by omega
  have ne : ∀ k, k < 256 → code ≠ k → ¬ nI code = nI k := fun k hk e z => e ((nI_eq (by omega) (by omega)).mp z)
  have fin : ∀ (y2 : rg_S) (s2 : sgS), kY y2 c c.2.2.1 → fsY y2 (s.1, s2.2) → s2.1 0 = c.2.2.1 → s2.1 2 = s.1 2 + 1 → (∀ k, 1 ≤ k → k ≤ 8 → k ≠ 2 → k ≠ 7 → s2.1 k = s.1 k) → ∃ y', fX14_segment_161 X (b + 4) (nI code) (rg_p lM b w0 y2) = some (0, rg_p lM b w0 y') ∧ FYg y2 y' ∧ fpY y' D L (s2.1 0) ∧ fsY y' s2 := by
    intro y2 s2 h1 h2 h3 h4 h5
    obtain ⟨y', e, F, g1, g2, g3, g4⟩ := m_161G (X := X) (b := b) (w0 := w0) (A := nI code) (k := s.1 2) (ne 218 (by decide) n218) h1 h2.2.1 k4'
    refine ⟨y', e, F, ?_, ?_⟩
    · rw [h3]
      rw [cD.1, cD.2.1] at g1
      exact g1
    · exact h2.cl (k := 0) (by rw [h4]; exact g2) g3 g4 h5 rfl
  unfold sgBy
  by_cases c219 : code = 219
  · rw [if_pos c219]
    obtain ⟨y2, e2, F2, o2⟩ := m_qs (X := X) (b := b) (w0 := w0) (c := c) 16384 (p + 2) FU s1.2.1 y1 (by rw [cD.2.1]; omega) (by unfold FU; omega) kk (by rw [w1]; exact ok.2.2.2.2.2.2.1) (by rw [w1]; exact fs1.2.2.2.2.2.2.1)
    have st : ∀ z, fX14_segment_161 X (b + 4) (nI code) (rg_p lM b w0 y2) = z → fX14_segment X (rg_p lM b w0 y) (b + 4) (nI code) = z := by
      intro z hz
      refine start _ _ ?_
      unfold sgD
      refine ei_t (by rw [c219]; rfl) (ob_v (rg_O rfl) (ob_v (v := rg_p lM b w0 y2) ?_ hz))
      unfold fX14_readQuantisers
      exact e2
    rcases o2 with ⟨f, r1, r2⟩ | ⟨p', q', r1, r2, r3, r4, r5⟩
    · rw [r1]
      obtain ⟨y3, e3, F3, f3⟩ := m_161f (X := X) (b := b) (w0 := w0) (A := nI code) r2
      exact ⟨y3, st _ e3, F1.g.trans (F2.trans F3), Or.inl ⟨f, rfl, f3⟩⟩
    · have pe : p' = c.2.2.1 := by
        have := r2.2.2.2.2.2.1
        by_cases lt : p' < c.2.2.1
        · have := sgQs_e 16384 (p + 2) s1.2.1 (by rw [w1]; exact ok.2.2.2.2.2.2.1) r1 lt
          omega
        · omega
      rw [r1]
      obtain ⟨y3, e3, F3, g1, g2⟩ := fin y2 (uG s1.1 0 p', q', s1.2.2) (by rw [← pe]; exact r2) (by
        obtain ⟨h1, h2, h3, h4, h5, h6, h7, h8, h9, h10⟩ := fs1
        refine ⟨by rw [r4 _ (by omega)]; exact h1, by rw [r4 _ (by omega)]; exact h2, by rw [r4 _ (by omega)]; exact h3, fun z => ⟨by rw [r4 _ (by omega)]; exact (h4 z).1, by rw [r4 _ (by omega)]; exact (h4 z).2⟩, by rw [r4 _ (by omega)]; exact h5, by rw [r4 _ (by omega)]; exact h6, r3, ?_, ?_, ?_⟩
        · show wsY y2 s1.2.2.1
          unfold wsY
          rw [w1, r5 13 (by omega) (by omega), r5 14 (by omega) (by omega), r5 15 (by omega) (by omega), r5 16 (by omega) (by omega)]
          exact h8
        · show laY y2 s1.2.2.2.1
          unfold laY
          rw [w1, r5 18 (by omega) (by omega)]
          exact h9
        · show csY y2 (s.1 6) s1.2.2.2.2.1
          unfold csY
          rw [w1, r5 7 (by omega) (by omega), r5 8 (by omega) (by omega), r5 9 (by omega) (by omega), r5 10 (by omega) (by omega)]
          exact h10) pe v2 (fun k h1 h2 h3 h4 => (uG_n _ _ (by omega)).trans (v1 k h3))
      exact ⟨y3, st _ e3, F1.g.trans (F2.trans F3), Or.inr ⟨_, rfl, g1, g2⟩⟩
  rw [if_neg c219]
  by_cases c196 : code = 196
  · rw [if_pos c196]
    obtain ⟨y2, e2, F2, o2⟩ := m_ws (X := X) (b := b) (w0 := w0) (c := c) 16384 (p + 2) FU s1.2.2.1 y1 (by rw [cD.2.1]; omega) (by unfold FU; omega) kk (by rw [w1]; exact hT) (by rw [w1]; exact fs1.2.2.2.2.2.2.2.1)
    have st : ∀ z, fX14_segment_161 X (b + 4) (nI code) (rg_p lM b w0 y2) = z → fX14_segment X (rg_p lM b w0 y) (b + 4) (nI code) = z := by
      intro z hz
      refine start _ _ ?_
      unfold sgD
      refine ei_n (ne 219 (by decide) c219) (ei_t (by rw [c196]; rfl) (ob_v (rg_O rfl) (ob_v (v := rg_p lM b w0 y2) ?_ hz)))
      unfold fX14_readWords
      exact e2
    rcases o2 with ⟨f, r1, r2⟩ | ⟨p', T', r1, r2, r3, r4, r5⟩
    · rw [r1]
      obtain ⟨y3, e3, F3, f3⟩ := m_161f (X := X) (b := b) (w0 := w0) (A := nI code) r2
      exact ⟨y3, st _ e3, F1.g.trans (F2.trans F3), Or.inl ⟨f, rfl, f3⟩⟩
    · have pe : p' = c.2.2.1 := by
        have := r2.2.2.2.2.2.1
        by_cases lt : p' < c.2.2.1
        · have := sgWs_e hDc 16384 (p + 2) s1.2.2.1 r1 lt
          omega
        · omega
      rw [r1]
      obtain ⟨y3, e3, F3, g1, g2⟩ := fin y2 (uG s1.1 0 p', s1.2.1, T', s1.2.2.2) (by rw [← pe]; exact r2) (by
        obtain ⟨h1, h2, h3, h4, h5, h6, h7, h8, h9, h10⟩ := fs1
        refine ⟨by rw [r4 _ (by omega)]; exact h1, by rw [r4 _ (by omega)]; exact h2, by rw [r4 _ (by omega)]; exact h3, fun z => ⟨by rw [r4 _ (by omega)]; exact (h4 z).1, by rw [r4 _ (by omega)]; exact (h4 z).2⟩, by rw [r4 _ (by omega)]; exact h5, by rw [r4 _ (by omega)]; exact h6, ?_, r3, ?_, ?_⟩
        · show qY y2 s1.2.1
          unfold qY
          rw [w1, r5 11 (by omega) (by omega), r5 12 (by omega) (by omega)]
          exact h7
        · show laY y2 s1.2.2.2.1
          unfold laY
          rw [w1, r5 18 (by omega) (by omega)]
          exact h9
        · show csY y2 (s.1 6) s1.2.2.2.2.1
          unfold csY
          rw [w1, r5 7 (by omega) (by omega), r5 8 (by omega) (by omega), r5 9 (by omega) (by omega), r5 10 (by omega) (by omega)]
          exact h10) pe v2 (fun k h1 h2 h3 h4 => (uG_n _ _ (by omega)).trans (v1 k h3))
      exact ⟨y3, st _ e3, F1.g.trans (F2.trans F3), Or.inr ⟨_, rfl, g1, g2⟩⟩
  rw [if_neg c196]
  by_cases c221 : code = 221
  · rw [if_pos c221]
    obtain ⟨v, y2, e2, F2, o2⟩ := m_two (X := X) (b := b) (w0 := w0) kk
    have st : ∀ z, (if y2.1 4 4 = 0 then fX14_segment_161 X (b + 4) (nI code) (rg_p lM b w0 (rg_wI y2 4 20 v)) else fX14_segment_161 X (b + 4) (nI code) (rg_p lM b w0 (rg_wI y2 4 20 (y2.1 4 20)))) = z → fX14_segment X (rg_p lM b w0 y) (b + 4) (nI code) = z := by
      intro z hz
      refine start _ _ ?_
      unfold sgD fX14_segment_69
      refine ei_n (ne 219 (by decide) c219) (ei_n (ne 196 (by decide) c196) (ei_t (by rw [c221]; rfl) (ob_v (rg_O rfl) (ob_v e2 (ob_v (rg_I rfl rfl) ?_)))))
      by_cases z0 : y2.1 4 4 = 0
      · rw [if_pos z0] at hz
        exact ei_t z0 (ob_v (rg_pI rfl rfl _) hz)
      · rw [if_neg z0] at hz
        exact ei_n z0 (ob_v (rg_I rfl rfl) (ob_v (rg_pI rfl rfl _) hz))
    unfold sgU
    rcases o2 with ⟨f, r1, r2⟩ | ⟨u, q, r1, r2, r3, r4, r5⟩
    · rw [r1]
      obtain ⟨y3, e3, F3, f3⟩ := m_161f (X := X) (b := b) (w0 := w0) (A := nI code) (y := rg_wI y2 4 20 (y2.1 4 20)) (r2.wi (by omega))
      exact ⟨y3, st _ (ei_n r2.n e3), F1.g.trans (F2.g.trans ((FYg.wI (by omega)).trans F3)), Or.inl ⟨f, rfl, f3⟩⟩
    · rw [r1]
      show ∃ y', _ ∧ _ ∧ ((∃ f, sgB (if u < 0 ∨ 65535 < u then (.inl (6, p + 2 + 1) : sgF ⊕ (Nat × Nat)) else .inr (u, q)) _ = .inl f ∧ _) ∨ ∃ s2, sgB (if u < 0 ∨ 65535 < u then (.inl (6, p + 2 + 1) : sgF ⊕ (Nat × Nat)) else .inr (u, q)) _ = .inr s2 ∧ _)
      rw [if_neg (by omega)]
      show ∃ y', _ ∧ _ ∧ ((∃ f, sgE c q (uG (uG s1.1 0 q) 1 u, s1.2) = .inl f ∧ _) ∨ ∃ s2, sgE c q (uG (uG s1.1 0 q) 1 u, s1.2) = .inr s2 ∧ _)
      have k3 : kY (rg_wI y2 4 20 v) c q := r4.wi (by omega)
      unfold sgE
      by_cases pe : q = c.2.2.1
      · rw [if_pos pe]
        obtain ⟨y3, e3, F3, g1, g2, g3, g4⟩ := m_161G (X := X) (b := b) (w0 := w0) (A := nI code) (k := s.1 2) (ne 218 (by decide) n218) (by rw [← pe]; exact k3) (by rw [wI_n _ _ (by omega), F2.1 _ _ (by omega)]; exact fs1.2.1) k4'
        refine ⟨y3, st _ (ei_t r4.2.2.2.1 e3), F1.g.trans (F2.g.trans ((FYg.wI (by omega)).trans F3)), Or.inr ⟨_, rfl, ?_, ?_⟩⟩
        · rw [cD.1, cD.2.1, ← pe] at g1
          exact g1
        · have gi : ∀ j, j ≠ 7 → j ≠ 10 → j ≠ 20 → ¬ (4 ≤ j ∧ j ≤ 6) → y3.1 4 j = y1.1 4 j := fun j a b c d => by rw [g3 j a b, wI_n _ _ (by omega), F2.1 _ _ (by omega)]
          have ga : ∀ a, a ≠ 6 → y3.2.2.1 a = y1.2.2.1 a := fun a h => by rw [g4 a h, wI_2, F2.2]
          obtain ⟨h1, h2, h3, h4, h5, h6, h7, h8, h9, h10⟩ := fs1
          refine ⟨?_, ?_, ?_, ?_, ?_, ?_, ?_, ?_, ?_, ?_⟩
          · rw [g3 20 (by omega) (by omega), wI_s]
            exact r3
          · rw [g2]
            show nI (s.1 2 + 1) = nI (s1.1 2)
            rw [v2]
          · rw [gi _ (by omega) (by omega) (by omega) (by omega), h3]
            show nI (s.1 3) = nI (s1.1 3)
            rw [v1 3 (by omega)]
          · intro z
            have z' : s1.1 3 ≠ 0 := z
            rw [v1 3 (by omega)] at z'
            rw [gi _ (by omega) (by omega) (by omega) (by omega), gi _ (by omega) (by omega) (by omega) (by omega), (h4 z').1, (h4 z').2]
            show nI (s.1 4) = nI (s1.1 4) ∧ nI (s.1 5) = nI (s1.1 5)
            rw [v1 4 (by omega), v1 5 (by omega)]
            exact ⟨rfl, rfl⟩
          · rw [gi _ (by omega) (by omega) (by omega) (by omega), h5]
            show nI (s.1 6) = nI (s1.1 6)
            rw [v1 6 (by omega)]
          · rw [gi _ (by omega) (by omega) (by omega) (by omega), h6]
            show nI (s.1 8) = nI (s1.1 8)
            rw [v1 8 (by omega)]
          · show qY y3 s1.2.1
            unfold qY
            rw [w1, ga 11 (by omega), ga 12 (by omega)]
            exact h7
          · show wsY y3 s1.2.2.1
            unfold wsY
            rw [w1, ga 13 (by omega), ga 14 (by omega), ga 15 (by omega), ga 16 (by omega)]
            exact h8
          · show laY y3 s1.2.2.2.1
            unfold laY
            rw [w1, ga 18 (by omega)]
            exact h9
          · show csY y3 (s1.1 6) s1.2.2.2.2.1
            unfold csY
            rw [v1 6 (by omega), w1, ga 7 (by omega), ga 8 (by omega), ga 9 (by omega), ga 10 (by omega)]
            exact h10
      · rw [if_neg pe]
        obtain ⟨y3, e3, F3, f3⟩ := m_161F (X := X) (b := b) (w0 := w0) (A := nI code) k3 pe
        exact ⟨y3, st _ (ei_t r4.2.2.2.1 e3), F1.g.trans (F2.g.trans ((FYg.wI (by omega)).trans F3)), Or.inl ⟨_, rfl, f3⟩⟩
  rw [if_neg c221]
  by_cases cfr : code = 192 ∨ code = 194
  · rw [if_pos cfr]
    obtain ⟨y2, e2, F2, o2⟩ := m_fr (X := X) (b := b) (w0 := w0) (A1 := nI code) kk
    have st : ∀ z, fX14_segment_161 X (b + 4) (nI code) (rg_p lM b w0 y2) = z → fX14_segment X (rg_p lM b w0 y) (b + 4) (nI code) = z := by
      intro z hz
      refine start _ _ ?_
      unfold sgD fX14_segment_89
      refine ei_n (ne 219 (by decide) c219) (ei_n (ne 196 (by decide) c196) (ei_n (ne 221 (by decide) c221) ?_))
      rcases cfr with e | e
      · exact ei_t (by rw [e]; rfl) (ob_v (rg_O rfl) (ob_v e2 hz))
      · exact ei_n (ne 192 (by decide) (by omega)) (ei_t (by rw [e]; rfl) (ob_v (rg_O rfl) (ob_v e2 hz)))
    rw [sgFr_1]
    rcases o2 with ⟨f, r1, r2⟩ | ⟨hh, ww, m, p', cs', r1, r2, r3, r4, r5, r6, r7, r8, r9⟩
    · rw [r1]
      obtain ⟨y3, e3, F3, f3⟩ := m_161f (X := X) (b := b) (w0 := w0) (A := nI code) r2
      exact ⟨y3, st _ e3, F1.g.trans (F2.trans F3), Or.inl ⟨f, rfl, f3⟩⟩
    · rw [r1]
      show ∃ y', _ ∧ _ ∧ ((∃ f, sgB (sgE c p' (hh, ww, m, p', cs')) _ = .inl f ∧ _) ∨ ∃ s2, sgB (sgE c p' (hh, ww, m, p', cs')) _ = .inr s2 ∧ _)
      unfold sgE
      by_cases pe : p' = c.2.2.1
      · rw [if_pos pe]
        obtain ⟨y3, e3, F3, g1, g2, g3, g4⟩ := m_161G (X := X) (b := b) (w0 := w0) (A := nI code) (k := s.1 2) (ne 218 (by decide) n218) (by rw [← pe]; exact r2) (by rw [r8 _ (by omega) (by omega)]; exact fs1.2.1) k4'
        refine ⟨y3, st _ e3, F1.g.trans (F2.trans F3), Or.inr ⟨_, rfl, ?_, ?_⟩⟩
        · rw [cD.1, cD.2.1, ← pe] at g1
          exact g1
        · have gi : ∀ j, j ≠ 7 → j ≠ 10 → ¬ (12 ≤ j ∧ j ≤ 15) → ¬ (4 ≤ j ∧ j ≤ 6) → y3.1 4 j = y1.1 4 j := fun j a b c d => by rw [g3 j a b, r8 j d c]
          have ga : ∀ a, a ≠ 6 → ¬ (7 ≤ a ∧ a ≤ 10) → y3.2.2.1 a = y1.2.2.1 a := fun a h h2 => by rw [g4 a h, r9 a h2]
          obtain ⟨h1, h2, h3, h4, h5, h6, h7, h8, h9, h10⟩ := fs1
          refine ⟨?_, ?_, ?_, ?_, ?_, ?_, ?_, ?_, ?_, ?_⟩
          · rw [gi _ (by omega) (by omega) (by omega) (by omega), h1]
            show nI (s.1 1) = nI (s1.1 1)
            rw [v1 1 (by omega)]
          · rw [g2]
            show nI (s.1 2 + 1) = nI (s1.1 2)
            rw [v2]
          · rw [g3 12 (by omega) (by omega)]
            exact r7
          · intro _
            rw [g3 13 (by omega) (by omega), g3 14 (by omega) (by omega)]
            exact ⟨r5, r4⟩
          · rw [g3 15 (by omega) (by omega)]
            exact r6
          · rw [gi _ (by omega) (by omega) (by omega) (by omega), h6]
            show nI (s.1 8) = nI (s1.1 8)
            rw [v1 8 (by omega)]
          · show qY y3 s1.2.1
            unfold qY
            rw [w1, ga 11 (by omega) (by omega), ga 12 (by omega) (by omega)]
            exact h7
          · show wsY y3 s1.2.2.1
            unfold wsY
            rw [w1, ga 13 (by omega) (by omega), ga 14 (by omega) (by omega), ga 15 (by omega) (by omega), ga 16 (by omega) (by omega)]
            exact h8
          · show laY y3 s1.2.2.2.1
            unfold laY
            rw [w1, ga 18 (by omega) (by omega)]
            exact h9
          · show csY y3 m cs'
            unfold csY
            rw [g4 7 (by omega), g4 8 (by omega), g4 9 (by omega), g4 10 (by omega)]
            exact r3
      · rw [if_neg pe]
        obtain ⟨y3, e3, F3, f3⟩ := m_161F (X := X) (b := b) (w0 := w0) (A := nI code) r2 pe
        exact ⟨y3, st _ e3, F1.g.trans (F2.trans F3), Or.inl ⟨_, rfl, f3⟩⟩
  rw [if_neg cfr, if_neg n218]
  have n192 : code ≠ 192 := fun e => cfr (Or.inl e)
  have n194 : code ≠ 194 := fun e => cfr (Or.inr e)
  by_cases c220 : code = 220
  · rw [if_pos c220]
    obtain ⟨v, y2, e2, F2, o2⟩ := m_two (X := X) (b := b) (w0 := w0) kk
    have st : ∀ z, (if 0 < y2.1 4 4 then fX14_segment_141 X (b + 4) (nI code) v (b + 4) (rg_p lM b w0 y2) else if v ≤ 0 then fX14_segment_145 X (b + 4) (nI code) v (b + 4) (rg_p lM b w0 y2) else if 64 < v then fX14_segment_145 X (b + 4) (nI code) v (b + 4) (rg_p lM b w0 y2) else fX14_segment_141 X (b + 4) (nI code) v (b + 4) (rg_p lM b w0 y2)) = z → fX14_segment X (rg_p lM b w0 y) (b + 4) (nI code) = z := by
      intro z hz
      refine start _ _ ?_
      unfold sgD
      exact ei_n (ne 219 (by decide) c219) (ei_n (ne 196 (by decide) c196) (ei_n (ne 221 (by decide) c221) (ei_n (ne 192 (by decide) n192) (ei_n (ne 194 (by decide) n194) (ei_n (ne 218 (by decide) n218) (ei_t (by rw [c220]; rfl) (ob_v (rg_O rfl) (ob_v e2 (ob_v (rg_I rfl rfl) hz)))))))))
    have e141 : ∀ z, fX14_segment_161 X (b + 4) (nI code) (rg_p lM b w0 (rg_wI y2 4 14 v)) = z → fX14_segment_141 X (b + 4) (nI code) v (b + 4) (rg_p lM b w0 y2) = z := by
      intro z hz
      unfold fX14_segment_141 fX14_segment_146
      exact ob_v (rg_O rfl) (ob_v (m_must1 (by decide)) (ob_v (rg_pI rfl rfl _) hz))
    unfold sgU
    rcases o2 with ⟨f, r1, r2⟩ | ⟨u, q, r1, r2, r3, r4, r5⟩
    · rw [r1]
      obtain ⟨y3, e3, F3, f3⟩ := m_161f (X := X) (b := b) (w0 := w0) (A := nI code) (y := rg_wI y2 4 14 v) (r2.wi (by omega))
      exact ⟨y3, st _ (ei_t r2.l (e141 _ e3)), F1.g.trans (F2.g.trans ((FYg.wI (by omega)).trans F3)), Or.inl ⟨f, rfl, f3⟩⟩
    have n2 : ¬ 0 < y2.1 4 4 := by rw [r4.2.2.2.1]; decide
    have kb2 := r4.2.2.2.2.2.1
    rw [r1]
    show ∃ y', _ ∧ _ ∧ ((∃ f, sgB (if u < 1 ∨ 64 < u then (.inl (6, p + 2 + 1) : sgF ⊕ (Nat × Nat)) else .inr (u, q)) _ = .inl f ∧ _) ∨ ∃ s2, sgB (if u < 1 ∨ 64 < u then (.inl (6, p + 2 + 1) : sgF ⊕ (Nat × Nat)) else .inr (u, q)) _ = .inr s2 ∧ _)
    by_cases d : u < 1 ∨ 64 < u
    · rw [if_pos d]
      obtain ⟨y3, e3, F3, f3⟩ := m_mustF (X := X) (b := b) (w0 := w0) (y := y2) r4.2.2.2.1 r4.1 (by omega) (by omega)
      rw [show (6, q - 1) = (6, p + 2 + 1) by rw [r5]; rfl] at f3
      obtain ⟨y4, e4, F4, f4⟩ := m_161f (X := X) (b := b) (w0 := w0) (A := nI code) (y := rg_wI y3 4 14 v) (f3.wi (by omega))
      have e145 : fX14_segment_145 X (b + 4) (nI code) v (b + 4) (rg_p lM b w0 y2) = some (0, rg_p lM b w0 y4) := by
        unfold fX14_segment_145 fX14_segment_146
        exact ob_v (rg_O rfl) (ob_v e3 (ob_v (rg_pI rfl rfl _) e4))
      refine ⟨y4, st _ (ei_n n2 ?_), F1.g.trans (F2.g.trans (F3.g.trans ((FYg.wI (by omega)).trans F4))), Or.inl ⟨_, rfl, f4⟩⟩
      by_cases d5 : u = 0
      · exact ei_t (by rw [r3, d5]; decide) e145
      · exact ei_n (by rw [r3]; exact nI_nle (by omega) (by omega)) (ei_t (by rw [r3]; exact nI_lt (a := 64) (by omega) (by omega)) e145)
    rw [if_neg d]
    have st2 : ∀ z, fX14_segment_161 X (b + 4) (nI code) (rg_p lM b w0 (rg_wI y2 4 14 v)) = z → fX14_segment X (rg_p lM b w0 y) (b + 4) (nI code) = z := fun z hz => st _ (ei_n n2 (ei_n (by rw [r3]; exact nI_nle (by omega) (by omega)) (ei_n (by rw [r3]; exact nI_nlt (a := 64) (by omega) (by omega)) (e141 _ hz))))
    show ∃ y', _ ∧ _ ∧ ((∃ f, sgE c q (uG (uG (uG s1.1 0 q) 5 u) 7 0, s1.2) = .inl f ∧ _) ∨ ∃ s2, sgE c q (uG (uG (uG s1.1 0 q) 5 u) 7 0, s1.2) = .inr s2 ∧ _)
    have k3 : kY (rg_wI y2 4 14 v) c q := r4.wi (by omega)
    unfold sgE
    by_cases pe : q = c.2.2.1
    · rw [if_pos pe]
      obtain ⟨y3, e3, F3, g1, g2, g3, g4⟩ := m_161G (X := X) (b := b) (w0 := w0) (A := nI code) (k := s.1 2) (ne 218 (by decide) n218) (by rw [← pe]; exact k3) (by rw [wI_n _ _ (by omega), F2.1 _ _ (by omega)]; exact fs1.2.1) k4'
      refine ⟨y3, st2 _ e3, F1.g.trans (F2.g.trans ((FYg.wI (by omega)).trans F3)), Or.inr ⟨_, rfl, ?_, ?_⟩⟩
      · rw [cD.1, cD.2.1, ← pe] at g1
        exact g1
      · have gi : ∀ j, j ≠ 7 → j ≠ 10 → j ≠ 14 → ¬ (4 ≤ j ∧ j ≤ 6) → y3.1 4 j = y1.1 4 j := fun j a b c d => by rw [g3 j a b, wI_n _ _ (by omega), F2.1 _ _ (by omega)]
        have ga : ∀ a, a ≠ 6 → y3.2.2.1 a = y1.2.2.1 a := fun a h => by rw [g4 a h, wI_2, F2.2]
        obtain ⟨h1, h2, h3, h4, h5, h6, h7, h8, h9, h10⟩ := fs1
        refine ⟨?_, ?_, ?_, ?_, ?_, ?_, ?_, ?_, ?_, ?_⟩
        · rw [gi _ (by omega) (by omega) (by omega) (by omega), h1]
          show nI (s.1 1) = nI (s1.1 1)
          rw [v1 1 (by omega)]
        · rw [g2]
          show nI (s.1 2 + 1) = nI (s1.1 2)
          rw [v2]
        · rw [gi _ (by omega) (by omega) (by omega) (by omega), h3]
          show nI (s.1 3) = nI (s1.1 3)
          rw [v1 3 (by omega)]
        · intro z
          have z' : s1.1 3 ≠ 0 := z
          rw [v1 3 (by omega)] at z'
          rw [gi 13 (by omega) (by omega) (by omega) (by omega), (h4 z').1, g3 14 (by omega) (by omega), wI_s, r3]
          show nI (s.1 4) = nI (s1.1 4) ∧ nI u = nI u
          rw [v1 4 (by omega)]
          exact ⟨rfl, rfl⟩
        · rw [gi _ (by omega) (by omega) (by omega) (by omega), h5]
          show nI (s.1 6) = nI (s1.1 6)
          rw [v1 6 (by omega)]
        · rw [gi _ (by omega) (by omega) (by omega) (by omega), h6]
          show nI (s.1 8) = nI (s1.1 8)
          rw [v1 8 (by omega)]
        · show qY y3 s1.2.1
          unfold qY
          rw [w1, ga 11 (by omega), ga 12 (by omega)]
          exact h7
        · show wsY y3 s1.2.2.1
          unfold wsY
          rw [w1, ga 13 (by omega), ga 14 (by omega), ga 15 (by omega), ga 16 (by omega)]
          exact h8
        · show laY y3 s1.2.2.2.1
          unfold laY
          rw [w1, ga 18 (by omega)]
          exact h9
        · show csY y3 (s1.1 6) s1.2.2.2.2.1
          unfold csY
          rw [v1 6 (by omega), w1, ga 7 (by omega), ga 8 (by omega), ga 9 (by omega), ga 10 (by omega)]
          exact h10
    · rw [if_neg pe]
      obtain ⟨y3, e3, F3, f3⟩ := m_161F (X := X) (b := b) (w0 := w0) (A := nI code) k3 pe
      exact ⟨y3, st2 _ e3, F1.g.trans (F2.g.trans ((FYg.wI (by omega)).trans F3)), Or.inl ⟨_, rfl, f3⟩⟩
  rw [if_neg c220]
  obtain ⟨y2, e2, F2, o2⟩ := m_any (X := X) (b := b) (w0 := w0) (c := c) 16384 (p + 2) FU y1 (by rw [cD.2.1]; omega) (by unfold FU; omega) kk
  have st : ∀ z, fX14_segment_161 X (b + 4) (nI code) (rg_p lM b w0 y2) = z → fX14_segment X (rg_p lM b w0 y) (b + 4) (nI code) = z := by
    intro z hz
    refine start _ _ ?_
    unfold sgD
    refine ei_n (ne 219 (by decide) c219) (ei_n (ne 196 (by decide) c196) (ei_n (ne 221 (by decide) c221) (ei_n (ne 192 (by decide) n192) (ei_n (ne 194 (by decide) n194) (ei_n (ne 218 (by decide) n218) (ei_n (ne 220 (by decide) c220) (ob_v (rg_O rfl) (ob_v (v := rg_p lM b w0 y2) ?_ hz))))))))
    unfold fX14_any
    exact e2
  rcases o2 with ⟨a1', a2'⟩ | ⟨a1', a2'⟩
  · rw [if_pos a1']
    obtain ⟨y3, e3, F3, f3⟩ := m_161f (X := X) (b := b) (w0 := w0) (A := nI code) a2'
    exact ⟨y3, st _ e3, F1.g.trans (F2.g.trans F3), Or.inl ⟨_, rfl, f3⟩⟩
  · rw [if_neg (by omega)]
    obtain ⟨y3, e3, F3, g1, g2⟩ := fin y2 (uG s1.1 0 c.2.2.1, s1.2) a2' (by
      rw [w1]
      exact fs1.k F2.k) rfl v2 (fun k h1 h2 h3 h4 => (uG_n _ _ (by omega)).trans (v1 k h3))
    exact ⟨y3, st _ e3, F1.g.trans (F2.g.trans F3), Or.inr ⟨_, rfl, g1, g2⟩⟩
end
