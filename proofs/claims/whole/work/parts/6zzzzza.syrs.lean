/-! a scan's segment, by the reference -/
def sgSc1 (c : sgC) (s : sgS) (p : Nat) : sgF ⊕ (Nat × sg4 × Nat × Nat × Nat × Nat × Nat) := sgB (sgI c 1 4 p) fun n => sgB (sgMb c s.2.2.2.2.1 (s.1 6) n.1 0 0 0 n.2 (fun _ => (0, 0, 0, 0))) fun m => sgB (sgBn c (s.1 3) n.1 m.1) fun b => sgB (sgFt (s.1 3) b.1 b.2.1 b.2.2.1 s.2.2.2.1 m.2 (b.2.2.2.2 - 1) n.1 0) fun _ => sgB (sgTb b.1 b.2.1 b.2.2.1 s.2.1 s.2.2.1 s.2.2.2.2.1 m.2 n.1 0) fun _ => .inr (n.1, m.2, b)
def sgSt (s : sgS) (a : Nat × sg4 × Nat × Nat × Nat × Nat × Nat) : sgS := (fun k => if k = 0 then a.2.2.2.2.2.2 else if k = 7 then (if s.1 9 ≠ 0 ∧ s.1 8 = 0 then 1 else 0) else if k = 8 then s.1 8 + 1 else if k = 10 then a.1 else if k = 11 then a.2.2.1 else if k = 12 then a.2.2.2.1 else if k = 13 then a.2.2.2.2.1 else if k = 14 then a.2.2.2.2.2.1 else if k = 15 then a.2.2.2.2.2.2 else s.1 k, s.2.1, s.2.2.1, (sgNo s a.2.2.1 a.2.2.2.1 a.2.2.2.2.2.1 a.2.1 a.1).1, s.2.2.2.2.1, a.2.1, (sgNo s a.2.2.1 a.2.2.2.1 a.2.2.2.2.2.1 a.2.1 a.1).2)
theorem sgSc_1 {c : sgC} {s : sgS} {p : Nat} : sgSc c s p = sgB (sgSc1 c s p) fun a => sgE c a.2.2.2.2.2.2 (sgSt s a) := by
  unfold sgSc sgSc1
  rw [sgB_B]
  congr 1
  funext a
  rw [sgB_B]
  congr 1
  funext m
  rw [sgB_B]
  congr 1
  funext b
  rw [sgB_B]
  congr 1
  funext _
  rw [sgB_B]
  rfl
/-- what the reference knows of the file -/
def fsY (y : rg_S) (s : sgS) : Prop := y.1 4 20 = nI (s.1 1) ∧ y.1 4 10 = nI (s.1 2) ∧ y.1 4 12 = nI (s.1 3) ∧ (s.1 3 ≠ 0 → y.1 4 13 = nI (s.1 4) ∧ y.1 4 14 = nI (s.1 5)) ∧ y.1 4 15 = nI (s.1 6) ∧ y.1 4 27 = nI (s.1 8) ∧ qY y s.2.1 ∧ wsY y s.2.2.1 ∧ laY y s.2.2.2.1 ∧ csY y (s.1 6) s.2.2.2.2.1
def FYsc (y y' : rg_S) : Prop := (∀ p k, ¬ (p = 4 ∧ (4 ≤ k ∧ k ≤ 6 ∨ k = 30 ∨ 37 ≤ k ∧ k ≤ 40)) → y'.1 p k = y.1 p k) ∧ y'.2.1 = y.2.1 ∧ (∀ a, ¬ (19 ≤ a ∧ a ≤ 22) → y'.2.2.1 a = y.2.2.1 a) ∧ y'.2.2.2 = y.2.2.2
theorem FYsc.trans {y y1 y2 : rg_S} (h : FYsc y y1) (h2 : FYsc y1 y2) : FYsc y y2 := ⟨fun p k a => (h2.1 p k a).trans (h.1 p k a), h2.2.1.trans h.2.1, fun a e => (h2.2.2.1 a e).trans (h.2.2.1 a e), h2.2.2.2.trans h.2.2.2⟩
theorem FYq.s {y y' : rg_S} (h : FYq y y') : FYsc y y' := ⟨fun p k a => h.1 p k (by omega), by rw [h.2], fun _ _ => by rw [h.2], by rw [h.2]⟩
theorem FYm.s {y y' : rg_S} (h : FYm y y') : FYsc y y' := ⟨fun p k a => h.1 p k (by omega), h.2.1, h.2.2.1, h.2.2.2⟩
theorem FYb2.s {y y' : rg_S} (h : FYb2 y y') : FYsc y y' := ⟨fun p k a => h.1 p k (by omega), by rw [h.2], fun _ _ => by rw [h.2], by rw [h.2]⟩
theorem FYsc.w30 {y : rg_S} {v : Int32} : FYsc y (rg_wI y 4 30 v) := ⟨fun p k' a => wI_n _ _ (by omega), Eq.refl _, fun _ _ => Eq.refl _, Eq.refl _⟩
theorem FYsc.g {y y' : rg_S} (h : FYsc y y') : FYg y y' := ⟨fun p k a => h.1 p k (by omega), ⟨h.1 _ _ (by omega), h.1 _ _ (by omega)⟩, h.2.1, fun a e => h.2.2.1 a (by omega), h.2.2.2⟩
theorem fsY.f {y y' : rg_S} {s : sgS} (h : fsY y s) (hi : ∀ k, k = 10 ∨ 12 ≤ k ∧ k ≤ 15 ∨ k = 20 ∨ k = 27 → y'.1 4 k = y.1 4 k) (ha : ∀ a, 7 ≤ a ∧ a ≤ 16 ∨ a = 18 → y'.2.2.1 a = y.2.2.1 a) : fsY y' s := by
  obtain ⟨h1, h2, h3, h4, h5, h6, h7, h8, h9, h10⟩ := h
  refine ⟨by rw [hi _ (by omega)]; exact h1, by rw [hi _ (by omega)]; exact h2, by rw [hi _ (by omega)]; exact h3, fun z => ⟨by rw [hi _ (by omega)]; exact (h4 z).1, by rw [hi _ (by omega)]; exact (h4 z).2⟩, by rw [hi _ (by omega)]; exact h5, by rw [hi _ (by omega)]; exact h6, ?_, ?_, ?_, ?_⟩
  · unfold qY
    rw [ha 11 (by omega), ha 12 (by omega)]
    exact h7
  · unfold wsY
    rw [ha 13 (by omega), ha 14 (by omega), ha 15 (by omega), ha 16 (by omega)]
    exact h8
  · unfold laY
    rw [ha 18 (by omega)]
    exact h9
  · unfold csY
    rw [ha 7 (by omega), ha 8 (by omega), ha 9 (by omega), ha 10 (by omega)]
    exact h10
section
variable {X : px_X} {b B : Nat} {w0 w1 : px_W} {y y' z z' : rg_S} {c : sgC} {p i n nn : Nat} {f : sgF} {s : sgS} {s0 : Int32}
theorem m_s36_0 (hm : fX14_must X (rg_p lM b w0 z) (b + 4) s0 = some (rg_p lM b w0 z')) (hf : ftY z' f) : ∃ y', fX14_readScan_36 X (b + 4) s0 (b + 4) (rg_p lM b w0 z) = some (rg_p lM b w0 y') ∧ FYg z' y' ∧ ftY y' f := by
  obtain ⟨y', e, F, g⟩ := m_s45_0 (X := X) (b := b) (w0 := w0) (A1 := 0) (A2 := -1) (A3 := 0) (M := 3999999) hf
  refine ⟨y', ?_, F, g⟩
  unfold fX14_readScan_36
  exact ob_v (rg_O rfl) (ob_v hm e)
theorem m_sc (hs : fsY y s) (ok : sgOk s) (hsq : s.1 3 ≠ 194 → ∀ cc j, j < 64 → s.2.2.2.1 (64 * cc) = 0 → s.2.2.2.1 (64 * cc + j) = 0) (k0 : s.1 3 ≠ 0) (h : kY y c p) : ∃ y', fX14_readScan X (rg_p lM b w0 y) (b + 4) = some (rg_p lM b w0 y') ∧ FYg y y' ∧ ((∃ f, sgSc1 c s p = .inl f ∧ ftY y' f) ∨ ∃ a, sgSc1 c s p = .inr a ∧ FYsc y y' ∧ kY y' c a.2.2.2.2.2.2 ∧ (y'.1 4 30 = nI a.1 ∧ y'.1 4 37 = nI a.2.2.1 ∧ y'.1 4 38 = nI a.2.2.2.1 ∧ y'.1 4 39 = nI a.2.2.2.2.1 ∧ y'.1 4 40 = nI a.2.2.2.2.2.1) ∧ mmY y' a.1 a.2.1 ∧ (1 ≤ a.1 ∧ a.1 ≤ 4) ∧ mmOk (s.1 6) s.2.2.2.2.1 a.2.1 a.1 ∧ (a.2.2.1 ≤ a.2.2.2.1 ∧ a.2.2.2.1 ≤ 63 ∧ a.2.2.2.2.2.1 ≤ 13) ∧ p + 6 ≤ a.2.2.2.2.2.2) := by
  have hL := h.2.2.2.2.2.1
  obtain ⟨k1, k3, k6, k6b, k7, kc, kq, kl, k8⟩ := ok
  have hkd : s.1 3 = 192 ∨ s.1 3 = 194 := by omega
  unfold sgSc1 sgI
  obtain ⟨v1, y1, e1, F1, o1⟩ := m_nx (X := X) (b := b) (w0 := w0) h
  generalize hy2 : rg_wI y1 4 30 v1 = y2
  have i2 : y2.1 4 30 = v1 := by rw [← hy2, wI_s]
  have G2 : FYsc y y2 := by rw [← hy2]; exact F1.s.trans FYsc.w30
  have start : ∀ z, (if 0 < y2.1 4 4 then fX14_readScan_31 X (b + 4) (b + 4) (rg_p lM b w0 y2) else if v1 ≤ 0 then fX14_readScan_35 X (b + 4) (b + 4) (rg_p lM b w0 y2) else if 5 ≤ v1 then fX14_readScan_35 X (b + 4) (b + 4) (rg_p lM b w0 y2) else fX14_readScan_31 X (b + 4) (b + 4) (rg_p lM b w0 y2)) = z → fX14_readScan X (rg_p lM b w0 y) (b + 4) = z := by
    intro z hz
    unfold fX14_readScan
    refine ob_v (rg_O rfl) (ob_v e1 (ob_v (rg_pI rfl rfl _) ?_))
    rw [hy2]
    refine ob_v (rg_I rfl rfl) ?_
    by_cases c1 : 0 < y2.1 4 4
    · rw [if_pos c1] at hz
      exact ei_t c1 hz
    · rw [if_neg c1] at hz
      refine ei_n c1 (ob_v (rg_I rfl rfl) ?_)
      rw [i2]
      by_cases c2 : v1 ≤ 0
      · rw [if_pos c2] at hz
        exact ei_t c2 hz
      · rw [if_neg c2] at hz
        refine ei_n c2 (ob_v (rg_I rfl rfl) ?_)
        rw [i2]
        exact hz
  rcases o1 with ⟨f, r1, r2, r3⟩ | ⟨u1, p1, r1, r2, r3, r4⟩
  · rw [r1]
    have f2 : ftY y2 f := by rw [← hy2]; exact r3.wi (by omega)
    obtain ⟨y3, e3, F3, f3⟩ := m_s36_0 (X := X) (b := b) (w0 := w0) (z := y2) (z' := y2) (s0 := 1) (m_must1 (by decide)) f2
    exact ⟨y3, start _ (ei_t f2.l e3), G2.g.trans F3, Or.inl ⟨f, rfl, f3⟩⟩
  have g1 := sgN_p r1
  have kb1 := r4.2.2.2.2.2.1
  have k2 : kY y2 c p1 := by rw [← hy2]; exact r4.wi (by omega)
  have n2 : ¬ 0 < y2.1 4 4 := by rw [k2.2.2.2.1]; decide
  rw [r1]
  show ∃ y', _ ∧ _ ∧ ((∃ f, sgB (if u1 < 1 ∨ 4 < u1 then (.inl (6, p) : sgF ⊕ (Nat × Nat)) else .inr (u1, p1)) _ = .inl f ∧ _) ∨ ∃ a, sgB (if u1 < 1 ∨ 4 < u1 then (.inl (6, p) : sgF ⊕ (Nat × Nat)) else .inr (u1, p1)) _ = .inr a ∧ _)
  by_cases d1 : u1 < 1 ∨ 4 < u1
  · rw [if_pos d1]
    obtain ⟨y3, e3, F3, f3⟩ := m_mustF (X := X) (b := b) (w0 := w0) (y := y2) k2.2.2.2.1 k2.1 (by omega) (by omega)
    rw [show (6, p1 - 1) = (6, p) by rw [g1.1]; rfl] at f3
    obtain ⟨y4, e4, F4, f4⟩ := m_s36_0 (X := X) (b := b) (w0 := w0) e3 f3
    refine ⟨y4, start _ (ei_n n2 ?_), G2.g.trans (F3.g.trans F4), Or.inl ⟨_, rfl, f4⟩⟩
    rw [r3]
    by_cases d5 : u1 = 0
    · exact ei_t (by rw [d5]; decide) e4
    · exact ei_n (nI_nle (by omega) (by omega)) (ei_t (nI_le (a := 5) (by omega) (by omega)) e4)
  rw [if_neg d1]
  rw [r3] at i2
  have start2 : ∀ z, fX14_readScan_45 X FU (b + 4) (nI 0) (ltI 0) (nI 0) (rg_p lM b w0 y2) = z → fX14_readScan X (rg_p lM b w0 y) (b + 4) = z := by
    intro z hz
    refine start _ (ei_n n2 ?_)
    rw [r3]
    refine ei_n (nI_nle (by omega) (by omega)) (ei_n (nI_ge (b := 5) (by omega) (by omega)) ?_)
    unfold fX14_readScan_31 fX14_readScan_36
    exact ob_v (rg_O rfl) (ob_v (m_must1 (by decide)) hz)
  show ∃ y', _ ∧ _ ∧ ((∃ f, sgB (sgMb c s.2.2.2.2.1 (s.1 6) u1 0 0 0 p1 (fun _ => (0, 0, 0, 0))) _ = .inl f ∧ _) ∨ ∃ a, sgB (sgMb c s.2.2.2.2.1 (s.1 6) u1 0 0 0 p1 (fun _ => (0, 0, 0, 0))) _ = .inr a ∧ _)
  have fs2 : fsY y2 s := hs.f (fun k hk => G2.1 _ _ (by omega)) (fun a ha => G2.2.2.1 a (by omega))
  obtain ⟨y3, o3⟩ := m_mb (X := X) (b := b) (w0 := w0) (c := c) (n := s.1 6) (nn := u1) (cs := s.2.2.2.2.1) k6 (by omega) kc u1 0 0 0 p1 FU (fun _ => (0, 0, 0, 0)) y2 (by omega) (by unfold FU; omega) (by omega) (by omega) (by omega) fs2.2.2.2.2.1 i2 fs2.2.2.2.2.2.2.2.2.2 k2 (fun i hi => absurd hi (Nat.not_lt_zero _))
  rcases o3 with ⟨f, a1, a2, a3, a4⟩ | ⟨p3, mb, a1, F3, k3, m3, e3⟩
  · rw [a1]
    exact ⟨y3, start2 _ a4, G2.g.trans a2, Or.inl ⟨f, rfl, a3⟩⟩
  obtain ⟨mok, mp⟩ := sgMb_ok (by omega) u1 0 0 0 p1 (fun _ => (0, 0, 0, 0)) ⟨fun k hk => absurd hk (Nat.not_lt_zero _), fun j k _ hk => absurd hk (Nat.not_lt_zero _), by show 0 ≤ 10; decide⟩ (fun k hk => absurd hk (Nat.not_lt_zero _)) rfl a1
  rw [Nat.zero_add] at mok
  have G3 : FYsc y y3 := G2.trans F3.s
  have fs3 : fsY y3 s := hs.f (fun k hk => G3.1 _ _ (by omega)) (fun a ha => G3.2.2.1 a (by omega))
  have i3 : y3.1 4 30 = nI u1 := by rw [F3.1 _ _ (by omega)]; exact i2
  rw [a1]
  show ∃ y', _ ∧ _ ∧ ((∃ f, sgB (sgBn c (s.1 3) u1 p3) _ = .inl f ∧ _) ∨ ∃ a, sgB (sgBn c (s.1 3) u1 p3) _ = .inr a ∧ _)
  obtain ⟨y4, o4⟩ := m_bn (X := X) (b := b) (w0 := w0) (y := y3) (kd := s.1 3) (sm := u1) hkd fs3.2.2.1 i3 (by omega) k3
  rcases o4 with ⟨f, b1, b2, b3, b4⟩ | ⟨fi, la, bf, bb, p4, b1, F4, k4, c37, c38, c39, c40, e4⟩
  · rw [b1]
    exact ⟨y4, start2 _ (e3.trans b4), G3.g.trans b2, Or.inl ⟨f, rfl, b3⟩⟩
  obtain ⟨u1', u2', u3', u4', u5', u6', u7', u8', u9'⟩ := sgBn_ok hkd b1
  have G4 : FYsc y y4 := G3.trans F4.s
  have fs4 : fsY y4 s := hs.f (fun k hk => G4.1 _ _ (by omega)) (fun a ha => G4.2.2.1 a (by omega))
  have i4 : y4.1 4 30 = nI u1 := by rw [F4.1 _ _ (by omega)]; exact i3
  have m4 : mmY y4 u1 mb := by unfold mmY; rw [F4.2]; exact m3
  have kb4 := k4.2.2.2.2.2.1
  rw [b1]
  show ∃ y', _ ∧ _ ∧ ((∃ f, sgB (sgFt (s.1 3) fi la bf s.2.2.2.1 mb (p4 - 1) u1 0) _ = .inl f ∧ _) ∨ ∃ a, sgB (sgFt (s.1 3) fi la bf s.2.2.2.1 mb (p4 - 1) u1 0) _ = .inr a ∧ _)
  have o5 := m_ft (X := X) (b := b) (w0 := w0) (y := y4) (c := c) (p := p4) (mb := mb) (nn := u1) (lt := s.2.2.2.1) hkd (by omega) (by omega) k4 i4 c37 c38 c39 c40 u1' u2' (by omega) u3' u4' (fun z => (u7' z).2.2.1) hsq m4 (fun i hi => ⟨by have := (mok.1 i hi).1; omega, by have := (mok.1 i hi).2.2.2; omega⟩) fs4.2.2.2.2.2.2.2.2.1 u1 0 FU (by omega) (by unfold FU; omega)
  rcases o5 with ⟨f, y5, d1, d2, d3, d4⟩ | ⟨d1, d4⟩
  · rw [d1]
    exact ⟨y5, start2 _ (e3.trans (e4.trans d4)), G4.g.trans d2.g, Or.inl ⟨f, rfl, d3⟩⟩
  rw [d1]
  show ∃ y', _ ∧ _ ∧ ((∃ f, sgB (sgTb fi la bf s.2.1 s.2.2.1 s.2.2.2.2.1 mb u1 0) (fun _ => (.inr (u1, mb, fi, la, bf, bb, p4) : sgF ⊕ (Nat × sg4 × Nat × Nat × Nat × Nat × Nat))) = .inl f ∧ _) ∨ ∃ a, sgB (sgTb fi la bf s.2.1 s.2.2.1 s.2.2.2.2.1 mb u1 0) (fun _ => (.inr (u1, mb, fi, la, bf, bb, p4) : sgF ⊕ (Nat × sg4 × Nat × Nat × Nat × Nat × Nat))) = .inr a ∧ _)
  have o6 := m_tb (X := X) (b := b) (w0 := w0) (y := y4) (c := c) (p := p4) (mb := mb) (nn := u1) (n := s.1 6) (cs := s.2.2.2.2.1) (q := s.2.1) (T := s.2.2.1) (by omega) k6 (by omega) u2' (by omega) k4 i4 c37 c38 c39 m4 mok fs4.2.2.2.2.2.2.2.2.2 kc fs4.2.2.2.2.2.2.1 fs4.2.2.2.2.2.2.2.1 u1 0 FU (by omega) (by unfold FU; omega)
  rcases o6 with ⟨f, y6, q1, q2, q3, q4⟩ | ⟨q1, q4⟩
  · rw [q1]
    exact ⟨y6, start2 _ (e3.trans (e4.trans (d4.trans q4))), G4.g.trans q2.g, Or.inl ⟨f, rfl, q3⟩⟩
  rw [q1]
  exact ⟨y4, start2 _ (e3.trans (e4.trans (d4.trans q4))), G4.g, Or.inr ⟨_, rfl, G4, k4, ⟨i4, c37, c38, c39, c40⟩, m4, by omega, mok, ⟨u1', u2', u3'⟩, by show p + 6 ≤ p4; omega⟩⟩
end
