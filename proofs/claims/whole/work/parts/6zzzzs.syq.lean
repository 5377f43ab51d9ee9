/-! quantisers read by the reference -/
def FYa (o : Nat) (y y' : rg_S) : Prop := (∀ p k, ¬ (p = 4 ∧ 4 ≤ k ∧ k ≤ 6) → y'.1 p k = y.1 p k) ∧ y'.2.1 = y.2.1 ∧ (∀ a, a ≠ o → y'.2.2.1 a = y.2.2.1 a) ∧ y'.2.2.2 = y.2.2.2
theorem FYa.rfl {o : Nat} {y : rg_S} : FYa o y y := ⟨fun _ _ _ => Eq.refl _, Eq.refl _, fun _ _ => Eq.refl _, Eq.refl _⟩
theorem FYa.trans {o : Nat} {y y1 y2 : rg_S} (h : FYa o y y1) (h2 : FYa o y1 y2) : FYa o y y2 := ⟨fun p k a => (h2.1 p k a).trans (h.1 p k a), h2.2.1.trans h.2.1, fun a e => (h2.2.2.1 a e).trans (h.2.2.1 a e), h2.2.2.2.trans h.2.2.2⟩
theorem FYq.a {o : Nat} {y y' : rg_S} (h : FYq y y') : FYa o y y' := ⟨h.1, by rw [h.2], fun _ _ => by rw [h.2], by rw [h.2]⟩
theorem FYa.wA {o : Nat} {y : rg_S} {f : Nat → Int32} : FYa o y (rg_wA y o f) := ⟨fun _ _ _ => Eq.refl _, Eq.refl _, fun _ a => wA_n _ _ a, Eq.refl _⟩
theorem FYa.g {o : Nat} {y y' : rg_S} (ho : 6 ≤ o ∧ o ≤ 23) (h : FYa o y y') : FYg y y' := ⟨fun p k a => h.1 p k (by omega), ⟨h.1 _ _ (by omega), h.1 _ _ (by omega)⟩, h.2.1, fun a e => h.2.2.1 a (by omega), h.2.2.2⟩
def qY (y : rg_S) (q : Nat → Nat) : Prop := ∀ t, t < 4 → (q (64 * t) = 0 ∧ y.2.2.1 11 t = 0) ∨ (q (64 * t) ≠ 0 ∧ y.2.2.1 11 t = 1 ∧ ∀ k, k < 64 → y.2.2.1 12 (64 * t + k) = nI (q (64 * t + k)))
section
variable {X : px_X} {b B : Nat} {w0 w1 : px_W} {y y' : rg_S} {c : sgC} {p t : Nat} {f : sgF} {q : Nat → Nat}
theorem m_q41_0 {A2 A3 : Int32} {M : Nat} {k2 : Nat → Int32 → px_W → Option (px_W)} (h : ftY y f) : fX14_readQuantisers_41 X k2 (M + 1) (b + 4) A2 A3 (rg_p lM b w0 y) = fX14_readQuantisers_114 X k2 (b + 4) (rg_p lM b w0 y) := by
  have e100 : fX14_readQuantisers_100 X k2 (b + 4) A2 (rg_p lM b w0 y) = fX14_readQuantisers_114 X k2 (b + 4) (rg_p lM b w0 y) := by
    unfold fX14_readQuantisers_100
    exact ob_v (rg_I rfl rfl) (ei_n h.n rfl)
  rw [fX14_readQuantisers_41.eq_2]
  exact ei_c (fun _ => e100) (fun _ => ob_v (rg_I rfl rfl) (ei_n h.n e100))
theorem m_qk {k2 : Nat → Int32 → px_W → Option (px_W)} (ht : t < 4) : ∀ (r k p M : Nat) (q : Nat → Nat) (y : rg_S), k + r = 64 → r + 1 < M → kY y c p → (∀ j, j < k → y.2.2.1 12 (64 * t + j) = nI (q (64 * t + j))) → ∃ y', FYa 12 y y' ∧ ((∃ f, sgQk c t r k p q = .inl f ∧ ftY y' f ∧ fX14_readQuantisers_41 X k2 M (b + 4) (nI t) (nI k) (rg_p lM b w0 y) = fX14_readQuantisers_114 X k2 (b + 4) (rg_p lM b w0 y')) ∨ ∃ p' q', sgQk c t r k p q = .inr (p', q') ∧ kY y' c p' ∧ (∀ j, j < 64 → y'.2.2.1 12 (64 * t + j) = nI (q' (64 * t + j))) ∧ (∀ i, ¬ (64 * t ≤ i ∧ i < 64 * t + 64) → y'.2.2.1 12 i = y.2.2.1 12 i) ∧ fX14_readQuantisers_41 X k2 M (b + 4) (nI t) (nI k) (rg_p lM b w0 y) = fX14_readQuantisers_100 X k2 (b + 4) (nI t) (rg_p lM b w0 y')) := by
  intro r
  induction r with
  | zero =>
    intro k p M q y hk hM h hq
    obtain ⟨M, rfl⟩ : ∃ M', M = M' + 1 := ⟨M - 1, by omega⟩
    refine ⟨y, FYa.rfl, Or.inr ⟨p, q, rfl, h, fun j hj => hq j (by omega), fun _ _ => rfl, ?_⟩⟩
    rw [fX14_readQuantisers_41.eq_2]
    exact ei_t (nI_le (a := 64) (by omega) (by omega)) rfl
  | succ r ih =>
    intro k p M q y hk hM h hq
    obtain ⟨M, rfl⟩ : ∃ M', M = M' + 1 := ⟨M - 1, by omega⟩
    obtain ⟨M0, hM0⟩ : ∃ M', M = M' + 1 := ⟨M - 1, by omega⟩
    obtain ⟨v, y1, e1, F1, o1⟩ := m_nx (X := X) (b := b) (w0 := w0) h
    have start : ∀ z, (if 0 < y1.1 4 4 then fX14_readQuantisers_73 X k2 (fX14_readQuantisers_41 X k2 M) (b + 4) (nI t) (nI k) v (b + 4) (rg_p lM b w0 y1) else if v ≤ 0 then fX14_readQuantisers_78 X k2 (fX14_readQuantisers_41 X k2 M) (b + 4) (nI t) (nI k) v 0 (b + 4) (rg_p lM b w0 y1) else fX14_readQuantisers_73 X k2 (fX14_readQuantisers_41 X k2 M) (b + 4) (nI t) (nI k) v (b + 4) (rg_p lM b w0 y1)) = z → fX14_readQuantisers_41 X k2 (M + 1) (b + 4) (nI t) (nI k) (rg_p lM b w0 y) = z := by
      intro z hz
      rw [fX14_readQuantisers_41.eq_2]
      exact ei_n (nI_ge (b := 64) (by omega) (by omega)) (ob_v (rg_I rfl rfl) (ei_t h.2.2.2.1 (ob_v (rg_O rfl) (ob_v e1 (ob_v (rg_I rfl rfl) hz)))))
    have e78 : ∀ (z z' : rg_S) (s0 v : Int32), fX14_must X (rg_p lM b w0 z) (b + 4) s0 = some (rg_p lM b w0 z') → fX14_readQuantisers_78 X k2 (fX14_readQuantisers_41 X k2 M) (b + 4) (nI t) (nI k) v s0 (b + 4) (rg_p lM b w0 z) = fX14_readQuantisers_41 X k2 M (b + 4) (nI t) (nI (k + 1)) (rg_p lM b w0 (rg_wA z' 12 (upd (z'.2.2.1 12) (64 * t + k) v))) := by
      intro z z' s0 v hm
      unfold fX14_readQuantisers_78
      refine ob_v (rg_O rfl) (ob_v hm (ob_v (rg_C rfl rfl) ?_))
      rw [show (64 : Int32) * nI t + nI k = nI (64 * t + k) from by rw [show (64 : Int32) = nI 64 from rfl, pk_mul, nI_add]]
      refine ob_v (rg_sA id rfl (by decide) _ _ (by omega) (by decide)) ?_
      rw [nI_1]
      rfl
    unfold sgQk sgI
    rcases o1 with ⟨f, r1, r2, r3⟩ | ⟨u, p1, r1, r2, r3, r4⟩
    · rw [r1]
      refine ⟨rg_wA y1 12 (upd (y1.2.2.1 12) (64 * t + k) v), F1.a.trans FYa.wA, Or.inl ⟨f, rfl, r3.w, start _ (ei_t r3.l ?_)⟩⟩
      unfold fX14_readQuantisers_73
      rw [e78 y1 y1 1 v (m_must1 (by decide)), hM0]
      exact m_q41_0 r3.w
    · have g1 := sgN_p r1
      have hL := h.2.2.2.2.2.1
      have n4 : ¬ 0 < y1.1 4 4 := by rw [r4.2.2.2.1]; decide
      rw [r1]
      show ∃ y', _ ∧ ((∃ f, sgB (if u < 1 ∨ 255 < u then (.inl (6, p) : sgF ⊕ (Nat × Nat)) else .inr (u, p1)) _ = .inl f ∧ _) ∨ ∃ p' q', sgB (if u < 1 ∨ 255 < u then (.inl (6, p) : sgF ⊕ (Nat × Nat)) else .inr (u, p1)) _ = .inr (p', q') ∧ _)
      by_cases u0 : u = 0
      · rw [if_pos (by omega)]
        obtain ⟨y2, e2, F2, f2⟩ := m_mustF (X := X) (b := b) (w0 := w0) (y := y1) r4.2.2.2.1 r4.1 (by omega) (by omega)
        rw [show (6, p1 - 1) = (6, p) by rw [g1.1]; rfl] at f2
        refine ⟨rg_wA y2 12 (upd (y2.2.2.1 12) (64 * t + k) v), F1.a.trans (F2.a.trans FYa.wA), Or.inl ⟨_, rfl, f2.w, start _ (ei_n n4 (ei_t (by rw [r3, u0]; decide) ?_))⟩⟩
        rw [e78 y1 y2 0 v e2, hM0]
        exact m_q41_0 f2.w
      · rw [if_neg (by omega)]
        show ∃ y', _ ∧ ((∃ f, sgQk c t r (k + 1) p1 (uG q (64 * t + k) u) = .inl f ∧ _) ∨ ∃ p' q', sgQk c t r (k + 1) p1 (uG q (64 * t + k) u) = .inr (p', q') ∧ _)
        obtain ⟨y3, F3, o3⟩ := ih (k + 1) p1 M (uG q (64 * t + k) u) (rg_wA y1 12 (upd (y1.2.2.1 12) (64 * t + k) v)) (by omega) (by omega) (r4.w (by decide)) (by
          intro j hj
          rw [wA_s]
          by_cases z : j = k
          · rw [z, pk_us, uG_s, r3]
          · rw [pk_un (by omega), uG_n _ _ (by omega), F1.2]
            exact hq j (by omega))
        have st : fX14_readQuantisers_41 X k2 (M + 1) (b + 4) (nI t) (nI k) (rg_p lM b w0 y) = fX14_readQuantisers_41 X k2 M (b + 4) (nI t) (nI (k + 1)) (rg_p lM b w0 (rg_wA y1 12 (upd (y1.2.2.1 12) (64 * t + k) v))) := by
          refine start _ (ei_n n4 (ei_n (by rw [r3]; exact nI_nle (by omega) (by omega)) ?_))
          unfold fX14_readQuantisers_73
          exact e78 y1 y1 1 v (m_must1 (by decide))
        refine ⟨y3, F1.a.trans (FYa.wA.trans F3), ?_⟩
        rcases o3 with ⟨f, s1, s2, s3⟩ | ⟨p', q', s1, s2, s3, s4, s5⟩
        · exact Or.inl ⟨f, s1, s2, st.trans s3⟩
        · refine Or.inr ⟨p', q', s1, s2, s3, fun i hi => ?_, st.trans s5⟩
          rw [s4 i hi, wA_s, pk_un (by omega), F1.2]
theorem m_q2_0 {A1 : Int32} {M : Nat} (h : ftY y f) : fX14_readQuantisers_2 X (M + 1) (b + 4) A1 (rg_p lM b w0 y) = some (rg_p lM b w0 y) := by
  rw [fX14_readQuantisers_2.eq_2]
  exact ei_c (fun _ => rfl) (fun _ => ob_v (rg_I rfl rfl) (ei_n h.n rfl))
theorem m_qs : ∀ (r p M : Nat) (q : Nat → Nat) (y : rg_S), c.2.1 < p + r → r + 1 < M → kY y c p → (∀ i, q i ≤ 255) → qY y q → ∃ y', fX14_readQuantisers_2 X M (b + 4) 1 (rg_p lM b w0 y) = some (rg_p lM b w0 y') ∧ FYg y y' ∧ ((∃ f, sgQs c r p q = .inl f ∧ ftY y' f) ∨ ∃ p' q', sgQs c r p q = .inr (p', q') ∧ kY y' c p' ∧ qY y' q' ∧ (∀ k, ¬ (4 ≤ k ∧ k ≤ 6) → y'.1 4 k = y.1 4 k) ∧ ∀ a, a ≠ 11 → a ≠ 12 → y'.2.2.1 a = y.2.2.1 a) := by
  intro r
  induction r with
  | zero =>
    intro p M q y hr _ h _ _
    have := h.2.2.2.2.2.1.2.2.2.1
    omega
  | succ r ih =>
    intro p M q y hr hM h hq2 hq
    have hL := h.2.2.2.2.2.1
    obtain ⟨M, rfl⟩ : ∃ M', M = M' + 1 := ⟨M - 1, by omega⟩
    obtain ⟨M0, hM0⟩ : ∃ M', M = M' + 1 := ⟨M - 1, by omega⟩
    obtain ⟨v, y1, e1, F1, o1⟩ := m_nx (X := X) (b := b) (w0 := w0) h
    have start : ∀ z, (if 0 < y1.1 4 4 then fX14_readQuantisers_31 X (fX14_readQuantisers_2 X M) (b + 4) v (b + 4) (rg_p lM b w0 y1) else if 4 ≤ v then fX14_readQuantisers_36 X (fX14_readQuantisers_2 X M) (b + 4) v 0 (b + 4) (rg_p lM b w0 y1) else fX14_readQuantisers_31 X (fX14_readQuantisers_2 X M) (b + 4) v (b + 4) (rg_p lM b w0 y1)) = z → fX14_readQuantisers_2 X (M + 1) (b + 4) 1 (rg_p lM b w0 y) = z := by
      intro z hz
      rw [fX14_readQuantisers_2.eq_2]
      exact ei_n (by decide) (ob_v (rg_I rfl rfl) (ei_t h.2.2.2.1 (ob_v (rg_O rfl) (ob_v e1 (ob_v (rg_I rfl rfl) hz)))))
    have e36 : ∀ (z z' : rg_S) (s0 v : Int32), fX14_must X (rg_p lM b w0 z) (b + 4) s0 = some (rg_p lM b w0 z') → fX14_readQuantisers_36 X (fX14_readQuantisers_2 X M) (b + 4) v s0 (b + 4) (rg_p lM b w0 z) = fX14_readQuantisers_41 X (fX14_readQuantisers_2 X M) FU (b + 4) v 0 (rg_p lM b w0 z') := by
      intro z z' s0 v hm
      unfold fX14_readQuantisers_36
      exact ob_v (rg_O rfl) (ob_v hm rfl)
    have tail : ∀ (z : rg_S) (f : sgF), ftY z f → fX14_readQuantisers_114 X (fX14_readQuantisers_2 X M) (b + 4) (rg_p lM b w0 z) = some (rg_p lM b w0 z) := by
      intro z f hf
      unfold fX14_readQuantisers_114 fX14_readQuantisers_130
      rw [hM0]
      exact ob_v (rg_I rfl rfl) (ob_v (rg_I rfl rfl) (ei_c (fun _ => m_q2_0 hf) (fun _ => m_q2_0 hf)))
    unfold sgQs sgI
    rcases o1 with ⟨f, r1, r2, r3⟩ | ⟨u, p1, r1, r2, r3, r4⟩
    · rw [r1]
      refine ⟨y1, start _ (ei_t r3.l ?_), F1.g, Or.inl ⟨f, rfl, r3⟩⟩
      unfold fX14_readQuantisers_31
      rw [e36 y1 y1 1 v (m_must1 (by decide)), show FU = 3999999 + 1 from rfl, m_q41_0 r3]
      exact tail y1 f r3
    · have g1 := sgN_p r1
      have n4 : ¬ 0 < y1.1 4 4 := by rw [r4.2.2.2.1]; decide
      rw [r1]
      show ∃ y', _ ∧ _ ∧ ((∃ f, sgB (if u < 0 ∨ 3 < u then (.inl (6, p) : sgF ⊕ (Nat × Nat)) else .inr (u, p1)) _ = .inl f ∧ _) ∨ ∃ p' q', sgB (if u < 0 ∨ 3 < u then (.inl (6, p) : sgF ⊕ (Nat × Nat)) else .inr (u, p1)) _ = .inr (p', q') ∧ _)
      by_cases u4 : 3 < u
      · rw [if_pos (by omega)]
        obtain ⟨y2, e2, F2, f2⟩ := m_mustF (X := X) (b := b) (w0 := w0) (y := y1) r4.2.2.2.1 r4.1 (by omega) (by omega)
        rw [show (6, p1 - 1) = (6, p) by rw [g1.1]; rfl] at f2
        refine ⟨y2, start _ (ei_n n4 (ei_t (by rw [r3]; exact nI_le (a := 4) (by omega) (by omega)) ?_)), (F1.trans F2).g, Or.inl ⟨_, rfl, f2⟩⟩
        rw [e36 y1 y2 0 v e2, show FU = 3999999 + 1 from rfl, m_q41_0 f2]
        exact tail y2 _ f2
      · rw [if_neg (by omega)]
        obtain ⟨y3, F3, o3⟩ := m_qk (X := X) (b := b) (w0 := w0) (c := c) (t := u) (k2 := fX14_readQuantisers_2 X M) (by omega) 64 0 p1 FU q y1 (by omega) (by unfold FU; omega) r4 (fun j hj => absurd hj (Nat.not_lt_zero _))
        have st : ∀ z, fX14_readQuantisers_41 X (fX14_readQuantisers_2 X M) FU (b + 4) (nI u) (nI 0) (rg_p lM b w0 y1) = z → fX14_readQuantisers_2 X (M + 1) (b + 4) 1 (rg_p lM b w0 y) = z := by
          intro z hz
          refine start _ (ei_n n4 (ei_n (by rw [r3]; exact nI_ge (b := 4) (by omega) (by omega)) ?_))
          unfold fX14_readQuantisers_31
          rw [e36 y1 y1 1 v (m_must1 (by decide)), r3]
          exact hz
        show ∃ y', _ ∧ _ ∧ ((∃ f, sgB (sgQk c u 64 0 p1 q) (fun a => if a.1 < c.2.2.1 then sgQs c r a.1 a.2 else .inr a) = .inl f ∧ _) ∨ ∃ p' q', sgB (sgQk c u 64 0 p1 q) (fun a => if a.1 < c.2.2.1 then sgQs c r a.1 a.2 else .inr a) = .inr (p', q') ∧ _)
        rcases o3 with ⟨f, s1, s2, s3⟩ | ⟨p2, q2, s1, s2, s3, s4, s5⟩
        · rw [s1]
          exact ⟨y3, st _ (s3.trans (tail y3 f s2)), F1.g.trans (F3.g (by omega)), Or.inl ⟨f, rfl, s2⟩⟩
        · obtain ⟨j1, j2, j3, j4⟩ := sgQk_ok 64 0 p1 q hq2 s1
          rw [s1]
          show ∃ y', _ ∧ _ ∧ ((∃ f, (if p2 < c.2.2.1 then sgQs c r p2 q2 else .inr (p2, q2)) = .inl f ∧ _) ∨ ∃ p' q', (if p2 < c.2.2.1 then sgQs c r p2 q2 else .inr (p2, q2)) = .inr (p', q') ∧ _)
          generalize hy4 : rg_wA y3 11 (upd (y3.2.2.1 11) u 1) = y4
          have F4 : FYg y3 y4 := by
            rw [← hy4]
            exact FYg.wA (by omega)
          have k4 : kY y4 c p2 := by
            rw [← hy4]
            exact s2.w (by decide)
          have q4 : qY y4 q2 := by
            intro t' ht'
            rw [← hy4, wA_s, wA_n _ _ (show 12 ≠ 11 by decide)]
            by_cases z : t' = u
            · rw [z, pk_us]
              refine Or.inr ⟨?_, rfl, s3⟩
              have := j3 0 (by omega) (by omega)
              rw [Nat.add_zero] at this
              omega
            · rw [pk_un z, F3.2.2.1 11 (by decide), F1.2]
              rcases hq t' ht' with ⟨a1, a2⟩ | ⟨a1, a2, a3⟩
              · exact Or.inl ⟨by rw [j4 _ (by omega)]; exact a1, a2⟩
              · refine Or.inr ⟨by rw [j4 _ (by omega)]; exact a1, a2, fun k hk => ?_⟩
                rw [s4 _ (by omega), j4 _ (by omega), F1.2]
                exact a3 k hk
          have i4 : ∀ k, ¬ (4 ≤ k ∧ k ≤ 6) → y4.1 4 k = y.1 4 k := by
            intro k hk
            rw [← hy4, wA_1, F3.1 _ _ (by omega), F1.1 _ _ (by omega)]
          have a4 : ∀ a, a ≠ 11 → a ≠ 12 → y4.2.2.1 a = y.2.2.1 a := by
            intro a h1 h2
            rw [← hy4, wA_n _ _ h1, F3.2.2.1 a h2, F1.2]
          have st4 : ∀ z, fX14_readQuantisers_2 X M (b + 4) (if p2 < c.2.2.1 then 1 else 0) (rg_p lM b w0 y4) = z → fX14_readQuantisers_2 X (M + 1) (b + 4) 1 (rg_p lM b w0 y) = z := by
            intro z hz
            refine st _ (s5.trans ?_)
            unfold fX14_readQuantisers_100
            refine ob_v (rg_I rfl rfl) (ei_t s2.2.2.2.1 (ob_v (rg_C rfl rfl) (ob_v (rg_sA (vp_nar .boolean) rfl (by decide) _ _ (by omega) (by decide)) ?_)))
            rw [show vp_nar .boolean (1 : Int32) = 1 from rfl, hy4]
            unfold fX14_readQuantisers_114 fX14_readQuantisers_130
            refine ob_v (rg_I rfl rfl) (ob_v (rg_I rfl rfl) ?_)
            have kb := k4.2.2.2.2.2.1
            rw [k4.1, k4.2.2.1]
            by_cases d : p2 < c.2.2.1
            · rw [if_pos d] at hz
              exact ei_n (nI_ge d (by omega)) hz
            · rw [if_neg d] at hz
              exact ei_t (nI_le (by omega) (by omega)) hz
          have Fall : FYg y y4 := F1.g.trans ((F3.g (by omega)).trans F4)
          by_cases d : p2 < c.2.2.1
          · rw [if_pos d] at st4 ⊢
            obtain ⟨y5, e5, F5, o5⟩ := ih p2 M q2 y4 (by omega) (by omega) k4 j1 q4
            refine ⟨y5, st4 _ e5, Fall.trans F5, ?_⟩
            rcases o5 with o5 | ⟨p', q', t1, t2, t3, t4, t5⟩
            · exact Or.inl o5
            · exact Or.inr ⟨p', q', t1, t2, t3, fun k hk => (t4 k hk).trans (i4 k hk), fun a h1 h2 => (t5 a h1 h2).trans (a4 a h1 h2)⟩
          · rw [if_neg d] at st4 ⊢
            refine ⟨y4, st4 _ ?_, Fall, Or.inr ⟨p2, q2, rfl, k4, q4, i4, a4⟩⟩
            rw [hM0, fX14_readQuantisers_2.eq_2]
            exact ei_t rfl rfl
end
