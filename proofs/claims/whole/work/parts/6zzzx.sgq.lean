/-! quantisers read by the class -/
def FXa (o : Nat) (x x' : rg_S) : Prop := (∀ p k, ¬ (p = 40 ∧ 6 ≤ k ∧ k ≤ 8) → x'.1 p k = x.1 p k) ∧ x'.2.1 = x.2.1 ∧ (∀ a, a ≠ o → x'.2.2.1 a = x.2.2.1 a) ∧ x'.2.2.2 = x.2.2.2
theorem FXa.rfl {o : Nat} {x : rg_S} : FXa o x x := ⟨fun _ _ _ => Eq.refl _, Eq.refl _, fun _ _ => Eq.refl _, Eq.refl _⟩
theorem FXa.trans {o : Nat} {x x1 x2 : rg_S} (h : FXa o x x1) (h2 : FXa o x1 x2) : FXa o x x2 := ⟨fun p k a => (h2.1 p k a).trans (h.1 p k a), h2.2.1.trans h.2.1, fun a e => (h2.2.2.1 a e).trans (h.2.2.1 a e), h2.2.2.2.trans h.2.2.2⟩
theorem FXp.a {o : Nat} {x x' : rg_S} (h : FXp x x') : FXa o x x' := ⟨h.1, by rw [h.2], fun _ _ => by rw [h.2], by rw [h.2]⟩
theorem FXa.wA {o : Nat} {x : rg_S} {f : Nat → Int32} : FXa o x (rg_wA x o f) := ⟨fun _ _ _ => Eq.refl _, Eq.refl _, fun _ a => wA_n _ _ a, Eq.refl _⟩
def qX (x : rg_S) (q : Nat → Nat) : Prop := ∀ i, i < 256 → x.2.2.1 52 i = nI (q i)
section
variable {X : px_X} {b B : Nat} {w0 w1 : px_W} {x x' : rg_S} {c : sgC} {p t : Nat} {f : sgF} {q : Nat → Nat}
theorem kX.w (h : kX x c p) {o : Nat} (ho : 2 ≠ o) {f : Nat → Int32} : kX (rg_wA x o f) c p := by
  obtain ⟨h1, h2, h3, h4, h5, h7, h9⟩ := h
  exact ⟨h1, h2, h3, h4, h5, h7, by rw [wA_n _ _ ho]; exact h9⟩
theorem ftX.n (h : ftX x f) : ¬ x.1 40 6 = 0 := by
  rw [h.1]
  have := h.2.2
  exact nI_ne0 (by omega) (by omega)
theorem x_q9_0 {A1 A2 : Int32} {M : Nat} (h : ftX x f) : fX8_readQuantiser_9 X (M + 1) (B + 40) A1 A2 (rg_p lX B w0 x) = some (0, rg_p lX B w0 x) := by
  have e54 : fX8_readQuantiser_54 X (B + 40) (rg_p lX B w0 x) = some (0, rg_p lX B w0 x) := by
    unfold fX8_readQuantiser_54
    exact ob_v (rg_I rfl rfl) (ei_n h.n rfl)
  rw [fX8_readQuantiser_9.eq_2]
  exact ei_c (fun _ => e54) (fun _ => ob_v (rg_I rfl rfl) (ei_n h.n e54))
theorem x_qk (ht : t < 4) : ∀ (r k p M : Nat) (q : Nat → Nat) (x : rg_S), k + r = 64 → r + 1 < M → kX x c p → qX x q → ∃ v x', fX8_readQuantiser_9 X M (B + 40) (nI t) (nI k) (rg_p lX B w0 x) = some (v, rg_p lX B w0 x') ∧ FXa 52 x x' ∧ ((∃ f, sgQk c t r k p q = .inl f ∧ v = 0 ∧ ftX x' f) ∨ ∃ p' q', sgQk c t r k p q = .inr (p', q') ∧ v = 1 ∧ kX x' c p' ∧ qX x' q' ∧ p' = p + r) := by
  intro r
  induction r with
  | zero =>
    intro k p M q x hk hM h hq
    obtain ⟨M, rfl⟩ : ∃ M', M = M' + 1 := ⟨M - 1, by omega⟩
    refine ⟨1, x, ?_, FXa.rfl, Or.inr ⟨p, q, rfl, rfl, h, hq, rfl⟩⟩
    rw [fX8_readQuantiser_9.eq_2]
    refine ei_t (nI_le (a := 64) (by omega) (by omega)) ?_
    unfold fX8_readQuantiser_54
    exact ob_v (rg_I rfl rfl) (ei_t h.2.2.2.1 rfl)
  | succ r ih =>
    intro k p M q x hk hM h hq
    obtain ⟨M, rfl⟩ : ∃ M', M = M' + 1 := ⟨M - 1, by omega⟩
    obtain ⟨M0, hM0⟩ : ∃ M', M = M' + 1 := ⟨M - 1, by omega⟩
    obtain ⟨v, x1, e1, F1, o1⟩ := x_in (X := X) (B := B) (w0 := w0) (lo := 1) (hi := 255) h (by omega) (by omega)
    unfold sgQk
    rcases o1 with ⟨f, r1, r2, r3⟩ | ⟨u, p1, r1, r2, r3, r4⟩
    · rw [r1]
      refine ⟨0, x1, ?_, F1.a, Or.inl ⟨f, rfl, rfl, r3⟩⟩
      rw [fX8_readQuantiser_9.eq_2]
      refine ei_n (nI_ge (b := 64) (by omega) (by omega)) (ob_v (rg_I rfl rfl) (ei_t h.2.2.2.1 (ob_v (rg_O rfl) (ob_v e1 (ei_t r2 ?_)))))
      unfold fX8_readQuantiser_48
      rw [hM0]
      exact x_q9_0 r3
    · have hp1 : p1 = p + 1 := by
        unfold sgI at r1
        cases e : sgN c p with
        | inl f => rw [e] at r1; cases r1
        | inr a =>
          rw [e] at r1
          have : (if a.1 < 1 ∨ 255 < a.1 then (.inl (6, p) : sgF ⊕ (Nat × Nat)) else .inr a) = .inr (u, p1) := r1
          split at this
          · cases this
          · have := Sum.inr.inj this
            rw [this] at e
            exact (sgN_p e).1
      have nv : ¬ v = -1 := by rw [r3]; exact ne1 (by omega)
      have hq1 : qX (rg_wA x1 52 (upd (x1.2.2.1 52) (64 * t + k) (nI u))) (uG q (64 * t + k) u) := by
        intro i hi
        rw [wA_s]
        by_cases e : i = 64 * t + k
        · rw [e, pk_us, uG_s]
        · rw [pk_un e, uG_n _ _ e, F1.2]
          exact hq i hi
      obtain ⟨v2, x2, e2, F2, o2⟩ := ih (k + 1) p1 M _ _ (by omega) (by omega) (r4.w (o := 52) (by decide) (f := upd (x1.2.2.1 52) (64 * t + k) (nI u))) hq1
      rw [r1]
      refine ⟨v2, x2, ?_, F1.a.trans (FXa.wA.trans F2), ?_⟩
      · rw [fX8_readQuantiser_9.eq_2]
        refine ei_n (nI_ge (b := 64) (by omega) (by omega)) (ob_v (rg_I rfl rfl) (ei_t h.2.2.2.1 (ob_v (rg_O rfl) (ob_v e1 (ei_n nv (ob_v (rg_C rfl rfl) ?_))))))
        rw [show (64 : Int32) * nI t + nI k = nI (64 * t + k) from by rw [show (64 : Int32) = nI 64 from rfl, pk_mul, nI_add]]
        refine ob_v (rg_sA id rfl (by decide) _ _ (by omega) (by decide)) ?_
        unfold fX8_readQuantiser_48
        rw [nI_1]
        dsimp only [id]
        rw [r3]
        exact e2
      · rcases o2 with o2 | ⟨p', q', s1, s2, s3, s4, s5⟩
        · exact Or.inl o2
        · exact Or.inr ⟨p', q', s1, s2, s3, s4, by omega⟩
theorem sgI_p {lo hi u q : Nat} (e : sgI c lo hi p = .inr (u, q)) : q = p + 1 ∧ p < c.2.2.1 ∧ p < c.2.1 ∧ u = c.1 p ∧ lo ≤ u ∧ u ≤ hi := by
  unfold sgI at e
  cases e' : sgN c p with
  | inl f => rw [e'] at e; cases e
  | inr a =>
    rw [e'] at e
    have this : (if a.1 < lo ∨ hi < a.1 then (.inl (6, p) : sgF ⊕ (Nat × Nat)) else .inr a) = .inr (u, q) := e
    split at this
    · cases this
    · rename_i hn
      have := Sum.inr.inj this
      rw [this] at e' hn
      obtain ⟨g1, g2, g3, g4⟩ := sgN_p e'
      have hn : ¬ (u < lo ∨ hi < u) := hn
      exact ⟨g1, g2, g3, g4, by omega, by omega⟩
theorem x_qs : ∀ (r p M told : Nat) (q : Nat → Nat) (x : rg_S), c.2.1 < p + r → told + 2 ≤ p → (told = 0 ∨ p < c.2.2.1) → r + 1 < M → kX x c p → qX x q → ∃ v x', fX8_readQuantisers_4 X M (B + 40) 1 (nI told) (rg_p lX B w0 x) = some (v, rg_p lX B w0 x') ∧ FXa 52 x x' ∧ ((∃ f, sgQs c r p q = .inl f ∧ v = 0 ∧ ftX x' f) ∨ ∃ p' q', sgQs c r p q = .inr (p', q') ∧ v = 1 ∧ kX x' c p' ∧ qX x' q') := by
  intro r
  induction r with
  | zero =>
    intro p M told q x hr _ _ _ h _
    have := h.2.2.2.2.2.1.2.2.2
    omega
  | succ r ih =>
    intro p M told q x hr ht2 hen hM h hq
    have hL := h.2.2.2.2.2.1
    obtain ⟨M, rfl⟩ : ∃ M', M = M' + 1 := ⟨M - 1, by omega⟩
    obtain ⟨M0, hM0⟩ : ∃ M', M = M' + 1 := ⟨M - 1, by omega⟩
    obtain ⟨v, x1, e1, F1, o1⟩ := x_in (X := X) (B := B) (w0 := w0) (lo := 0) (hi := 3) h (by omega) (by omega)
    have st : ∀ z, fX8_readQuantisers_30 X (fX8_readQuantisers_4 X M) (B + 40) (nI told) (rg_p lX B w0 x) = z → fX8_readQuantisers_4 X (M + 1) (B + 40) 1 (nI told) (rg_p lX B w0 x) = z := by
      intro z hz
      rw [fX8_readQuantisers_4.eq_2]
      refine ei_n (by decide) (ei_n (nI_ge (b := 16384) (by omega) (by omega)) ?_)
      by_cases t0 : told = 0
      · exact ei_t (by rw [t0]; rfl) hz
      · refine ei_n (nI_ne0 (by omega) (by omega)) (ob_v (rg_I rfl rfl) (ob_v (rg_I rfl rfl) ?_))
        rw [h.1, h.2.2.1]
        exact ei_n (nI_ge (by omega) (by omega)) hz
    have fin : ∀ (z : rg_S) (f : sgF), ftX z f → fX8_readQuantisers_4 X M (B + 40) 0 (nI (told + 1)) (rg_p lX B w0 z) = some (0, rg_p lX B w0 z) := by
      intro z f _
      rw [hM0, fX8_readQuantisers_4.eq_2]
      exact ei_t rfl rfl
    unfold sgQs
    rcases o1 with ⟨f, r1, r2, r3⟩ | ⟨u, p1, r1, r2, r3, r4⟩
    · rw [r1]
      refine ⟨0, x1, st _ ?_, F1.a, Or.inl ⟨f, rfl, rfl, r3⟩⟩
      unfold fX8_readQuantisers_30 fX8_readQuantiser
      refine ob_v (rg_O rfl) (ob_v (v := (0, rg_p lX B w0 x1)) (ob_v (rg_O rfl) (ob_v e1 ?_)) ?_)
      · rw [show FU = 3999999 + 1 from rfl]
        exact x_q9_0 r3
      · rw [nI_1]
        exact fin x1 f r3
    · obtain ⟨g1, g2, g3, g4, g5, g6⟩ := sgI_p r1
      obtain ⟨v2, x2, e2, F2, o2⟩ := x_qk (X := X) (B := B) (w0 := w0) (c := c) (t := u) (by omega) 64 0 p1 FU q x1 (by omega) (by unfold FU; omega) r4 (by unfold qX; rw [F1.2]; exact hq)
      have st2 : ∀ z, fX8_readQuantisers_4 X M (B + 40) v2 (nI (told + 1)) (rg_p lX B w0 x2) = z → fX8_readQuantisers_4 X (M + 1) (B + 40) 1 (nI told) (rg_p lX B w0 x) = z := by
        intro z hz
        refine st _ ?_
        unfold fX8_readQuantisers_30 fX8_readQuantiser
        refine ob_v (rg_O rfl) (ob_v (v := (v2, rg_p lX B w0 x2)) (ob_v (rg_O rfl) (ob_v e1 ?_)) ?_)
        · dsimp only
          rw [r3]
          exact e2
        · rw [nI_1]
          exact hz
      rw [r1]
      have F12 : FXa 52 x x2 := F1.a.trans F2
      rcases o2 with ⟨f, s1, s2, s3⟩ | ⟨p2, q2, s1, s2, s3, s4, s5⟩
      · show ∃ v x', _ ∧ _ ∧ ((∃ f, sgB (sgQk c u 64 0 p1 q) _ = .inl f ∧ _) ∨ ∃ p' q', sgB (sgQk c u 64 0 p1 q) _ = .inr (p', q') ∧ _)
        rw [s1]
        refine ⟨0, x2, st2 _ ?_, F12, Or.inl ⟨f, rfl, rfl, s3⟩⟩
        rw [s2]
        exact fin x2 f s3
      · show ∃ v x', _ ∧ _ ∧ ((∃ f, sgB (sgQk c u 64 0 p1 q) (fun a => if a.1 < c.2.2.1 then sgQs c r a.1 a.2 else .inr a) = .inl f ∧ _) ∨ ∃ p' q', sgB (sgQk c u 64 0 p1 q) (fun a => if a.1 < c.2.2.1 then sgQs c r a.1 a.2 else .inr a) = .inr (p', q') ∧ _)
        rw [s1]
        show ∃ v x', _ ∧ _ ∧ ((∃ f, (if p2 < c.2.2.1 then sgQs c r p2 q2 else .inr (p2, q2)) = .inl f ∧ _) ∨ ∃ p' q', (if p2 < c.2.2.1 then sgQs c r p2 q2 else .inr (p2, q2)) = .inr (p', q') ∧ _)
        rw [s2] at st2
        by_cases d : p2 < c.2.2.1
        · rw [if_pos d]
          obtain ⟨v3, x3, e3, F3, o3⟩ := ih p2 M (told + 1) q2 x2 (by omega) (by omega) (Or.inr d) (by omega) s3 s4
          exact ⟨v3, x3, st2 _ e3, F12.trans F3, o3⟩
        · rw [if_neg d]
          refine ⟨1, x2, st2 _ ?_, F12, Or.inr ⟨p2, q2, rfl, rfl, s3, s4⟩⟩
          rw [hM0, fX8_readQuantisers_4.eq_2]
          have hb := s3.2.2.2.2.2.1
          refine ei_n (by decide) (ei_c (fun _ => rfl) (fun _ => ei_n (nI_ne0 (by omega) (by omega)) (ob_v (rg_I rfl rfl) (ob_v (rg_I rfl rfl) ?_))))
          rw [s3.1, s3.2.2.1]
          exact ei_t (nI_le (by omega) (by omega)) rfl
end
