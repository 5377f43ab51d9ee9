/-! bytes of a segment taken by the class -/
def kX (x : rg_S) (c : sgC) (p : Nat) : Prop := x.1 40 8 = nI p ∧ x.1 40 9 = nI c.2.2.2 ∧ x.1 40 10 = nI c.2.2.1 ∧ x.1 40 6 = 0 ∧ x.1 1 1 = nI c.2.1 ∧ (c.2.1 ≤ 16384 ∧ c.2.2.1 < 100000 ∧ c.2.2.2 ≤ 16384 ∧ p ≤ c.2.1) ∧ ∀ i, i < c.2.1 → x.2.2.1 2 i &&& 255 = nI (c.1 i) ∧ c.1 i < 256
def FXp (x x' : rg_S) : Prop := (∀ p k, ¬ (p = 40 ∧ 6 ≤ k ∧ k ≤ 8) → x'.1 p k = x.1 p k) ∧ x'.2 = x.2
theorem FXp.rfl {x : rg_S} : FXp x x := ⟨fun _ _ _ => Eq.refl _, Eq.refl _⟩
theorem FXp.trans {x x1 x2 : rg_S} (h : FXp x x1) (h2 : FXp x1 x2) : FXp x x2 := ⟨fun p k a => (h2.1 p k a).trans (h.1 p k a), h2.2.trans h.2⟩
theorem FXp.wI {x : rg_S} {k : Nat} {v : Int32} (h : 6 ≤ k ∧ k ≤ 8) : FXp x (rg_wI x 40 k v) := ⟨fun p k' a => wI_n _ _ (by omega), Eq.refl _⟩
def ftX (x : rg_S) (f : sgF) : Prop := x.1 40 6 = nI f.1 ∧ x.1 40 7 = nI f.2 ∧ 1 ≤ f.1 ∧ f.1 ≤ 8 ∧ f.2 ≤ 20000
/-- a byte, or a number, taken or not -/
def oX (x : rg_S) (c : sgC) (o : sgF ⊕ (Nat × Nat)) (b : Nat) (v : Int32) (x' : rg_S) : Prop := FXp x x' ∧ ((∃ f, o = .inl f ∧ v = -1 ∧ ftX x' f) ∨ ∃ u p, o = .inr (u, p) ∧ u < b ∧ v = nI u ∧ kX x' c p)
section
variable {X : px_X} {b B : Nat} {w0 w1 : px_W} {x x' : rg_S} {c : sgC} {p lo hi : Nat} {f : sgF}
theorem kX.k (h : kX x c p) (F : FXp x x') (h6 : x'.1 40 6 = 0) {p' : Nat} (h8 : x'.1 40 8 = nI p') (hp : p' ≤ c.2.1) : kX x' c p' := by
  obtain ⟨h1, h2, h3, h4, h5, h7, h9⟩ := h
  exact ⟨h8, by rw [F.1 _ _ (by omega)]; exact h2, by rw [F.1 _ _ (by omega)]; exact h3, h6, by rw [F.1 _ _ (by omega)]; exact h5, ⟨h7.1, h7.2.1, h7.2.2.1, hp⟩, by rw [F.2]; exact h9⟩
theorem ftX.i {f q : Nat} (h1 : x.1 40 6 = nI f) (h2 : x.1 40 7 = nI q) (a : 1 ≤ f) (b : f ≤ 8) (d : q ≤ 20000) : ftX x (f, q) := ⟨h1, h2, a, b, d⟩
theorem x_fail {f q : Nat} : ∃ x', fX8_fail X (rg_p lX B w0 x) (B + 40) (nI f) (nI q) = some (-1, rg_p lX B w0 x') ∧ FXp x x' ∧ x'.1 40 6 = nI f ∧ x'.1 40 7 = nI q := by
  refine ⟨rg_wI (rg_wI x 40 6 (nI f)) 40 7 (nI q), ?_, (FXp.wI (by omega)).trans (FXp.wI (by omega)), ?_, wI_s _ _ _ _⟩
  · unfold fX8_fail
    exact ob_v (rg_pI rfl rfl _) (ob_v (rg_pI rfl rfl _) rfl)
  · rw [wI_n _ _ (by omega), wI_s]
theorem x_nx (h : kX x c p) : ∃ v x', fX8_contentByte X (rg_p lX B w0 x) (B + 40) = some (v, rg_p lX B w0 x') ∧ oX x c (sgN c p) 256 v x' := by
  have hh := h
  obtain ⟨h1, h2, h3, h4, h5, ⟨h7, h7b, h7d, h7c⟩, h9⟩ := h
  unfold sgN fX8_contentByte
  by_cases e1 : c.2.2.1 ≤ p
  · obtain ⟨x', e, F, f1, f2⟩ := x_fail (X := X) (B := B) (w0 := w0) (x := x) (f := 5) (q := c.2.2.2)
    rw [if_pos e1]
    refine ⟨-1, x', ?_, F, Or.inl ⟨_, rfl, rfl, ftX.i f1 f2 (by decide) (by decide) (by omega)⟩⟩
    refine ob_v (rg_I rfl rfl) (ob_v (rg_I rfl rfl) ?_)
    rw [h1, h3]
    refine ei_n (nI_nlt e1 (by omega)) (ob_v (rg_I rfl rfl) (ob_v (rg_O rfl) ?_))
    rw [h2]
    exact ob_v e rfl
  · rw [if_neg e1]
    by_cases e2 : c.2.1 ≤ p
    · obtain ⟨x', e, F, f1, f2⟩ := x_fail (X := X) (B := B) (w0 := w0) (x := x) (f := 1) (q := c.2.1)
      rw [if_pos e2]
      refine ⟨-1, x', ?_, F, Or.inl ⟨_, rfl, rfl, ftX.i f1 f2 (by decide) (by decide) (by omega)⟩⟩
      refine ob_v (rg_I rfl rfl) (ob_v (rg_I rfl rfl) ?_)
      rw [h1, h3]
      refine ei_t (nI_lt (by omega) (by omega)) (ob_v (rg_I rfl rfl) (ob_v (rg_C rfl rfl) (ob_v (rg_I rfl rfl) ?_)))
      rw [h1, h5]
      refine ei_n (nI_nlt e2 (by omega)) (ob_v (rg_C rfl rfl) (ob_v (rg_I rfl rfl) (ob_v (rg_O rfl) ?_)))
      rw [h5]
      exact ob_v e rfl
    · rw [if_neg e2]
      have F : FXp x (rg_wI x 40 8 (nI (p + 1))) := FXp.wI (by omega)
      refine ⟨nI (c.1 p), rg_wI x 40 8 (nI (p + 1)), ?_, F, Or.inr ⟨_, _, rfl, (h9 p (by omega)).2, rfl, hh.k F (by rw [wI_n _ _ (by omega)]; exact h4) (wI_s _ _ _ _) (by omega)⟩⟩
      refine ob_v (rg_I rfl rfl) (ob_v (rg_I rfl rfl) ?_)
      rw [h1, h3]
      refine ei_t (nI_lt (by omega) (by omega)) (ob_v (rg_I rfl rfl) (ob_v (rg_C rfl rfl) (ob_v (rg_I rfl rfl) ?_)))
      rw [h1, h5]
      refine ei_t (nI_lt (by omega) (by omega)) (ob_v (rg_I rfl rfl) ?_)
      rw [h1, nI_1]
      refine ob_v (rg_pI rfl rfl _) (ob_v (rg_C rfl rfl) (ob_v (rg_I rfl rfl) (ob_v (rg_O rfl) ?_)))
      rw [wI_s, show nI (p + 1) - 1 = nI p from pk_sub (a := p + 1) (b := 1) (by omega)]
      refine ob_v (x_at (o := 1) (n := c.2.1) (k := p) (Or.inl rfl) (by rw [wI_n _ _ (by omega)]; exact h5) h7 (by omega)) ?_
      dsimp only
      rw [wI_2, (h9 p (by omega)).1]
theorem ne1 {u : Nat} (h : u < 1000000) : ¬ nI u = -1 := by
  intro e
  have := congrArg Int32.toInt e
  rw [show ((-1 : Int32)).toInt = -1 by decide, nI_toInt (by omega)] at this
  omega
theorem x_ref (h : kX x c p) (hp : 1 ≤ p) : ∃ x', fX8_refuse X (rg_p lX B w0 x) (B + 40) = some (0, rg_p lX B w0 x') ∧ FXp x x' ∧ ftX x' (6, p - 1) := by
  obtain ⟨x', e, F, f1, f2⟩ := x_fail (X := X) (B := B) (w0 := w0) (x := x) (f := 6) (q := p - 1)
  have := h.2.2.2.2.2.1
  refine ⟨x', ?_, F, ftX.i f1 f2 (by decide) (by decide) (by omega)⟩
  unfold fX8_refuse
  refine ob_v (rg_I rfl rfl) (ob_v (rg_O rfl) ?_)
  rw [h.1, show nI p - 1 = nI (p - 1) from pk_sub (b := 1) hp]
  exact ob_v e rfl
theorem x_20 (h : kX x c p) (hp : 1 ≤ p) : ∃ x', fX8_byteIn_20 X (B + 40) (rg_p lX B w0 x) = some (-1, rg_p lX B w0 x') ∧ fX8_numberIn_50 X (B + 40) (rg_p lX B w0 x) = some (-1, rg_p lX B w0 x') ∧ FXp x x' ∧ ftX x' (6, p - 1) := by
  obtain ⟨x', e, F, f1, f2⟩ := x_fail (X := X) (B := B) (w0 := w0) (x := x) (f := 6) (q := p - 1)
  have := h.2.2.2.2.2.1
  refine ⟨x', ?_, ?_, F, ftX.i f1 f2 (by decide) (by decide) (by omega)⟩
  · unfold fX8_byteIn_20
    refine ob_v (rg_I rfl rfl) (ob_v (rg_O rfl) ?_)
    rw [h.1, show nI p - 1 = nI (p - 1) from pk_sub (b := 1) hp]
    exact ob_v e rfl
  · unfold fX8_numberIn_50
    refine ob_v (rg_I rfl rfl) (ob_v (rg_O rfl) ?_)
    rw [h.1, show nI p - 1 = nI (p - 1) from pk_sub (b := 1) hp]
    exact ob_v e rfl
theorem sgN_p {u q : Nat} (e : sgN c p = .inr (u, q)) : q = p + 1 ∧ p < c.2.2.1 ∧ p < c.2.1 ∧ u = c.1 p := by
  unfold sgN at e
  split at e
  · cases e
  · split at e
    · cases e
    · have := Sum.inr.inj e
      have h1 := congrArg Prod.fst this
      have h2 := congrArg Prod.snd this
      exact ⟨h2.symm, by omega, by omega, h1.symm⟩
theorem x_in (h : kX x c p) (hl : lo < 65536) (hh : hi < 65536) : ∃ v x', fX8_byteIn X (rg_p lX B w0 x) (B + 40) (nI lo) (nI hi) = some (v, rg_p lX B w0 x') ∧ oX x c (sgI c lo hi p) 256 v x' := by
  obtain ⟨v, x1, e1, F1, o1⟩ := x_nx (X := X) (B := B) (w0 := w0) h
  unfold fX8_byteIn sgI
  rcases o1 with ⟨f, r1, r2, r3⟩ | ⟨u, q, r1, r2, r3, r4⟩
  · rw [r1]
    refine ⟨-1, x1, ob_v (rg_O rfl) (ob_v e1 (ei_t r2 ?_)), F1, Or.inl ⟨f, rfl, rfl, r3⟩⟩
    dsimp only
    rw [r2]
  · have hq := sgN_p r1
    rw [r1]
    show ∃ v x', _ ∧ oX x c (if u < lo ∨ hi < u then .inl (6, p) else .inr (u, q)) 256 v x'
    obtain ⟨x2, e2, _, F2, f2⟩ := x_20 (X := X) (B := B) (w0 := w0) r4 (by omega)
    rw [show (6, q - 1) = (6, p) by rw [hq.1]; rfl] at f2
    have nv : ¬ v = -1 := by rw [r3]; exact ne1 (by omega)
    by_cases d1 : u < lo
    · rw [if_pos (Or.inl d1)]
      exact ⟨-1, x2, ob_v (rg_O rfl) (ob_v e1 (ei_n nv (ei_t (by show v < nI lo; rw [r3]; exact nI_lt d1 (by omega)) e2))), F1.trans F2, Or.inl ⟨_, rfl, rfl, f2⟩⟩
    · by_cases d2 : hi < u
      · rw [if_pos (Or.inr d2)]
        exact ⟨-1, x2, ob_v (rg_O rfl) (ob_v e1 (ei_n nv (ei_n (by show ¬ v < nI lo; rw [r3]; exact nI_nlt (by omega) (by omega)) (ei_n (by show ¬ v ≤ nI hi; rw [r3]; exact nI_ge d2 (by omega)) e2)))), F1.trans F2, Or.inl ⟨_, rfl, rfl, f2⟩⟩
      · rw [if_neg (by omega)]
        exact ⟨v, x1, ob_v (rg_O rfl) (ob_v e1 (ei_n nv (ei_n (by show ¬ v < nI lo; rw [r3]; exact nI_nlt (by omega) (by omega)) (ei_t (by show v ≤ nI hi; rw [r3]; exact nI_le (by omega) (by omega)) rfl)))), F1, Or.inr ⟨u, q, rfl, r2, r3, r4⟩⟩
theorem x_tw (h : kX x c p) (hl : lo < 65536) (hh : hi < 65536) : ∃ v x', fX8_numberIn X (rg_p lX B w0 x) (B + 40) (nI lo) (nI hi) = some (v, rg_p lX B w0 x') ∧ oX x c (sgU c lo hi p) 65536 v x' := by
  obtain ⟨v, x1, e1, F1, o1⟩ := x_nx (X := X) (B := B) (w0 := w0) h
  unfold fX8_numberIn sgU sgT
  rcases o1 with ⟨f, r1, r2, r3⟩ | ⟨u, q, r1, r2, r3, r4⟩
  · rw [r1]
    refine ⟨-1, x1, ob_v (rg_O rfl) (ob_v e1 (ei_t r2 ?_)), F1, Or.inl ⟨f, rfl, rfl, r3⟩⟩
    unfold fX8_numberIn_18
    exact ei_t rfl rfl
  · have hq := sgN_p r1
    rw [r1]
    have nv : ¬ v = -1 := by rw [r3]; exact ne1 (by omega)
    obtain ⟨v2, x2, e2, F2, o2⟩ := x_nx (X := X) (B := B) (w0 := w0) r4
    rcases o2 with ⟨f, s1, s2, s3⟩ | ⟨u2, q2, s1, s2, s3, s4⟩
    · show ∃ v x', _ ∧ oX x c (sgB (sgB (sgN c q) fun d => .inr (256 * u + d.1, d.2)) _) 65536 v x'
      rw [s1]
      refine ⟨-1, x2, ob_v (rg_O rfl) (ob_v e1 (ei_n nv (ob_v (rg_O rfl) (ob_v e2 ?_)))), F1.trans F2, Or.inl ⟨f, rfl, rfl, s3⟩⟩
      unfold fX8_numberIn_18
      exact ei_t s2 rfl
    · have hq2 := sgN_p s1
      show ∃ v x', _ ∧ oX x c (sgB (sgB (sgN c q) fun d => .inr (256 * u + d.1, d.2)) _) 65536 v x'
      rw [s1]
      show ∃ v x', _ ∧ oX x c (if 256 * u + u2 < lo ∨ hi < 256 * u + u2 then .inl (6, p + 1) else .inr (256 * u + u2, q2)) 65536 v x'
      obtain ⟨x3, _, e3, F3, f3⟩ := x_20 (X := X) (B := B) (w0 := w0) s4 (by omega)
      rw [show (6, q2 - 1) = (6, p + 1) by rw [hq2.1, hq.1]; rfl] at f3
      have nv2 : ¬ v2 = -1 := by rw [s3]; exact ne1 (by omega)
      have ev : (256 : Int32) * v + v2 = nI (256 * u + u2) := by rw [r3, s3, show (256 : Int32) = nI 256 from rfl, pk_mul, nI_add]
      have st : ∀ r, (if nI (256 * u + u2) < nI lo then fX8_numberIn_50 X (B + 40) (rg_p lX B w0 x2) else if nI (256 * u + u2) ≤ nI hi then some (nI (256 * u + u2), rg_p lX B w0 x2) else fX8_numberIn_50 X (B + 40) (rg_p lX B w0 x2)) = r → fX8_numberIn_18 X (B + 40) (nI lo) (nI hi) v v2 (rg_p lX B w0 x2) = r := by
        intro r hr
        unfold fX8_numberIn_18
        rw [ev]
        exact ei_n nv2 hr
      by_cases d1 : 256 * u + u2 < lo
      · rw [if_pos (Or.inl d1)]
        exact ⟨-1, x3, ob_v (rg_O rfl) (ob_v e1 (ei_n nv (ob_v (rg_O rfl) (ob_v e2 (st _ (ei_t (nI_lt d1 (by omega)) e3)))))), (F1.trans F2).trans F3, Or.inl ⟨_, rfl, rfl, f3⟩⟩
      · by_cases d2 : hi < 256 * u + u2
        · rw [if_pos (Or.inr d2)]
          exact ⟨-1, x3, ob_v (rg_O rfl) (ob_v e1 (ei_n nv (ob_v (rg_O rfl) (ob_v e2 (st _ (ei_n (nI_nlt (by omega) (by omega)) (ei_n (nI_ge d2 (by omega)) e3))))))), (F1.trans F2).trans F3, Or.inl ⟨_, rfl, rfl, f3⟩⟩
        · rw [if_neg (by omega)]
          exact ⟨_, x2, ob_v (rg_O rfl) (ob_v e1 (ei_n nv (ob_v (rg_O rfl) (ob_v e2 (st _ (ei_n (nI_nlt (by omega) (by omega)) (ei_t (nI_le (by omega) (by omega)) rfl))))))), F1.trans F2, Or.inr ⟨_, q2, rfl, by omega, rfl, s4⟩⟩
/-- the contents end here -/
theorem x_ends1 (h : kX x c p) : ∃ v x', fX8_endsHere X (rg_p lX B w0 x) (B + 40) = some (v, rg_p lX B w0 x') ∧ FXp x x' ∧ ((p = c.2.2.1 ∧ v = 1 ∧ x' = x) ∨ (p ≠ c.2.2.1 ∧ v = 0 ∧ ftX x' (5, c.2.2.2))) := by
  obtain ⟨h1, h2, h3, h4, h5, ⟨h7, h7b, h7d, h7c⟩, h9⟩ := h
  by_cases q : p = c.2.2.1
  · refine ⟨1, x, ?_, FXp.rfl, Or.inl ⟨q, rfl, rfl⟩⟩
    unfold fX8_endsHere
    refine ob_v (rg_I rfl rfl) (ob_v (rg_I rfl rfl) ?_)
    rw [h1, h3]
    exact ei_t (by rw [q]) rfl
  · obtain ⟨x', e, F, f1, f2⟩ := x_fail (X := X) (B := B) (w0 := w0) (x := x) (f := 5) (q := c.2.2.2)
    refine ⟨0, x', ?_, F, Or.inr ⟨q, rfl, ftX.i f1 f2 (by decide) (by decide) (by omega)⟩⟩
    unfold fX8_endsHere
    refine ob_v (rg_I rfl rfl) (ob_v (rg_I rfl rfl) ?_)
    rw [h1, h3]
    refine ei_n (fun e => q ((nI_eq (by omega) (by omega)).mp e)) (ob_v (rg_I rfl rfl) (ob_v (rg_O rfl) ?_))
    rw [h2]
    exact ob_v e rfl
end
