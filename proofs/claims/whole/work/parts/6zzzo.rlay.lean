/-! the members and parts of a scan that is read, laid out by the class -/
def FXl (x x' : rg_S) : Prop := (∀ p k, ¬ (p = 41 ∧ (k = 11 ∨ k = 12 ∨ k = 13)) → x'.1 p k = x.1 p k) ∧ x'.2.1 = x.2.1 ∧ (∀ p, ¬ (46 ≤ p ∧ p ≤ 48) → x'.2.2.1 p = x.2.2.1 p) ∧ x'.2.2.2 = x.2.2.2
theorem FXl.rfl {x : rg_S} : FXl x x := ⟨fun _ _ _ => Eq.refl _, Eq.refl _, fun _ _ => Eq.refl _, Eq.refl _⟩
theorem FXl.trans {x x1 x2 : rg_S} (h : FXl x x1) (h2 : FXl x1 x2) : FXl x x2 := ⟨fun p k a => (h2.1 p k a).trans (h.1 p k a), h2.2.1.trans h.2.1, fun p a => (h2.2.2.1 p a).trans (h.2.2.1 p a), h2.2.2.2.trans h.2.2.2⟩
theorem FXl.wI {x : rg_S} {k : Nat} {v : Int32} (h : k = 11 ∨ k = 12 ∨ k = 13) : FXl x (rg_wI x 41 k v) := ⟨fun p k' hk => wI_n _ _ (by omega), Eq.refl _, fun _ _ => Eq.refl _, Eq.refl _⟩
def lyR (x : rg_S) (P : Nat) (g : gG) (cm : Nat → Nat) (mm : Nat) : Prop := xPic x P g ∧ x.1 41 0 = nI mm ∧ ∀ i, i < mm → x.2.2.1 42 i = nI (cm i)
def rPt (g : gG) (cm : Nat → Nat) (mm q : Nat) (x : rg_S) : Prop := x.1 41 13 = nI q ∧ ∀ i j, i < mm → j < uB g mm (cm i) → uO g cm mm i + j < q → x.2.2.1 46 (uO g cm mm i + j) = nI i ∧ x.2.2.1 47 (uO g cm mm i + j) = nI (j % g.2.2.2.1 (cm i)) ∧ x.2.2.1 48 (uO g cm mm i + j) = nI (j / g.2.2.2.1 (cm i))
def uR (x : rg_S) (P : Nat) (g : gG) (cm : Nat → Nat) (mm : Nat) : Prop := lyR x P g cm mm ∧ x.1 41 11 = nI (uU g cm mm) ∧ x.1 41 12 = nI (if mm = 1 then gOA g (cm 0) else gUA g) ∧ rPt g cm mm (uO g cm mm mm) x
section
variable {X : px_X} {b B : Nat} {w0 w1 : px_W} {x x' y : rg_S} {mm P i j u q : Nat} {g : gG} {cm : Nat → Nat}
theorem uO_inj {i i' j j' : Nat} (h : j < uB g mm (cm i)) (h' : j' < uB g mm (cm i')) (e : uO g cm mm i + j = uO g cm mm i' + j') : i = i' ∧ j = j' := by
  have k1 : uO g cm mm (i + 1) = uO g cm mm i + uB g mm (cm i) := rfl
  have k2 : uO g cm mm (i' + 1) = uO g cm mm i' + uB g mm (cm i') := rfl
  rcases Nat.lt_trichotomy i i' with l | l | l
  · have := uO_mono (g := g) (cm := cm) (mm := mm) (show i + 1 ≤ i' by omega)
    omega
  · subst l
    exact ⟨rfl, by omega⟩
  · have := uO_mono (g := g) (cm := cm) (mm := mm) (show i' + 1 ≤ i by omega)
    omega
theorem lyR.fl (hP : isP P) (h : lyR x P g cm mm) (F : FXl x x') : lyR x' P g cm mm := by
  unfold isP at hP
  unfold lyR xPic xFr at *
  rw [F.1 P 0 (by omega), F.1 P 1 (by omega), F.1 P 2 (by omega), F.1 P 3 (by omega), F.1 P 4 (by omega), F.1 P 5 (by omega), F.1 41 0 (by omega), F.2.2.1 42 (by omega), F.2.2.1 (P + 1) (by omega), F.2.2.1 (P + 2) (by omega), F.2.2.1 (P + 3) (by omega), F.2.2.1 (P + 4) (by omega), F.2.2.1 (P + 5) (by omega)]
  exact h
theorem x_rpart {xx yy : Nat} (h : rPt g cm mm (uO g cm mm i + j) x) (h10 : uO g cm mm i + j < 10) (hi : i < mm) (hj : j < uB g mm (cm i)) (ex : j % g.2.2.2.1 (cm i) = xx) (ey : j / g.2.2.2.1 (cm i) = yy) : ∃ x', fX5_addPart X (rg_p lX B w0 x) (B + 41) (nI i) (nI xx) (nI yy) = some (rg_p lX B w0 x') ∧ rPt g cm mm (uO g cm mm i + (j + 1)) x' ∧ FXl x x' ∧ x'.1 41 11 = x.1 41 11 ∧ x'.1 41 12 = x.1 41 12 := by
  obtain ⟨h13, hh⟩ := h
  generalize hq : uO g cm mm i + j = q at *
  refine ⟨rg_wI (rg_wA (rg_wA (rg_wA x 46 (upd (x.2.2.1 46) q (nI i))) 47 (upd (x.2.2.1 47) q (nI xx))) 48 (upd (x.2.2.1 48) q (nI yy))) 41 13 (nI (q + 1)), ?_, ⟨?_, ?_⟩, ⟨?_, rfl, ?_, rfl⟩, ?_, ?_⟩
  · unfold fX5_addPart
    refine ob_v (rg_I rfl rfl) ?_
    rw [h13]
    refine ei_n (nI_ge (b := 10) h10 (by omega)) (ob_v (rg_C rfl rfl) (ob_v (rg_I rfl rfl) ?_))
    rw [h13]
    refine ob_v (rg_sA _ rfl (by decide) _ _ h10 (by decide)) (ob_v (rg_C rfl rfl) (ob_v (rg_I rfl rfl) ?_))
    rw [wA_1, h13]
    refine ob_v (rg_sA _ rfl (by decide) _ _ h10 (by decide)) (ob_v (rg_C rfl rfl) (ob_v (rg_I rfl rfl) ?_))
    rw [wA_1, wA_1, h13]
    refine ob_v (rg_sA _ rfl (by decide) _ _ h10 (by decide)) (ob_v (rg_I rfl rfl) ?_)
    rw [wA_1, wA_1, wA_1, h13, nI_1]
    refine ob_v (rg_pI rfl rfl _) ?_
    rw [wA_n _ _ (show (47 : Nat) ≠ 46 by decide), wA_n _ _ (show (48 : Nat) ≠ 47 by decide), wA_n _ _ (show (48 : Nat) ≠ 46 by decide)]
    rfl
  · rw [wI_s]
    congr 1
    omega
  · intro i' j' hi' hj' hlt
    rw [wI_2, wA_n _ _ (show (46 : Nat) ≠ 48 by decide), wA_n _ _ (show (46 : Nat) ≠ 47 by decide), wA_s, wA_n _ _ (show (47 : Nat) ≠ 48 by decide), wA_s, wA_s]
    by_cases e : uO g cm mm i' + j' = q
    · obtain ⟨e1, e2⟩ := uO_inj hj' hj (e.trans hq.symm)
      rw [e, pk_us, pk_us, pk_us, e1, e2, ex, ey]
      exact ⟨rfl, rfl, rfl⟩
    · rw [pk_un e, pk_un e, pk_un e]
      exact hh i' j' hi' hj' (by omega)
  · intro p k hk
    rw [wI_n _ _ (by omega), wA_1, wA_1, wA_1]
  · intro p hp
    rw [wI_2, wA_n _ _ (by omega), wA_n _ _ (by omega), wA_n _ _ (by omega)]
  · rw [wI_n _ _ (by omega), wA_1, wA_1, wA_1]
  · rw [wI_n _ _ (by omega), wA_1, wA_1, wA_1]
theorem x_rl115 (hP : isP P) (hg : gOk g) (hm : mOk g cm mm) (m1 : mm ≠ 1) (hi : i < mm) {yy : Nat} (hy : yy < g.2.2.2.2 (cm i)) {k87 : Nat → Nat → Int32 → px_W → Option (px_W)} {k97 : Nat → Nat → Int32 → Int32 → px_W → Option (px_W)} : ∀ (k M l : Nat) (x : rg_S), l + k = g.2.2.2.1 (cm i) → k < M → lyR x P g cm mm → rPt g cm mm (uO g cm mm i + (yy * g.2.2.2.1 (cm i) + l)) x → ∃ x', fX5_layOut_115 X k87 k97 M (B + 41) (B + P) (nI i) (nI yy) (nI l) (rg_p lX B w0 x) = k97 (B + 41) (B + P) (nI i) (nI (yy + 1)) (rg_p lX B w0 x') ∧ rPt g cm mm (uO g cm mm i + (yy + 1) * g.2.2.2.1 (cm i)) x' ∧ FXl x x' ∧ x'.1 41 11 = x.1 41 11 ∧ x'.1 41 12 = x.1 41 12 := by
  have hc := hm.2.2.1 i hi
  have f := hg.2.2.2.2.2.2 (cm i) hc
  have h4 := hg.2.2.2.2.2.1
  have hmm := hm.2.1
  have sB : uB g mm (cm i) = g.2.2.2.1 (cm i) * g.2.2.2.2 (cm i) := if_neg m1
  intro k
  induction k with
  | zero =>
    intro M l x hl0 hM hl h
    obtain rfl : l = g.2.2.2.1 (cm i) := by omega
    obtain ⟨M, rfl⟩ : ∃ M', M = M' + 1 := ⟨M - 1, by omega⟩
    refine ⟨x, ?_, ?_, FXl.rfl, rfl, rfl⟩
    · rw [fX5_layOut_115.eq_2]
      refine ob_v (rg_C hP.o rfl) (ob_v (rg_C rfl rfl) (ob_v (rg_A rfl (by decide) _ (by omega) (by decide)) ?_))
      rw [hl.2.2 i hi]
      refine ob_v (rg_A hP.a1 (by decide) _ (by omega) (by decide)) ?_
      rw [hl.1.1.2.2.2.1 (cm i) hc]
      refine ei_t (nI_le (Nat.le_refl _) (by omega)) ?_
      unfold fX5_layOut_145
      rw [nI_1]
    · rw [Nat.succ_mul]
      exact h
  | succ k ih =>
    intro M l x hl0 hM hl h
    obtain ⟨M, rfl⟩ : ∃ M', M = M' + 1 := ⟨M - 1, by omega⟩
    have hjl : yy * g.2.2.2.1 (cm i) + l < g.2.2.2.1 (cm i) * g.2.2.2.2 (cm i) := rc_lt hy (by omega)
    obtain ⟨x1, e1, h1, F1, u1, u2⟩ := x_rpart (X := X) (B := B) (w0 := w0) (xx := l) (yy := yy) h (hm.o hi (by omega)) hi (by omega) (by rw [Nat.mul_comm, Nat.mul_add_mod]; exact Nat.mod_eq_of_lt (by omega)) (by rw [Nat.mul_comm, Nat.mul_add_div (by omega), Nat.div_eq_of_lt (by omega), Nat.add_zero])
    obtain ⟨x2, e2, h2, F2, v1, v2⟩ := ih M (l + 1) x1 (by omega) (by omega) (hl.fl hP F1) h1
    refine ⟨x2, ?_, h2, F1.trans F2, v1.trans u1, v2.trans u2⟩
    rw [fX5_layOut_115.eq_2]
    refine ob_v (rg_C hP.o rfl) (ob_v (rg_C rfl rfl) (ob_v (rg_A rfl (by decide) _ (by omega) (by decide)) ?_))
    rw [hl.2.2 i hi]
    refine ob_v (rg_A hP.a1 (by decide) _ (by omega) (by decide)) ?_
    rw [hl.1.1.2.2.2.1 (cm i) hc]
    refine ei_n (nI_ge (by omega) (by omega)) (ob_v (rg_O rfl) (ob_v e1 ?_))
    rw [nI_1]
    exact e2
theorem x_rl97 (hP : isP P) (hg : gOk g) (hm : mOk g cm mm) (m1 : mm ≠ 1) (hi : i < mm) {k87 : Nat → Nat → Int32 → px_W → Option (px_W)} : ∀ (k M yy : Nat) (x : rg_S), yy + k = g.2.2.2.2 (cm i) → k < M → lyR x P g cm mm → rPt g cm mm (uO g cm mm i + yy * g.2.2.2.1 (cm i)) x → ∃ x', fX5_layOut_97 X k87 M (B + 41) (B + P) (nI i) (nI yy) (rg_p lX B w0 x) = k87 (B + 41) (B + P) (nI (i + 1)) (rg_p lX B w0 x') ∧ rPt g cm mm (uO g cm mm (i + 1)) x' ∧ FXl x x' ∧ x'.1 41 11 = x.1 41 11 ∧ x'.1 41 12 = x.1 41 12 := by
  have hc := hm.2.2.1 i hi
  have f := hg.2.2.2.2.2.2 (cm i) hc
  have h4 := hg.2.2.2.2.2.1
  have hmm := hm.2.1
  have sB : uB g mm (cm i) = g.2.2.2.1 (cm i) * g.2.2.2.2 (cm i) := if_neg m1
  have mono1 : uO g cm mm (i + 1) = uO g cm mm i + uB g mm (cm i) := rfl
  intro k
  induction k with
  | zero =>
    intro M yy x hy0 hM hl h
    obtain rfl : yy = g.2.2.2.2 (cm i) := by omega
    obtain ⟨M, rfl⟩ : ∃ M', M = M' + 1 := ⟨M - 1, by omega⟩
    refine ⟨x, ?_, ?_, FXl.rfl, rfl, rfl⟩
    · rw [fX5_layOut_97.eq_2]
      refine ob_v (rg_C hP.o rfl) (ob_v (rg_C rfl rfl) (ob_v (rg_A rfl (by decide) _ (by omega) (by decide)) ?_))
      rw [hl.2.2 i hi]
      refine ob_v (rg_A hP.a2 (by decide) _ (by omega) (by decide)) ?_
      rw [hl.1.1.2.2.2.2 (cm i) hc]
      refine ei_t (nI_le (Nat.le_refl _) (by omega)) ?_
      unfold fX5_layOut_151
      rw [nI_1]
    · rw [mono1, sB, Nat.mul_comm (g.2.2.2.1 (cm i))]
      exact h
  | succ k ih =>
    intro M yy x hy0 hM hl h
    obtain ⟨M, rfl⟩ : ∃ M', M = M' + 1 := ⟨M - 1, by omega⟩
    obtain ⟨x1, e1, h1, F1, u1, u2⟩ := x_rl115 (X := X) (B := B) (w0 := w0) (k87 := k87) (k97 := fX5_layOut_97 X k87 M) hP hg hm m1 hi (show yy < g.2.2.2.2 (cm i) by omega) (g.2.2.2.1 (cm i)) FU 0 x (by omega) (by unfold FU; omega) hl h
    obtain ⟨x2, e2, h2, F2, v1, v2⟩ := ih M (yy + 1) x1 (by omega) (by omega) (hl.fl hP F1) h1
    refine ⟨x2, ?_, h2, F1.trans F2, v1.trans u1, v2.trans u2⟩
    rw [fX5_layOut_97.eq_2]
    refine ob_v (rg_C hP.o rfl) (ob_v (rg_C rfl rfl) (ob_v (rg_A rfl (by decide) _ (by omega) (by decide)) ?_))
    rw [hl.2.2 i hi]
    refine ob_v (rg_A hP.a2 (by decide) _ (by omega) (by decide)) ?_
    rw [hl.1.1.2.2.2.2 (cm i) hc]
    refine ei_n (nI_ge (by omega) (by omega)) ?_
    exact (show fX5_layOut_115 X k87 (fX5_layOut_97 X k87 M) FU (B + 41) (B + P) (nI i) (nI yy) (nI 0) _ = _ from e1).trans e2
theorem x_rl87 (hP : isP P) (hg : gOk g) (hm : mOk g cm mm) (m1 : mm ≠ 1) : ∀ (k M i : Nat) (x : rg_S), i + k = mm → k < M → lyR x P g cm mm → rPt g cm mm (uO g cm mm i) x → ∃ x', fX5_layOut_87 X M (B + 41) (B + P) (nI i) (rg_p lX B w0 x) = some (rg_p lX B w0 x') ∧ rPt g cm mm (uO g cm mm mm) x' ∧ FXl x x' ∧ x'.1 41 11 = x.1 41 11 ∧ x'.1 41 12 = x.1 41 12 := by
  have h4 := hg.2.2.2.2.2.1
  have hmm := hm.2.1
  intro k
  induction k with
  | zero =>
    intro M i x hi hM hl h
    obtain rfl : i = mm := by omega
    obtain ⟨M, rfl⟩ : ∃ M', M = M' + 1 := ⟨M - 1, by omega⟩
    refine ⟨x, ?_, h, FXl.rfl, rfl, rfl⟩
    rw [fX5_layOut_87.eq_2]
    refine ob_v (rg_I rfl rfl) ?_
    rw [hl.2.1]
    exact ei_t (nI_le (Nat.le_refl _) (by omega)) rfl
  | succ k ih =>
    intro M i x hi hM hl h
    obtain ⟨M, rfl⟩ : ∃ M', M = M' + 1 := ⟨M - 1, by omega⟩
    have f := hg.2.2.2.2.2.2 (cm i) (hm.2.2.1 i (by omega))
    obtain ⟨x1, e1, h1, F1, u1, u2⟩ := x_rl97 (X := X) (B := B) (w0 := w0) (k87 := fX5_layOut_87 X M) hP hg hm m1 (show i < mm by omega) (g.2.2.2.2 (cm i)) FU 0 x (by omega) (by unfold FU; omega) hl (by rw [Nat.zero_mul]; exact h)
    obtain ⟨x2, e2, h2, F2, v1, v2⟩ := ih M (i + 1) x1 (by omega) (by omega) (hl.fl hP F1) h1
    refine ⟨x2, ?_, h2, F1.trans F2, v1.trans u1, v2.trans u2⟩
    rw [fX5_layOut_87.eq_2]
    refine ob_v (rg_I rfl rfl) ?_
    rw [hl.2.1]
    refine ei_n (nI_ge (by omega) (by omega)) ?_
    exact (show fX5_layOut_97 X (fX5_layOut_87 X M) FU (B + 41) (B + P) (nI i) (nI 0) _ = _ from e1).trans e2
theorem x_rlay (hP : isP P) (hg : gOk g) (hm : mOk g cm mm) (hl : lyR x P g cm mm) : ∃ x', fX5_layOut X (rg_p lX B w0 x) (B + 41) (B + P) = some (rg_p lX B w0 x') ∧ uR x' P g cm mm ∧ FXl x x' := by
  have h4 := hg.2.2.2.2.2.1
  have hmm := hm.2.1
  have F0 : FXl x (rg_wI x 41 13 0) := FXl.wI (by omega)
  by_cases m1 : mm = 1
  · subst m1
    have hc0 : cm 0 < g.2.2.1 := hm.2.2.1 0 (by omega)
    have f := hg.2.2.2.2.2.2 (cm 0) hc0
    have e107 := hl.2.2 0 (by omega)
    generalize hx1 : rg_wI (rg_wI x 41 13 0) 41 12 (nI (gOA g (cm 0))) = x1
    have F1 : FXl x x1 := by
      rw [← hx1]
      exact F0.trans (FXl.wI (by omega))
    generalize hx2 : rg_wI x1 41 11 (nI (gOA g (cm 0) * gOD g (cm 0))) = x2
    have F2 : FXl x x2 := by
      rw [← hx2]
      exact F1.trans (FXl.wI (by omega))
    have q13 : x2.1 41 13 = nI 0 := by rw [← hx2, wI_n _ _ (by omega), ← hx1, wI_n _ _ (by omega), wI_s]; rfl
    have q12 : x2.1 41 12 = nI (gOA g (cm 0)) := by rw [← hx2, wI_n _ _ (by omega), ← hx1, wI_s]
    have q11 : x2.1 41 11 = nI (gOA g (cm 0) * gOD g (cm 0)) := by rw [← hx2, wI_s]
    have b0 : uB g 1 (cm 0) = 1 := rfl
    obtain ⟨x3, e3, h3, F3, u1, u2⟩ := x_rpart (X := X) (B := B) (w0 := w0) (x := x2) (g := g) (cm := cm) (mm := 1) (i := 0) (j := 0) (xx := 0) (yy := 0) ⟨q13, fun i j _ hj hlt => absurd hlt (by show ¬ _ < 0; omega)⟩ (by show 0 + 0 < 10; decide) (by decide) (by omega) (Nat.zero_mod _) (Nat.zero_div _)
    have h01 := hl.2.1
    refine ⟨x3, ?_, ⟨hl.fl hP (F2.trans F3), ?_, ?_, h3⟩, F2.trans F3⟩
    · unfold fX5_layOut
      refine ob_v (rg_pI rfl rfl _) (ob_v (rg_I rfl rfl) (ei_t (by rw [wI_n _ _ (by omega), h01]; rfl) (ob_v (rg_C rfl rfl) (ob_v (rg_A rfl (by decide) 0 (by decide) (by decide)) ?_))))
      rw [wI_2, e107]
      have lx0 := hl.fl hP F0
      have sa := x_sAcross (X := X) (B := B) (w0 := w0) hP hg lx0.1 hc0
      have mu : g.1 * g.2.2.2.1 (cm 0) ≤ 64 * 2 := Nat.mul_le_mul hg.2.1 f.1.2
      have mv : g.2.1 * g.2.2.2.2 (cm 0) ≤ 64 * 2 := Nat.mul_le_mul hg.2.2.2.1 f.2.2
      have hh := hg.h
      have hv := hg.v
      have ub : gUp (g.1 * g.2.2.2.1 (cm 0)) (gH g) < 65536 := Nat.lt_of_le_of_lt (Nat.div_le_self _ _) (by omega)
      have vb' : gUp (g.2.1 * g.2.2.2.2 (cm 0)) (gV_ g) < 65536 := Nat.lt_of_le_of_lt (Nat.div_le_self _ _) (by omega)
      refine ob_v (rg_O hP.o) (ob_v sa (ob_v (x_up8 ub) (ob_v (rg_pI rfl rfl _) (ob_v (rg_I rfl rfl) (ob_v (rg_C rfl rfl) (ob_v (rg_A rfl (by decide) 0 (by decide) (by decide)) ?_))))))
      dsimp only
      rw [show gUp (gUp (g.1 * g.2.2.2.1 (cm 0)) (gH g)) 8 = gOA g (cm 0) from rfl, hx1]
      have lx1 := hl.fl hP F1
      have e107' := lx1.2.2 0 (by omega)
      have sd := x_sDown (X := X) (B := B) (w0 := w0) hP hg lx1.1 hc0
      rw [e107']
      refine ob_v (rg_O hP.o) (ob_v sd (ob_v (x_up8 vb') ?_))
      dsimp only
      rw [show gUp (gUp (g.2.1 * g.2.2.2.2 (cm 0)) (gV_ g)) 8 = gOD g (cm 0) from rfl, show x1.1 41 12 = nI (gOA g (cm 0)) by rw [← hx1, wI_s], pk_mul]
      refine ob_v (rg_pI rfl rfl _) ?_
      rw [hx2]
      exact ob_v (rg_O rfl) (ob_v e3 rfl)
    · rw [u1, q11]
      unfold uU
      rw [if_pos rfl]
    · rw [u2, q12, if_pos rfl]
  · have ua := hg.ua
    have ud := hg.ud
    have nm : ¬ nI mm = 1 := fun e => m1 ((nI_eq (b := 1) (by omega) (by omega)).mp e)
    generalize hx1 : rg_wI (rg_wI x 41 13 0) 41 12 (nI (gUA g)) = x1
    have F1 : FXl x x1 := by
      rw [← hx1]
      exact F0.trans (FXl.wI (by omega))
    generalize hx2 : rg_wI x1 41 11 (nI (gUA g * gUD g)) = x2
    have F2 : FXl x x2 := by
      rw [← hx2]
      exact F1.trans (FXl.wI (by omega))
    have q13 : x2.1 41 13 = nI 0 := by rw [← hx2, wI_n _ _ (by omega), ← hx1, wI_n _ _ (by omega), wI_s]; rfl
    have q12 : x2.1 41 12 = nI (gUA g) := by rw [← hx2, wI_n _ _ (by omega), ← hx1, wI_s]
    have q11 : x2.1 41 11 = nI (gUA g * gUD g) := by rw [← hx2, wI_s]
    have lx2 := hl.fl hP F2
    obtain ⟨x3, e3, h3, F3, u1, u2⟩ := x_rl87 (X := X) (B := B) (w0 := w0) hP hg hm m1 mm FU 0 x2 (by omega) (by unfold FU; omega) lx2 ⟨q13, fun i j _ _ hlt => absurd hlt (by show ¬ _ < 0; omega)⟩
    refine ⟨x3, ?_, ⟨hl.fl hP (F2.trans F3), ?_, ?_, h3⟩, F2.trans F3⟩
    · unfold fX5_layOut
      have lx0 := hl.fl hP F0
      have lx1 := hl.fl hP F1
      refine ob_v (rg_pI rfl rfl _) (ob_v (rg_I rfl rfl) (ei_n (by rw [wI_n _ _ (by omega), hl.2.1]; exact nm) (ob_v (rg_O hP.o) (ob_v (x_unitsA hP hg lx0.1.1.1 lx0.1.2.1) (ob_v (rg_pI rfl rfl _) (ob_v (rg_I rfl rfl) ?_))))))
      dsimp only
      rw [hx1]
      refine ob_v (rg_O hP.o) (ob_v (x_unitsD hP hg lx1.1.1.2.1 lx1.1.2.2.1) ?_)
      dsimp only
      rw [show x1.1 41 12 = nI (gUA g) by rw [← hx1, wI_s], pk_mul]
      refine ob_v (rg_pI rfl rfl _) ?_
      rw [hx2]
      exact e3
    · rw [u1, q11]
      unfold uU
      rw [if_neg m1]
    · rw [u2, q12, if_neg m1]
theorem uU_lt (hg : gOk g) (hm : mOk g cm mm) : 1 ≤ uU g cm mm ∧ uU g cm mm ≤ 256 ∧ 1 ≤ (if mm = 1 then gOA g (cm 0) else gUA g) ∧ (if mm = 1 then gOA g (cm 0) else gUA g) ≤ 16 := by
  have ua := hg.ua
  have ud := hg.ud
  have hc0 : cm 0 < g.2.2.1 := hm.2.2.1 0 (by have := hm.1; omega)
  have oa := hg.oa hc0
  have od := hg.od hc0
  have ac := hg.ac hc0
  have dn := hg.dn hc0
  unfold uU
  by_cases m1 : mm = 1
  · rw [if_pos m1, if_pos m1]
    have : gOA g (cm 0) * gOD g (cm 0) ≤ 16 * 16 := Nat.mul_le_mul (by omega) (by omega)
    have : 1 * 1 ≤ gOA g (cm 0) * gOD g (cm 0) := Nat.mul_le_mul (by omega) (by omega)
    omega
  · rw [if_neg m1, if_neg m1]
    have : gUA g * gUD g ≤ 8 * 8 := Nat.mul_le_mul ua.2 ud.2
    have : 1 * 1 ≤ gUA g * gUD g := Nat.mul_le_mul (by omega) (by omega)
    omega
theorem x_rblockAt (q : uR x P g cm mm) (hP : isP P) (hg : gOk g) (hm : mOk g cm mm) (hu : u < uU g cm mm) (hi : i < mm) (hj : j < uB g mm (cm i)) : fX5_blockAt X (rg_p lX B w0 x) (B + 41) (B + P) (nI u) (nI (uO g cm mm i + j)) = some (nI (uT g mm u (cm i) j), rg_p lX B w0 x) := by
  obtain ⟨⟨⟨⟨q1, q2, q3, q4, q5⟩, _, _, _, q6⟩, u0, u42⟩, u11, u12, u13, uj⟩ := q
  have hp10 := hm.o hi hj
  have k1 : uO g cm mm (i + 1) = uO g cm mm i + uB g mm (cm i) := rfl
  have := uO_mono (g := g) (cm := cm) (mm := mm) (show i + 1 ≤ mm by omega)
  obtain ⟨j1, j2, j3⟩ := uj i j hi hj (by omega)
  have hc := hm.2.2.1 i hi
  obtain ⟨a1, a2, a3⟩ := q6 (cm i) hc
  have hn4 := hg.2.2.2.2.2.1
  have hmm := hm.2.1
  have ec := u42 i hi
  have ul := uU_lt hg hm
  obtain ⟨ub0, ub3, ub1, ub2⟩ := ul
  have k3 : mm = 1 → i = 0 ∧ j = 0 := by
    intro m1
    unfold uB at hj
    rw [if_pos m1] at hj
    omega
  have last : ∀ {wd tl : Nat}, fX5_blockAt_53 X (B + 41) (B + P) (nI u) (nI (uO g cm mm i + j)) (nI (cm i)) (nI wd) (nI tl) (rg_p lX B w0 x) = some (nI (gBs g (cm i) + (u / (if mm = 1 then gOA g (cm 0) else gUA g) * tl + j / g.2.2.2.1 (cm i)) * gAc g (cm i) + (u % (if mm = 1 then gOA g (cm 0) else gUA g) * wd + j % g.2.2.2.1 (cm i))), rg_p lX B w0 x) := by
    intro wd tl
    unfold fX5_blockAt_53
    refine ob_v (rg_I rfl rfl) ?_
    rw [u12]
    refine ob_v (rI_n (by omega) (by omega) (by omega)) (ob_v (rg_C rfl rfl) (ob_v (rg_A rfl (by decide) _ hp10 (by decide)) (ob_v (rg_I rfl rfl) ?_)))
    rw [u12]
    refine ob_v (dI_n (by omega) (by omega) (by omega)) (ob_v (rg_C rfl rfl) (ob_v (rg_A rfl (by decide) _ hp10 (by decide)) (ob_v (rg_C hP.o rfl) (ob_v (rg_A hP.a5 (by decide) _ (by omega) (by decide)) (ob_v (rg_C hP.o rfl) (ob_v (rg_A hP.a3 (by decide) _ (by omega) (by decide)) ?_))))))
    rw [j2, j3, a1, a3, pk_mul, nI_add, pk_mul, nI_add, pk_mul, nI_add, nI_add]
  have fin : (if mm = 1 then gBs g (cm i) + (u / gOA g (cm 0) * 1 + j / g.2.2.2.1 (cm i)) * gAc g (cm i) + (u % gOA g (cm 0) * 1 + j % g.2.2.2.1 (cm i)) else gBs g (cm i) + (u / gUA g * g.2.2.2.2 (cm i) + j / g.2.2.2.1 (cm i)) * gAc g (cm i) + (u % gUA g * g.2.2.2.1 (cm i) + j % g.2.2.2.1 (cm i))) = uT g mm u (cm i) j := by
    unfold uT scQ
    by_cases m1 : mm = 1
    · obtain ⟨e1, e2⟩ := k3 m1
      rw [if_pos m1, if_pos m1, e2, e1, Nat.zero_div, Nat.zero_mod, Nat.mul_one, Nat.mul_one, Nat.add_zero, Nat.add_zero, Nat.add_assoc]
    · rw [if_neg m1, if_neg m1, Nat.add_assoc]
  unfold fX5_blockAt
  refine ob_v (rg_C rfl rfl) (ob_v (rg_C rfl rfl) (ob_v (rg_A rfl (by decide) _ hp10 (by decide)) ?_))
  rw [j1]
  refine ob_v (rg_A rfl (by decide) _ (by omega) (by decide)) (ob_v (rg_I rfl rfl) ?_)
  rw [ec, u0]
  unfold fX5_blockAt_32
  by_cases m1 : mm = 1
  · rw [if_pos m1] at fin
    refine ei_t (by rw [m1]; rfl) (ob_v (rg_I rfl rfl) ?_)
    rw [u0]
    refine ei_t (by rw [m1]; rfl) ?_
    have := last (wd := 1) (tl := 1)
    rw [if_pos m1, fin] at this
    exact this
  · rw [if_neg m1] at fin
    have nm : ¬ nI mm = 1 := fun e => m1 ((nI_eq (b := 1) (by omega) (by omega)).mp e)
    refine ei_n nm (ob_v (rg_C hP.o rfl) (ob_v (rg_A hP.a1 (by decide) _ (by omega) (by decide)) (ob_v (rg_I rfl rfl) ?_)))
    rw [u0, q4 (cm i) hc]
    refine ei_n nm (ob_v (rg_C hP.o rfl) (ob_v (rg_A hP.a2 (by decide) _ (by omega) (by decide)) ?_))
    rw [q5 (cm i) hc]
    have := last (wd := g.2.2.2.1 (cm i)) (tl := g.2.2.2.2 (cm i))
    rw [if_neg m1, fin] at this
    exact this
theorem uR.f (hP : isP P) (h : uR x P g cm mm) (F : zFX P x x') : uR x' P g cm mm := by
  unfold isP at hP
  unfold uR lyR rPt xPic xFr at *
  rw [F.1 P 0 (by omega), F.1 P 1 (by omega), F.1 P 2 (by omega), F.1 P 3 (by omega), F.1 P 4 (by omega), F.1 P 5 (by omega), F.1 41 0 (by omega), F.1 41 11 (by omega), F.1 41 12 (by omega), F.1 41 13 (by omega), F.2.2.1 42 (by omega) (by omega), F.2.2.1 46 (by omega) (by omega), F.2.2.1 47 (by omega) (by omega), F.2.2.1 48 (by omega) (by omega), F.2.2.1 (P + 1) (by omega) (by omega), F.2.2.1 (P + 2) (by omega) (by omega), F.2.2.1 (P + 3) (by omega) (by omega), F.2.2.1 (P + 4) (by omega) (by omega), F.2.2.1 (P + 5) (by omega) (by omega)]
  exact h
end
