/-! a scan's members and parts, laid out by the class -/
section
variable {X : px_X} {b B : Nat} {w0 w1 : px_W} {x x' y : rg_S} {o n c0 m P c q : Nat} {g : gG}
theorem scO_inj {c c' j j' : Nat} (h : j < scB g c0 m c) (h' : j' < scB g c0 m c') (e : scO g c0 m c + j = scO g c0 m c' + j') : c = c' ∧ j = j' := by
  have k1 : scO g c0 m (c + 1) = scO g c0 m c + scB g c0 m c := rfl
  have k2 : scO g c0 m (c' + 1) = scO g c0 m c' + scB g c0 m c' := rfl
  rcases Nat.lt_trichotomy c c' with l | l | l
  · have := scO_mono (g := g) (c0 := c0) (m := m) (c := c + 1) (c' - (c + 1))
    rw [show c + 1 + (c' - (c + 1)) = c' by omega] at this
    omega
  · subst l
    exact ⟨rfl, by omega⟩
  · have := scO_mono (g := g) (c0 := c0) (m := m) (c := c' + 1) (c - (c' + 1))
    rw [show c' + 1 + (c - (c' + 1)) = c by omega] at this
    omega
/-- the first q parts are there -/
def LPt (g : gG) (c0 m q : Nat) (x : rg_S) : Prop := x.1 106 13 = nI q ∧ ∀ c j, c < g.2.2.1 → j < scB g c0 m c → scO g c0 m c + j < q → x.2.2.1 111 (scO g c0 m c + j) = nI (c - c0) ∧ x.2.2.1 112 (scO g c0 m c + j) = nI (j % g.2.2.2.1 c) ∧ x.2.2.1 113 (scO g c0 m c + j) = nI (j / g.2.2.2.1 c)
def FXy (x x' : rg_S) : Prop := (∀ p k, ¬ (p = 106 ∧ (k = 11 ∨ k = 12 ∨ k = 13)) → x'.1 p k = x.1 p k) ∧ x'.2.1 = x.2.1 ∧ ∀ p, ¬ (111 ≤ p ∧ p ≤ 113) → x'.2.2.1 p = x.2.2.1 p
theorem FXy.rfl {x : rg_S} : FXy x x := ⟨fun _ _ _ => Eq.refl _, Eq.refl _, fun _ _ => Eq.refl _⟩
theorem FXy.trans {x x1 x2 : rg_S} (h : FXy x x1) (h2 : FXy x1 x2) : FXy x x2 := ⟨fun p k a => (h2.1 p k a).trans (h.1 p k a), h2.2.1.trans h.2.1, fun p a => (h2.2.2 p a).trans (h.2.2 p a)⟩
theorem x_part1 {j xx yy : Nat} (h : LPt g c0 m (scO g c0 m c + j) x) (h10 : scO g c0 m c + j < 10) (hc : c < g.2.2.1) (hj : j < scB g c0 m c) (ex : j % g.2.2.2.1 c = xx) (ey : j / g.2.2.2.1 c = yy) : ∃ x', fX5_addPart X (rg_p lX B w0 x) (B + 106) (nI (c - c0)) (nI xx) (nI yy) = some (rg_p lX B w0 x') ∧ LPt g c0 m (scO g c0 m c + (j + 1)) x' ∧ FXy x x' ∧ x'.1 106 11 = x.1 106 11 ∧ x'.1 106 12 = x.1 106 12 := by
  obtain ⟨h13, hh⟩ := h
  generalize hq : scO g c0 m c + j = q at *
  refine ⟨rg_wI (rg_wA (rg_wA (rg_wA x 111 (upd (x.2.2.1 111) q (nI (c - c0)))) 112 (upd (x.2.2.1 112) q (nI xx))) 113 (upd (x.2.2.1 113) q (nI yy))) 106 13 (nI (q + 1)), ?_, ⟨?_, ?_⟩, ⟨?_, rfl, ?_⟩, ?_, ?_⟩
  · unfold fX5_addPart
    refine ob_v (rg_I rfl rfl) ?_
    rw [h13]
    refine ei_n (nI_ge (b := 10) h10 (by omega)) (ob_v (rg_C rfl rfl) (ob_v (rg_I rfl rfl) ?_))
    rw [h13]
    refine ob_v (rg_sA _ rfl (by decide) _ _ h10 (by decide)) (ob_v (rg_C rfl rfl) (ob_v (rg_I rfl rfl) ?_))
    rw [wA_1, h13]
    refine ob_v (rg_sA _ rfl (by decide) _ _ h10 (by decide)) (ob_v (rg_C rfl rfl) (ob_v (rg_I rfl rfl) ?_))
    rw [wA_1, wA_1, h13]
    refine ob_v (rg_sA _ rfl (by decide) _ _ h10 (by decide)) (ob_v (rg_I rfl rfl) ?_)
    rw [wA_1, wA_1, wA_1, h13, nI_1]
    refine ob_v (rg_pI rfl rfl _) ?_
    rw [wA_n _ _ (show (112 : Nat) ≠ 111 by decide), wA_n _ _ (show (113 : Nat) ≠ 112 by decide), wA_n _ _ (show (113 : Nat) ≠ 111 by decide)]
    rfl
  · rw [wI_s]
    congr 1
    omega
  · intro c' j' hc' hj' hlt
    rw [wI_2, wA_n _ _ (show (111 : Nat) ≠ 113 by decide), wA_n _ _ (show (111 : Nat) ≠ 112 by decide), wA_s, wA_n _ _ (show (112 : Nat) ≠ 113 by decide), wA_s, wA_s]
    by_cases e : scO g c0 m c' + j' = q
    · obtain ⟨e1, e2⟩ := scO_inj hj' hj (e.trans hq.symm)
      rw [e, pk_us, pk_us, pk_us, e1, e2, ex, ey]
      exact ⟨rfl, rfl, rfl⟩
    · rw [pk_un e, pk_un e, pk_un e]
      exact hh c' j' hc' hj' (by omega)
  · intro p k hk
    rw [wI_n _ _ (by omega), wA_1, wA_1, wA_1]
  · intro p hp
    rw [wI_2, wA_n _ _ (by omega), wA_n _ _ (by omega), wA_n _ _ (by omega)]
  · rw [wI_n _ _ (by omega), wA_1, wA_1, wA_1]
  · rw [wI_n _ _ (by omega), wA_1, wA_1, wA_1]
/-- what layOut finds in the picture and among the members -/
def lyX (x : rg_S) (P : Nat) (g : gG) (c0 m : Nat) : Prop := xPic x P g ∧ x.1 106 0 = nI m ∧ ∀ i, i < m → x.2.2.1 107 i = nI (c0 + i)
theorem lyX.fy (hP : isP P) (h : lyX x P g c0 m) (F : FXy x x') : lyX x' P g c0 m := by
  unfold isP at hP
  unfold lyX xPic xFr at *
  rw [F.1 P 0 (by omega), F.1 P 1 (by omega), F.1 P 2 (by omega), F.1 P 3 (by omega), F.1 P 4 (by omega), F.1 P 5 (by omega), F.1 106 0 (by omega), F.2.2 107 (by omega), F.2.2 (P + 1) (by omega), F.2.2 (P + 2) (by omega), F.2.2 (P + 3) (by omega), F.2.2 (P + 4) (by omega), F.2.2 (P + 5) (by omega)]
  exact h
theorem x_ly115 (hP : isP P) (hg : gOk g) (hm : m = g.2.2.1) (m1 : m ≠ 1) (h10 : scO g 0 m m ≤ 10) (hc : c < m) {yy : Nat} (hy : yy < g.2.2.2.2 c) {k87 : Nat → Nat → Int32 → px_W → Option (px_W)} {k97 : Nat → Nat → Int32 → Int32 → px_W → Option (px_W)} : ∀ (k M i : Nat) (x : rg_S), i + k = g.2.2.2.1 c → k < M → lyX x P g 0 m → LPt g 0 m (scO g 0 m c + (yy * g.2.2.2.1 c + i)) x → ∃ x', fX5_layOut_115 X k87 k97 M (B + 106) (B + P) (nI c) (nI yy) (nI i) (rg_p lX B w0 x) = k97 (B + 106) (B + P) (nI c) (nI (yy + 1)) (rg_p lX B w0 x') ∧ LPt g 0 m (scO g 0 m c + (yy + 1) * g.2.2.2.1 c) x' ∧ FXy x x' ∧ x'.1 106 11 = x.1 106 11 ∧ x'.1 106 12 = x.1 106 12 := by
  have f := hg.2.2.2.2.2.2 c (by omega)
  have h4 := hg.2.2.2.2.2.1
  have sB : scB g 0 m c = g.2.2.2.1 c * g.2.2.2.2 c := by
    unfold scB
    rw [if_pos (by omega), if_neg m1]
  have mono := scO_mono (g := g) (c0 := 0) (m := m) (c := c + 1) (m - (c + 1))
  rw [show c + 1 + (m - (c + 1)) = m by omega] at mono
  have mono1 : scO g 0 m (c + 1) = scO g 0 m c + scB g 0 m c := rfl
  intro k
  induction k with
  | zero =>
    intro M i x hi hM hl h
    obtain rfl : i = g.2.2.2.1 c := by omega
    obtain ⟨M, rfl⟩ : ∃ M', M = M' + 1 := ⟨M - 1, by omega⟩
    refine ⟨x, ?_, ?_, FXy.rfl, rfl, rfl⟩
    · rw [fX5_layOut_115.eq_2]
      refine ob_v (rg_C hP.o rfl) (ob_v (rg_C rfl rfl) (ob_v (rg_A rfl (by decide) _ (by omega) (by decide)) ?_))
      rw [hl.2.2 c hc, Nat.zero_add]
      refine ob_v (rg_A hP.a1 (by decide) _ (by omega) (by decide)) ?_
      rw [hl.1.1.2.2.2.1 c (by omega)]
      refine ei_t (nI_le (Nat.le_refl _) (by omega)) ?_
      unfold fX5_layOut_145
      rw [nI_1]
    · rw [Nat.succ_mul]
      exact h
  | succ k ih =>
    intro M i x hi hM hl h
    obtain ⟨M, rfl⟩ : ∃ M', M = M' + 1 := ⟨M - 1, by omega⟩
    have hjl : yy * g.2.2.2.1 c + i < g.2.2.2.1 c * g.2.2.2.2 c := rc_lt hy (by omega)
    obtain ⟨x1, e1, h1, F1, u1, u2⟩ := x_part1 (X := X) (B := B) (w0 := w0) (xx := i) (yy := yy) h (by omega) (by omega) (by omega) (by rw [Nat.mul_comm, Nat.mul_add_mod]; exact Nat.mod_eq_of_lt (by omega)) (by rw [Nat.mul_comm, Nat.mul_add_div (by omega), Nat.div_eq_of_lt (by omega), Nat.add_zero])
    obtain ⟨x2, e2, h2, F2, v1, v2⟩ := ih M (i + 1) x1 (by omega) (by omega) (hl.fy hP F1) h1
    refine ⟨x2, ?_, h2, F1.trans F2, v1.trans u1, v2.trans u2⟩
    rw [fX5_layOut_115.eq_2]
    refine ob_v (rg_C hP.o rfl) (ob_v (rg_C rfl rfl) (ob_v (rg_A rfl (by decide) _ (by omega) (by decide)) ?_))
    rw [hl.2.2 c hc, Nat.zero_add]
    refine ob_v (rg_A hP.a1 (by decide) _ (by omega) (by decide)) ?_
    rw [hl.1.1.2.2.2.1 c (by omega)]
    refine ei_n (nI_ge (by omega) (by omega)) (ob_v (rg_O rfl) (ob_v e1 ?_))
    rw [nI_1]
    exact e2
theorem x_ly97 (hP : isP P) (hg : gOk g) (hm : m = g.2.2.1) (m1 : m ≠ 1) (h10 : scO g 0 m m ≤ 10) (hc : c < m) {k87 : Nat → Nat → Int32 → px_W → Option (px_W)} : ∀ (k M yy : Nat) (x : rg_S), yy + k = g.2.2.2.2 c → k < M → lyX x P g 0 m → LPt g 0 m (scO g 0 m c + yy * g.2.2.2.1 c) x → ∃ x', fX5_layOut_97 X k87 M (B + 106) (B + P) (nI c) (nI yy) (rg_p lX B w0 x) = k87 (B + 106) (B + P) (nI (c + 1)) (rg_p lX B w0 x') ∧ LPt g 0 m (scO g 0 m (c + 1)) x' ∧ FXy x x' ∧ x'.1 106 11 = x.1 106 11 ∧ x'.1 106 12 = x.1 106 12 := by
  have f := hg.2.2.2.2.2.2 c (by omega)
  have h4 := hg.2.2.2.2.2.1
  have sB : scB g 0 m c = g.2.2.2.1 c * g.2.2.2.2 c := by
    unfold scB
    rw [if_pos (by omega), if_neg m1]
  have mono1 : scO g 0 m (c + 1) = scO g 0 m c + scB g 0 m c := rfl
  intro k
  induction k with
  | zero =>
    intro M yy x hi hM hl h
    obtain rfl : yy = g.2.2.2.2 c := by omega
    obtain ⟨M, rfl⟩ : ∃ M', M = M' + 1 := ⟨M - 1, by omega⟩
    refine ⟨x, ?_, ?_, FXy.rfl, rfl, rfl⟩
    · rw [fX5_layOut_97.eq_2]
      refine ob_v (rg_C hP.o rfl) (ob_v (rg_C rfl rfl) (ob_v (rg_A rfl (by decide) _ (by omega) (by decide)) ?_))
      rw [hl.2.2 c hc, Nat.zero_add]
      refine ob_v (rg_A hP.a2 (by decide) _ (by omega) (by decide)) ?_
      rw [hl.1.1.2.2.2.2 c (by omega)]
      refine ei_t (nI_le (Nat.le_refl _) (by omega)) ?_
      unfold fX5_layOut_151
      rw [nI_1]
    · rw [mono1, sB, Nat.mul_comm (g.2.2.2.1 c)]
      exact h
  | succ k ih =>
    intro M yy x hi hM hl h
    obtain ⟨M, rfl⟩ : ∃ M', M = M' + 1 := ⟨M - 1, by omega⟩
    obtain ⟨x1, e1, h1, F1, u1, u2⟩ := x_ly115 (X := X) (B := B) (w0 := w0) (k87 := k87) (k97 := fX5_layOut_97 X k87 M) hP hg hm m1 h10 hc (show yy < g.2.2.2.2 c by omega) (g.2.2.2.1 c) FU 0 x (by omega) (by unfold FU; omega) hl h
    obtain ⟨x2, e2, h2, F2, v1, v2⟩ := ih M (yy + 1) x1 (by omega) (by omega) (hl.fy hP F1) h1
    refine ⟨x2, ?_, h2, F1.trans F2, v1.trans u1, v2.trans u2⟩
    rw [fX5_layOut_97.eq_2]
    refine ob_v (rg_C hP.o rfl) (ob_v (rg_C rfl rfl) (ob_v (rg_A rfl (by decide) _ (by omega) (by decide)) ?_))
    rw [hl.2.2 c hc, Nat.zero_add]
    refine ob_v (rg_A hP.a2 (by decide) _ (by omega) (by decide)) ?_
    rw [hl.1.1.2.2.2.2 c (by omega)]
    refine ei_n (nI_ge (by omega) (by omega)) ?_
    exact (show fX5_layOut_115 X k87 (fX5_layOut_97 X k87 M) FU (B + 106) (B + P) (nI c) (nI yy) (nI 0) _ = _ from e1).trans e2
theorem x_ly87 (hP : isP P) (hg : gOk g) (hm : m = g.2.2.1) (m1 : m ≠ 1) (h10 : scO g 0 m m ≤ 10) : ∀ (k M c : Nat) (x : rg_S), c + k = m → k < M → lyX x P g 0 m → LPt g 0 m (scO g 0 m c) x → ∃ x', fX5_layOut_87 X M (B + 106) (B + P) (nI c) (rg_p lX B w0 x) = some (rg_p lX B w0 x') ∧ LPt g 0 m (scO g 0 m m) x' ∧ FXy x x' ∧ x'.1 106 11 = x.1 106 11 ∧ x'.1 106 12 = x.1 106 12 := by
  have h4 := hg.2.2.2.2.2.1
  intro k
  induction k with
  | zero =>
    intro M c x hi hM hl h
    obtain rfl : c = m := by omega
    obtain ⟨M, rfl⟩ : ∃ M', M = M' + 1 := ⟨M - 1, by omega⟩
    refine ⟨x, ?_, h, FXy.rfl, rfl, rfl⟩
    rw [fX5_layOut_87.eq_2]
    refine ob_v (rg_I rfl rfl) ?_
    rw [hl.2.1]
    exact ei_t (nI_le (Nat.le_refl _) (by omega)) rfl
  | succ k ih =>
    intro M c x hi hM hl h
    obtain ⟨M, rfl⟩ : ∃ M', M = M' + 1 := ⟨M - 1, by omega⟩
    have f := hg.2.2.2.2.2.2 c (by omega)
    obtain ⟨x1, e1, h1, F1, u1, u2⟩ := x_ly97 (X := X) (B := B) (w0 := w0) (k87 := fX5_layOut_87 X M) hP hg hm m1 h10 (show c < m by omega) (g.2.2.2.2 c) FU 0 x (by omega) (by unfold FU; omega) hl (by rw [Nat.zero_mul]; exact h)
    obtain ⟨x2, e2, h2, F2, v1, v2⟩ := ih M (c + 1) x1 (by omega) (by omega) (hl.fy hP F1) h1
    refine ⟨x2, ?_, h2, F1.trans F2, v1.trans u1, v2.trans u2⟩
    rw [fX5_layOut_87.eq_2]
    refine ob_v (rg_I rfl rfl) ?_
    rw [hl.2.1]
    refine ei_n (nI_ge (by omega) (by omega)) ?_
    exact (show fX5_layOut_97 X (fX5_layOut_87 X M) FU (B + 106) (B + P) (nI c) (nI 0) _ = _ from e1).trans e2
theorem sO_1 (hs : scOk g c0 1) : ∀ c, scO g c0 1 c = if c0 < c then 1 else 0
  | 0 => by rw [if_neg (Nat.not_lt_zero _)]; rfl
  | c + 1 => by
    rw [scO.eq_2, sO_1 hs c]
    unfold scB
    by_cases e : c = c0
    · rw [if_neg (by omega), if_pos (by omega), if_pos rfl, if_pos (by omega)]
    · by_cases l : c0 < c
      · rw [if_pos l, if_neg (by omega), if_pos (by omega)]
      · rw [if_neg l, if_neg (by omega), if_neg (by omega)]
theorem x_up8 {w : px_W} {a : Nat} (h : a < 65536) : fX11_up X w (nI a) 8 = some (nI (gUp a 8), w) := by
  unfold fX11_up
  rw [show nI a + 8 - 1 = nI (a + 8 - 1) by
    rw [show (8 : Int32) = nI 8 from rfl, nI_add]
    exact pk_sub (b := 1) (by omega)]
  exact ei_t (by decide) (ob_v (dI_n (a := a + 8 - 1) (d := 8) (by omega) (by decide) (by decide)) rfl)
theorem x_layOut (hP : isP P) (hg : gOk g) (hs : scOk g c0 m) (h10 : scO g c0 m g.2.2.1 ≤ 10) (hl : lyX x P g c0 m) : ∃ x', fX5_layOut X (rg_p lX B w0 x) (B + 106) (B + P) = some (rg_p lX B w0 x') ∧ uX x' P g c0 m ∧ FXy x x' := by
  have h4 := hg.2.2.2.2.2.1
  have hcm := hs.cm hg
  have F0 : FXy x (rg_wI x 106 13 0) := ⟨fun p k hk => wI_n _ _ (by omega), rfl, fun _ _ => rfl⟩
  by_cases m1 : m = 1
  · subst m1
    have hc0 : c0 < g.2.2.1 := by omega
    have f := hg.2.2.2.2.2.2 c0 hc0
    have hh := hg.h
    have hv := hg.v
    have e107 := hl.2.2 0 (by omega)
    rw [Nat.add_zero] at e107
    generalize hx1 : rg_wI (rg_wI x 106 13 0) 106 12 (nI (gOA g c0)) = x1
    have F1 : FXy x x1 := by
      rw [← hx1]
      exact ⟨fun p k hk => by rw [wI_n _ _ (by omega), wI_n _ _ (by omega)], rfl, fun _ _ => rfl⟩
    generalize hx2 : rg_wI x1 106 11 (nI (gOA g c0 * gOD g c0)) = x2
    have F2 : FXy x x2 := by
      rw [← hx2]
      exact F1.trans ⟨fun p k hk => wI_n _ _ (by omega), rfl, fun _ _ => rfl⟩
    have q13 : x2.1 106 13 = nI 0 := by rw [← hx2, wI_n _ _ (by omega), ← hx1, wI_n _ _ (by omega), wI_s]; rfl
    have q12 : x2.1 106 12 = nI (gOA g c0) := by rw [← hx2, wI_n _ _ (by omega), ← hx1, wI_s]
    have q11 : x2.1 106 11 = nI (gOA g c0 * gOD g c0) := by rw [← hx2, wI_s]
    have b0 : scB g c0 1 c0 = 1 := by
      unfold scB
      rw [if_pos (by omega), if_pos rfl]
    have o0 : scO g c0 1 c0 = 0 := by rw [sO_1 hs, if_neg (by omega)]
    obtain ⟨x3, e3, h3, F3, u1, u2⟩ := x_part1 (X := X) (B := B) (w0 := w0) (x := x2) (g := g) (c0 := c0) (m := 1) (c := c0) (j := 0) (xx := 0) (yy := 0) ⟨by rw [o0]; exact q13, fun c j _ hj hlt => by rw [o0] at hlt; omega⟩ (by rw [o0]; decide) hc0 (by omega) (Nat.zero_mod _) (Nat.zero_div _)
    rw [Nat.sub_self] at e3
    have h01 := hl.2.1
    refine ⟨x3, ?_, ⟨?_, ?_, ?_, ?_, ?_, ?_, ?_⟩, F2.trans F3⟩
    · unfold fX5_layOut
      refine ob_v (rg_pI rfl rfl _) (ob_v (rg_I rfl rfl) (ei_t (by rw [wI_n _ _ (by omega), h01]; rfl) (ob_v (rg_C rfl rfl) (ob_v (rg_A rfl (by decide) 0 (by decide) (by decide)) ?_))))
      rw [wI_2, e107]
      have lx0 := hl.fy hP F0
      have sa := x_sAcross (X := X) (B := B) (w0 := w0) hP hg lx0.1 hc0
      have mu : g.1 * g.2.2.2.1 c0 ≤ 64 * 2 := Nat.mul_le_mul hg.2.1 f.1.2
      have mv : g.2.1 * g.2.2.2.2 c0 ≤ 64 * 2 := Nat.mul_le_mul hg.2.2.2.1 f.2.2
      have ub : gUp (g.1 * g.2.2.2.1 c0) (gH g) < 65536 := Nat.lt_of_le_of_lt (Nat.div_le_self _ _) (by omega)
      have vb' : gUp (g.2.1 * g.2.2.2.2 c0) (gV_ g) < 65536 := Nat.lt_of_le_of_lt (Nat.div_le_self _ _) (by omega)
      refine ob_v (rg_O hP.o) (ob_v sa (ob_v (x_up8 ub) (ob_v (rg_pI rfl rfl _) (ob_v (rg_I rfl rfl) (ob_v (rg_C rfl rfl) (ob_v (rg_A rfl (by decide) 0 (by decide) (by decide)) ?_))))))
      dsimp only
      rw [show gUp (gUp (g.1 * g.2.2.2.1 c0) (gH g)) 8 = gOA g c0 from rfl, hx1]
      have lx1 := hl.fy hP F1
      have e107' := lx1.2.2 0 (by omega)
      rw [Nat.add_zero] at e107'
      have sd := x_sDown (X := X) (B := B) (w0 := w0) hP hg lx1.1 hc0
      rw [e107']
      refine ob_v (rg_O hP.o) (ob_v sd (ob_v (x_up8 vb') ?_))
      dsimp only
      rw [show gUp (gUp (g.2.1 * g.2.2.2.2 c0) (gV_ g)) 8 = gOD g c0 from rfl, show x1.1 106 12 = nI (gOA g c0) by rw [← hx1, wI_s], pk_mul]
      refine ob_v (rg_pI rfl rfl _) ?_
      rw [hx2]
      exact ob_v (rg_O rfl) (ob_v e3 rfl)
    · exact (hl.fy hP (F2.trans F3)).1
    · exact (hl.fy hP (F2.trans F3)).2.1
    · rw [u1, q11]
      unfold scU
      rw [if_pos rfl]
    · rw [u2, q12, if_pos rfl]
    · have := h3.1
      rw [o0] at this
      rw [this, sO_1 hs, if_pos hc0]
    · exact (hl.fy hP (F2.trans F3)).2.2
    · intro c j hc hj
      obtain ⟨_, _, _, k3⟩ := scB_c hs hj
      obtain ⟨rfl, rfl⟩ := k3 rfl
      exact h3.2 c 0 hc hj (by omega)
  · obtain ⟨e0, em⟩ : c0 = 0 ∧ m = g.2.2.1 := by unfold scOk at hs; omega
    subst e0
    have ua := hg.ua
    have ud := hg.ud
    generalize hx1 : rg_wI (rg_wI x 106 13 0) 106 12 (nI (gUA g)) = x1
    have F1 : FXy x x1 := by
      rw [← hx1]
      exact ⟨fun p k hk => by rw [wI_n _ _ (by omega), wI_n _ _ (by omega)], rfl, fun _ _ => rfl⟩
    generalize hx2 : rg_wI x1 106 11 (nI (gUA g * gUD g)) = x2
    have F2 : FXy x x2 := by
      rw [← hx2]
      exact F1.trans ⟨fun p k hk => wI_n _ _ (by omega), rfl, fun _ _ => rfl⟩
    have q13 : x2.1 106 13 = nI 0 := by rw [← hx2, wI_n _ _ (by omega), ← hx1, wI_n _ _ (by omega), wI_s]; rfl
    have q12 : x2.1 106 12 = nI (gUA g) := by rw [← hx2, wI_n _ _ (by omega), ← hx1, wI_s]
    have q11 : x2.1 106 11 = nI (gUA g * gUD g) := by rw [← hx2, wI_s]
    have lx2 := hl.fy hP F2
    rw [← em] at h10
    obtain ⟨x3, e3, h3, F3, u1, u2⟩ := x_ly87 (X := X) (B := B) (w0 := w0) hP hg em m1 h10 m FU 0 x2 (by omega) (by unfold FU; omega) lx2 ⟨q13, fun c j _ _ hlt => absurd hlt (by show ¬ _ < 0; omega)⟩
    refine ⟨x3, ?_, ⟨?_, ?_, ?_, ?_, ?_, ?_, ?_⟩, F2.trans F3⟩
    · unfold fX5_layOut
      have lx0 := hl.fy hP F0
      have lx1 := hl.fy hP F1
      refine ob_v (rg_pI rfl rfl _) (ob_v (rg_I rfl rfl) (ei_n (by rw [wI_n _ _ (by omega), hl.2.1]; exact nm1 hg hs m1) (ob_v (rg_O hP.o) (ob_v (x_unitsA hP hg lx0.1.1.1 lx0.1.2.1) (ob_v (rg_pI rfl rfl _) (ob_v (rg_I rfl rfl) ?_))))))
      dsimp only
      rw [hx1]
      refine ob_v (rg_O hP.o) (ob_v (x_unitsD hP hg lx1.1.1.2.1 lx1.1.2.2.1) ?_)
      dsimp only
      rw [show x1.1 106 12 = nI (gUA g) by rw [← hx1, wI_s], pk_mul]
      refine ob_v (rg_pI rfl rfl _) ?_
      rw [hx2]
      exact e3
    · exact (hl.fy hP (F2.trans F3)).1
    · exact (hl.fy hP (F2.trans F3)).2.1
    · rw [u1, q11]
      unfold scU
      rw [if_neg m1]
    · rw [u2, q12, if_neg m1]
    · rw [h3.1, ← em]
    · exact (hl.fy hP (F2.trans F3)).2.2
    · intro c j hc hj
      refine h3.2 c j hc hj ?_
      have mono := scO_mono (g := g) (c0 := 0) (m := m) (c := c + 1) (m - (c + 1))
      rw [show c + 1 + (m - (c + 1)) = m by omega] at mono
      have mono1 : scO g 0 m (c + 1) = scO g 0 m c + scB g 0 m c := rfl
      omega
end
