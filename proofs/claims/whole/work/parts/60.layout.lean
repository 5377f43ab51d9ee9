/-! the reference's layOut -/
def mFr (y : rg_S) (g : gG) : Prop := y.1 0 18 = nI g.1 ∧ y.1 0 19 = nI g.2.1 ∧ y.1 0 20 = nI g.2.2.1 ∧ (∀ c, c < g.2.2.1 → y.2.2.1 58 c = nI (g.2.2.2.1 c)) ∧ ∀ c, c < g.2.2.1 → y.2.2.1 59 c = nI (g.2.2.2.2 c)
def ySt0 (y : rg_S) (g : gG) (j : Nat) : rg_S := rg_wI (rg_wI y 0 26 (nI (gMx g.2.2.2.1 j))) 0 27 (nI (gMx g.2.2.2.2 j))
def ySt1 (y : rg_S) (g : gG) : rg_S := rg_wI (rg_wI (ySt0 y g g.2.2.1) 0 28 (nI (gUA g))) 0 29 (nI (gUD g))
def ySt (y : rg_S) (g : gG) (j : Nat) : rg_S := rg_wA (rg_wA (rg_wA (ySt1 y g) 60 (gF (y.2.2.1 60) (gAc g) j)) 61 (gF (y.2.2.1 61) (gDn g) j)) 62 (gF (y.2.2.1 62) (gBs g) j)
section
variable {X : px_X} {b B : Nat} {w0 w1 w : px_W} {x y : rg_S} {P : Nat} {g : gG}
theorem m_lay47 {m j : Nat} {s : rg_S} {v a : Nat} (hj : j < 4) (hv : s.2.2.1 59 j = nI v) (ha : s.1 0 27 = nI a) (hv2 : v < 100) (ha2 : a < 100) (z : Int32) : fX15_layOut_47 X (fX15_layOut_12 X m) (b + 0) (nI j) z (b + 0) (rg_p lM b w0 s) = fX15_layOut_12 X m (b + 0) (nI (j + 1)) (rg_p lM b w0 (rg_wI (rg_wI s 0 26 z) 0 27 (nI (max a v)))) := by
  unfold fX15_layOut_47 fX15_layOut_77
  refine ob_v (rg_pI rfl rfl _) (ob_v (rg_C rfl rfl) (ob_v (rg_A rfl (by decide) j (by omega) (by decide)) (ob_v (rg_I rfl rfl) ?_)))
  rw [wI_2, hv, wI_n _ _ (by decide), ha]
  by_cases h : v ≤ a
  · refine ei_t (nI_le h (by omega)) (ob_v (rg_I rfl rfl) (ob_v (rg_pI rfl rfl _) ?_))
    rw [wI_n _ _ (by decide), ha, nI_1, Nat.max_eq_left h]
  · refine ei_n (nI_ge (by omega) (by omega)) (ob_v (rg_C rfl rfl) (ob_v (rg_A rfl (by decide) j (by omega) (by decide)) (ob_v (rg_pI rfl rfl _) ?_)))
    rw [wI_2, hv, nI_1, Nat.max_eq_right (by omega)]
theorem m_layOut0 (hg : gOk g) (hf : mFr y g) (M : Nat) (hM : 4 < M) : fX15_layOut_12 X M (b + 0) 0 (rg_p lM b w0 (ySt0 y g 0)) = fX15_layOut_86 X (b + 0) (rg_p lM b w0 (ySt0 y g g.2.2.1)) := by
  obtain ⟨h1, h2, h3, h4, h5⟩ := hf
  obtain ⟨g1, g2, g3, g4, g5, g6, g7⟩ := hg
  have e20 : ∀ j, (ySt0 y g j).1 0 20 = y.1 0 20 := fun j => by unfold ySt0; rw [wI_n _ _ (by decide), wI_n _ _ (by decide)]
  refine rg_lp (F := fun m (q : Int32 × px_W) => fX15_layOut_12 X m (b + 0) q.1 q.2) (n := g.2.2.1) (fun j => (nI j, rg_p lM b w0 (ySt0 y g j))) ?_ ?_ g.2.2.1 M 0 (by omega) (by omega)
  · intro m j hj
    dsimp only
    have m1 := gMx_in (f := g.2.2.2.1) (n := j) (fun c hc => (g7 c (by omega)).1)
    have m2 := gMx_in (f := g.2.2.2.2) (n := j) (fun c hc => (g7 c (by omega)).2)
    have f1 := g7 j hj
    have e1 : (ySt0 y g j).1 0 26 = nI (gMx g.2.2.2.1 j) := by unfold ySt0; rw [wI_n _ _ (by decide), wI_s]
    have e2 : (ySt0 y g j).1 0 27 = nI (gMx g.2.2.2.2 j) := by unfold ySt0; rw [wI_s]
    have fin : ∀ z, z = nI (max (gMx g.2.2.2.1 j) (g.2.2.2.1 j)) → fX15_layOut_47 X (fX15_layOut_12 X m) (b + 0) (nI j) z (b + 0) (rg_p lM b w0 (ySt0 y g j)) = fX15_layOut_12 X m (b + 0) (nI (j + 1)) (rg_p lM b w0 (ySt0 y g (j + 1))) := by
      rintro z rfl
      rw [m_lay47 (by omega) (show (ySt0 y g j).2.2.1 59 j = _ from h5 j hj) e2 (by omega) (by omega)]
      congr 2
      unfold ySt0
      rw [wI_wI_ne _ _ _ (by omega), wI_wI, wI_wI_ne _ _ _ (by omega), wI_wI]
      rfl
    rw [fX15_layOut_12.eq_2]
    refine ob_v (rg_I rfl rfl) ?_
    rw [e20, h3, if_neg (nI_ge hj (by omega))]
    refine ob_v (rg_C rfl rfl) (ob_v (rg_A rfl (by decide) j (by omega) (by decide)) (ob_v (rg_I rfl rfl) ?_))
    rw [e1, show (ySt0 y g j).2.2.1 58 j = _ from h4 j hj]
    by_cases h : g.2.2.2.1 j ≤ gMx g.2.2.2.1 j
    · refine ei_t (nI_le h (by omega)) (ob_v (rg_I rfl rfl) (fin _ ?_))
      rw [e1, Nat.max_eq_left h]
    · refine ei_n (nI_ge (by omega) (by omega)) (ob_v (rg_C rfl rfl) (ob_v (rg_A rfl (by decide) j (by omega) (by decide)) (fin _ ?_)))
      rw [show (ySt0 y g j).2.2.1 58 j = _ from h4 j hj, Nat.max_eq_right (by omega)]
  · intro m
    dsimp only
    rw [fX15_layOut_12.eq_2]
    refine ob_v (rg_I rfl rfl) ?_
    rw [e20, h3, if_pos (nI_le (Nat.le_refl _) (by omega))]
theorem yS_I (j o k : Nat) : (ySt y g j).1 o k = (ySt1 y g).1 o k := rfl
theorem yS_A (j o : Nat) : (ySt y g j).2.2.1 o = if o = 62 then gF (y.2.2.1 62) (gBs g) j else if o = 61 then gF (y.2.2.1 61) (gDn g) j else if o = 60 then gF (y.2.2.1 60) (gAc g) j else y.2.2.1 o := rfl
theorem yS1_I (o k : Nat) : (ySt1 y g).1 o k = if o = 0 ∧ k = 29 then nI (gUD g) else if o = 0 ∧ k = 28 then nI (gUA g) else if o = 0 ∧ k = 27 then nI (gV_ g) else if o = 0 ∧ k = 26 then nI (gH g) else y.1 o k := rfl
theorem yS_s (j : Nat) : rg_wA (rg_wA (rg_wA (ySt y g j) 60 (gF (y.2.2.1 60) (gAc g) (j + 1))) 61 (gF (y.2.2.1 61) (gDn g) (j + 1))) 62 (gF (y.2.2.1 62) (gBs g) (j + 1)) = ySt y g (j + 1) := by
  refine S_ext rfl rfl (fun o => ?_) rfl
  rw [wA_3, wA_3, wA_3, yS_A, yS_A]
  by_cases e5 : o = 62
  · rw [if_pos e5, if_pos e5]
  rw [if_neg e5, if_neg e5, if_neg e5]
  by_cases e4 : o = 61
  · rw [if_pos e4, if_pos e4]
  rw [if_neg e4, if_neg e4, if_neg e4]
  by_cases e3 : o = 60
  · rw [if_pos e3, if_pos e3]
  rw [if_neg e3, if_neg e3, if_neg e3]
theorem m_layOut1 (hg : gOk g) (hf : mFr y g) : fX15_layOut_126 X FU (b + 0) 0 0 (rg_p lM b w0 (ySt1 y g)) = some (rg_p lM b w0 (ySt y g g.2.2.1)) := by
  have hg' := hg
  obtain ⟨h1, h2, h3, h4, h5⟩ := hf
  obtain ⟨g1, g2, g3, g4, g5, g6, g7⟩ := hg
  have start : ySt y g 0 = ySt1 y g := by
    have e : ∀ o, rg_wA (ySt1 y g) o (y.2.2.1 o) = ySt1 y g := fun o => wA_id rfl
    unfold ySt
    rw [gF_0, gF_0, gF_0, e, e, e]
  have e20 : ∀ j, (ySt y g j).1 0 20 = y.1 0 20 := fun j => rfl
  have h := rg_lpF (F := fun m (q : Int32 × Int32 × px_W) => fX15_layOut_126 X m (b + 0) q.1 q.2.1 q.2.2) g.2.2.1 (fun j => (nI (gBs g j), nI j, rg_p lM b w0 (ySt y g j))) (r := some (rg_p lM b w0 (ySt y g g.2.2.1))) (by omega) ?_ ?_
  · refine Eq.trans ?_ h
    dsimp only
    rw [start]
    rfl
  · intro m j hj
    dsimp only
    rw [fX15_layOut_126.eq_2]
    refine ob_v (rg_I rfl rfl) ?_
    rw [e20, h3, if_neg (nI_ge hj (by omega))]
    refine ob_v (rg_C rfl rfl) (ob_v (rg_I rfl rfl) (ob_v (rg_C rfl rfl) (ob_v (rg_A rfl (by decide) j (by omega) (by decide)) (ob_v (rg_sA _ rfl (by decide) j _ (by omega) (by decide)) ?_))))
    refine ob_v (rg_C rfl rfl) (ob_v (rg_I rfl rfl) (ob_v (rg_C rfl rfl) (ob_v (rg_A rfl (by decide) j (by omega) (by decide)) (ob_v (rg_sA _ rfl (by decide) j _ (by omega) (by decide)) ?_))))
    refine ob_v (rg_C rfl rfl) (ob_v (rg_sA _ rfl (by decide) j _ (by omega) (by decide)) ?_)
    refine ob_v (rg_C rfl rfl) (ob_v (rg_A rfl (by decide) j (by omega) (by decide)) (ob_v (rg_C rfl rfl) (ob_v (rg_A rfl (by decide) j (by omega) (by decide)) ?_)))
    have a1 : (ySt y g j).2.2.1 58 j = nI (g.2.2.2.1 j) := h4 j hj
    have a2 : (ySt y g j).2.2.1 59 j = nI (g.2.2.2.2 j) := h5 j hj
    have a28 : (ySt y g j).1 0 28 = nI (gUA g) := rfl
    have a29 : (ySt y g j).1 0 29 = nI (gUD g) := rfl
    have m3 : upd ((ySt y g j).2.2.1 60) j (id (nI (gUA g) * nI (g.2.2.2.1 j))) = gF (y.2.2.1 60) (gAc g) (j + 1) := by
      rw [← gF_s, pk_mul]
      rfl
    have m4 : upd ((ySt y g j).2.2.1 61) j (id (nI (gUD g) * nI (g.2.2.2.2 j))) = gF (y.2.2.1 61) (gDn g) (j + 1) := by
      rw [← gF_s, pk_mul]
      rfl
    have m5 : upd ((ySt y g j).2.2.1 62) j (id (nI (gBs g j))) = gF (y.2.2.1 62) (gBs g) (j + 1) := by
      rw [← gF_s]
      rfl
    simp only [wA_1]
    rw [wA_n _ _ (show 59 ≠ 60 by omega), wA_n _ _ (show 61 ≠ 60 by omega), wA_n _ _ (show 62 ≠ 61 by omega), wA_n _ _ (show 62 ≠ 60 by omega), a1, a2, a28, a29, m3, m4, m5]
    rw [wA_n _ _ (show 60 ≠ 62 by omega), wA_n _ _ (show 60 ≠ 61 by omega), wA_s, wA_n _ _ (show 61 ≠ 62 by omega), wA_s, gF_at (by omega), gF_at (by omega), pk_mul, nI_add, nI_1, ← yS_s j]
    rfl
  · intro m
    dsimp only
    rw [fX15_layOut_126.eq_2]
    refine ob_v (rg_I rfl rfl) ?_
    rw [e20, h3, if_pos (nI_le (Nat.le_refl _) (by omega))]
theorem m_layOut (hg : gOk g) (hf : mFr y g) : fX15_layOut X (rg_p lM b w0 y) (b + 0) = some (rg_p lM b w0 (ySt y g g.2.2.1)) := by
  have hh := hg.h
  have hv := hg.v
  have g2 := hg.2.1
  have g4 := hg.2.2.2.1
  unfold fX15_layOut
  refine ob_v (rg_pI rfl rfl _) (ob_v (rg_pI rfl rfl _) ?_)
  refine (m_layOut0 (X := X) (b := b) (w0 := w0) hg hf FU (by unfold FU; omega)).trans ?_
  unfold fX15_layOut_86
  have e18 : (ySt0 y g g.2.2.1).1 0 18 = nI g.1 := hf.1
  have e19 : (ySt0 y g g.2.2.1).1 0 19 = nI g.2.1 := hf.2.1
  have e26 : (ySt0 y g g.2.2.1).1 0 26 = nI (gH g) := rfl
  have e27 : (ySt0 y g g.2.2.1).1 0 27 = nI (gV_ g) := rfl
  refine ob_v (rg_I rfl rfl) (ob_v (rg_I rfl rfl) ?_)
  rw [e18, e26, show (8 : Int32) * nI (gH g) = nI (8 * gH g) from pk_mul 8 _, m_up (by omega) (by omega), ob_s]
  refine ob_v (rg_pI rfl rfl _) (ob_v (rg_I rfl rfl) (ob_v (rg_I rfl rfl) ?_))
  rw [wI_n _ _ (by decide), wI_n _ _ (by decide), e19, e27, show (8 : Int32) * nI (gV_ g) = nI (8 * gV_ g) from pk_mul 8 _, m_up (by omega) (by omega), ob_s]
  refine ob_v (rg_pI rfl rfl _) ?_
  exact m_layOut1 hg hf
end
