/-! settle, layOut -/
section
variable {X : px_X} {b B : Nat} {w0 w1 w : px_W} {x y : rg_S} {P : Nat} {g : gG}
theorem xS0_n (o k j : Nat) (h : o ≠ P ∨ k ≠ 3 ∧ k ≠ 4) : (xSt0 x P g j).1 o k = x.1 o k := by
  unfold xSt0
  rw [wI_n _ _ (by omega), wI_n _ _ (by omega)]
theorem x_settle0 (hP : isP P) (hg : gOk g) (hf : xFr x P g) (M : Nat) (hM : 4 < M) : fX2_settle_12 X M (B + P) 0 (rg_p lX B w0 (xSt0 x P g 0)) = fX2_settle_60 X (B + P) (rg_p lX B w0 (xSt0 x P g g.2.2.1)) := by
  obtain ⟨h1, h2, h3, h4, h5⟩ := hf
  obtain ⟨g1, g2, g3, g4, g5, g6, g7⟩ := hg
  refine rg_lp (F := fun m (q : Int32 × px_W) => fX2_settle_12 X m (B + P) q.1 q.2) (n := g.2.2.1) (fun j => (nI j, rg_p lX B w0 (xSt0 x P g j))) ?_ ?_ g.2.2.1 M 0 (by omega) (by omega)
  · intro m j hj
    dsimp only
    have m1 := gMx_in (f := g.2.2.2.1) (n := j) (fun c hc => (g7 c (by omega)).1)
    have m2 := gMx_in (f := g.2.2.2.2) (n := j) (fun c hc => (g7 c (by omega)).2)
    have f1 := g7 j hj
    rw [fX2_settle_12.eq_2]
    refine ob_v (rg_I hP.o rfl) ?_
    rw [xS0_n _ _ _ (by omega), h3, if_neg (nI_ge hj (by omega))]
    refine ob_v (rg_I hP.o rfl) (ob_v (rg_C hP.o rfl) (ob_v (rg_A hP.a1 (by decide) j (by omega) (by decide)) (ob_v (rg_pI hP.o rfl _) ?_)))
    refine ob_v (rg_I hP.o rfl) (ob_v (rg_C hP.o rfl) (ob_v (rg_A hP.a2 (by decide) j (by omega) (by decide)) (ob_v (rg_pI hP.o rfl _) ?_)))
    have e1 : (xSt0 x P g j).1 P 3 = nI (gMx g.2.2.2.1 j) := by unfold xSt0; rw [wI_n _ _ (by omega), wI_s]
    have e2 : (xSt0 x P g j).1 P 4 = nI (gMx g.2.2.2.2 j) := by unfold xSt0; rw [wI_s]
    have e3 : (xSt0 x P g j).2 = x.2 := rfl
    rw [wI_n _ _ (by omega), e1, e2, wI_2, e3, h4 j hj, h5 j hj, mmaxN (by omega) (by omega), mmaxN (by omega) (by omega), nI_1]
    congr 2
    unfold xSt0
    rw [wI_wI_ne _ _ _ (by omega), wI_wI, wI_wI_ne _ _ _ (by omega), wI_wI]
    rfl
  · intro m
    dsimp only
    rw [fX2_settle_12.eq_2]
    refine ob_v (rg_I hP.o rfl) ?_
    rw [xS0_n _ _ _ (by omega), h3, if_pos (nI_le (Nat.le_refl _) (by omega))]
theorem x_unitsA (hP : isP P) (hg : gOk g) (e0 : x.1 P 0 = nI g.1) (e3 : x.1 P 3 = nI (gH g)) : fX2_unitsAcross X (rg_p lX B w0 x) (B + P) = some (nI (gUA g), rg_p lX B w0 x) := by
  have h := hg.h
  have g2 := hg.2.1
  unfold fX2_unitsAcross
  refine ob_v (rg_I hP.o rfl) (ob_v (rg_I hP.o rfl) ?_)
  rw [e0, e3, show (8 : Int32) * nI (gH g) = nI (8 * gH g) from pk_mul 8 _, x_up (by omega) (by omega), ob_s]
  rfl
theorem x_unitsD (hP : isP P) (hg : gOk g) (e1 : x.1 P 1 = nI g.2.1) (e4 : x.1 P 4 = nI (gV_ g)) : fX2_unitsDown X (rg_p lX B w0 x) (B + P) = some (nI (gUD g), rg_p lX B w0 x) := by
  have h := hg.v
  have g2 := hg.2.2.2.1
  unfold fX2_unitsDown
  refine ob_v (rg_I hP.o rfl) (ob_v (rg_I hP.o rfl) ?_)
  rw [e1, e4, show (8 : Int32) * nI (gV_ g) = nI (8 * gV_ g) from pk_mul 8 _, x_up (by omega) (by omega), ob_s]
  rfl
theorem xS_I (j o k : Nat) : (xSt x P g j).1 o k = if o = P ∧ k = 5 then nI (gBs g j) else (xSt0 x P g g.2.2.1).1 o k := rfl
theorem xS_A (j o : Nat) : (xSt x P g j).2.2.1 o = if o = P + 5 then gF (x.2.2.1 (P + 5)) (gBs g) j else if o = P + 4 then gF (x.2.2.1 (P + 4)) (gDn g) j else if o = P + 3 then gF (x.2.2.1 (P + 3)) (gAc g) j else x.2.2.1 o := rfl
theorem xS_e0 (j : Nat) : (xSt x P g j).1 P 0 = x.1 P 0 := by rw [xS_I, if_neg (by omega), xS0_n _ _ _ (by omega)]
theorem xS_e1 (j : Nat) : (xSt x P g j).1 P 1 = x.1 P 1 := by rw [xS_I, if_neg (by omega), xS0_n _ _ _ (by omega)]
theorem xS_e2 (j : Nat) : (xSt x P g j).1 P 2 = x.1 P 2 := by rw [xS_I, if_neg (by omega), xS0_n _ _ _ (by omega)]
theorem xS_e3 (j : Nat) : (xSt x P g j).1 P 3 = nI (gH g) := by
  rw [xS_I, if_neg (by omega)]
  unfold xSt0
  rw [wI_n _ _ (by omega), wI_s]
  rfl
theorem xS_e4 (j : Nat) : (xSt x P g j).1 P 4 = nI (gV_ g) := by
  rw [xS_I, if_neg (by omega)]
  unfold xSt0
  rw [wI_s]
  rfl
theorem xS_e5 (j : Nat) : (xSt x P g j).1 P 5 = nI (gBs g j) := by rw [xS_I, if_pos ⟨rfl, rfl⟩]
theorem xS_s (j : Nat) (hj : j < g.2.2.1) : rg_wI (rg_wA (rg_wA (rg_wA (xSt x P g j) (P + 3) (gF (x.2.2.1 (P + 3)) (gAc g) (j + 1))) (P + 4) (gF (x.2.2.1 (P + 4)) (gDn g) (j + 1))) (P + 5) (gF (x.2.2.1 (P + 5)) (gBs g) (j + 1))) P 5 (nI (gBs g (j + 1))) = xSt x P g (j + 1) := by
  refine Prod.ext ?_ (Prod.ext rfl (Prod.ext (funext fun o => ?_) rfl))
  · funext o k
    show (rg_wI _ P 5 (nI (gBs g (j + 1)))).1 o k = _
    rw [wI_1, xS_I, wA_1, wA_1, wA_1, xS_I]
    split
    · rfl
    · rfl
  · show (rg_wA (rg_wA (rg_wA (xSt x P g j) (P + 3) _) (P + 4) _) (P + 5) _).2.2.1 o = _
    rw [wA_3, wA_3, wA_3, xS_A]
    show _ = (xSt x P g (j + 1)).2.2.1 o
    rw [xS_A]
    by_cases e5 : o = P + 5
    · rw [if_pos e5, if_pos e5]
    rw [if_neg e5, if_neg e5, if_neg e5]
    by_cases e4 : o = P + 4
    · rw [if_pos e4, if_pos e4]
    rw [if_neg e4, if_neg e4, if_neg e4]
    by_cases e3 : o = P + 3
    · rw [if_pos e3, if_pos e3]
    rw [if_neg e3, if_neg e3, if_neg e3]
theorem x_settle1 (hP : isP P) (hg : gOk g) (hf : xFr x P g) : fX2_settle_67 X FU (B + P) 0 (rg_p lX B w0 (xSt x P g 0)) = some (rg_p lX B w0 (xSt x P g g.2.2.1)) := by
  have hf' := hf
  have hg' := hg
  obtain ⟨h1, h2, h3, h4, h5⟩ := hf
  obtain ⟨g1, g2, g3, g4, g5, g6, g7⟩ := hg
  refine rg_lpF (F := fun m (q : Int32 × px_W) => fX2_settle_67 X m (B + P) q.1 q.2) g.2.2.1 (fun j => (nI j, rg_p lX B w0 (xSt x P g j))) (by omega) ?_ ?_
  · intro m j hj
    dsimp only
    rw [fX2_settle_67.eq_2]
    refine ob_v (rg_I hP.o rfl) ?_
    rw [xS_e2, h3, if_neg (nI_ge hj (by omega))]
    refine ob_v (rg_C hP.o rfl) (ob_v (rg_C hP.o rfl) (ob_v (rg_A hP.a1 (by decide) j (by omega) (by decide)) (ob_v (rg_O hP.o) ?_)))
    refine ob_v (x_unitsA hP hg' (by rw [xS_e0, h1]) (xS_e3 j)) ?_
    refine ob_v (rg_sA _ hP.a3 (by decide) j _ (by omega) (by decide)) ?_
    refine ob_v (rg_C hP.o rfl) (ob_v (rg_C hP.o rfl) (ob_v (rg_A hP.a2 (by decide) j (by omega) (by decide)) (ob_v (rg_O hP.o) ?_)))
    refine ob_v (x_unitsD hP hg' (by rw [wA_1, xS_e1, h2]) (by rw [wA_1, xS_e4])) ?_
    refine ob_v (rg_sA _ hP.a4 (by decide) j _ (by omega) (by decide)) ?_
    refine ob_v (rg_C hP.o rfl) (ob_v (rg_I hP.o rfl) (ob_v (rg_sA _ hP.a5 (by decide) j _ (by omega) (by decide)) ?_))
    refine ob_v (rg_I hP.o rfl) (ob_v (rg_C hP.o rfl) (ob_v (rg_A hP.a3 (by decide) j (by omega) (by decide)) (ob_v (rg_C hP.o rfl) (ob_v (rg_A hP.a4 (by decide) j (by omega) (by decide)) ?_))))
    refine ob_v (rg_pI hP.o rfl _) ?_
    have a1 : (xSt x P g j).2.2.1 (P + 1) j = nI (g.2.2.2.1 j) := by rw [xS_A, if_neg (by omega), if_neg (by omega), if_neg (by omega), h4 j hj]
    have a2 : (xSt x P g j).2.2.1 (P + 2) j = nI (g.2.2.2.2 j) := by rw [xS_A, if_neg (by omega), if_neg (by omega), if_neg (by omega), h5 j hj]
    have m3 : upd ((xSt x P g j).2.2.1 (P + 3)) j (id (nI (g.2.2.2.1 j) * nI (gUA g))) = gF (x.2.2.1 (P + 3)) (gAc g) (j + 1) := by
      rw [← gF_s, xS_A, if_neg (by omega), if_neg (by omega), if_pos rfl, pk_mul, Nat.mul_comm]
      rfl
    have m4 : upd ((xSt x P g j).2.2.1 (P + 4)) j (id (nI (g.2.2.2.2 j) * nI (gUD g))) = gF (x.2.2.1 (P + 4)) (gDn g) (j + 1) := by
      rw [← gF_s, xS_A, if_neg (by omega), if_pos rfl, pk_mul, Nat.mul_comm]
      rfl
    have m5 : upd ((xSt x P g j).2.2.1 (P + 5)) j (id (nI (gBs g j))) = gF (x.2.2.1 (P + 5)) (gBs g) (j + 1) := by
      rw [← gF_s, xS_A, if_pos rfl]
      rfl
    simp only [wA_1]
    rw [wA_n _ _ (show P + 2 ≠ P + 3 by omega), wA_n _ _ (show P + 4 ≠ P + 3 by omega), wA_n _ _ (show P + 5 ≠ P + 4 by omega), wA_n _ _ (show P + 5 ≠ P + 3 by omega), a1, a2, xS_e5, m3, m4, m5]
    rw [wA_n _ _ (show P + 3 ≠ P + 5 by omega), wA_n _ _ (show P + 3 ≠ P + 4 by omega), wA_s, wA_n _ _ (show P + 4 ≠ P + 5 by omega), wA_s, gF_at (by omega), gF_at (by omega), pk_mul, nI_add, nI_1, ← xS_s j hj]
    rfl
  · intro m
    dsimp only
    rw [fX2_settle_67.eq_2]
    refine ob_v (rg_I hP.o rfl) ?_
    rw [xS_e2, h3, if_pos (nI_le (Nat.le_refl _) (by omega))]
theorem x_settle (hP : isP P) (hg : gOk g) (hf : xFr x P g) : fX2_settle X (rg_p lX B w0 x) (B + P) = some (rg_p lX B w0 (xSt x P g g.2.2.1)) := by
  unfold fX2_settle
  refine ob_v (rg_pI hP.o rfl _) (ob_v (rg_pI hP.o rfl _) ?_)
  refine (x_settle0 (X := X) (B := B) (w0 := w0) hP hg hf FU (by unfold FU; omega)).trans ?_
  unfold fX2_settle_60
  refine ob_v (rg_pI hP.o rfl _) ?_
  rw [← x_settle1 hP hg hf]
  congr 2
  unfold xSt
  have e : ∀ o, rg_wA (xSt0 x P g g.2.2.1) o (x.2.2.1 o) = xSt0 x P g g.2.2.1 := fun o => wA_id rfl
  rw [gF_0, gF_0, gF_0, e, e, e]
  rfl
end
