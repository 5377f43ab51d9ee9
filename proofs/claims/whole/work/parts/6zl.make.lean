/-! the reference makes a table of the times that symbols occur -/
theorem aW_out {S : List Nat} {g : Nat → Nat} {o : Nat} {Z : Nat → Int32} {i : Nat} (hi : ¬ (o ≤ i ∧ i < o + 256)) : ∀ {d : Nat}, (∀ j, j < d → S.getD j 0 < 256) → aW S g o Z d i = Z i := by
  intro d
  induction d with
  | zero => intro _; rfl
  | succ d ih =>
    intro h
    have h1 := h d (by omega)
    unfold aW
    rw [pk_un (by omega)]
    exact ih (fun j hj => h j (by omega))
/-- a symbol's value doesn't depend on what was there -/
theorem aW_in {S : List Nat} {g : Nat → Nat} {o o' : Nat} {Z Z' : Nat → Int32} {s : Nat} : ∀ {d : Nat}, (∃ j, j < d ∧ S.getD j 0 = s) → aW S g o Z d (o + s) = aW S g o' Z' d (o' + s) := by
  intro d
  induction d with
  | zero => rintro ⟨j, h, _⟩; exact absurd h (Nat.not_lt_zero j)
  | succ d ih =>
    rintro ⟨j, h1, h2⟩
    unfold aW
    by_cases e : S.getD d 0 = s
    · rw [e, pk_us, pk_us]
    · rw [pk_un (by omega), pk_un (by omega)]
      refine ih ⟨j, ?_, h2⟩
      by_cases ej : j = d
      · rw [ej] at h2; exact absurd h2 e
      · omega
def FMk (t : Nat) (y y' : rg_S) : Prop := (∀ o k, ¬ (o = 48 ∧ (k = 2 ∨ k = 4)) → ¬ (o = 24 ∧ k = 16) → y'.1 o k = y.1 o k) ∧ y'.2.1 = y.2.1 ∧ (∀ o, ¬ (34 ≤ o ∧ o ≤ 38) → ¬ (49 ≤ o ∧ o ≤ 55) → y'.2.2.1 o = y.2.2.1 o) ∧ ∀ i, ¬ (256 * t ≤ i ∧ i < 256 * t + 256) → y'.2.2.1 37 i = y.2.2.1 37 i ∧ y'.2.2.1 38 i = y.2.2.1 38 i
/-- what a made table holds -/
def yMT (y : rg_S) (t : Nat) (f : Nat → Nat) : Prop := ∃ Z3 Z2, y.2.2.1 37 = aW (bO f) (gL (bC f) 16) (256 * t) Z3 (cn f 256) ∧ y.2.2.1 38 = aW (bO f) (gW (bC f)) (256 * t) Z2 (cn f 256)
section
variable {X : px_X} {b B : Nat} {w0 w1 : px_W} {x y : rg_S} {t : Nat} {f : Nat → Nat}
theorem m_make (ht : t < 8) (h256 : f 256 = 1) (hs : sumN f 257 < 2 ^ 31) (hf : ∀ s, s < 256 → y.2.2.1 43 (256 * t + s) = nI (f s)) : ∃ y', fX15_make X (rg_p lM b w0 y) (b + 0) (nI t) = some (rg_p lM b w0 y') ∧ FMk t y y' ∧ yTb y' f ∧ yMT y' t f := by
  have hMb := cn_b f 256
  have n256 : ∀ k, (256 : Int32) * nI t + nI k = nI (256 * t + k) := fun k => by rw [show (256 : Int32) = nI 256 from rfl, pk_mul, nI_add]
  generalize hy1 : rg_wI (rg_wA y 51 (fU 256 (fun s => nI (f s)) (y.2.2.1 51))) 48 4 (nI (sumN f 256)) = y1
  have a1 : ∀ o, o ≠ 51 → y1.2.2.1 o = y.2.2.1 o := fun o ho => by rw [← hy1, wI_2, wA_n _ _ ho]
  have i1 : ∀ o k, o ≠ 48 ∨ k ≠ 4 → y1.1 o k = y.1 o k := fun o k hk => by rw [← hy1, wI_n _ _ hk, wA_1]
  obtain ⟨y2, e2, F2, T2⟩ := m_best (X := X) (b := b) (w0 := w0) (y := y1) h256 hs (fun p hp => by rw [← hy1, wI_2, wA_s, fU_lt hp]) (by rw [← hy1, wI_s])
  generalize hy3 : rg_wA y2 34 (fU 17 (fun l => if l = 0 then y2.2.2.1 34 0 else nI (bC f l)) (y2.2.2.1 34)) = y3
  have a3 : ∀ o, o ≠ 34 → y3.2.2.1 o = y2.2.2.1 o := fun o ho => by rw [← hy3, wA_n _ _ ho]
  have i3 : y3.1 = y2.1 := by rw [← hy3, wA_1]
  generalize hy4 : rg_wA (rg_wI y3 24 16 (nI (cn f 256))) 35 (fU (cn f 256) (fun i => nI ((bO f).getD i 0)) (y3.2.2.1 35)) = y4
  have a4 : ∀ o, o ≠ 35 → y4.2.2.1 o = y3.2.2.1 o := fun o ho => by rw [← hy4, wA_n _ _ ho, wI_2]
  have i4 : ∀ o k, o ≠ 24 ∨ k ≠ 16 → y4.1 o k = y2.1 o k := fun o k hk => by rw [← hy4, wA_1, wI_n _ _ hk, i3]
  have lt : ∀ i, i < cn f 256 → (bO f).getD i 0 < 256 := fun i hi => (bO_lt h256 hi).1
  have D4 : yD y4 (bC f) (bO f) (cn f 256) := by
    refine ⟨hMb, ?_, bC_tot h256, fun l h1 h2 => ?_, bC_le h256, fun n hn => nx_lt h256 hn, fun i hi => ⟨?_, lt i hi⟩, fun i j hi hj => bO_nd h256 hi hj⟩
    · rw [← hy4, wA_1, wI_s]
    · rw [a4 34 (by decide), ← hy3, wA_s, fU_lt (by omega), if_neg (by omega)]
    · rw [← hy4, wA_s, fU_lt hi]
  have e5 := m_smake (X := X) (b := b) (w0 := w0) ht D4
  have fr5 : ∀ o, o ≠ 36 → o ≠ 37 → o ≠ 38 → (yMk y4 (bC f) (bO f) t (cn f 256)).2.2.1 o = y4.2.2.1 o := fun o o1 o2 o3 => by
    unfold yMk
    rw [wA_n _ _ o1, wA_n _ _ o3, wA_n _ _ o2]
  have r37 : (yMk y4 (bC f) (bO f) t (cn f 256)).2.2.1 37 = aW (bO f) (gL (bC f) 16) (256 * t) (fZ (256 * t) 256 (y4.2.2.1 37)) (cn f 256) := rfl
  have r38 : (yMk y4 (bC f) (bO f) t (cn f 256)).2.2.1 38 = aW (bO f) (gW (bC f)) (256 * t) (y4.2.2.1 38) (cn f 256) := rfl
  have up : ∀ o, ¬ (34 ≤ o ∧ o ≤ 36) → ¬ (49 ≤ o ∧ o ≤ 55) → y4.2.2.1 o = y.2.2.1 o := fun o o1 o2 => by
    rw [a4 o (by omega), a3 o (by omega), F2.2.2.1 o o2, a1 o (by omega)]
  refine ⟨yMk y4 (bC f) (bO f) t (cn f 256), ?_, ⟨fun o k h1 h2 => ?_, ?_, fun o h1 h2 => ?_, fun i hi => ⟨?_, ?_⟩⟩, ⟨?_, fun l h1 h2 => ?_, fun i hi => ?_⟩, _, _, r37, r38⟩
  · unfold fX15_make
    refine ob_v (rg_C rfl rfl) (ob_v (rg_pI rfl rfl _) ?_)
    have e := rg_lpF (F := fun u (q : Int32 × px_W) => fX15_make_10 X u (b + 0) (nI t) q.1 q.2) 256 (fun k => (nI k, rg_p lM b w0 (rg_wI (rg_wA y 51 (fU k (fun s => nI (f s)) (y.2.2.1 51))) 48 4 (nI (sumN f k))))) (r := fX15_make_68 X (b + 0) (nI t) (rg_p lM b w0 y1)) (by omega) ?_ ?_
    · have e' : fX15_make_10 X FU (b + 0) (nI t) 0 (rg_p lM b w0 (rg_wI y 48 4 0)) = fX15_make_68 X (b + 0) (nI t) (rg_p lM b w0 y1) := by
        refine Eq.trans ?_ e
        dsimp only
        rw [fU_0, show rg_wA y 51 (y.2.2.1 51) = y from wA_id rfl, nI_0]
        rfl
      refine e'.trans ?_
      unfold fX15_make_68
      refine ob_v (rg_C rfl rfl) (ob_v (rg_O rfl) (ob_v e2 ?_))
      have e3 := rg_lpF (F := fun u (q : Int32 × px_W) => fX15_make_77 X u (b + 0) (nI t) q.1 q.2) 16 (fun l => (nI (l + 1), rg_p lM b w0 (rg_wA y2 34 (fU (l + 1) (fun l => if l = 0 then y2.2.2.1 34 0 else nI (bC f l)) (y2.2.2.1 34))))) (r := fX15_make_107 X (b + 0) (nI t) (rg_p lM b w0 y3)) (by omega) ?_ ?_
      · have e3' : fX15_make_77 X FU (b + 0) (nI t) 1 (rg_p lM b w0 y2) = fX15_make_107 X (b + 0) (nI t) (rg_p lM b w0 y3) := by
          refine Eq.trans ?_ e3
          dsimp only
          rw [← fU_same (n := 0) (f := fun l => if l = 0 then y2.2.2.1 34 0 else nI (bC f l)) (g := y2.2.2.1 34) (if_pos rfl).symm, fU_0, wA_id rfl]
          rfl
        refine e3'.trans ?_
        unfold fX15_make_107
        refine ob_v (rg_C rfl rfl) (ob_v (rg_C rfl rfl) (ob_v (rg_I rfl rfl) (ob_v (rg_pI rfl rfl _) ?_)))
        rw [i3, T2.1]
        have e4 := rg_lpF (F := fun u (q : Int32 × px_W) => fX15_make_123 X u (b + 0) (nI t) q.1 q.2) (cn f 256) (fun i => (nI i, rg_p lM b w0 (rg_wA (rg_wI y3 24 16 (nI (cn f 256))) 35 (fU i (fun i => nI ((bO f).getD i 0)) (y3.2.2.1 35))))) (r := some (rg_p lM b w0 (yMk y4 (bC f) (bO f) t (cn f 256)))) (by omega) ?_ ?_
        · refine Eq.trans ?_ e4
          dsimp only
          rw [fU_0, show rg_wA (rg_wI y3 24 16 (nI (cn f 256))) 35 (y3.2.2.1 35) = rg_wI y3 24 16 (nI (cn f 256)) from wA_id rfl, nI_0]
        · intro m i hi
          dsimp only
          rw [fX15_make_123.eq_2]
          refine ob_v (rg_C rfl rfl) (ob_v (rg_I rfl rfl) ?_)
          rw [wA_1, wI_n _ _ (by omega), i3, T2.1]
          refine ei_n (nI_ge hi (by omega)) (ob_v (rg_C rfl rfl) (ob_v (rg_C rfl rfl) (ob_v (rg_C rfl rfl) (ob_v (rg_C rfl rfl) (ob_v (rg_A rfl (by decide) i (by omega) (by decide)) (ob_v (rg_sA _ rfl (by decide) i _ (by omega) (by decide)) ?_))))))
          rw [wA_wA, wA_s, wA_n _ _ (show 50 ≠ 35 by decide), wI_2, a3 50 (by decide), T2.2.2 i hi, id, nI_1, ← fU_s]
        · intro m
          dsimp only
          rw [fX15_make_123.eq_2]
          refine ob_v (rg_C rfl rfl) (ob_v (rg_I rfl rfl) ?_)
          rw [wA_1, wI_n _ _ (by omega), i3, T2.1, hy4]
          refine ei_t (nI_le (Nat.le_refl _) (by omega)) ?_
          unfold fX15_make_158
          exact ob_v (rg_C rfl rfl) (ob_v (rg_O rfl) (ob_v e5 rfl))
      · intro m l hl
        dsimp only
        rw [fX15_make_77.eq_2]
        refine ei_n (nI_ge (b := 17) (by omega) (by omega)) (ob_v (rg_C rfl rfl) (ob_v (rg_C rfl rfl) (ob_v (rg_C rfl rfl) (ob_v (rg_C rfl rfl) (ob_v (rg_A rfl (by decide) (l + 1) (by omega) (by decide)) (ob_v (rg_sA _ rfl (by decide) (l + 1) _ (by omega) (by decide)) ?_))))))
        have e1 := fU_s (l + 1) (fun l => if l = 0 then y2.2.2.1 34 0 else nI (bC f l)) (y2.2.2.1 34)
        rw [if_neg (show ¬ l + 1 = 0 by omega)] at e1
        rw [wA_n _ _ (show 49 ≠ 34 by decide), T2.2.1 (l + 1) (by omega) (by omega), wA_wA, wA_s, id, nI_1, e1]
      · intro m
        dsimp only
        rw [fX15_make_77.eq_2, hy3]
        exact ei_t (by decide) rfl
    · intro m k hk
      dsimp only
      have hfk := sumN_ge (f := f) (show k < 257 by omega)
      rw [fX15_make_10.eq_2, n256]
      refine ei_n (nI_ge (b := 256) hk (by omega)) (ob_v (rg_C rfl rfl) (ob_v (rg_C rfl rfl) (ob_v (rg_C rfl rfl) (ob_v (rg_C rfl rfl) (ob_v (rg_A rfl (by decide) _ (by omega) (by decide)) (ob_v (rg_sA _ rfl (by decide) k _ hk (by decide)) (ob_v (rg_C rfl rfl) (ob_v (rg_I rfl rfl) (ob_v (rg_C rfl rfl) (ob_v (rg_C rfl rfl) (ob_v (rg_A rfl (by decide) k hk (by decide)) (ob_v (rg_pI rfl rfl _) ?_))))))))))))
      have r43 : (rg_wI (rg_wA y 51 (fU k (fun s => nI (f s)) (y.2.2.1 51))) 48 4 (nI (sumN f k))).2.2.1 43 (256 * t + k) = nI (f k) := by
        rw [wI_2, wA_n _ _ (by decide)]
        exact hf k hk
      rw [r43, wA_s, pk_us, wA_1, wI_s, id, nI_add, nI_1, wI_2, wA_s, fU_s k (fun s => nI (f s)) (y.2.2.1 51), wI_wA, wI_wI, wA_wA]
      rfl
    · intro m
      dsimp only
      rw [fX15_make_10.eq_2, hy1]
      exact ei_t (by decide) rfl
  · show y4.1 o k = y.1 o k
    rw [i4 o k (by omega), F2.1 o k (by omega), i1 o k (by omega)]
  · show y4.2.1 = y.2.1
    rw [← hy4, wA_2, wI_2, ← hy3, wA_2, F2.2.1, ← hy1]
    rfl
  · rw [fr5 o (by omega) (by omega) (by omega), up o (by omega) h2]
  · rw [r37, aW_out hi lt]
    unfold fZ
    rw [if_neg hi, up 37 (by omega) (by omega)]
  · rw [r38, aW_out hi lt, up 38 (by omega) (by omega)]
  · show y4.1 48 2 = _
    rw [i4 48 2 (by omega)]
    exact T2.1
  · rw [fr5 49 (by decide) (by decide) (by decide), a4 49 (by decide), a3 49 (by decide)]
    exact T2.2.1 l h1 h2
  · rw [fr5 50 (by decide) (by decide) (by decide), a4 50 (by decide), a3 50 (by decide)]
    exact T2.2.2 i hi
end
