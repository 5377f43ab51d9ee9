/-! words and numbers on both sides -/
section
variable {X : px_X} {b B : Nat} {w0 w1 : px_W} {x y : rg_S} {e : eS} {o T t s W l : Nat}
theorem x_wordW (hT : isT T) (ho : o = 3 ∨ o = 5) (hR : x.2.1 195 0 = o) (h : xE x o e) (hct : x.1 195 4 = 0) (hs : s < 256) (e2 : x.2.2.1 (T + 2) s = nI W) (e3 : x.2.2.1 (T + 3) s = nI l) (hl : l ≤ 16) : ∃ x', fX7_putWord X (rg_p lX B w0 x) (B + 195) (B + T) (nI s) = some (rg_p lX B w0 x') ∧ xE x' o (ebs (nI W) l e) ∧ FXb o x x' := by
  obtain ⟨x', e', hE, hF⟩ := x_putBits (X := X) (B := B) (w0 := w0) (v := nI W) (n := l) ho hR h (by omega) hct
  refine ⟨x', ?_, hE, hF⟩
  unfold fX7_putWord
  refine ob_v (rg_I rfl rfl) (ei_t hct (ob_v (rg_C hT.o rfl) (ob_v (rg_A hT.a2 (by decide) s hs (by decide)) (ob_v (rg_C hT.o rfl) (ob_v (rg_A hT.a3 (by decide) s hs (by decide)) (ob_v (rg_O rfl) ?_))))))
  rw [e2, e3]
  exact ob_v e' rfl
theorem x_wordC {n : Nat} (hT : isT T) (hct : x.1 195 4 = 1) (hs : s < 256) (e1 : x.2.2.1 (T + 1) s = nI n) : fX7_putWord X (rg_p lX B w0 x) (B + 195) (B + T) (nI s) = some (rg_p lX B w0 (rg_wA x (T + 1) (upd (x.2.2.1 (T + 1)) s (nI (n + 1))))) := by
  unfold fX7_putWord
  refine ob_v (rg_I rfl rfl) ?_
  rw [hct]
  refine ei_n n10 (ob_v (rg_C hT.o rfl) (ob_v (rg_A hT.a1 (by decide) s hs (by decide)) (ob_v (rg_sA _ hT.a1 (by decide) s _ hs (by decide)) ?_)))
  rw [e1, nI_1]
  rfl
theorem m_wordW {n : Nat} (h : yE y e) (hct : y.1 24 35 = 0) (ht : t < 8) (hs : s < 256) (en : y.2.2.1 43 (256 * t + s) = nI n) (e2 : y.2.2.1 38 (256 * t + s) = nI W) (e3 : y.2.2.1 37 (256 * t + s) = nI l) (l1 : 1 ≤ l) (hl : l ≤ 16) : ∃ y', fX13_word X (rg_p lM b w0 y) (b + 24) (nI t) (nI s) = some (rg_p lM b w0 y') ∧ yE y' (ebs (nI W) l e) ∧ FYb (rg_wA y 43 (upd (y.2.2.1 43) (256 * t + s) (nI (n + 1)))) y' := by
  have n256 : (256 : Int32) * nI t + nI s = nI (256 * t + s) := by rw [show (256 : Int32) = nI 256 from rfl, pk_mul, nI_add]
  generalize hy1 : rg_wA y 43 (upd (y.2.2.1 43) (256 * t + s) (nI (n + 1))) = y1
  have E1 : yE y1 e := by
    rw [← hy1]
    exact h
  have i1 : y1.1 = y.1 := by rw [← hy1]; rfl
  have a1 : ∀ p, p ≠ 43 → y1.2.2.1 p = y.2.2.1 p := fun p hp => by rw [← hy1, wA_n _ _ hp]
  obtain ⟨y', e', hE, hF⟩ := m_low (X := X) (b := b) (w0 := w0) (nI W) (n := l) (M := FU) (by omega) (by unfold FU; omega) E1 (by rw [i1]; exact hct)
  have f47 : ∀ z, z = y.1 24 34 → (z = 0 ∨ z = 1) → fX13_word_47 X (b + 24) (nI (256 * t + s)) z (b + 24) (rg_p lM b w0 y1) = some (rg_p lM b w0 y') := by
    intro z hz h01
    unfold fX13_word_47
    refine ob_v (rg_pZ rfl rfl _ h01) ?_
    rw [show rg_wI y1 24 34 z = y1 from wI_id (by rw [i1]; exact hz.symm)]
    refine ob_v (rg_C rfl rfl) (ob_v (rg_A rfl (by decide) _ (by omega) (by decide)) (ob_v (rg_C rfl rfl) (ob_v (rg_A rfl (by decide) _ (by omega) (by decide)) (ob_v (rg_O rfl) ?_))))
    rw [a1 38 (by decide), a1 37 (by decide), e2, e3]
    unfold fX13_low
    exact ob_v e' rfl
  refine ⟨y', ?_, hE, hF⟩
  unfold fX13_word
  rw [n256]
  refine ob_v (rg_C rfl rfl) (ob_v (rg_A rfl (by decide) _ (by omega) (by decide)) (ob_v (rg_sA _ rfl (by decide) _ _ (by omega) (by decide)) ?_))
  rw [en, nI_1, id, hy1]
  refine ob_v (rg_I rfl rfl) ?_
  rw [i1]
  refine ei_t hct (ob_v (rg_I rfl rfl) ?_)
  rw [i1]
  have tm := h.1.2.1
  by_cases big : 16384 < e.1.length
  · rw [if_pos big] at tm
    refine ei_n (by rw [tm]; decide) ?_
    unfold fX13_word_42
    exact f47 1 tm.symm (Or.inr rfl)
  · rw [if_neg big] at tm
    refine ei_t tm (ob_v (rg_C rfl rfl) (ob_v (rg_A rfl (by decide) _ (by omega) (by decide)) ?_))
    rw [a1 37 (by decide), e3]
    exact ei_n (nI_ne0 (by omega) (by omega)) (f47 0 tm.symm (Or.inl rfl))
theorem m_wordC {n : Nat} (hct : y.1 24 35 = 1) (ht : t < 8) (hs : s < 256) (en : y.2.2.1 43 (256 * t + s) = nI n) : fX13_word X (rg_p lM b w0 y) (b + 24) (nI t) (nI s) = some (rg_p lM b w0 (rg_wA y 43 (upd (y.2.2.1 43) (256 * t + s) (nI (n + 1))))) := by
  have n256 : (256 : Int32) * nI t + nI s = nI (256 * t + s) := by rw [show (256 : Int32) = nI 256 from rfl, pk_mul, nI_add]
  unfold fX13_word
  rw [n256]
  refine ob_v (rg_C rfl rfl) (ob_v (rg_A rfl (by decide) _ (by omega) (by decide)) (ob_v (rg_sA _ rfl (by decide) _ _ (by omega) (by decide)) ?_))
  rw [en, nI_1, id]
  refine ob_v (rg_I rfl rfl) ?_
  rw [wA_1, hct]
  exact ei_n n10 rfl
/-- what a number's bits are taken from -/
def nv (z : Int) : Int32 := if z ≤ 0 then iI z - 1 else iI z
theorem x_number {z : Int} (hz : z.natAbs < 65536) (ho : o = 3 ∨ o = 5) (hR : x.2.1 195 0 = o) (h : xE x o e) (hct : x.1 195 4 = 0) : ∃ x', fX7_putNumber X (rg_p lX B w0 x) (B + 195) (iI z) (nI (sz z.natAbs)) = some (rg_p lX B w0 x') ∧ xE x' o (ebs (nv z) (sz z.natAbs) e) ∧ FXb o x x' := by
  have h16 := sz_16 hz
  have hle : iI z ≤ 0 ↔ z ≤ 0 := iI_le (b := 0) (by omega) (by omega) (by omega) (by omega)
  obtain ⟨x', e', hE, hF⟩ := x_putBits (X := X) (B := B) (w0 := w0) (v := nv z) (n := sz z.natAbs) ho hR h (by omega) hct
  refine ⟨x', ?_, hE, hF⟩
  unfold fX7_putNumber fX7_putNumber_12
  unfold nv at e'
  by_cases q : z ≤ 0
  · rw [if_pos q] at e'
    exact ei_t (hle.mpr q) (ob_v (rg_O rfl) (ob_v e' rfl))
  · rw [if_neg q] at e'
    exact ei_n (fun h => q (hle.mp h)) (ob_v (rg_O rfl) (ob_v e' rfl))
theorem m_number {z : Int} (hz : z.natAbs < 65536) (h : yE y e) (hct : y.1 24 35 = 0) : ∃ y', fX13_number X (rg_p lM b w0 y) (b + 24) (iI z) = some (rg_p lM b w0 y') ∧ yE y' (ebs (nv z) (sz z.natAbs) e) ∧ FYb y y' := by
  have h16 := sz_16 hz
  have hle : iI z ≤ 0 ↔ z ≤ 0 := iI_le (b := 0) (by omega) (by omega) (by omega) (by omega)
  obtain ⟨y', e', hE, hF⟩ := m_low (X := X) (b := b) (w0 := w0) (nv z) (n := sz z.natAbs) (M := FU) (by omega) (by unfold FU; omega) h hct
  refine ⟨y', ?_, hE, hF⟩
  unfold fX13_number fX13_number_12 fX13_low
  unfold nv at e'
  by_cases q : z ≤ 0
  · rw [if_pos q] at e'
    exact ei_t (hle.mpr q) (ob_v (m_sizeOf hz) (ob_v (rg_O rfl) (ob_v e' rfl)))
  · rw [if_neg q] at e'
    exact ei_n (fun h => q (hle.mp h)) (ob_v (m_sizeOf hz) (ob_v (rg_O rfl) (ob_v e' rfl)))
end
