/-! bytes of a file: the reference; what is over stays over -/
def yQ (y : rg_S) (L : List Int32) : Prop := yO y L ∨ 16384 < L.length ∧ y.1 0 6 = 1 ∧ ∃ k, k ≤ 16384 ∧ y.1 0 5 = nI k
def FYp (y y' : rg_S) : Prop := (∀ p k, p ≠ 0 ∨ k ≠ 5 ∧ k ≠ 6 → y'.1 p k = y.1 p k) ∧ y'.2.1 = y.2.1 ∧ (∀ p, p ≠ 3 → y'.2.2.1 p = y.2.2.1 p) ∧ y'.2.2.2 = y.2.2.2
theorem FYp.rfl {y : rg_S} : FYp y y := ⟨fun _ _ _ => Eq.refl _, Eq.refl _, fun _ _ => Eq.refl _, Eq.refl _⟩
theorem FYp.trans {y y1 y2 : rg_S} (h : FYp y y1) (h2 : FYp y1 y2) : FYp y y2 := ⟨fun p k a => (h2.1 p k a).trans (h.1 p k a), h2.2.1.trans h.2.1, fun p a => (h2.2.2.1 p a).trans (h.2.2.1 p a), h2.2.2.2.trans h.2.2.2⟩
section
variable {X : px_X} {b B : Nat} {w0 w1 : px_W} {y y' : rg_S} {n code name t : Nat} {L : List Int32} {f : Nat → Nat} {E : List ev}
theorem m_putQ (h : yQ y L) (v : Int32) : ∃ y', fX15_put X (rg_p lM b w0 y) (b + 0) v = some (rg_p lM b w0 y') ∧ yQ y' (L ++ [bt v]) ∧ FYp y y' := by
  rcases h with h | ⟨hl, h6, k, hk, h5⟩
  · obtain ⟨y', e, h', F⟩ := m_put (X := X) (b := b) (w0 := w0) h v
    exact ⟨y', e, Or.inl h', F⟩
  · have hl' : 16384 < (L ++ [bt v]).length := by
      rw [List.length_append]
      omega
    by_cases full : k = 16384
    · refine ⟨rg_wI y 0 6 1, ?_, Or.inr ⟨hl', wI_s _ _ _ _, k, hk, by rw [wI_n _ _ (by omega)]; exact h5⟩, ⟨fun p k' hp => wI_n _ _ (by omega), rfl, fun _ _ => rfl, rfl⟩⟩
      unfold fX15_put
      refine ob_v (rg_I rfl rfl) ?_
      rw [h5, full]
      exact ei_t rfl (ob_v (rg_pZ rfl rfl _ (Or.inr rfl)) rfl)
    · refine ⟨rg_wI (rg_wA y 3 (upd (y.2.2.1 3) k (bt v))) 0 5 (nI (k + 1)), ?_, Or.inr ⟨hl', by rw [wI_n _ _ (by omega), wA_1]; exact h6, k + 1, by omega, wI_s _ _ _ _⟩, ⟨fun p k' hp => by rw [wI_n _ _ (by omega), wA_1], rfl, fun p hp => by rw [wI_2, wA_n _ _ hp], rfl⟩⟩
      unfold fX15_put
      refine ob_v (rg_I rfl rfl) ?_
      rw [h5]
      refine ei_n (fun e => full ((nI_eq (b := 16384) (by omega) (by omega)).mp e)) (ob_v (rg_C rfl rfl) (ob_v (rg_I rfl rfl) ?_))
      rw [h5]
      refine ob_v (rg_sA _ rfl (by decide) _ _ (by omega) (by decide)) (ob_v (rg_I rfl rfl) (ob_v (rg_pI rfl rfl _) ?_))
      rw [wA_1, h5, nI_1, pk_vb]
      rfl
theorem m_twoQ (h : yQ y L) (hn : n < 2 ^ 31) : ∃ y', fX15_two X (rg_p lM b w0 y) (b + 0) (nI n) = some (rg_p lM b w0 y') ∧ yQ y' (L ++ tw n) ∧ FYp y y' := by
  obtain ⟨x1, e1, h1, F1⟩ := m_putQ (X := X) (b := b) (w0 := w0) h (nI (n / 256))
  obtain ⟨x2, e2, h2, F2⟩ := m_putQ (X := X) (b := b) (w0 := w0) h1 (nI n)
  refine ⟨x2, ?_, ?_, F1.trans F2⟩
  · unfold fX15_two
    rw [sh8 hn]
    exact ob_v (rg_O rfl) (ob_v e1 (ob_v (rg_O rfl) (ob_v e2 rfl)))
  · rw [List.append_assoc] at h2
    exact h2
theorem m_beg (h : yQ y L) (hn : n < 2 ^ 30) : ∃ y', fX15_begin X (rg_p lM b w0 y) (b + 0) (nI code) (nI n) = some (rg_p lM b w0 y') ∧ yQ y' (L ++ sg code n) ∧ FYp y y' := by
  obtain ⟨x1, e1, h1, F1⟩ := m_putQ (X := X) (b := b) (w0 := w0) h 255
  obtain ⟨x2, e2, h2, F2⟩ := m_putQ (X := X) (b := b) (w0 := w0) h1 (nI code)
  obtain ⟨x3, e3, h3, F3⟩ := m_twoQ (X := X) (b := b) (w0 := w0) h2 (n := n + 2) (by omega)
  refine ⟨x3, ?_, ?_, F1.trans (F2.trans F3)⟩
  · unfold fX15_begin
    rw [show nI n + 2 = nI (n + 2) from nI_add n 2]
    exact ob_v (rg_O rfl) (ob_v e1 (ob_v (rg_O rfl) (ob_v e2 (ob_v (rg_O rfl) (ob_v e3 rfl)))))
  · have e : L ++ [bt 255] ++ [bt (nI code)] ++ tw (n + 2) = L ++ sg code n := by
      unfold sg
      simp only [List.append_assoc, List.cons_append, List.nil_append]
    rw [e] at h3
    exact h3
theorem m_dist (ht : t < 8) (hf : ∀ s, s < 256 → y.2.2.1 43 (256 * t + s) = nI (f s)) (hb : ∀ s, s < 256 → f s < 2 ^ 31) : fX15_distinct X (rg_p lM b w0 y) (b + 0) (nI t) = some (nI (cn f 256), rg_p lM b w0 y) := by
  have lp : ∀ (k M i : Nat), i + k = 256 → k < M → fX15_distinct_4 X M (b + 0) (nI t) (nI (cn f i)) (nI i) (rg_p lM b w0 y) = some (nI (cn f 256), rg_p lM b w0 y) := by
    intro k
    induction k with
    | zero =>
      intro M i hi hM
      obtain rfl : i = 256 := by omega
      obtain ⟨M, rfl⟩ : ∃ M', M = M' + 1 := ⟨M - 1, by omega⟩
      rw [fX15_distinct_4.eq_2]
      exact ei_t (by decide) rfl
    | succ k ih =>
      intro M i hi hM
      obtain ⟨M, rfl⟩ : ∃ M', M = M' + 1 := ⟨M - 1, by omega⟩
      have e := ih M (i + 1) (by omega) (by omega)
      rw [fX15_distinct_4.eq_2]
      refine ei_n (nI_ge (b := 256) (by omega) (by omega)) (ob_v (rg_C rfl rfl) (ob_v (rg_C rfl rfl) ?_))
      rw [show (256 : Int32) = nI 256 from rfl, pk_mul, nI_add]
      refine ob_v (rg_A rfl (by decide) _ (by omega) (by decide)) ?_
      rw [hf i (by omega)]
      unfold fX15_distinct_35
      rw [nI_1]
      by_cases z : 0 < f i
      · rw [cn_s1 z] at e
        refine ei_n (nI_nle z (hb i (by omega))) ?_
        rw [nI_1]
        exact e
      · rw [cn_s0 z] at e
        refine ei_t (by rw [show f i = 0 by omega]; decide) ?_
        rw [show (0 : Int32) = nI 0 from rfl, nI_add, Nat.add_zero]
        exact e
  unfold fX15_distinct
  exact lp 256 FU 0 rfl (by unfold FU; omega)
theorem m_tb24 {F : Nat → Int32} : ∀ (k M i : Nat) (y : rg_S) (L : List Int32), i + k = 16 → k < M → (∀ l, 1 ≤ l → l ≤ 16 → y.2.2.1 49 l = F (l - 1)) → yQ y (L ++ mp (fun l => bt (F l)) i) → ∃ y', fX15_putTable_24 X M (b + 0) (nI (i + 1)) (rg_p lM b w0 y) = fX15_putTable_49 X (b + 0) (rg_p lM b w0 y') ∧ yQ y' (L ++ mp (fun l => bt (F l)) 16) ∧ FYp y y' := by
  intro k
  induction k with
  | zero =>
    intro M i y L hi hM hF h
    obtain rfl : i = 16 := by omega
    obtain ⟨M, rfl⟩ : ∃ M', M = M' + 1 := ⟨M - 1, by omega⟩
    refine ⟨y, ?_, h, FYp.rfl⟩
    rw [fX15_putTable_24.eq_2]
    exact ei_t (by decide) rfl
  | succ k ih =>
    intro M i y L hi hM hF h
    obtain ⟨M, rfl⟩ : ∃ M', M = M' + 1 := ⟨M - 1, by omega⟩
    obtain ⟨x1, e1, h1, F1⟩ := m_putQ (X := X) (b := b) (w0 := w0) h (F i)
    rw [List.append_assoc, ← mp_s (fun l => bt (F l)) i] at h1
    obtain ⟨x2, e2, h2, F2⟩ := ih M (i + 1) x1 L (by omega) (by omega) (fun l l1 l2 => by rw [F1.2.2.1 _ (by omega)]; exact hF l l1 l2) h1
    refine ⟨x2, ?_, h2, F1.trans F2⟩
    rw [fX15_putTable_24.eq_2]
    refine ei_n (nI_ge (b := 17) (a := i + 1) (by omega) (by omega)) (ob_v (rg_C rfl rfl) (ob_v (rg_C rfl rfl) (ob_v (rg_A rfl (by decide) _ (by omega) (by decide)) (ob_v (rg_O rfl) ?_))))
    rw [hF (i + 1) (by omega) (by omega), show i + 1 - 1 = i by omega]
    refine ob_v e1 ?_
    rw [nI_1]
    exact e2
theorem m_tb51 {F : Nat → Int32} {N : Nat} (hN : N ≤ 256) : ∀ (k M i : Nat) (y : rg_S) (L : List Int32), i + k = N → k < M → y.1 48 2 = nI N → (∀ l, l < N → y.2.2.1 50 l = F l) → yQ y (L ++ mp (fun l => bt (F l)) i) → ∃ y', fX15_putTable_51 X M (b + 0) (nI i) (rg_p lM b w0 y) = some (rg_p lM b w0 y') ∧ yQ y' (L ++ mp (fun l => bt (F l)) N) ∧ FYp y y' := by
  intro k
  induction k with
  | zero =>
    intro M i y L hi hM h5 hF h
    obtain rfl : i = N := by omega
    obtain ⟨M, rfl⟩ : ∃ M', M = M' + 1 := ⟨M - 1, by omega⟩
    refine ⟨y, ?_, h, FYp.rfl⟩
    rw [fX15_putTable_51.eq_2]
    refine ob_v (rg_C rfl rfl) (ob_v (rg_I rfl rfl) ?_)
    rw [h5]
    exact ei_t (nI_le (Nat.le_refl _) (by omega)) rfl
  | succ k ih =>
    intro M i y L hi hM h5 hF h
    obtain ⟨M, rfl⟩ : ∃ M', M = M' + 1 := ⟨M - 1, by omega⟩
    obtain ⟨x1, e1, h1, F1⟩ := m_putQ (X := X) (b := b) (w0 := w0) h (F i)
    rw [List.append_assoc, ← mp_s (fun l => bt (F l)) i] at h1
    obtain ⟨x2, e2, h2, F2⟩ := ih M (i + 1) x1 L (by omega) (by omega) (by rw [F1.1 _ _ (by omega)]; exact h5) (fun l l2 => by rw [F1.2.2.1 _ (by omega)]; exact hF l l2) h1
    refine ⟨x2, ?_, h2, F1.trans F2⟩
    rw [fX15_putTable_51.eq_2]
    refine ob_v (rg_C rfl rfl) (ob_v (rg_I rfl rfl) ?_)
    rw [h5]
    refine ei_n (nI_ge (by omega) (by omega)) (ob_v (rg_C rfl rfl) (ob_v (rg_C rfl rfl) (ob_v (rg_A rfl (by decide) _ (by omega) (by decide)) (ob_v (rg_O rfl) ?_))))
    rw [hF i (by omega)]
    refine ob_v e1 ?_
    rw [nI_1]
    exact e2
/-- a table made and put -/
theorem m_ptb (ht : t < 8) (hl : E.length ≤ 1352000000) (hf : ∀ s, s < 256 → y.2.2.1 43 (256 * t + s) = nI (cnt E t s)) (h : yQ y L) : ∃ y1 y', fX15_putTable X (rg_p lM b w0 y) (b + 0) (nI t) = some (rg_p lM b w0 y') ∧ yQ y' (L ++ tb (if 4 ≤ t then 12 + t else t) (fF E t)) ∧ FMk t y y1 ∧ yMT y1 t (fF E t) ∧ FYp y1 y' := by
  have hN := cn_b (fF E t) 256
  obtain ⟨y1, e1, F1, ⟨t2, t4, ts⟩, mt⟩ := m_make (X := X) (b := b) (w0 := w0) (y := y) (f := fF E t) ht (fF_256 E t) (fF_sum hl) (fun s hs => by rw [fF_lt hs]; exact hf s hs)
  have h1 : yQ y1 L := by
    unfold yQ yO at *
    rw [F1.1 0 5 (by omega) (by omega), F1.1 0 6 (by omega) (by omega), F1.2.2.1 3 (by omega) (by omega)]
    exact h
  obtain ⟨y2, e2, h2, F2⟩ := m_putQ (X := X) (b := b) (w0 := w0) h1 (nI (if 4 ≤ t then 12 + t else t))
  obtain ⟨y3, e3, h3, F3⟩ := m_tb24 (X := X) (b := b) (w0 := w0) (F := fun l => nI (bC (fF E t) (l + 1))) 16 FU 0 y2 (L ++ [bt (nI (if 4 ≤ t then 12 + t else t))]) rfl (by unfold FU; omega) (fun l l1 l2 => by rw [F2.2.2.1 _ (by omega), t4 l l1 l2, show l - 1 + 1 = l by omega]) (by rw [mp_0, List.append_nil]; exact h2)
  obtain ⟨y4, e4, h4, F4⟩ := m_tb51 (X := X) (b := b) (w0 := w0) (F := fun i => nI ((bO (fF E t)).getD i 0)) (N := cn (fF E t) 256) hN (cn (fF E t) 256) FU 0 y3 (L ++ [bt (nI (if 4 ≤ t then 12 + t else t))] ++ mp (fun l => bt (nI (bC (fF E t) (l + 1)))) 16) (by omega) (by unfold FU; omega) (by rw [F3.1 _ _ (by omega), F2.1 _ _ (by omega)]; exact t2) (fun l l2 => by rw [F3.2.2.1 _ (by omega), F2.2.2.1 _ (by omega)]; exact ts l l2) (by rw [mp_0, List.append_nil]; exact h3)
  refine ⟨y1, y4, ?_, ?_, F1, mt, F2.trans (F3.trans F4)⟩
  · have e19 : fX15_putTable_19 X (b + 0) (nI (if 4 ≤ t then 12 + t else t)) (b + 0) (rg_p lM b w0 y1) = some (rg_p lM b w0 y4) := by
      unfold fX15_putTable_19
      refine ob_v (rg_O rfl) (ob_v e2 ?_)
      refine (show fX15_putTable_24 X FU (b + 0) (nI (0 + 1)) _ = _ from e3).trans ?_
      unfold fX15_putTable_49
      exact e4
    unfold fX15_putTable
    refine ob_v (rg_O rfl) (ob_v e1 ?_)
    by_cases q : 4 ≤ t
    · rw [if_pos q] at e19
      refine ei_t (nI_le (a := 4) q (by omega)) ?_
      rw [show (12 : Int32) + nI t = nI (12 + t) from nI_add 12 t]
      exact e19
    · rw [if_neg q] at e19
      exact ei_n (nI_ge (b := 4) (by omega) (by omega)) e19
  · rw [List.append_assoc, List.append_assoc] at h4
    unfold tb
    rw [List.append_assoc]
    exact h4
end
