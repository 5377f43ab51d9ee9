/-! bits of the class -/
section
variable {X : px_X} {b B : Nat} {w0 w1 : px_W} {x y : rg_S} {e : eS} {o : Nat}
/-- one turn of putBits -/
theorem x_bit1 {v : Int32} {k M : Nat} (ho : o = 3 ∨ o = 5) (hR : x.2.1 195 0 = o) (h : xE x o e) (hk : k < 31) : ∃ x', fX7_putBits_12 X (M + 1) (B + 195) v (nI k) (rg_p lX B w0 x) = fX7_putBits_12 X M (B + 195) v (nI k + (-1)) (rg_p lX B w0 x') ∧ xE x' o (eb (vb v k) e) ∧ FXb o x x' := by
  have hby : isBy o := Or.inr ho
  obtain ⟨h1, h2, h3, h4⟩ := h
  have hp := p8_lt h4
  have hn := h4.1
  have hc := vb_2 v k
  have ok := eb_ok hc h4
  generalize hx1 : rg_wI (rg_wI x 195 5 (nI (2 * e.2.1 + vb v k))) 195 6 (nI (e.2.2 + 1)) = x1
  have F1 : FXb o x x1 := by
    rw [← hx1]
    exact ⟨fun p k hk _ => by rw [wI_n _ _ (by omega), wI_n _ _ (by omega)], Eq.refl _, fun _ _ => Eq.refl _, Eq.refl _⟩
  have z1 : xO x1 o e.1 := by
    unfold xO
    rw [show x1.1 o 1 = x.1 o 1 by rw [← hx1, wI_n _ _ (by omega), wI_n _ _ (by omega)], show x1.1 o 2 = x.1 o 2 by rw [← hx1, wI_n _ _ (by omega), wI_n _ _ (by omega)], show x1.2.2.1 (o + 1) = x.2.2.1 (o + 1) by rw [← hx1]; rfl]
    exact h1
  have r5 : x1.1 195 5 = nI (2 * e.2.1 + vb v k) := by rw [← hx1, wI_n _ _ (by omega), wI_s]
  have r6 : x1.1 195 6 = nI (e.2.2 + 1) := by rw [← hx1, wI_s]
  have gq : ∀ x2 : rg_S, x2.2.1 = x.2.1 → gR (rg_p lX B w0 x2) (B + 195) 7 0 = some (B + o) := fun x2 hh => by rw [← hR, ← hh]; exact rg_R rfl rfl
  have start : ∀ r, (if nI (e.2.2 + 1) = 8 then (gR (rg_p lX B w0 x1) (B + 195) 7 0).bind fun v26 => (gI (rg_p lX B w0 x1) (B + 195) 7 5).bind fun v27 => (gO (rg_p lX B w0 x1) v26 1).bind fun o28 => (fX1_add X (rg_p lX B w0 x1) v26 v27).bind fun q29 => (gI q29 (B + 195) 7 5).bind fun v30 => if v30 = 255 then (gR q29 (B + 195) 7 0).bind fun v32 => (gO q29 v32 1).bind fun o33 => (fX1_add X q29 v32 0).bind fun q34 => fX7_putBits_80 X (fX7_putBits_12 X M) (B + 195) v (nI k) q34 else fX7_putBits_80 X (fX7_putBits_12 X M) (B + 195) v (nI k) q29 else fX7_putBits_90 X (fX7_putBits_12 X M) (B + 195) v (nI k) (rg_p lX B w0 x1)) = r → fX7_putBits_12 X (M + 1) (B + 195) v (nI k) (rg_p lX B w0 x) = r := by
    intro r hr
    rw [fX7_putBits_12.eq_2]
    refine ei_n (nI_nlt (b := 0) (by omega) (by omega)) (ob_v (rg_I rfl rfl) ?_)
    rw [h2, vb_e, nI_2, nI_add]
    refine ob_v (rg_pI rfl rfl _) (ob_v (rg_I rfl rfl) ?_)
    rw [wI_n _ _ (by omega), h3, nI_1]
    refine ob_v (rg_pI rfl rfl _) (ob_v (rg_I rfl rfl) ?_)
    rw [hx1, r6]
    exact hr
  have fin : ∀ (x2 : rg_S) (L : List Int32), xO x2 o L → FXb o x x2 → eb (vb v k) e = (L, 0, 0) → ∃ x', fX7_putBits_80 X (fX7_putBits_12 X M) (B + 195) v (nI k) (rg_p lX B w0 x2) = fX7_putBits_12 X M (B + 195) v (nI k + (-1)) (rg_p lX B w0 x') ∧ xE x' o (eb (vb v k) e) ∧ FXb o x x' := by
    intro x2 L hz hF he
    refine ⟨rg_wI (rg_wI x2 195 5 0) 195 6 0, ?_, ?_, hF.trans ⟨fun p k hk _ => by rw [wI_n _ _ (by omega), wI_n _ _ (by omega)], Eq.refl _, fun _ _ => Eq.refl _, Eq.refl _⟩⟩
    · unfold fX7_putBits_80 fX7_putBits_90
      exact ob_v (rg_pI rfl rfl _) (ob_v (rg_pI rfl rfl _) rfl)
    · rw [he]
      refine ⟨?_, rfl, rfl, (show 0 < 8 by decide), (show 0 < 2 ^ 0 by decide)⟩
      unfold xO
      rw [wI_n _ _ (show o ≠ 195 ∨ 1 ≠ 6 by omega), wI_n _ _ (show o ≠ 195 ∨ 1 ≠ 5 by omega), wI_n _ _ (show o ≠ 195 ∨ 2 ≠ 6 by omega), wI_n _ _ (show o ≠ 195 ∨ 2 ≠ 5 by omega), wI_2, wI_2]
      exact hz
  by_cases q : e.2.2 + 1 = 8
  · obtain ⟨x2, e2, z2, f1, f2, f3, f4⟩ := x_oadd (X := X) (B := B) (w0 := w0) hby z1 (nI (2 * e.2.1 + vb v k))
    have F2 : FXb o x x2 := F1.trans ⟨fun p k _ hk => f1 p k (by omega), f2, f3, f4⟩
    by_cases q2 : 2 * e.2.1 + vb v k = 255
    · obtain ⟨x3, e3, z3, g1, g2, g3, g4⟩ := x_oadd (X := X) (B := B) (w0 := w0) hby z2 0
      have F3 : FXb o x x3 := F2.trans ⟨fun p k _ hk => g1 p k (by omega), g2, g3, g4⟩
      obtain ⟨x', e', hE, hF⟩ := fin x3 _ z3 F3 (by unfold eb; rw [if_pos q, if_pos q2])
      refine ⟨x', start _ (ei_t (by rw [q]; rfl) (ob_v (gq x1 F1.2.1) (ob_v (rg_I rfl rfl) (ob_v (rg_O hby.o) ?_)))), hE, hF⟩
      rw [r5]
      refine ob_v e2 (ob_v (rg_I rfl rfl) ?_)
      rw [f1 195 5 (by omega), r5]
      exact ei_t (by rw [q2]; rfl) (ob_v (gq x2 F2.2.1) (ob_v (rg_O hby.o) (ob_v e3 e')))
    · obtain ⟨x', e', hE, hF⟩ := fin x2 _ z2 F2 (by unfold eb; rw [if_pos q, if_neg q2])
      refine ⟨x', start _ (ei_t (by rw [q]; rfl) (ob_v (gq x1 F1.2.1) (ob_v (rg_I rfl rfl) (ob_v (rg_O hby.o) ?_)))), hE, hF⟩
      rw [r5]
      refine ob_v e2 (ob_v (rg_I rfl rfl) ?_)
      rw [f1 195 5 (by omega), r5]
      exact ei_n (fun h => q2 ((nI_eq (b := 255) (by omega) (by omega)).mp h)) e'
  · refine ⟨x1, start _ (ei_n (fun h => q ((nI_eq (b := 8) (by omega) (by omega)).mp h)) rfl), ?_, F1⟩
    have he : eb (vb v k) e = (e.1, 2 * e.2.1 + vb v k, e.2.2 + 1) := by unfold eb; rw [if_neg q]
    rw [he] at ok ⊢
    exact ⟨z1, r5, r6, ok⟩
theorem x_put12 (v : Int32) (ho : o = 3 ∨ o = 5) : ∀ {n : Nat} {x : rg_S} {e : eS} {M : Nat}, n ≤ 31 → n < M → x.2.1 195 0 = o → xE x o e → ∃ x', fX7_putBits_12 X M (B + 195) v (nI n - 1) (rg_p lX B w0 x) = some (rg_p lX B w0 x') ∧ xE x' o (ebs v n e) ∧ FXb o x x' := by
  intro n
  induction n with
  | zero =>
    intro x e M _ hM _ h
    obtain ⟨M, rfl⟩ : ∃ M', M = M' + 1 := ⟨M - 1, by omega⟩
    refine ⟨x, ?_, h, FXb.rfl⟩
    rw [fX7_putBits_12.eq_2]
    exact ei_t (by decide) rfl
  | succ n ih =>
    intro x e M hn hM hR h
    obtain ⟨M, rfl⟩ : ∃ M', M = M' + 1 := ⟨M - 1, by omega⟩
    obtain ⟨x1, e1, h1, F1⟩ := x_bit1 (X := X) (B := B) (w0 := w0) (v := v) (k := n) (M := M) ho hR h (by omega)
    obtain ⟨x2, e2, h2, F2⟩ := ih (M := M) (by omega) (by omega) (by rw [F1.2.1]; exact hR) h1
    refine ⟨x2, ?_, h2, F1.trans F2⟩
    rw [show nI (n + 1) - 1 = nI n from pk_sub (a := n + 1) (b := 1) (by omega), e1, show nI n + (-1) = nI n - 1 by
      rw [iI_n, show (-1 : Int32) = iI (-1) from rfl, show (1 : Int32) = iI 1 from rfl, iI_add, iI_sub]
      rfl]
    exact e2
theorem x_putBits {v : Int32} {n : Nat} (ho : o = 3 ∨ o = 5) (hR : x.2.1 195 0 = o) (h : xE x o e) (hn : n ≤ 31) (hct : x.1 195 4 = 0) : ∃ x', fX7_putBits X (rg_p lX B w0 x) (B + 195) v (nI n) = some (rg_p lX B w0 x') ∧ xE x' o (ebs v n e) ∧ FXb o x x' := by
  obtain ⟨x', e', hE, hF⟩ := x_put12 (X := X) (B := B) (w0 := w0) v ho (M := FU) hn (by unfold FU; omega) hR h
  refine ⟨x', ?_, hE, hF⟩
  unfold fX7_putBits
  exact ob_v (rg_I rfl rfl) (ei_t hct e')
end
