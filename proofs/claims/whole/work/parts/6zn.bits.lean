/-! bits written on both sides: eight make a byte, a 0 behind 255 -/
theorem and_1 (x : Int32) : x &&& 1 = 0 ∨ x &&& 1 = 1 := by
  have h : (x &&& 1).toBitVec = BitVec.setWidth 32 (BitVec.ofBool (x.toBitVec.getLsbD 0)) := by
    show x.toBitVec &&& 1#32 = _
    exact BitVec.and_one_eq_setWidth_ofBool_getLsbD
  cases e : x.toBitVec.getLsbD 0 with
  | false =>
    rw [e] at h
    exact Or.inl (Int32.toBitVec_inj.mp (h.trans (by decide)))
  | true =>
    rw [e] at h
    exact Or.inr (Int32.toBitVec_inj.mp (h.trans (by decide)))
def vb (v : Int32) (k : Nat) : Nat := if (v >>> (nI k &&& 31)) &&& 1 = 0 then 0 else 1
theorem vb_e (v : Int32) (k : Nat) : (v >>> (nI k &&& 31)) &&& 1 = nI (vb v k) := by
  unfold vb
  rcases and_1 (v >>> (nI k &&& 31)) with h | h
  · rw [if_pos h, h]
    rfl
  · rw [if_neg (by rw [h]; decide), h]
    rfl
theorem vb_2 (v : Int32) (k : Nat) : vb v k < 2 := by
  unfold vb
  split <;> decide
/-- bytes, a begun byte, its bits -/
abbrev eS : Type := List Int32 × Nat × Nat
def eOk (e : eS) : Prop := e.2.2 < 8 ∧ e.2.1 < 2 ^ e.2.2
def eb (c : Nat) (e : eS) : eS := if e.2.2 + 1 = 8 then (if 2 * e.2.1 + c = 255 then e.1 ++ [bt (nI (2 * e.2.1 + c))] ++ [bt 0] else e.1 ++ [bt (nI (2 * e.2.1 + c))], 0, 0) else (e.1, 2 * e.2.1 + c, e.2.2 + 1)
theorem eb_ok {c : Nat} {e : eS} (hc : c < 2) (h : eOk e) : eOk (eb c e) := by
  unfold eb
  by_cases q : e.2.2 + 1 = 8
  · rw [if_pos q]
    exact ⟨(show 0 < 8 by decide), (show 0 < 2 ^ 0 by decide)⟩
  · rw [if_neg q]
    refine ⟨by show e.2.2 + 1 < 8; have := h.1; omega, ?_⟩
    show 2 * e.2.1 + c < 2 ^ (e.2.2 + 1)
    rw [Nat.pow_succ]
    have := h.2
    omega
def ebs (v : Int32) : Nat → eS → eS
  | 0, e => e
  | n + 1, e => ebs v n (eb (vb v n) e)
def yE (y : rg_S) (e : eS) : Prop := zO y e.1 ∧ y.1 24 32 = nI e.2.1 ∧ y.1 24 33 = nI e.2.2 ∧ eOk e
def xE (x : rg_S) (o : Nat) (e : eS) : Prop := xO x o e.1 ∧ x.1 195 5 = nI e.2.1 ∧ x.1 195 6 = nI e.2.2 ∧ eOk e
/-- nothing changed but the bits and bytes -/
def FYb (y y' : rg_S) : Prop := (∀ p k, p ≠ 24 ∨ k ≠ 31 ∧ k ≠ 32 ∧ k ≠ 33 ∧ k ≠ 34 → y'.1 p k = y.1 p k) ∧ y'.2.1 = y.2.1 ∧ (∀ p, p ≠ 42 → y'.2.2.1 p = y.2.2.1 p) ∧ y'.2.2.2 = y.2.2.2
def FXb (o : Nat) (x x' : rg_S) : Prop := (∀ p k, ¬ (p = 195 ∧ (k = 5 ∨ k = 6)) → ¬ (p = o ∧ (k = 1 ∨ k = 2)) → x'.1 p k = x.1 p k) ∧ x'.2.1 = x.2.1 ∧ (∀ p, p ≠ o + 1 → x'.2.2.1 p = x.2.2.1 p) ∧ x'.2.2.2 = x.2.2.2
theorem FYb.rfl {y : rg_S} : FYb y y := ⟨fun _ _ _ => Eq.refl _, Eq.refl _, fun _ _ => Eq.refl _, Eq.refl _⟩
theorem FXb.rfl {o : Nat} {x : rg_S} : FXb o x x := ⟨fun _ _ _ _ => Eq.refl _, Eq.refl _, fun _ _ => Eq.refl _, Eq.refl _⟩
theorem FYb.trans {y y1 y2 : rg_S} (h : FYb y y1) (h2 : FYb y1 y2) : FYb y y2 := ⟨fun p k a => (h2.1 p k a).trans (h.1 p k a), h2.2.1.trans h.2.1, fun p a => (h2.2.2.1 p a).trans (h.2.2.1 p a), h2.2.2.2.trans h.2.2.2⟩
theorem FXb.trans {o : Nat} {x x1 x2 : rg_S} (h : FXb o x x1) (h2 : FXb o x1 x2) : FXb o x x2 := ⟨fun p k a c => (h2.1 p k a c).trans (h.1 p k a c), h2.2.1.trans h.2.1, fun p a => (h2.2.2.1 p a).trans (h.2.2.1 p a), h2.2.2.2.trans h.2.2.2⟩
section
variable {X : px_X} {b B : Nat} {w0 w1 : px_W} {x y : rg_S} {e : eS} {o c : Nat}
theorem p8_lt {e : eS} (h : eOk e) : e.2.1 < 128 := by
  have h1 := h.1
  have h2 := h.2
  have : 2 ^ e.2.2 ≤ 2 ^ 7 := Nat.pow_le_pow_right (by decide) (by omega)
  omega
theorem m_bit (h : yE y e) (hc : c < 2) (hct : y.1 24 35 = 0) : ∃ y', fX13_bit X (rg_p lM b w0 y) (b + 24) (nI c) = some (rg_p lM b w0 y') ∧ yE y' (eb c e) ∧ FYb y y' := by
  obtain ⟨h1, h2, h3, h4⟩ := h
  have hp := p8_lt h4
  have hn := h4.1
  have ok := eb_ok hc h4
  generalize hy1 : rg_wI (rg_wI y 24 32 (nI (2 * e.2.1 + c))) 24 33 (nI (e.2.2 + 1)) = y1
  have F1 : FYb y y1 := by
    rw [← hy1]
    exact ⟨fun p k hk => by rw [wI_n _ _ (by omega), wI_n _ _ (by omega)], Eq.refl _, fun _ _ => Eq.refl _, Eq.refl _⟩
  have z1 : zO y1 e.1 := by
    rw [← hy1]
    exact h1
  have r32 : y1.1 24 32 = nI (2 * e.2.1 + c) := by rw [← hy1, wI_n _ _ (by omega), wI_s]
  have r33 : y1.1 24 33 = nI (e.2.2 + 1) := by rw [← hy1, wI_s]
  have start : ∀ r, (if nI (e.2.2 + 1) = 8 then (gI (rg_p lM b w0 y1) (b + 24) 13 32).bind fun v25 => (gO (rg_p lM b w0 y1) (b + 24) 13).bind fun o26 => (fX13_raw X (rg_p lM b w0 y1) (b + 24) v25).bind fun q27 => (gI q27 (b + 24) 13 32).bind fun v28 => if v28 = 255 then (gO q27 (b + 24) 13).bind fun o30 => (fX13_raw X q27 (b + 24) 0).bind fun q31 => fX13_bit_62 X (b + 24) q31 else fX13_bit_62 X (b + 24) q27 else some (rg_p lM b w0 y1)) = r → fX13_bit X (rg_p lM b w0 y) (b + 24) (nI c) = r := by
    intro r hr
    unfold fX13_bit
    refine ob_v (rg_I rfl rfl) (ei_t hct (ob_v (rg_I rfl rfl) ?_))
    rw [h2, nI_2, nI_add]
    refine ob_v (rg_pI rfl rfl _) (ob_v (rg_I rfl rfl) ?_)
    rw [wI_n _ _ (by omega), h3, nI_1]
    refine ob_v (rg_pI rfl rfl _) (ob_v (rg_I rfl rfl) ?_)
    rw [hy1, r33]
    exact hr
  have fin : ∀ (y2 : rg_S) (L : List Int32), zO y2 L → FYb y y2 → eb c e = (L, 0, 0) → ∃ y', fX13_bit_62 X (b + 24) (rg_p lM b w0 y2) = some (rg_p lM b w0 y') ∧ yE y' (eb c e) ∧ FYb y y' := by
    intro y2 L hz hF he
    refine ⟨rg_wI (rg_wI y2 24 32 0) 24 33 0, ?_, ?_, hF.trans ⟨fun p k hk => by rw [wI_n _ _ (by omega), wI_n _ _ (by omega)], Eq.refl _, fun _ _ => Eq.refl _, Eq.refl _⟩⟩
    · unfold fX13_bit_62
      exact ob_v (rg_pI rfl rfl _) (ob_v (rg_pI rfl rfl _) rfl)
    · rw [he]
      exact ⟨hz, rfl, rfl, (show 0 < 8 by decide), (show 0 < 2 ^ 0 by decide)⟩
  by_cases q : e.2.2 + 1 = 8
  · obtain ⟨y2, e2, z2, f1, f2, f3, f4⟩ := m_raw (X := X) (b := b) (w0 := w0) z1 (nI (2 * e.2.1 + c))
    have F2 : FYb y y2 := F1.trans ⟨fun p k hk => f1 p k (by omega), f2, f3, f4⟩
    by_cases q2 : 2 * e.2.1 + c = 255
    · obtain ⟨y3, e3, z3, g1, g2, g3, g4⟩ := m_raw (X := X) (b := b) (w0 := w0) z2 0
      have F3 : FYb y y3 := F2.trans ⟨fun p k hk => g1 p k (by omega), g2, g3, g4⟩
      obtain ⟨y', e', hE, hF⟩ := fin y3 _ z3 F3 (by unfold eb; rw [if_pos q, if_pos q2])
      refine ⟨y', start _ (ei_t (by rw [q]; rfl) (ob_v (rg_I rfl rfl) (ob_v (rg_O rfl) ?_))), hE, hF⟩
      rw [r32]
      refine ob_v e2 (ob_v (rg_I rfl rfl) ?_)
      rw [f1 24 32 (by omega), r32]
      exact ei_t (by rw [q2]; rfl) (ob_v (rg_O rfl) (ob_v e3 e'))
    · obtain ⟨y', e', hE, hF⟩ := fin y2 _ z2 F2 (by unfold eb; rw [if_pos q, if_neg q2])
      refine ⟨y', start _ (ei_t (by rw [q]; rfl) (ob_v (rg_I rfl rfl) (ob_v (rg_O rfl) ?_))), hE, hF⟩
      rw [r32]
      refine ob_v e2 (ob_v (rg_I rfl rfl) ?_)
      rw [f1 24 32 (by omega), r32]
      exact ei_n (fun h => q2 ((nI_eq (b := 255) (by omega) (by omega)).mp h)) e'
  · refine ⟨y1, start _ (ei_n (fun h => q ((nI_eq (b := 8) (by omega) (by omega)).mp h)) rfl), ?_, F1⟩
    have he : eb c e = (e.1, 2 * e.2.1 + c, e.2.2 + 1) := by unfold eb; rw [if_neg q]
    rw [he] at ok ⊢
    exact ⟨z1, r32, r33, ok⟩
theorem m_low (v : Int32) : ∀ {n : Nat} {y : rg_S} {e : eS} {M : Nat}, n ≤ 31 → n < M → yE y e → y.1 24 35 = 0 → ∃ y', fX13_low_4 X M (b + 24) v (nI n - 1) (rg_p lM b w0 y) = some (rg_p lM b w0 y') ∧ yE y' (ebs v n e) ∧ FYb y y' := by
  intro n
  induction n with
  | zero =>
    intro y e M _ hM h _
    obtain ⟨M, rfl⟩ : ∃ M', M = M' + 1 := ⟨M - 1, by omega⟩
    refine ⟨y, ?_, h, FYb.rfl⟩
    rw [fX13_low_4.eq_2]
    exact ei_t (by decide) rfl
  | succ n ih =>
    intro y e M hn hM h hct
    obtain ⟨M, rfl⟩ : ∃ M', M = M' + 1 := ⟨M - 1, by omega⟩
    obtain ⟨y1, e1, h1, F1⟩ := m_bit (X := X) (b := b) (w0 := w0) h (vb_2 v n) hct
    obtain ⟨y2, e2, h2, F2⟩ := ih (M := M) (by omega) (by omega) h1 (by rw [F1.1 24 35 (by omega)]; exact hct)
    refine ⟨y2, ?_, h2, F1.trans F2⟩
    rw [fX13_low_4.eq_2, show nI (n + 1) - 1 = nI n from pk_sub (a := n + 1) (b := 1) (by omega)]
    refine ei_n (nI_nlt (b := 0) (by omega) (by omega)) (ob_v (rg_O rfl) ?_)
    rw [vb_e]
    refine ob_v e1 ?_
    rw [show nI n + (-1) = nI n - 1 by
      rw [iI_n, show (-1 : Int32) = iI (-1) from rfl, show (1 : Int32) = iI 1 from rfl, iI_add, iI_sub]
      rfl]
    exact e2
end
