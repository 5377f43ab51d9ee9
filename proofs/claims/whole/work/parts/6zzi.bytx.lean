/-! bytes of a file: markers, segments, tables of words; the class -/
def tw (n : Nat) : List Int32 := [bt (nI (n / 256)), bt (nI n)]
def sg (code n : Nat) : List Int32 := [bt 255, bt (nI code)] ++ tw (n + 2)
def mp (F : Nat → Int32) (n : Nat) : List Int32 := (List.range n).map F
theorem mp_s (F : Nat → Int32) (n : Nat) : mp F (n + 1) = mp F n ++ [F n] := by
  unfold mp
  rw [List.range_succ, List.map_append]
  rfl
theorem mp_0 (F : Nat → Int32) : mp F 0 = [] := rfl
def tb (name : Nat) (f : Nat → Nat) : List Int32 := [bt (nI name)] ++ mp (fun l => bt (nI (bC f (l + 1)))) 16 ++ mp (fun i => bt (nI ((bO f).getD i 0))) (cn f 256)
def FXo (o : Nat) (x x' : rg_S) : Prop := (∀ p k, p ≠ o ∨ k ≠ 1 ∧ k ≠ 2 → x'.1 p k = x.1 p k) ∧ x'.2.1 = x.2.1 ∧ (∀ p, p ≠ o + 1 → x'.2.2.1 p = x.2.2.1 p) ∧ x'.2.2.2 = x.2.2.2
theorem FXo.rfl {o : Nat} {x : rg_S} : FXo o x x := ⟨fun _ _ _ => Eq.refl _, Eq.refl _, fun _ _ => Eq.refl _, Eq.refl _⟩
theorem FXo.trans {o : Nat} {x x1 x2 : rg_S} (h : FXo o x x1) (h2 : FXo o x1 x2) : FXo o x x2 := ⟨fun p k a => (h2.1 p k a).trans (h.1 p k a), h2.2.1.trans h.2.1, fun p a => (h2.2.2.1 p a).trans (h.2.2.1 p a), h2.2.2.2.trans h.2.2.2⟩
theorem sh8 {n : Nat} (h : n < 2 ^ 31) : nI n >>> ((8 : Int32) &&& 31) = nI (n / 256) := pk_shrN h _ 8 (by decide)
section
variable {X : px_X} {b B : Nat} {w0 w1 : px_W} {x x' y : rg_S} {o T n code name : Nat} {L : List Int32} {f : Nat → Nat}
theorem gOut (e : x.2.1 105 0 = o) : gR (rg_p lX B w0 x) (B + 105) 4 0 = some (B + o) := by
  rw [← e]
  exact rg_R rfl rfl
theorem x_marker (So : o = 3 ∨ o = 5) (hR : x.2.1 105 0 = o) (h : xO x o L) (v : Int32) : ∃ x', fX4_tellMarker X (rg_p lX B w0 x) (B + 105) v = some (rg_p lX B w0 x') ∧ xO x' o (L ++ [bt 255, bt v]) ∧ FXo o x x' := by
  have hby : isBy o := Or.inr So
  obtain ⟨x1, e1, h1, F1⟩ := x_oadd (X := X) (B := B) (w0 := w0) hby h 255
  obtain ⟨x2, e2, h2, F2⟩ := x_oadd (X := X) (B := B) (w0 := w0) hby h1 v
  refine ⟨x2, ?_, ?_, FXo.trans F1 F2⟩
  · unfold fX4_tellMarker
    exact ob_v (gOut hR) (ob_v (rg_O hby.o) (ob_v e1 (ob_v (gOut (by rw [F1.2.1]; exact hR)) (ob_v (rg_O hby.o) (ob_v e2 rfl)))))
  · rw [List.append_assoc] at h2
    exact h2
theorem x_two (So : o = 3 ∨ o = 5) (h : xO x o L) (hn : n < 2 ^ 31) : ∃ x', fX1_addTwo X (rg_p lX B w0 x) (B + o) (nI n) = some (rg_p lX B w0 x') ∧ xO x' o (L ++ tw n) ∧ FXo o x x' := by
  have hby : isBy o := Or.inr So
  obtain ⟨x1, e1, h1, F1⟩ := x_oadd (X := X) (B := B) (w0 := w0) hby h (nI (n / 256))
  obtain ⟨x2, e2, h2, F2⟩ := x_oadd (X := X) (B := B) (w0 := w0) hby h1 (nI n &&& 255)
  refine ⟨x2, ?_, ?_, FXo.trans F1 F2⟩
  · unfold fX1_addTwo
    rw [sh8 hn]
    exact ob_v (rg_O hby.o) (ob_v e1 (ob_v (rg_O hby.o) (ob_v e2 rfl)))
  · rw [List.append_assoc, bt_and] at h2
    exact h2
theorem x_seg (So : o = 3 ∨ o = 5) (hR : x.2.1 105 0 = o) (h : xO x o L) (hn : n < 2 ^ 30) : ∃ x', fX4_tellSegment X (rg_p lX B w0 x) (B + 105) (nI code) (nI n) = some (rg_p lX B w0 x') ∧ xO x' o (L ++ sg code n) ∧ FXo o x x' := by
  have hby : isBy o := Or.inr So
  obtain ⟨x1, e1, h1, F1⟩ := x_marker (X := X) (B := B) (w0 := w0) So hR h (nI code)
  obtain ⟨x2, e2, h2, F2⟩ := x_two (X := X) (B := B) (w0 := w0) So h1 (n := n + 2) (by omega)
  refine ⟨x2, ?_, ?_, F1.trans F2⟩
  · unfold fX4_tellSegment
    rw [show (2 : Int32) + nI n = nI (n + 2) by rw [Nat.add_comm]; exact nI_add 2 n]
    exact ob_v (rg_O rfl) (ob_v e1 (ob_v (gOut (by rw [F1.2.1]; exact hR)) (ob_v (rg_O hby.o) (ob_v e2 rfl))))
  · rw [List.append_assoc] at h2
    exact h2
theorem x_tb10 (So : o = 3 ∨ o = 5) (hT : isT T) {F : Nat → Int32} : ∀ (k M i : Nat) (x : rg_S) (L : List Int32), i + k = 16 → k < M → x.2.1 105 0 = o → (∀ l, 1 ≤ l → l ≤ 16 → x.2.2.1 (T + 4) l = F (l - 1)) → xO x o (L ++ mp (fun l => bt (F l)) i) → ∃ x', fX4_tellTable_10 X M (B + 105) (B + T) (nI (i + 1)) (rg_p lX B w0 x) = fX4_tellTable_35 X (B + 105) (B + T) (rg_p lX B w0 x') ∧ xO x' o (L ++ mp (fun l => bt (F l)) 16) ∧ FXo o x x' := by
  have hby : isBy o := Or.inr So
  have hT' := hT
  obtain ⟨t, ht, rfl⟩ := hT'
  intro k
  induction k with
  | zero =>
    intro M i x L hi hM hR hF h
    obtain rfl : i = 16 := by omega
    obtain ⟨M, rfl⟩ : ∃ M', M = M' + 1 := ⟨M - 1, by omega⟩
    refine ⟨x, ?_, h, FXo.rfl⟩
    rw [fX4_tellTable_10.eq_2]
    exact ei_t (by decide) rfl
  | succ k ih =>
    intro M i x L hi hM hR hF h
    obtain ⟨M, rfl⟩ : ∃ M', M = M' + 1 := ⟨M - 1, by omega⟩
    obtain ⟨x1, e1, h1, F1⟩ := x_oadd (X := X) (B := B) (w0 := w0) hby h (F i)
    rw [List.append_assoc, ← mp_s (fun l => bt (F l)) i] at h1
    obtain ⟨x2, e2, h2, F2⟩ := ih M (i + 1) x1 L (by omega) (by omega) (by rw [F1.2.1]; exact hR) (fun l l1 l2 => by rw [F1.2.2.1 _ (by omega)]; exact hF l l1 l2) h1
    refine ⟨x2, ?_, h2, FXo.trans F1 F2⟩
    rw [fX4_tellTable_10.eq_2]
    refine ei_n (nI_nlt (b := i + 1) (a := 16) (by omega) (by omega)) (ob_v (gOut hR) (ob_v (rg_C hT.o rfl) (ob_v (rg_A hT.a4 (by decide) _ (by omega) (by decide)) (ob_v (rg_O hby.o) ?_))))
    rw [hF (i + 1) (by omega) (by omega), show i + 1 - 1 = i by omega]
    refine ob_v e1 ?_
    rw [nI_1]
    exact e2
theorem x_tb37 (So : o = 3 ∨ o = 5) (hT : isT T) {F : Nat → Int32} {N : Nat} (hN : N ≤ 256) : ∀ (k M i : Nat) (x : rg_S) (L : List Int32), i + k = N → k < M → x.2.1 105 0 = o → x.1 T 5 = nI N → (∀ l, l < N → x.2.2.1 (T + 5) l = F l) → xO x o (L ++ mp (fun l => bt (F l)) i) → ∃ x', fX4_tellTable_37 X M (B + 105) (B + T) (nI i) (rg_p lX B w0 x) = some (rg_p lX B w0 x') ∧ xO x' o (L ++ mp (fun l => bt (F l)) N) ∧ FXo o x x' := by
  have hby : isBy o := Or.inr So
  have hT' := hT
  obtain ⟨t, ht, rfl⟩ := hT'
  intro k
  induction k with
  | zero =>
    intro M i x L hi hM hR h5 hF h
    obtain rfl : i = N := by omega
    obtain ⟨M, rfl⟩ : ∃ M', M = M' + 1 := ⟨M - 1, by omega⟩
    refine ⟨x, ?_, h, FXo.rfl⟩
    rw [fX4_tellTable_37.eq_2]
    refine ob_v (rg_I hT.o rfl) ?_
    rw [h5]
    exact ei_t (nI_le (Nat.le_refl _) (by omega)) rfl
  | succ k ih =>
    intro M i x L hi hM hR h5 hF h
    obtain ⟨M, rfl⟩ : ∃ M', M = M' + 1 := ⟨M - 1, by omega⟩
    obtain ⟨x1, e1, h1, F1⟩ := x_oadd (X := X) (B := B) (w0 := w0) hby h (F i)
    rw [List.append_assoc, ← mp_s (fun l => bt (F l)) i] at h1
    obtain ⟨x2, e2, h2, F2⟩ := ih M (i + 1) x1 L (by omega) (by omega) (by rw [F1.2.1]; exact hR) (by rw [F1.1 _ _ (by omega)]; exact h5) (fun l l2 => by rw [F1.2.2.1 _ (by omega)]; exact hF l l2) h1
    refine ⟨x2, ?_, h2, FXo.trans F1 F2⟩
    rw [fX4_tellTable_37.eq_2]
    refine ob_v (rg_I hT.o rfl) ?_
    rw [h5]
    refine ei_n (nI_ge (by omega) (by omega)) (ob_v (gOut hR) (ob_v (rg_C hT.o rfl) (ob_v (rg_A hT.a5 (by decide) _ (by omega) (by decide)) (ob_v (rg_O hby.o) ?_))))
    rw [hF i (by omega)]
    refine ob_v e1 ?_
    rw [nI_1]
    exact e2
theorem x_tbl (So : o = 3 ∨ o = 5) (hT : isT T) (hR : x.2.1 105 0 = o) (h : xO x o L) (h256 : f 256 = 1) (hx : xT x T f) : ∃ x', fX4_tellTable X (rg_p lX B w0 x) (B + 105) (nI name) (B + T) = some (rg_p lX B w0 x') ∧ xO x' o (L ++ tb name f) ∧ FXo o x x' := by
  have hby : isBy o := Or.inr So
  have hN := cn_b f 256
  obtain ⟨t5, t4, ts, _⟩ := hx
  have hT' := hT
  obtain ⟨t, ht, rfl⟩ := hT'
  obtain ⟨x1, e1, h1, F1⟩ := x_oadd (X := X) (B := B) (w0 := w0) hby h (nI name)
  obtain ⟨x2, e2, h2, F2⟩ := x_tb10 (X := X) (B := B) (w0 := w0) So hT (F := fun l => nI (bC f (l + 1))) 16 FU 0 x1 (L ++ [bt (nI name)]) rfl (by unfold FU; omega) (by rw [F1.2.1]; exact hR) (fun l l1 l2 => by rw [F1.2.2.1 _ (by omega), t4 l l1 l2, show l - 1 + 1 = l by omega]) (by rw [mp_0, List.append_nil]; exact h1)
  obtain ⟨x3, e3, h3, F3⟩ := x_tb37 (X := X) (B := B) (w0 := w0) So hT (F := fun i => nI ((bO f).getD i 0)) (N := cn f 256) hN (cn f 256) FU 0 x2 (L ++ [bt (nI name)] ++ mp (fun l => bt (nI (bC f (l + 1)))) 16) (by omega) (by unfold FU; omega) (by rw [F2.2.1, F1.2.1]; exact hR) (by rw [F2.1 _ _ (by omega), F1.1 _ _ (by omega)]; exact t5) (fun l l2 => by rw [F2.2.2.1 _ (by omega), F1.2.2.1 _ (by omega)]; exact ts l l2) (by rw [mp_0, List.append_nil]; exact h2)
  refine ⟨x3, ?_, ?_, FXo.trans F1 (F2.trans F3)⟩
  · unfold fX4_tellTable
    refine ob_v (gOut hR) (ob_v (rg_O hby.o) (ob_v e1 ?_))
    refine (show fX4_tellTable_10 X FU (B + 105) (B + (115 + 10 * t)) (nI (0 + 1)) _ = _ from e2).trans ?_
    unfold fX4_tellTable_35
    exact e3
  · rw [List.append_assoc, List.append_assoc] at h3
    unfold tb
    rw [List.append_assoc]
    exact h3
end
