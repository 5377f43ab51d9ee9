/-! the class' tables of words, told -/
def ctS (E : List ev) (p : scP) (c0 : Nat) : Nat → Nat
  | 0 => 0
  | i + 1 => ctS E p c0 i + (if p.1 = 0 ∧ p.2.2.1 = 0 then 17 + cn (fF E (c0 + i)) 256 else 0) + (if 0 < p.2.1 then 17 + cn (fF E (4 + c0 + i)) 256 else 0)
def tD (E : List ev) (c0 : Nat) : Nat → List Int32
  | 0 => []
  | i + 1 => tD E c0 i ++ tb (c0 + i) (fF E (c0 + i))
def tO (E : List ev) (c0 : Nat) : Nat → List Int32
  | 0 => []
  | i + 1 => tO E c0 i ++ tb (16 + (c0 + i)) (fF E (4 + c0 + i))
def wdS (E : List ev) (p : scP) (c0 m : Nat) : List Int32 := if ctS E p c0 m = 0 then [] else sg 196 (ctS E p c0 m) ++ (if p.1 = 0 ∧ p.2.2.1 = 0 then tD E c0 m else []) ++ (if 0 < p.2.1 then tO E c0 m else [])
theorem ctS_b {E : List ev} {p : scP} {c0 : Nat} : ∀ i, ctS E p c0 i ≤ 546 * i
  | 0 => Nat.le_refl _
  | i + 1 => by
    have := ctS_b (E := E) (p := p) (c0 := c0) i
    have := cn_b (fF E (c0 + i)) 256
    have := cn_b (fF E (4 + c0 + i)) 256
    rw [ctS.eq_2]
    split <;> split <;> omega
/-- nothing changed but the tables; the times stay -/
def FXq (x x' : rg_S) : Prop := (∀ p k, ¬ (115 ≤ p ∧ p < 195) → x'.1 p k = x.1 p k) ∧ x'.2.1 = x.2.1 ∧ (∀ p, ¬ (115 ≤ p ∧ p < 195) → x'.2.2.1 p = x.2.2.1 p) ∧ ∀ t, t < 8 → x'.2.2.1 (115 + 10 * t + 1) = x.2.2.1 (115 + 10 * t + 1)
theorem FXq.rfl {x : rg_S} : FXq x x := ⟨fun _ _ _ => Eq.refl _, Eq.refl _, fun _ _ => Eq.refl _, fun _ _ => Eq.refl _⟩
theorem FXq.trans {x x1 x2 : rg_S} (h : FXq x x1) (h2 : FXq x1 x2) : FXq x x2 := ⟨fun p k a => (h2.1 p k a).trans (h.1 p k a), h2.2.1.trans h.2.1, fun p a => (h2.2.2.1 p a).trans (h.2.2.1 p a), fun t a => (h2.2.2.2 t a).trans (h.2.2.2 t a)⟩
theorem FT_q {t : Nat} {x x' : rg_S} (ht : t < 8) (h : FT (115 + 10 * t) x x') : FXq x x' := by
  refine ⟨fun p k hp => h.1 p k (by omega), h.2.1, fun p hp => h.2.2.1 p (by omega), fun t' ht' => ?_⟩
  by_cases e : t' = t
  · rw [e]
    exact h.2.2.2
  · exact h.2.2.1 _ (by omega)
theorem xT_f {t t' : Nat} {x x' : rg_S} {f : Nat → Nat} (e : t' ≠ t) (h : FT (115 + 10 * t) x x') (k : xT x (115 + 10 * t') f) : xT x' (115 + 10 * t') f := by
  unfold xT at *
  rw [h.1 _ _ (by omega), h.2.2.1 _ (by omega), h.2.2.1 _ (by omega), h.2.2.1 _ (by omega), h.2.2.1 _ (by omega)]
  exact k
section
variable {X : px_X} {b B : Nat} {w0 w1 : px_W} {x x' y : rg_S} {o n c0 m : Nat} {p : scP} {L : List Int32} {E : List ev}
theorem x_sizeT {t : Nat} (ht : t < 8) (hl : E.length ≤ 1352000000) (hf : ∀ s, s < 256 → x.2.2.1 (115 + 10 * t + 1) s = nI (cnt E t s)) : ∃ x', fX4_sizeOfTable X (rg_p lX B w0 x) (B + 105) (B + (115 + 10 * t)) = some (nI (17 + cn (fF E t) 256), rg_p lX B w0 x') ∧ FT (115 + 10 * t) x x' ∧ xT x' (115 + 10 * t) (fF E t) := by
  have hT : isT (115 + 10 * t) := ⟨t, ht, rfl⟩
  obtain ⟨x1, e1, F1, h1⟩ := x_best (X := X) (B := B) (w0 := w0) (x := x) (f := fF E t) hT (fun s hs => by rw [fF_lt hs]; exact hf s hs) (fF_256 E t) (fF_sum hl) (fun s hs => fF_ge hs)
  refine ⟨x1, ?_, F1, h1⟩
  unfold fX4_sizeOfTable
  refine ob_v (rg_O hT.o) (ob_v e1 (ob_v (rg_I hT.o rfl) ?_))
  rw [h1.1]
  show some ((17 : Int32) + nI _, _) = _
  rw [show (17 : Int32) + nI (cn (fF E t) 256) = nI (17 + cn (fF E t) 256) from nI_add 17 _]
/-- what is settled up to the i-th component -/
def stl (E : List ev) (p : scP) (c0 i : Nat) (x : rg_S) : Prop := (p.1 = 0 ∧ p.2.2.1 = 0 → ∀ j, j < i → xT x (115 + 10 * (c0 + j)) (fF E (c0 + j))) ∧ (0 < p.2.1 → ∀ j, j < i → xT x (115 + 10 * (4 + c0 + j)) (fF E (4 + c0 + j)))
theorem x_t49 (hm : c0 + m ≤ 4) (hl : E.length ≤ 1352000000) {a3 a4 : Int32} (h3 : a3 = if p.1 = 0 ∧ p.2.2.1 = 0 then 1 else 0) (h4 : a4 = if 0 < p.2.1 then 1 else 0) : ∀ (k M i : Nat) (x : rg_S), i + k = m → k < M → (∀ j s, j < m → s < 256 → x.2.2.1 (115 + 10 * (c0 + j) + 1) s = nI (cnt E (c0 + j) s) ∧ x.2.2.1 (115 + 10 * (4 + c0 + j) + 1) s = nI (cnt E (4 + c0 + j) s)) → stl E p c0 i x → ∃ x', fX4_tellTables_49 X M (B + 105) (nI c0) (nI m) a3 a4 (nI (ctS E p c0 i)) (nI (c0 + i)) (rg_p lX B w0 x) = fX4_tellTables_114 X (B + 105) (nI c0) (nI m) a3 a4 (nI (ctS E p c0 m)) (rg_p lX B w0 x') ∧ FXq x x' ∧ stl E p c0 m x' := by
  intro k
  induction k with
  | zero =>
    intro M i x hi hM hf hs
    obtain rfl : i = m := by omega
    obtain ⟨M, rfl⟩ : ∃ M', M = M' + 1 := ⟨M - 1, by omega⟩
    refine ⟨x, ?_, FXq.rfl, hs⟩
    rw [fX4_tellTables_49.eq_2, nI_add]
    exact ei_t (nI_le (Nat.le_refl _) (by omega)) rfl
  | succ k ih =>
    intro M i x hi hM hf hs
    obtain ⟨M, rfl⟩ : ∃ M', M = M' + 1 := ⟨M - 1, by omega⟩
    obtain ⟨x1, e1, F1, s1⟩ : ∃ x1, fX4_tellTables_49 X (M + 1) (B + 105) (nI c0) (nI m) a3 a4 (nI (ctS E p c0 i)) (nI (c0 + i)) (rg_p lX B w0 x) = fX4_tellTables_78 X (fX4_tellTables_49 X M) (B + 105) (nI c0) (nI m) a3 a4 (nI (c0 + i)) (nI (if p.1 = 0 ∧ p.2.2.1 = 0 then 17 + cn (fF E (c0 + i)) 256 else 0)) (nI (ctS E p c0 i)) (rg_p lX B w0 x1) ∧ FXq x x1 ∧ ((p.1 = 0 ∧ p.2.2.1 = 0 → ∀ j, j < i + 1 → xT x1 (115 + 10 * (c0 + j)) (fF E (c0 + j))) ∧ (0 < p.2.1 → ∀ j, j < i → xT x1 (115 + 10 * (4 + c0 + j)) (fF E (4 + c0 + j)))) := by
      rw [fX4_tellTables_49.eq_2, nI_add]
      by_cases d : p.1 = 0 ∧ p.2.2.1 = 0
      · rw [if_pos d] at h3 ⊢
        obtain ⟨x1, e1, F1, h1⟩ := x_sizeT (X := X) (B := B) (w0 := w0) (t := c0 + i) (by omega) hl (fun s hs => (hf i s (by omega) hs).1)
        refine ⟨x1, ei_n (nI_ge (by omega) (by omega)) (ei_n (by rw [h3]; exact n10) (ob_v (rg_C rfl rfl) (ob_v (rg_Q rfl (by decide) (c0 + i) (by omega) (by decide) (if_pos (by omega))) (ob_v (rg_O rfl) (ob_v e1 rfl))))), FT_q (by omega) F1, fun _ j hj => ?_, fun ho j hj => xT_f (by omega) F1 (hs.2 ho j hj)⟩
        by_cases e : j = i
        · rw [e]
          exact h1
        · exact xT_f (by omega) F1 (hs.1 d j (by omega))
      · rw [if_neg d] at h3 ⊢
        exact ⟨x, ei_n (nI_ge (by omega) (by omega)) (ei_t h3 rfl), FXq.rfl, fun h => absurd h d, fun ho j hj => hs.2 ho j hj⟩
    obtain ⟨x2, e2, F2, s2⟩ : ∃ x2, fX4_tellTables_78 X (fX4_tellTables_49 X M) (B + 105) (nI c0) (nI m) a3 a4 (nI (c0 + i)) (nI (if p.1 = 0 ∧ p.2.2.1 = 0 then 17 + cn (fF E (c0 + i)) 256 else 0)) (nI (ctS E p c0 i)) (rg_p lX B w0 x1) = fX4_tellTables_49 X M (B + 105) (nI c0) (nI m) a3 a4 (nI (ctS E p c0 (i + 1))) (nI (c0 + (i + 1))) (rg_p lX B w0 x2) ∧ FXq x x2 ∧ stl E p c0 (i + 1) x2 := by
      unfold fX4_tellTables_78 fX4_tellTables_105
      rw [nI_add, show (4 : Int32) + nI (c0 + i) = nI (4 + c0 + i) by rw [Nat.add_assoc]; exact nI_add 4 _, nI_1, ctS.eq_2, show c0 + i + 1 = c0 + (i + 1) from rfl]
      by_cases ot : 0 < p.2.1
      · rw [if_pos ot] at h4
        obtain ⟨x2, e2, F2, h2⟩ := x_sizeT (X := X) (B := B) (w0 := w0) (x := x1) (t := 4 + c0 + i) (by omega) hl (fun s hs => by rw [F1.2.2.2 _ (by omega)]; exact (hf i s (by omega) hs).2)
        refine ⟨x2, ei_n (by rw [h4]; exact n10) (ob_v (rg_C rfl rfl) (ob_v (rg_Q rfl (by decide) (4 + c0 + i) (by omega) (by decide) (if_pos (by omega))) (ob_v (rg_O rfl) (ob_v e2 ?_)))), F1.trans (FT_q (by omega) F2), fun d j hj => xT_f (by omega) F2 (s1.1 d j hj), fun _ j hj => ?_⟩
        · dsimp only
          rw [nI_add, if_pos ot]
        · by_cases e : j = i
          · rw [e]
            exact h2
          · exact xT_f (by omega) F2 (s1.2 ot j (by omega))
      · rw [if_neg ot] at h4
        refine ⟨x1, ei_t h4 ?_, F1, s1.1, fun h => absurd h ot⟩
        rw [if_neg ot, show (0 : Int32) = nI 0 from rfl, nI_add]
    obtain ⟨x3, e3, F3, s3⟩ := ih M (i + 1) x2 (by omega) (by omega) (fun j s hj hs => by rw [F2.2.2.2 _ (by omega), F2.2.2.2 _ (by omega)]; exact hf j s hj hs) s2
    exact ⟨x3, e1.trans (e2.trans e3), F2.trans F3, s3⟩
theorem xT_o {t : Nat} {x x' : rg_S} {f : Nat → Nat} (So : o = 3 ∨ o = 5) (h : FXo o x x') (k : xT x (115 + 10 * t) f) : xT x' (115 + 10 * t) f := by
  unfold xT at *
  rw [h.1 _ _ (by omega), h.2.2.1 _ (by omega), h.2.2.1 _ (by omega), h.2.2.1 _ (by omega), h.2.2.1 _ (by omega)]
  exact k
theorem stl_o {i : Nat} (So : o = 3 ∨ o = 5) (h : FXo o x x') (k : stl E p c0 i x) : stl E p c0 i x' := ⟨fun d j hj => xT_o So h (k.1 d j hj), fun d j hj => xT_o So h (k.2 d j hj)⟩
theorem x_t132 (So : o = 3 ∨ o = 5) (hm : c0 + m ≤ 4) {a3 a4 : Int32} (h3 : a3 = if p.1 = 0 ∧ p.2.2.1 = 0 then 1 else 0) : ∀ (k M i : Nat) (x : rg_S) (L : List Int32), i + k = m → k < M → x.2.1 105 0 = o → stl E p c0 m x → xO x o (L ++ (if p.1 = 0 ∧ p.2.2.1 = 0 then tD E c0 i else [])) → ∃ x', fX4_tellTables_132 X M (B + 105) (nI c0) (nI m) a3 a4 (nI (c0 + i)) (rg_p lX B w0 x) = fX4_tellTables_163 X (B + 105) (nI c0) (nI m) a4 (rg_p lX B w0 x') ∧ xO x' o (L ++ (if p.1 = 0 ∧ p.2.2.1 = 0 then tD E c0 m else [])) ∧ FXo o x x' := by
  intro k
  induction k with
  | zero =>
    intro M i x L hi hM hR hs h
    obtain rfl : i = m := by omega
    obtain ⟨M, rfl⟩ : ∃ M', M = M' + 1 := ⟨M - 1, by omega⟩
    refine ⟨x, ?_, h, FXo.rfl⟩
    rw [fX4_tellTables_132.eq_2, nI_add]
    exact ei_t (nI_le (Nat.le_refl _) (by omega)) rfl
  | succ k ih =>
    intro M i x L hi hM hR hs h
    obtain ⟨M, rfl⟩ : ∃ M', M = M' + 1 := ⟨M - 1, by omega⟩
    rw [fX4_tellTables_132.eq_2, nI_add]
    by_cases d : p.1 = 0 ∧ p.2.2.1 = 0
    · rw [if_pos d] at h3 h
      obtain ⟨x1, e1, h1, F1⟩ := x_tbl (X := X) (B := B) (w0 := w0) (name := c0 + i) So ⟨c0 + i, by omega, rfl⟩ hR h (fF_256 E (c0 + i)) (hs.1 d i (by omega))
      rw [List.append_assoc, ← tD.eq_2] at h1
      obtain ⟨x2, e2, h2, F2⟩ := ih M (i + 1) x1 L (by omega) (by omega) (by rw [F1.2.1]; exact hR) (stl_o So F1 hs) (by rw [if_pos d]; exact h1)
      refine ⟨x2, ei_n (nI_ge (by omega) (by omega)) (ei_n (by rw [h3]; exact n10) (ob_v (rg_C rfl rfl) (ob_v (rg_Q rfl (by decide) (c0 + i) (by omega) (by decide) (if_pos (by omega))) (ob_v (rg_O rfl) (ob_v e1 ?_))))), h2, F1.trans F2⟩
      rw [nI_1]
      exact e2
    · rw [if_neg d] at h3 h ⊢
      exact ⟨x, ei_n (nI_ge (by omega) (by omega)) (ei_t h3 rfl), h, FXo.rfl⟩
theorem x_t166 (So : o = 3 ∨ o = 5) (hm : c0 + m ≤ 4) {a4 : Int32} (h4 : a4 = if 0 < p.2.1 then 1 else 0) : ∀ (k M i : Nat) (x : rg_S) (L : List Int32), i + k = m → k < M → x.2.1 105 0 = o → stl E p c0 m x → xO x o (L ++ (if 0 < p.2.1 then tO E c0 i else [])) → ∃ x', fX4_tellTables_166 X M (B + 105) (nI c0) (nI m) a4 (nI (c0 + i)) (rg_p lX B w0 x) = some (rg_p lX B w0 x') ∧ xO x' o (L ++ (if 0 < p.2.1 then tO E c0 m else [])) ∧ FXo o x x' := by
  intro k
  induction k with
  | zero =>
    intro M i x L hi hM hR hs h
    obtain rfl : i = m := by omega
    obtain ⟨M, rfl⟩ : ∃ M', M = M' + 1 := ⟨M - 1, by omega⟩
    refine ⟨x, ?_, h, FXo.rfl⟩
    rw [fX4_tellTables_166.eq_2, nI_add]
    exact ei_t (nI_le (Nat.le_refl _) (by omega)) rfl
  | succ k ih =>
    intro M i x L hi hM hR hs h
    obtain ⟨M, rfl⟩ : ∃ M', M = M' + 1 := ⟨M - 1, by omega⟩
    rw [fX4_tellTables_166.eq_2, nI_add, show (4 : Int32) + nI (c0 + i) = nI (4 + c0 + i) by rw [Nat.add_assoc]; exact nI_add 4 _, show (16 : Int32) + nI (c0 + i) = nI (16 + (c0 + i)) from nI_add 16 _]
    by_cases d : 0 < p.2.1
    · rw [if_pos d] at h4 h
      obtain ⟨x1, e1, h1, F1⟩ := x_tbl (X := X) (B := B) (w0 := w0) (name := 16 + (c0 + i)) So ⟨4 + c0 + i, by omega, rfl⟩ hR h (fF_256 E (4 + c0 + i)) (hs.2 d i (by omega))
      rw [List.append_assoc, ← tO.eq_2] at h1
      obtain ⟨x2, e2, h2, F2⟩ := ih M (i + 1) x1 L (by omega) (by omega) (by rw [F1.2.1]; exact hR) (stl_o So F1 hs) (by rw [if_pos d]; exact h1)
      refine ⟨x2, ei_n (nI_ge (by omega) (by omega)) (ei_n (by rw [h4]; exact n10) (ob_v (rg_C rfl rfl) (ob_v (rg_Q rfl (by decide) (4 + c0 + i) (by omega) (by decide) (if_pos (by omega))) (ob_v (rg_O rfl) (ob_v e1 ?_))))), h2, F1.trans F2⟩
      rw [nI_1]
      exact e2
    · rw [if_neg d] at h4 h ⊢
      exact ⟨x, ei_n (nI_ge (by omega) (by omega)) (ei_t h4 rfl), h, FXo.rfl⟩
/-- settled and told -/
theorem x_tables (So : o = 3 ∨ o = 5) (hm : c0 + m ≤ 4) (hl : E.length ≤ 1352000000) (hp : p.1 ≤ 63 ∧ p.2.1 ≤ 63 ∧ p.2.2.1 ≤ 2) (b1 : x.1 106 1 = nI p.1) (b2 : x.1 106 2 = nI p.2.1) (b3 : x.1 106 3 = nI p.2.2.1) (hR : x.2.1 105 0 = o) (h : xO x o L) (hf : ∀ j s, j < m → s < 256 → x.2.2.1 (115 + 10 * (c0 + j) + 1) s = nI (cnt E (c0 + j) s) ∧ x.2.2.1 (115 + 10 * (4 + c0 + j) + 1) s = nI (cnt E (4 + c0 + j) s)) : ∃ x1 x', fX4_tellTables X (rg_p lX B w0 x) (B + 105) (nI c0) (nI m) = some (rg_p lX B w0 x') ∧ xO x' o (L ++ wdS E p c0 m) ∧ stl E p c0 m x' ∧ FXq x x1 ∧ FXo o x1 x' := by
  have cb := ctS_b (E := E) (p := p) (c0 := c0) m
  obtain ⟨x1, e1, F1, s1⟩ := x_t49 (X := X) (B := B) (w0 := w0) (p := p) hm hl rfl rfl m FU 0 x (by omega) (by unfold FU; omega) hf ⟨fun _ j hj => absurd hj (Nat.not_lt_zero _), fun _ j hj => absurd hj (Nat.not_lt_zero _)⟩
  have hR1 : x1.2.1 105 0 = o := by rw [F1.2.1]; exact hR
  have h1 : xO x1 o L := by
    unfold xO
    rw [F1.1 _ _ (by omega), F1.1 _ _ (by omega), F1.2.2.1 _ (by omega)]
    exact h
  have st : ∀ r, fX4_tellTables_114 X (B + 105) (nI c0) (nI m) (if p.1 = 0 ∧ p.2.2.1 = 0 then 1 else 0) (if 0 < p.2.1 then 1 else 0) (nI (ctS E p c0 m)) (rg_p lX B w0 x1) = r → fX4_tellTables X (rg_p lX B w0 x) (B + 105) (nI c0) (nI m) = r := by
    intro r hr
    have e25 : ∀ d, d = (if p.1 = 0 ∧ p.2.2.1 = 0 then (1 : Int32) else 0) → fX4_tellTables_25 X (B + 105) (nI c0) (nI m) d (rg_p lX B w0 x) = r := by
      intro d hd
      unfold fX4_tellTables_25 fX4_tellTables_41
      refine ob_v (rg_C rfl rfl) (ob_v (rg_I rfl rfl) ?_)
      rw [b2, hd]
      by_cases ot : 0 < p.2.1
      · rw [if_pos ot] at e1 hr
        exact ei_n (nI_nle ot (by omega)) (e1.trans hr)
      · rw [if_neg ot] at e1 hr
        exact ei_t (by rw [show p.2.1 = 0 by omega]; decide) (e1.trans hr)
    unfold fX4_tellTables fX4_tellTables_24
    refine ob_v (rg_C rfl rfl) (ob_v (rg_I rfl rfl) ?_)
    rw [b1]
    by_cases f0 : p.1 = 0
    · refine ei_t (by rw [f0]; rfl) (ob_v (rg_C rfl rfl) (ob_v (rg_I rfl rfl) ?_))
      rw [b3]
      by_cases g0 : p.2.2.1 = 0
      · exact ei_t (by rw [g0]; rfl) (e25 _ (by rw [if_pos ⟨f0, g0⟩]))
      · exact ei_n (nI_ne0 (by omega) (by omega)) (e25 _ (by rw [if_neg (fun e => g0 e.2)]))
    · exact ei_n (nI_ne0 (by omega) (by omega)) (e25 _ (by rw [if_neg (fun e => f0 e.1)]))
  unfold wdS
  by_cases z : ctS E p c0 m = 0
  · rw [if_pos z, List.append_nil]
    refine ⟨x1, x1, st _ ?_, h1, s1, F1, FXo.rfl⟩
    unfold fX4_tellTables_114
    exact ei_t (by rw [z]; rfl) rfl
  · rw [if_neg z]
    obtain ⟨x2, e2, h2, F2⟩ := x_seg (X := X) (B := B) (w0 := w0) (code := 196) (n := ctS E p c0 m) So hR1 h1 (by omega)
    have s2 := stl_o So F2 s1
    have nil1 : (if p.1 = 0 ∧ p.2.2.1 = 0 then tD E c0 0 else []) = [] := by split <;> rfl
    have nil2 : (if 0 < p.2.1 then tO E c0 0 else []) = [] := by split <;> rfl
    obtain ⟨x3, e3, h3, F3⟩ := x_t132 (X := X) (B := B) (w0 := w0) (E := E) (p := p) (c0 := c0) (m := m) (a4 := if 0 < p.2.1 then 1 else 0) So hm rfl m FU 0 x2 (L ++ sg 196 (ctS E p c0 m)) (by omega) (by unfold FU; omega) (by rw [F2.2.1]; exact hR1) s2 (by rw [nil1, List.append_nil]; exact h2)
    have s3 := stl_o So F3 s2
    obtain ⟨x4, e4, h4, F4⟩ := x_t166 (X := X) (B := B) (w0 := w0) (E := E) (p := p) (c0 := c0) (m := m) So hm rfl m FU 0 x3 _ (by omega) (by unfold FU; omega) (by rw [F3.2.1, F2.2.1]; exact hR1) s3 (by rw [nil2, List.append_nil]; exact h3)
    refine ⟨x1, x4, st _ ?_, ?_, stl_o So F4 s3, F1, F2.trans (F3.trans F4)⟩
    · unfold fX4_tellTables_114
      refine ei_n (nI_ne0 (by omega) (by omega)) (ob_v (rg_O rfl) (ob_v e2 (e3.trans ?_)))
      unfold fX4_tellTables_163
      exact e4
    · rw [List.append_assoc, List.append_assoc] at h4
      rw [List.append_assoc]
      exact h4
end
