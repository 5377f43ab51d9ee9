/-! bytes written one after the other, on both sides: at most 16384 are kept -/
def oB (n tm : Int32) (row : Nat → Int32) (L : List Int32) : Prop := n = nI (min 16384 L.length) ∧ tm = (if 16384 < L.length then 1 else 0) ∧ ∀ i, i < L.length → i < 16384 → row i = L.getD i 0
theorem oB_add {n tm v : Int32} {row : Nat → Int32} {L : List Int32} (h : oB n tm row L) (hl : L.length < 16384) : oB (nI (L.length + 1)) tm (upd row L.length v) (L ++ [v]) := by
  obtain ⟨h1, h2, h3⟩ := h
  refine ⟨?_, ?_, fun i hi h16 => ?_⟩
  · rw [List.length_append, List.length_singleton, Nat.min_eq_right (by omega)]
  · rw [h2, List.length_append, List.length_singleton, if_neg (by omega), if_neg (by omega)]
  · rw [List.length_append, List.length_singleton] at hi
    by_cases e : i = L.length
    · rw [e, pk_us, List.getD_eq_getElem?_getD, List.getElem?_append_right (Nat.le_refl _), Nat.sub_self]
      rfl
    · rw [pk_un e, h3 i (by omega) h16, List.getD_eq_getElem?_getD, List.getD_eq_getElem?_getD, List.getElem?_append_left (by omega)]
theorem oB_full {n tm v : Int32} {row : Nat → Int32} {L : List Int32} (h : oB n tm row L) (hl : ¬ L.length < 16384) : oB n 1 row (L ++ [v]) := by
  obtain ⟨h1, h2, h3⟩ := h
  refine ⟨?_, ?_, fun i hi h16 => ?_⟩
  · rw [h1, List.length_append, List.length_singleton, Nat.min_eq_left (by omega), Nat.min_eq_left (by omega)]
  · rw [List.length_append, List.length_singleton, if_pos (by omega)]
  · rw [h3 i (by omega) h16, List.getD_eq_getElem?_getD, List.getD_eq_getElem?_getD, List.getElem?_append_left (by omega)]
/-- the class' bytes, the reference's file and its scan's bytes -/
def xO (x : rg_S) (o : Nat) (L : List Int32) : Prop := oB (x.1 o 1) (x.1 o 2) (x.2.2.1 (o + 1)) L
def yO (y : rg_S) (L : List Int32) : Prop := oB (y.1 0 5) (y.1 0 6) (y.2.2.1 3) L
def zO (y : rg_S) (L : List Int32) : Prop := oB (y.1 24 31) (y.1 24 34) (y.2.2.1 42) L
section
variable {X : px_X} {b B : Nat} {w0 w1 : px_W} {x y : rg_S} {L : List Int32} {o : Nat}
theorem x_oadd (ho : isBy o) (h : xO x o L) (v : Int32) : ∃ x', fX1_add X (rg_p lX B w0 x) (B + o) v = some (rg_p lX B w0 x') ∧ xO x' o (L ++ [bt v]) ∧ (∀ p k, p ≠ o ∨ k ≠ 1 ∧ k ≠ 2 → x'.1 p k = x.1 p k) ∧ x'.2.1 = x.2.1 ∧ (∀ p, p ≠ o + 1 → x'.2.2.1 p = x.2.2.1 p) ∧ x'.2.2.2 = x.2.2.2 := by
  by_cases hl : L.length < 16384
  · have h1 := h.1
    rw [Nat.min_eq_right (by omega)] at h1
    refine ⟨_, x_add ho h1 hl v, ?_, fun p k hp => ?_, rfl, fun p hp => ?_, rfl⟩
    · have := oB_add (v := bt v) h hl
      unfold xO
      rw [wI_s, wI_n _ _ (by omega), wA_1, wI_2, wA_s]
      exact this
    · rw [wI_n _ _ (by omega), wA_1]
    · rw [wI_2, wA_n _ _ hp]
  · have h1 := h.1
    rw [Nat.min_eq_left (by omega)] at h1
    refine ⟨_, x_addF ho h1 v, ?_, fun p k hp => ?_, rfl, fun p hp => rfl, rfl⟩
    · have := oB_full (v := bt v) h hl
      unfold xO
      rw [wI_s, wI_n _ _ (by omega), wI_2]
      exact this
    · rw [wI_n _ _ (by omega)]
theorem m_put (h : yO y L) (v : Int32) : ∃ y', fX15_put X (rg_p lM b w0 y) (b + 0) v = some (rg_p lM b w0 y') ∧ yO y' (L ++ [bt v]) ∧ (∀ p k, p ≠ 0 ∨ k ≠ 5 ∧ k ≠ 6 → y'.1 p k = y.1 p k) ∧ y'.2.1 = y.2.1 ∧ (∀ p, p ≠ 3 → y'.2.2.1 p = y.2.2.1 p) ∧ y'.2.2.2 = y.2.2.2 := by
  by_cases hl : L.length < 16384
  · have h1 := h.1
    rw [Nat.min_eq_right (by omega)] at h1
    refine ⟨rg_wI (rg_wA y 3 (upd (y.2.2.1 3) L.length (bt v))) 0 5 (nI (L.length + 1)), ?_, ?_, fun p k hp => ?_, rfl, fun p hp => ?_, rfl⟩
    · unfold fX15_put
      refine ob_v (rg_I rfl rfl) ?_
      rw [h1]
      refine ei_n (fun e => by have := (nI_eq (b := 16384) (by omega) (by omega)).mp e; omega) (ob_v (rg_C rfl rfl) (ob_v (rg_I rfl rfl) ?_))
      rw [h1]
      refine ob_v (rg_sA _ rfl (by decide) _ _ hl (by decide)) (ob_v (rg_I rfl rfl) (ob_v (rg_pI rfl rfl _) ?_))
      rw [wA_1, h1, nI_1, pk_vb]
      rfl
    · have := oB_add (v := bt v) h hl
      unfold yO
      rw [wI_s, wI_n _ _ (by omega), wA_1, wI_2, wA_s]
      exact this
    · rw [wI_n _ _ (by omega), wA_1]
    · rw [wI_2, wA_n _ _ hp]
  · have h1 := h.1
    rw [Nat.min_eq_left (by omega)] at h1
    refine ⟨rg_wI y 0 6 1, ?_, ?_, fun p k hp => ?_, rfl, fun p hp => rfl, rfl⟩
    · unfold fX15_put
      refine ob_v (rg_I rfl rfl) ?_
      rw [h1]
      exact ei_t rfl (ob_v (rg_pZ rfl rfl _ (Or.inr rfl)) rfl)
    · have := oB_full (v := bt v) h hl
      unfold yO
      rw [wI_s, wI_n _ _ (by omega), wI_2]
      exact this
    · rw [wI_n _ _ (by omega)]
theorem m_raw (h : zO y L) (v : Int32) : ∃ y', fX13_raw X (rg_p lM b w0 y) (b + 24) v = some (rg_p lM b w0 y') ∧ zO y' (L ++ [bt v]) ∧ (∀ p k, p ≠ 24 ∨ k ≠ 31 ∧ k ≠ 34 → y'.1 p k = y.1 p k) ∧ y'.2.1 = y.2.1 ∧ (∀ p, p ≠ 42 → y'.2.2.1 p = y.2.2.1 p) ∧ y'.2.2.2 = y.2.2.2 := by
  by_cases hl : L.length < 16384
  · have h1 := h.1
    rw [Nat.min_eq_right (by omega)] at h1
    refine ⟨rg_wI (rg_wA y 42 (upd (y.2.2.1 42) L.length (bt v))) 24 31 (nI (L.length + 1)), ?_, ?_, fun p k hp => ?_, rfl, fun p hp => ?_, rfl⟩
    · unfold fX13_raw
      refine ob_v (rg_I rfl rfl) ?_
      rw [h1]
      refine ei_n (fun e => by have := (nI_eq (b := 16384) (by omega) (by omega)).mp e; omega) (ob_v (rg_C rfl rfl) (ob_v (rg_I rfl rfl) ?_))
      rw [h1]
      refine ob_v (rg_sA _ rfl (by decide) _ _ hl (by decide)) (ob_v (rg_I rfl rfl) (ob_v (rg_pI rfl rfl _) ?_))
      rw [wA_1, h1, nI_1, pk_vb]
      rfl
    · have := oB_add (v := bt v) h hl
      unfold zO
      rw [wI_s, wI_n _ _ (by omega), wA_1, wI_2, wA_s]
      exact this
    · rw [wI_n _ _ (by omega), wA_1]
    · rw [wI_2, wA_n _ _ hp]
  · have h1 := h.1
    rw [Nat.min_eq_left (by omega)] at h1
    refine ⟨rg_wI y 24 34 1, ?_, ?_, fun p k hp => ?_, rfl, fun p hp => rfl, rfl⟩
    · unfold fX13_raw
      refine ob_v (rg_I rfl rfl) ?_
      rw [h1]
      exact ei_t rfl (ob_v (rg_pZ rfl rfl _ (Or.inr rfl)) rfl)
    · have := oB_full (v := bt v) h hl
      unfold zO
      rw [wI_s, wI_n _ _ (by omega), wI_2]
      exact this
    · rw [wI_n _ _ (by omega)]
end
