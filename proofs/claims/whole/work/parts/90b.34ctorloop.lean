/-! CONSTRUCTORS WITH A LOOP THAT LAYS OBJECTS INTO AN ARRAY -/
theorem ext_gR (w : px_W) (L : List px_C) (s ci : Nat) {fs : List Value} (k : Nat) (h : L[k]? = some (.inr (ci, fs))) (j : Nat) {v : Nat} (hv : fs[j]? = some (.ref v)) : gR (px_ext w L s) (w.2.1 + k) ci j = some v := gR_c (ext_at k h) j hv
theorem ext_sQ (w : px_W) (L : List px_C) (s t ci n : Nat) {f : Nat → Option Nat} {fs : List Value} (k v : Nat) (h : L[k]? = some (.inl (t, n, .inr (.inr (.inr (.inr f)))))) (hv : L[v]? = some (.inr (ci, fs))) (j : Nat) (hj : j < n) (hn : n < 2 ^ 31) : sQ (px_ext w L s) t ci (w.2.1 + k) (nI j) (w.2.1 + v) = some (px_ext w (L.set k (.inl (t, n, .inr (.inr (.inr (.inr (va_up f j (some (w.2.1 + v)))))))) ) s) := by
  have h1 := ext_at (w := w) (s := s) k h
  have h2 := gO_c (ext_at (w := w) (s := s) v hv)
  unfold sQ
  rw [h1]
  simp only [nI_clamp (Nat.lt_trans hj hn), nI_0le (Nat.lt_trans hj hn), hj, h2, Option.isSome_some, and_self, if_true]
  rw [ext_set k ((List.getElem?_eq_some_iff.mp h).1)]
theorem app_last {α : Type} (L : List α) (e : α) (M : List α) : (L ++ (e :: M))[L.length]? = some e := by
  rw [List.getElem?_append_right (Nat.le_refl _), Nat.sub_self]
  rfl
theorem app_left {α : Type} {L : List α} {k : Nat} {e : α} (h : L[k]? = some e) (M : List α) : (L ++ M)[k]? = some e := by
  rw [List.getElem?_append_left ((List.getElem?_eq_some_iff.mp h).1)]
  exact h
theorem it_X8 {X : px_X} (w : px_W) (L : List px_C) (s m j k0 kw : Nat) {fs : List Value} {f : Nat → Option Nat} (h0 : L[k0]? = some (.inr (8, fs))) (hf : fs[3]? = some (.ref (w.2.1 + kw))) (hw : L[kw]? = some (.inl (7, 8, .inr (.inr (.inr (.inr f)))))) (hj : j < 8) :
    fX8_init_77 X (m + 1) (w.2.1 + k0) (nI j) (px_ext w L s) = fX8_init_77 X m (w.2.1 + k0) (nI (j + 1)) (px_ext w ((L ++ L_X10 (w.2.1 + L.length)).set kw (.inl (7, 8, .inr (.inr (.inr (.inr (va_up f j (some (w.2.1 + L.length))))))))) (s + 313)) := by
  rw [fX8_init_77.eq_2, if_neg (show ¬ (8 : Int32) ≤ nI j from nI_ge (b := 8) hj (by omega))]
  refine ob_of (ext_gR w L s 8 k0 h0 3 hf) ?_
  refine ob_of (ext_nO w L s 10 6 _) ?_
  refine ob_of (n_X10a w L s) ?_
  refine ob_of (ext_sQ w (L ++ L_X10 (w.2.1 + L.length)) (s + 313) 7 10 8 kw L.length (app_left hw _) (app_last L _ _) j hj (by omega)) ?_
  rw [nI_1]
theorem it_X4 {X : px_X} (w : px_W) (L : List px_C) (s m j k0 kw b1 b2 : Nat) {fs : List Value} {f : Nat → Option Nat} (h0 : L[k0]? = some (.inr (4, fs))) (hf : fs[4]? = some (.ref (w.2.1 + kw))) (hw : L[kw]? = some (.inl (5, 8, .inr (.inr (.inr (.inr f)))))) (hj : j < 8) :
    fX4_init_36 X (m + 1) (w.2.1 + k0) b1 b2 (nI j) (px_ext w L s) = fX4_init_36 X m (w.2.1 + k0) b1 b2 (nI (j + 1)) (px_ext w ((L ++ L_X0 (w.2.1 + L.length)).set kw (.inl (5, 8, .inr (.inr (.inr (.inr (va_up f j (some (w.2.1 + L.length))))))))) (s + 2320)) := by
  rw [fX4_init_36.eq_2, if_neg (show ¬ (8 : Int32) ≤ nI j from nI_ge (b := 8) hj (by omega))]
  refine ob_of (ext_gR w L s 4 k0 h0 4 hf) ?_
  refine ob_of (ext_nO w L s 0 10 _) ?_
  refine ob_of (n_X0a w L s) ?_
  refine ob_of (ext_sQ w (L ++ L_X0 (w.2.1 + L.length)) (s + 2320) 5 0 8 kw L.length (app_left hw _) (app_last L _ _) j hj (by omega)) ?_
  rw [nI_1]
theorem it_X11 {X : px_X} (w : px_W) (L : List px_C) (s m j k0 kw : Nat) {fs : List Value} {f : Nat → Option Nat} (h0 : L[k0]? = some (.inr (11, fs))) (hf : fs[6]? = some (.ref (w.2.1 + kw))) (hw : L[kw]? = some (.inl (6, 4, .inr (.inr (.inr (.inr f)))))) (hj : j < 4) :
    fX11_init_69 X (m + 1) (w.2.1 + k0) (nI j) (px_ext w L s) = fX11_init_69 X m (w.2.1 + k0) (nI (j + 1)) (px_ext w ((L ++ L_X3 (w.2.1 + L.length)).set kw (.inl (6, 4, .inr (.inr (.inr (.inr (va_up f j (some (w.2.1 + L.length))))))))) (s + 1027)) := by
  rw [fX11_init_69.eq_2, if_neg (show ¬ (4 : Int32) ≤ nI j from nI_ge (b := 4) hj (by omega))]
  refine ob_of (ext_gR w L s 11 k0 h0 6 hf) ?_
  refine ob_of (ext_nO w L s 3 3 _) ?_
  refine ob_of (n_X3a w L s) ?_
  refine ob_of (ext_sQ w (L ++ L_X3 (w.2.1 + L.length)) (s + 1027) 6 3 4 kw L.length (app_left hw _) (app_last L _ _) j hj (by omega)) ?_
  rw [nI_1]
