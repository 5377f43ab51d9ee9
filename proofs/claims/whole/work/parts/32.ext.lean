/-! WORLDS THAT GROW: w with the cells L laid behind it, and s slots more -/
def px_ext (w : px_W) (L : List px_C) (s : Nat) : px_W := (fun q => if w.2.1 ≤ q ∧ q < w.2.1 + L.length then L[q - w.2.1]? else w.1 q, w.2.1 + L.length, w.2.2 + s)
theorem ext_at {w : px_W} {L : List px_C} {s : Nat} (k : Nat) {e : px_C} (h : L[k]? = some e) : (px_ext w L s).1 (w.2.1 + k) = some e := by
  have hk : k < L.length := (List.getElem?_eq_some_iff.mp h).1
  simp only [px_ext]
  rw [if_pos (by omega), Nat.add_sub_cancel_left]
  exact h
theorem ext_lo {w : px_W} {L : List px_C} {s q : Nat} (h : q < w.2.1) : (px_ext w L s).1 q = w.1 q := by
  simp only [px_ext]
  rw [if_neg (by omega)]
theorem ext_s (w : px_W) (L : List px_C) (s : Nat) : (px_ext w L s).2 = (w.2.1 + L.length, w.2.2 + s) := rfl
theorem ext_in {w : px_W} {L : List px_C} {s q : Nat} (h : w.2.1 ≤ q ∧ q < w.2.1 + L.length) : (px_ext w L s).1 q = L[q - w.2.1]? := by
  show (if w.2.1 ≤ q ∧ q < w.2.1 + L.length then L[q - w.2.1]? else w.1 q) = _
  rw [if_pos h]
theorem ext_out {w : px_W} {L : List px_C} {s q : Nat} (h : ¬ (w.2.1 ≤ q ∧ q < w.2.1 + L.length)) : (px_ext w L s).1 q = w.1 q := by
  show (if w.2.1 ≤ q ∧ q < w.2.1 + L.length then L[q - w.2.1]? else w.1 q) = _
  rw [if_neg h]
theorem px_W_ext {w w' : px_W} (h : ∀ q, w.1 q = w'.1 q) (h2 : w.2 = w'.2) : w = w' := Prod.ext (funext h) h2
theorem ext_nil (w : px_W) : px_ext w [] 0 = w := px_W_ext (fun q => ext_out (by simp)) rfl
theorem ext_new (w : px_W) (L : List px_C) (s : Nat) (e : px_C) (n : Nat) : px_new (px_ext w L s) e n = px_ext w (L ++ [e]) (s + n) := by
  refine px_W_ext (fun q => ?_) ?_
  · rw [px_new_at]
    by_cases h1 : q = w.2.1 + L.length
    · rw [if_pos (show q = (px_ext w L s).2.1 from h1), ext_in (by simp; omega), List.getElem?_append_right (by omega), show q - w.2.1 - L.length = 0 by omega]
      rfl
    · rw [if_neg (show ¬ q = (px_ext w L s).2.1 from h1)]
      by_cases h2 : w.2.1 ≤ q ∧ q < w.2.1 + L.length
      · rw [ext_in h2, ext_in (by simp; omega), List.getElem?_append_left (by omega)]
      · rw [ext_out h2, ext_out (by simp; omega)]
  · rw [px_new_s, ext_s, ext_s, List.length_append]
    show (w.2.1 + L.length + 1, w.2.2 + s + n) = (w.2.1 + (L.length + 1), w.2.2 + (s + n))
    rw [Nat.add_assoc, Nat.add_assoc]
theorem ext_set {w : px_W} {L : List px_C} {s : Nat} (k : Nat) (hk : k < L.length) (e : px_C) : px_set (px_ext w L s) (w.2.1 + k) e = px_ext w (L.set k e) s := by
  refine px_W_ext (fun q => ?_) ?_
  · rw [px_set_at]
    by_cases h1 : q = w.2.1 + k
    · rw [if_pos h1, ext_in (by simp; omega), show q - w.2.1 = k by omega, List.getElem?_set_self hk]
    · rw [if_neg h1]
      by_cases h2 : w.2.1 ≤ q ∧ q < w.2.1 + L.length
      · rw [ext_in h2, ext_in (by simp; omega), List.getElem?_set_ne (by omega)]
      · rw [ext_out h2, ext_out (by simp; omega)]
  · rw [px_set_s, ext_s, ext_s, List.length_set]
theorem ext_ext (w : px_W) (L L2 : List px_C) (s s2 : Nat) : px_ext (px_ext w L s) L2 s2 = px_ext w (L ++ L2) (s + s2) := by
  have e1 : (px_ext w L s).2.1 = w.2.1 + L.length := rfl
  refine px_W_ext (fun q => ?_) ?_
  · by_cases h1 : w.2.1 + L.length ≤ q ∧ q < w.2.1 + L.length + L2.length
    · rw [ext_in (by rw [e1]; exact h1), ext_in (by simp; omega), List.getElem?_append_right (by omega), e1]
      congr 1
      omega
    · rw [ext_out (by rw [e1]; exact h1)]
      by_cases h2 : w.2.1 ≤ q ∧ q < w.2.1 + L.length
      · rw [ext_in h2, ext_in (by simp; omega), List.getElem?_append_left (by omega)]
      · rw [ext_out h2, ext_out (by simp; omega)]
  · rw [ext_s, ext_s, ext_s, List.length_append]
    show (w.2.1 + L.length + L2.length, w.2.2 + s + s2) = _
    rw [Nat.add_assoc, Nat.add_assoc]
theorem ext_nO (w : px_W) (L : List px_C) (s ci N : Nat) (fs : List Value) : nO (px_ext w L s) ci N fs = some (w.2.1 + L.length, px_ext w (L ++ [.inr (ci, fs)]) (s + N)) := by
  unfold nO
  rw [ext_new]
  rfl
theorem ext_nA (w : px_W) (L : List px_C) (s t N : Nat) {n : Int32} (hn : n = nI N) (c : (Nat → Int32) ⊕ (Nat → Int64) ⊕ (Nat → UInt32) ⊕ (Nat → UInt64) ⊕ (Nat → Option Nat)) (hN : N ≤ 60000000) : nA (px_ext w L s) t n c = some (w.2.1 + L.length, px_ext w (L ++ [.inl (t, N, c)]) (s + N)) := by
  rw [hn, nA_c _ _ _ _ hN, ext_new]
  rfl
theorem ext_pV (w : px_W) (L : List px_C) (s ci : Nat) {fs : List Value} (k : Nat) (h : L[k]? = some (.inr (ci, fs))) (j : Nat) (v : Value) (hj : j < fs.length) : pV (px_ext w L s) (w.2.1 + k) ci j v = some (px_ext w (L.set k (.inr (ci, fs.set j v))) s) := by
  rw [pV_c (ext_at k h) j v hj, ext_set k ((List.getElem?_eq_some_iff.mp h).1)]
theorem ext_pV0 (w : px_W) {L : List px_C} (s ci : Nat) {fs : List Value} (j : Nat) (v : Value) (hj : j < fs.length) : pV (px_ext w (.inr (ci, fs) :: L) s) w.2.1 ci j v = some (px_ext w (.inr (ci, fs.set j v) :: L) s) := ext_pV w (.inr (ci, fs) :: L) s ci 0 rfl j v hj
