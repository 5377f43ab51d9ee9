/-! WORLDS: reads and writes of known cells -/
theorem px_set_at (w : px_W) (a : Nat) (e : px_C) (b : Nat) : (px_set w a e).1 b = if b = a then some e else w.1 b := rfl
theorem px_set_s (w : px_W) (a : Nat) (e : px_C) : (px_set w a e).2 = w.2 := rfl
theorem px_new_at (w : px_W) (e : px_C) (n b : Nat) : (px_new w e n).1 b = if b = w.2.1 then some e else w.1 b := rfl
theorem px_new_s (w : px_W) (e : px_C) (n : Nat) : (px_new w e n).2 = (w.2.1 + 1, w.2.2 + n) := rfl
/-- from w to w' nothing changed but at the addresses a .. a + k - 1 -/
def px_only (w w' : px_W) (a k : Nat) : Prop := w'.2 = w.2 ∧ ∀ q, q < a ∨ a + k ≤ q → w'.1 q = w.1 q
theorem px_only.rfl {w : px_W} {a k : Nat} : px_only w w a k := ⟨Eq.refl _, fun _ _ => Eq.refl _⟩
theorem px_only.trans {w w1 w2 : px_W} {a k : Nat} (h : px_only w w1 a k) (h2 : px_only w1 w2 a k) : px_only w w2 a k := ⟨h2.1.trans h.1, fun q hq => (h2.2 q hq).trans (h.2 q hq)⟩
theorem px_only.set {w : px_W} {a k b : Nat} {e : px_C} (h1 : a ≤ b) (h2 : b < a + k) : px_only w (px_set w b e) a k := ⟨Eq.refl _, fun q hq => by rw [px_set_at, if_neg (by omega)]⟩
theorem px_only.wide {w w' : px_W} {a k a' k' : Nat} (h : px_only w w' a k) (h1 : a' ≤ a) (h2 : a + k ≤ a' + k') : px_only w w' a' k' := ⟨h.1, fun q hq => h.2 q (by omega)⟩
theorem px_only.at {w w' : px_W} {a k q : Nat} (h : px_only w w' a k) (hq : q < a ∨ a + k ≤ q) : w'.1 q = w.1 q := h.2 q hq
/-- reads of an object whose cell is known -/
theorem gI_c {w : px_W} {a ci : Nat} {fs : List Value} (h : w.1 a = some (.inr (ci, fs))) (k : Nat) {v : Int32} (hv : fs[k]? = some (.int v)) : gI w a ci k = some v := by
  simp only [gI, gV, h, if_true, hv]
theorem gR_c {w : px_W} {a ci : Nat} {fs : List Value} (h : w.1 a = some (.inr (ci, fs))) (k : Nat) {v : Nat} (hv : fs[k]? = some (.ref v)) : gR w a ci k = some v := by
  simp only [gR, gV, h, if_true, hv]
theorem gO_c {w : px_W} {a ci : Nat} {fs : List Value} (h : w.1 a = some (.inr (ci, fs))) : gO w a ci = some fs := by
  simp only [gO, h, if_true]
theorem pV_c {w : px_W} {a ci : Nat} {fs : List Value} (h : w.1 a = some (.inr (ci, fs))) (k : Nat) (v : Value) (hk : k < fs.length) : pV w a ci k v = some (px_set w a (.inr (ci, fs.set k v))) := by
  simp only [pV, h, hk, and_self, if_true]
theorem pZ_c {w : px_W} {a ci : Nat} {fs : List Value} (h : w.1 a = some (.inr (ci, fs))) (k : Nat) (v : Int32) (hk : k < fs.length) (hz : v = 0 ∨ v = 1) : pZ w a ci k v = some (px_set w a (.inr (ci, fs.set k (.int v)))) := by
  unfold pZ
  rw [if_pos hz, pV_c h k _ hk]
/-- reads and writes of an array whose cell is known, at a place that is a number -/
theorem nI_0le {n : Nat} (h : n < 2 ^ 31) : (0 : Int32) ≤ nI n := Int32.not_lt.mp (nI_pos h)
theorem aN_c {w : px_W} {t a n : Nat} {f : Nat → Int32} (h : w.1 a = some (.inl (t, n, .inl f))) (j : Nat) (hj : j < n) (hn : n < 2 ^ 31) : aN w t a (nI j) = some (f j) := by
  simp only [aN, h, nI_clamp (Nat.lt_trans hj hn), nI_0le (Nat.lt_trans hj hn), hj, and_self, if_true]
theorem aJ_c {w : px_W} {a n : Nat} {f : Nat → Int64} (h : w.1 a = some (.inl (3, n, .inr (.inl f)))) (j : Nat) (hj : j < n) (hn : n < 2 ^ 31) : aJ w a (nI j) = some (f j) := by
  simp only [aJ, h, nI_clamp (Nat.lt_trans hj hn), nI_0le (Nat.lt_trans hj hn), hj, and_self, if_true]
theorem aQ_c {w : px_W} {t a n : Nat} {f : Nat → Option Nat} (h : w.1 a = some (.inl (t, n, .inr (.inr (.inr (.inr f)))))) (j : Nat) (hj : j < n) (hn : n < 2 ^ 31) : aQ w t a (nI j) = f j := by
  simp only [aQ, h, nI_clamp (Nat.lt_trans hj hn), nI_0le (Nat.lt_trans hj hn), hj, and_self, if_true]
theorem sN_c {w : px_W} {t a n : Nat} {f : Nat → Int32} (nr : Int32 → Int32) (h : w.1 a = some (.inl (t, n, .inl f))) (j : Nat) (x : Int32) (hj : j < n) (hn : n < 2 ^ 31) : sN nr w t a (nI j) x = some (px_set w a (.inl (t, n, .inl (upd f j (nr x))))) := by
  simp only [sN, h, nI_clamp (Nat.lt_trans hj hn), nI_0le (Nat.lt_trans hj hn), hj, and_self, if_true]
theorem sJ_c {w : px_W} {a n : Nat} {f : Nat → Int64} (h : w.1 a = some (.inl (3, n, .inr (.inl f)))) (j : Nat) (x : Int64) (hj : j < n) (hn : n < 2 ^ 31) : sJ w a (nI j) x = some (px_set w a (.inl (3, n, .inr (.inl (vp_updL f j x))))) := by
  simp only [sJ, h, nI_clamp (Nat.lt_trans hj hn), nI_0le (Nat.lt_trans hj hn), hj, and_self, if_true]
theorem aL_c {w : px_W} {t a : Nat} {x : vp_A} (h : w.1 a = some (.inl (t, x))) : aL w t a = some (nI x.1) := by
  simp only [aL, h, if_true]
  rfl
theorem px_set_eq {w : px_W} {a : Nat} {e : px_C} : (px_set w a e).1 a = some e := by rw [px_set_at, if_pos rfl]
theorem px_set_ne {w : px_W} {a b : Nat} {e : px_C} {c : Option px_C} (h : w.1 a = c) (hne : a ≠ b) : (px_set w b e).1 a = c := by rw [px_set_at, if_neg hne]; exact h
theorem px_set_set (w : px_W) (a : Nat) (e e' : px_C) : px_set (px_set w a e) a e' = px_set w a e' := by
  unfold px_set
  simp only [Prod.mk.injEq, and_true]
  funext q
  by_cases h : q = a <;> simp [h]
theorem px_set_same {w : px_W} {a : Nat} {e : px_C} (h : w.1 a = some e) : px_set w a e = w := by
  obtain ⟨f, s⟩ := w
  simp only [px_set, Prod.mk.injEq, and_true]
  funext q
  by_cases hq : q = a
  · subst hq; rw [if_pos rfl]; exact h.symm
  · rw [if_neg hq]
theorem nA_c (w : px_W) (t N : Nat) (c : (Nat → Int32) ⊕ (Nat → Int64) ⊕ (Nat → UInt32) ⊕ (Nat → UInt64) ⊕ (Nat → Option Nat)) (hN : N ≤ 60000000) : nA w t (nI N) c = some (w.2.1, px_new w (.inl (t, N, c)) N) := by
  have h : N < 2 ^ 31 := by omega
  simp only [nA, nI_clamp h, nI_0le h, hN, and_self, if_true]
theorem ob_s {α β : Type} (v : α) (f : α → Option β) : (some v).bind f = f v := rfl
/-! Arrays.fill -/
theorem fill_loop {X : px_X} (a n : Nat) (v : Int32) (hn : n < 2 ^ 31) : ∀ (k m j : Nat) (w : px_W) (f : Nat → Int32), k + j = n → k < m → w.1 a = some (.inl (0, n, .inl f)) →
    fJ7_fill_53178_5 X m a v (nI j) (nI n) w = some (px_set w a (.inl (0, n, .inl (fun i => if j ≤ i ∧ i < n then v else f i)))) := by
  intro k
  induction k with
  | zero =>
    intro m j w f hj hm hw
    obtain ⟨m, rfl⟩ : ∃ m', m = m' + 1 := ⟨m - 1, by omega⟩
    rw [fJ7_fill_53178_5.eq_2, if_pos (nI_le (by omega) (by omega))]
    rw [show (fun i => if j ≤ i ∧ i < n then v else f i) = f from funext fun i => if_neg (by omega)]
    rw [px_set_same hw]
  | succ k ih =>
    intro m j w f hj hm hw
    obtain ⟨m, rfl⟩ : ∃ m', m = m' + 1 := ⟨m - 1, by omega⟩
    rw [fJ7_fill_53178_5.eq_2, if_neg (nI_ge (by omega) (by omega)), sN_c id hw j v (by omega) hn, ob_s, nI_1]
    rw [ih m (j + 1) _ _ (by omega) (by omega) px_set_eq, px_set_set]
    congr 3
    simp only [Sum.inl.injEq, Prod.mk.injEq, true_and]
    funext i
    simp only [upd, id]
    by_cases h1 : i = j
    · subst h1; simp; omega
    · by_cases h2 : j + 1 ≤ i ∧ i < n
      · rw [if_pos h2, if_pos (by omega)]
      · rw [if_neg h2, if_neg h1, if_neg (by omega)]
theorem fill_spec {X : px_X} {w : px_W} {a n : Nat} {v : Int32} {f : Nat → Int32} (hn : n < 1000000) (hw : w.1 a = some (.inl (0, n, .inl f))) : fJ7_fill_53178 X w a v = some (px_set w a (.inl (0, n, .inl (fun i => if i < n then v else f i)))) := by
  unfold fJ7_fill_53178
  rw [aL_c hw, ob_s]
  have h := fill_loop (X := X) a n v (by omega) n FU 0 w f (by omega) (by unfold FU; omega) hw
  rw [nI_0] at h
  rw [h]
  simp
