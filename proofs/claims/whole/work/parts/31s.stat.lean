/-! the statics: constants of the class -/
theorem aX_st {X : px_X} (h : px_st X) (k : Nat) {l : List Int32} (hk : px_sc[k]? = some l) (j : Nat) (hj : j < l.length) (hl : l.length < 2 ^ 31) : aX X (X.2.2.2.2.2 k) (nI j) = some (l.getD j 0) := by
  obtain ⟨f, h1, h2⟩ := h k l hk
  simp only [aX, h1, nI_clamp (Nat.lt_trans hj hl), nI_0le (Nat.lt_trans hj hl), hj, and_self, if_true, h2 j hj]
def zgL : List Nat := [0, 1, 8, 16, 9, 2, 3, 10, 17, 24, 32, 25, 18, 11, 4, 5, 12, 19, 26, 33, 40, 48, 41, 34, 27, 20, 13, 6, 7, 14, 21, 28, 35, 42, 49, 56, 57, 50, 43, 36, 29, 22, 15, 23, 30, 37, 44, 51, 58, 59, 52, 45, 38, 31, 39, 46, 53, 60, 61, 54, 47, 55, 62, 63]
def tzL : List Nat := [0, 2, 1, 5, 4, 3, 9, 8, 7, 6, 14, 13, 12, 11, 10, 20, 19, 18, 17, 16, 15, 27, 26, 25, 24, 23, 22, 21, 35, 34, 33, 32, 31, 30, 29, 28, 42, 41, 40, 39, 38, 37, 36, 48, 47, 46, 45, 44, 43, 53, 52, 51, 50, 49, 57, 56, 55, 54, 60, 59, 58, 62, 61, 63]
def zg (k : Nat) : Nat := zgL.getD k 0
def tz (k : Nat) : Nat := tzL.getD k 0
theorem zg_c : ∀ k : Fin 64, sc_ZIGZAG.getD k.val 0 = nI (zg k.val) ∧ zg k.val < 64 := by decide +kernel
theorem tz_c : ∀ k : Fin 64, sc_TRANSPOSED.getD k.val 0 = nI (tz k.val) ∧ tz k.val < 64 ∧ zg (tz k.val) = 8 * (zg k.val % 8) + zg k.val / 8 := by decide +kernel
theorem zg_lt {k : Nat} (h : k < 64) : zg k < 64 := (zg_c ⟨k, h⟩).2
theorem tz_lt {k : Nat} (h : k < 64) : tz k < 64 := (tz_c ⟨k, h⟩).2.1
theorem tz_zg {k : Nat} (h : k < 64) : zg (tz k) = 8 * (zg k % 8) + zg k / 8 := (tz_c ⟨k, h⟩).2.2
theorem s_zig {X : px_X} (hs : px_st X) {k : Nat} (h : k < 64) : aX X (X.2.2.2.2.2 4) (nI k) = some (nI (zg k)) := by
  rw [aX_st hs 4 (l := sc_ZIGZAG) rfl k (by exact h) (by decide), (zg_c ⟨k, h⟩).1]
theorem s_tra {X : px_X} (hs : px_st X) {k : Nat} (h : k < 64) : aX X (X.2.2.2.2.2 5) (nI k) = some (nI (tz k)) := by
  rw [aX_st hs 5 (l := sc_TRANSPOSED) rfl k (by exact h) (by decide), (tz_c ⟨k, h⟩).1]
