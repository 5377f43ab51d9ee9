/-! the class' Bytes: at a the object, at a + 1 its row -/
def cB (w : px_W) (a n : Nat) (f : Nat → Int32) (tm : Int32) : Prop := w.1 a = some (.inr (1, [.ref (a + 1), .int (nI n), .int tm])) ∧ w.1 (a + 1) = some (.inl (1, 16384, .inl f)) ∧ n ≤ 16384
/-- what is kept of an int as a byte -/
def bt (x : Int32) : Int32 := x.toInt8.toInt32
theorem bt_nar (x : Int32) : vp_nar .byte (bt x) = bt x := pk_vb x
theorem cB.kept {w w' : px_W} {a n : Nat} {f : Nat → Int32} {tm : Int32} (h : cB w a n f tm) (h1 : w'.1 a = w.1 a) (h2 : w'.1 (a + 1) = w.1 (a + 1)) : cB w' a n f tm := ⟨h1.trans h.1, h2.trans h.2.1, h.2.2⟩
/-- the world with this Bytes -/
def wB (w : px_W) (a n : Nat) (f : Nat → Int32) (tm : Int32) : px_W := px_set (px_set w (a + 1) (.inl (1, 16384, .inl f))) a (.inr (1, [.ref (a + 1), .int (nI n), .int tm]))
theorem wB_cB {w : px_W} {a n : Nat} {f : Nat → Int32} {tm : Int32} (hn : n ≤ 16384) : cB (wB w a n f tm) a n f tm := ⟨px_set_eq, px_set_ne px_set_eq (by omega), hn⟩
theorem wB_only {w : px_W} {a n : Nat} {f : Nat → Int32} {tm : Int32} : px_only w (wB w a n f tm) a 2 := (px_only.set (by omega) (by omega)).trans (px_only.set (by omega) (by omega))
theorem sB_clear {X : px_X} {w : px_W} {a n : Nat} {f : Nat → Int32} {tm : Int32} (h : cB w a n f tm) : ∃ w', fX1_clear X w a = some w' ∧ cB w' a 0 f 0 ∧ px_only w w' a 2 := by
  obtain ⟨h0, h1, h2⟩ := h
  unfold fX1_clear
  rw [pV_c h0 1 _ (Nat.le_of_ble_eq_true rfl), ob_s, pZ_c px_set_eq 2 _ (Nat.le_of_ble_eq_true rfl) (Or.inl rfl), ob_s]
  refine ⟨_, rfl, ⟨px_set_eq, px_set_ne (px_set_ne h1 (by omega)) (by omega), by omega⟩, (px_only.set (by omega) (by omega)).trans (px_only.set (by omega) (by omega))⟩
theorem sB_add {X : px_X} {w : px_W} {a n : Nat} {f : Nat → Int32} {tm : Int32} (h : cB w a n f tm) (hn : n < 16384) (v : Int32) : ∃ w', fX1_add X w a v = some w' ∧ cB w' a (n + 1) (upd f n (bt v)) tm ∧ px_only w w' a 2 := by
  obtain ⟨h0, h1, h2⟩ := h
  unfold fX1_add
  rw [gI_c h0 1 rfl, ob_s, if_pos (show nI n < 16384 from nI_lt (b := 16384) hn (by omega)), gR_c h0 0 rfl, ob_s, ob_s, sN_c _ h1 n _ hn (by omega), ob_s, gI_c (px_set_ne h0 (by omega)) 1 rfl, ob_s, pV_c (px_set_ne h0 (by omega)) 1 _ (Nat.le_of_ble_eq_true rfl), ob_s]
  refine ⟨_, rfl, ⟨?_, ?_, by omega⟩, (px_only.set (by omega) (by omega)).trans (px_only.set (by omega) (by omega))⟩
  · rw [px_set_eq, nI_1]; rfl
  · rw [px_set_ne px_set_eq (by omega)]
    show some _ = some _
    rw [show vp_nar .byte v.toInt8.toInt32 = bt v from bt_nar v]
theorem sB_addF {X : px_X} {w : px_W} {a n : Nat} {f : Nat → Int32} {tm : Int32} (h : cB w a n f tm) (hn : n = 16384) (v : Int32) : ∃ w', fX1_add X w a v = some w' ∧ cB w' a n f 1 ∧ px_only w w' a 2 := by
  obtain ⟨h0, h1, h2⟩ := h
  unfold fX1_add
  rw [gI_c h0 1 rfl, ob_s, if_neg (show ¬ nI n < 16384 from nI_nlt (b := 16384) (by omega) (by omega)), pZ_c h0 2 _ (Nat.le_of_ble_eq_true rfl) (Or.inr rfl), ob_s]
  exact ⟨_, rfl, ⟨px_set_eq, px_set_ne h1 (by omega), h2⟩, px_only.set (by omega) (by omega)⟩
theorem sB_at {X : px_X} {w : px_W} {a n : Nat} {f : Nat → Int32} {tm : Int32} (h : cB w a n f tm) (k : Nat) (hk : k < n) : fX1_at X w a (nI k) = some (f k &&& 255, w) := by
  obtain ⟨h0, h1, h2⟩ := h
  unfold fX1_at
  rw [if_neg (nI_pos (by omega)), gI_c h0 1 rfl, ob_s, if_pos (nI_lt hk (by omega)), gR_c h0 0 rfl, ob_s, aN_c h1 k (by omega) (by omega), ob_s]
theorem sB_atN {X : px_X} {w : px_W} {a n : Nat} {f : Nat → Int32} {tm : Int32} (h : cB w a n f tm) (k : Int32) (hk : k < 0 ∨ nI n ≤ k) : fX1_at X w a k = some (-1, w) := by
  obtain ⟨h0, h1, h2⟩ := h
  unfold fX1_at
  by_cases hk0 : k < 0
  · rw [if_pos hk0]
  · rw [if_neg hk0, gI_c h0 1 rfl, ob_s, if_neg (Int32.not_lt.mpr (hk.resolve_left hk0))]
