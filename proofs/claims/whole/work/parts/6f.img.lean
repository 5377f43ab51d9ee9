/-! PICTURES OF SAMPLES: places of rows, sums, waves -/
theorem pl_iff {W X Y t : Nat} (hX : X < W) : t = W * Y + X ↔ t / W = Y ∧ t % W = X := by
  constructor
  · rintro rfl
    exact ⟨by rw [Nat.mul_add_div (by omega), Nat.div_eq_of_lt hX, Nat.add_zero], by rw [Nat.mul_add_mod, Nat.mod_eq_of_lt hX]⟩
  · rintro ⟨rfl, rfl⟩
    exact (Nat.div_add_mod t W).symm
/-- the places (ax + i', ay + j') of rows of W, j' below j whole, of row j those below i, hold V i' j' -/
def fB {α : Type} (W ax ay n j i : Nat) (V : Nat → Nat → α) (Z : Nat → α) : Nat → α := fun t => if ax ≤ t % W ∧ t % W < ax + n ∧ ay ≤ t / W ∧ (t / W < ay + j ∨ t / W = ay + j ∧ t % W < ax + i) then V (t % W - ax) (t / W - ay) else Z t
theorem fB_0 {α : Type} (W ax ay n : Nat) (V : Nat → Nat → α) (Z : Nat → α) : fB W ax ay n 0 0 V Z = Z := by
  funext t
  unfold fB
  generalize t / W = q
  generalize t % W = r
  rw [if_neg (by omega)]
theorem fB_s {α : Type} {W ax ay n j i : Nat} {V : Nat → Nat → α} {Z : Nat → α} (hi : i < n) (hW : ax + n ≤ W) : (fun t => if t = W * (ay + j) + (ax + i) then V i j else fB W ax ay n j i V Z t) = fB W ax ay n j (i + 1) V Z := by
  funext t
  by_cases e : t = W * (ay + j) + (ax + i)
  · rw [if_pos e]
    have := (pl_iff (W := W) (X := ax + i) (Y := ay + j) (by omega)).mp e
    unfold fB
    rw [this.1, this.2, if_pos (by omega), Nat.add_sub_cancel_left, Nat.add_sub_cancel_left]
  · rw [if_neg e]
    have h2 : ¬ (t / W = ay + j ∧ t % W = ax + i) := fun h => e ((pl_iff (W := W) (X := ax + i) (Y := ay + j) (by omega)).mpr h)
    unfold fB
    generalize t / W = q at h2 ⊢
    generalize t % W = r at h2 ⊢
    by_cases h : ax ≤ r ∧ r < ax + n ∧ ay ≤ q ∧ (q < ay + j ∨ q = ay + j ∧ r < ax + i)
    · rw [if_pos h, if_pos (by omega)]
    · rw [if_neg h, if_neg (by omega)]
theorem fB_row {α : Type} {W ax ay n j : Nat} {V : Nat → Nat → α} {Z : Nat → α} : fB W ax ay n j n V Z = fB W ax ay n (j + 1) 0 V Z := by
  funext t
  unfold fB
  generalize t / W = q
  generalize t % W = r
  by_cases h : ax ≤ r ∧ r < ax + n ∧ ay ≤ q ∧ (q < ay + j ∨ q = ay + j ∧ r < ax + n)
  · rw [if_pos h, if_pos (by omega)]
  · rw [if_neg h, if_neg (by omega)]
theorem fB_at {α : Type} {W ax ay n j X Y : Nat} {V : Nat → Nat → α} {Z : Nat → α} (hX : X < W) : fB W ax ay n j 0 V Z (W * Y + X) = if ax ≤ X ∧ X < ax + n ∧ ay ≤ Y ∧ Y < ay + j then V (X - ax) (Y - ay) else Z (W * Y + X) := by
  have h := (pl_iff (W := W) (X := X) (Y := Y) (t := W * Y + X) hX).mp rfl
  unfold fB
  rw [h.1, h.2]
  by_cases e : ax ≤ X ∧ X < ax + n ∧ ay ≤ Y ∧ Y < ay + j
  · rw [if_pos e, if_pos (by omega)]
  · rw [if_neg e, if_neg (by omega)]
/-- a place of the current row that isn't written yet -/
theorem fB_in {α : Type} {W ax ay n j i a c : Nat} {V : Nat → Nat → α} {Z : Nat → α} (ha : a < n) (hW : ax + n ≤ W) (hc : c < j) : fB W ax ay n j i V Z (W * (ay + c) + (ax + a)) = V a c := by
  have h := (pl_iff (W := W) (X := ax + a) (Y := ay + c) (t := W * (ay + c) + (ax + a)) (by omega)).mp rfl
  unfold fB
  rw [h.1, h.2, if_pos (by omega), Nat.add_sub_cancel_left, Nat.add_sub_cancel_left]
/-- sums of longs -/
def sumL (f : Nat → Int64) : Nat → Int64
  | 0 => 0
  | k + 1 => sumL f k + f k
theorem sumL_cong {f f' : Nat → Int64} : ∀ {n : Nat}, (∀ k, k < n → f k = f' k) → sumL f n = sumL f' n := by
  intro n
  induction n with
  | zero => intro _; rfl
  | succ n ih =>
    intro h
    rw [sumL, sumL, ih (fun k hk => h k (by omega)), h n (by omega)]
def rnd (v : Int64) (s : Int32) : Int64 := (v + ((1 : Int64) <<< ((s - 1).toInt64 &&& 63))) >>> (s.toInt64 &&& 63)
def limL (z : Int64) : Int32 := if z < 0 then 0 else if 255 < z then 255 else z.toInt32
theorem limL_x (z : Int64) : (mmaxL 0 (mminL 255 z)).toInt32 = limL z := by
  have l0 : (0 : Int64).toInt = 0 := by decide
  have l255 : (255 : Int64).toInt = 255 := by decide
  unfold mmaxL mminL limL
  by_cases h0 : z < 0
  · have h0' := h0
    rw [l_lt, l0] at h0'
    rw [if_pos h0, if_pos (show z < 255 by rw [l_lt, l255]; omega), if_pos h0]
    rfl
  · have h0' := h0
    rw [l_lt, l0] at h0'
    rw [if_neg h0]
    by_cases h1 : z < 255
    · have h1' := h1
      rw [l_lt, l255] at h1'
      rw [if_pos h1, if_neg h0, if_neg (show ¬ 255 < z by rw [l_lt, l255]; omega)]
    · have h1' := h1
      rw [l_lt, l255] at h1'
      rw [if_neg h1, if_neg (by decide)]
      by_cases h2 : 255 < z
      · rw [if_pos h2]
        rfl
      · rw [if_neg h2]
        rw [l_lt, l255] at h2
        have : z = 255 := Int64.toInt_inj.mp (by rw [l255]; omega)
        rw [this]
theorem limL_m {X : px_X} {w : px_W} (z : Int64) : fX15_limit X w z = some (limL z, w) := by
  have l0 : (0 : Int64).toInt = 0 := by decide
  have l255 : (255 : Int64).toInt = 255 := by decide
  have c0 : 0 ≤ lg_cmp z 0 ↔ 0 ≤ z.toInt := by rw [lg_cmp_ge, l_le, l0]
  have c1 : lg_cmp z 255 ≤ 0 ↔ z.toInt ≤ 255 := by rw [lg_cmp_le, l_le, l255]
  unfold fX15_limit limL
  by_cases h0 : z < 0
  · rw [if_pos h0]
    rw [l_lt, l0] at h0
    exact ei_n (fun e => by have := c0.mp e; omega) rfl
  · rw [if_neg h0]
    rw [l_lt, l0] at h0
    refine ei_t (c0.mpr (by omega)) ?_
    by_cases h1 : 255 < z
    · rw [if_pos h1]
      rw [l_lt, l255] at h1
      exact ei_n (fun e => by have := c1.mp e; omega) rfl
    · rw [if_neg h1]
      rw [l_lt, l255] at h1
      exact ei_t (c1.mpr (by omega)) rfl
theorem limL_b (z : Int64) : ∃ c, c < 256 ∧ limL z = nI c := by
  have l0 : (0 : Int64).toInt = 0 := by decide
  have l255 : (255 : Int64).toInt = 255 := by decide
  unfold limL
  by_cases h0 : z < 0
  · rw [if_pos h0]
    exact ⟨0, by decide, rfl⟩
  · rw [if_neg h0]
    by_cases h1 : 255 < z
    · rw [if_pos h1]
      exact ⟨255, by decide, rfl⟩
    · rw [if_neg h1]
      rw [l_lt, l0] at h0
      rw [l_lt, l255] at h1
      refine ⟨z.toInt.toNat, by omega, ?_⟩
      have e : z = lN z.toInt.toNat := Int64.toInt_inj.mp (by rw [lN_toInt (by omega)]; omega)
      rw [e, lN_i, ← e]
/-- the inverse of the order of the waves -/
def izL : List Nat := [0, 1, 5, 6, 14, 15, 27, 28, 2, 4, 7, 13, 16, 26, 29, 42, 3, 8, 12, 17, 25, 30, 41, 43, 9, 11, 18, 24, 31, 40, 44, 53, 10, 19, 23, 32, 39, 45, 52, 54, 20, 22, 33, 38, 46, 51, 55, 60, 21, 34, 37, 47, 50, 56, 59, 61, 35, 36, 48, 49, 57, 58, 62, 63]
def iz (i : Nat) : Nat := izL.getD i 0
theorem iz_c : ∀ k : Fin 64, zg (iz k.val) = k.val ∧ iz (zg k.val) = k.val ∧ iz k.val < 64 := by decide +kernel
theorem zg_iz {i : Nat} (h : i < 64) : zg (iz i) = i := (iz_c ⟨i, h⟩).1
theorem iz_zg {k : Nat} (h : k < 64) : iz (zg k) = k := (iz_c ⟨k, h⟩).2.1
theorem iz_lt {i : Nat} (h : i < 64) : iz i < 64 := (iz_c ⟨i, h⟩).2.2
/-- the way back: n rows and columns from the given waves G (8 v + u) -/
def bk1 (n : Nat) (G : Nat → Int64) (u y : Nat) : Int64 := rnd (sumL (fun v => (wvN n v y).toInt64 * G (8 * v + u)) n) 11
def bk2 (n : Nat) (G : Nat → Int64) (x y : Nat) : Int32 := limL (rnd (sumL (fun u => (wvN n u x).toInt64 * bk1 n G u y) n) 17 + 128)
/-- a block's waves: coefficients F of block t, steps S of component c -/
def bkG (F S : Nat → Int32) (c t : Nat) : Nat → Int64 := fun i => (F (64 * t + iz i)).toInt64 * (S (64 * c + iz i)).toInt64
section
variable {X : px_X} {b B : Nat} {w0 w1 w : px_W} {x y : rg_S}
theorem m_k {j : Nat} (h : j < 9) : fX15_k X w (nI j) = some (wvK j, w) := by
  unfold fX15_k
  rcases (show j = 0 ∨ j = 1 ∨ j = 2 ∨ j = 3 ∨ j = 4 ∨ j = 5 ∨ j = 6 ∨ j = 7 ∨ j = 8 by omega) with rfl | rfl | rfl | rfl | rfl | rfl | rfl | rfl | rfl
  · exact ei_t (by decide) rfl
  · exact ei_n (by decide) (ei_t (by decide) rfl)
  · exact ei_n (by decide) (ei_n (by decide) (ei_t (by decide) rfl))
  · exact ei_n (by decide) (ei_n (by decide) (ei_n (by decide) (ei_t (by decide) rfl)))
  · exact ei_n (by decide) (ei_n (by decide) (ei_n (by decide) (ei_n (by decide) (ei_t (by decide) rfl))))
  · exact ei_n (by decide) (ei_n (by decide) (ei_n (by decide) (ei_n (by decide) (ei_n (by decide) (ei_t (by decide) rfl)))))
  · exact ei_n (by decide) (ei_n (by decide) (ei_n (by decide) (ei_n (by decide) (ei_n (by decide) (ei_n (by decide) (ei_t (by decide) rfl))))))
  · exact ei_n (by decide) (ei_n (by decide) (ei_n (by decide) (ei_n (by decide) (ei_n (by decide) (ei_n (by decide) (ei_n (by decide) (ei_t (by decide) rfl)))))))
  · exact ei_n (by decide) (ei_n (by decide) (ei_n (by decide) (ei_n (by decide) (ei_n (by decide) (ei_n (by decide) (ei_n (by decide) (ei_n (by decide) rfl)))))))
theorem m_wave {n u t : Nat} (h1 : 1 ≤ n) (h8 : n ≤ 8) (hu : u < n) (ht : t < n) : fX15_wave X w (nI n) (nI u) (nI t) = some (wvN n u t, w) := by
  unfold fX15_wave wvN
  by_cases u0 : u = 0
  · subst u0
    rw [if_pos rfl]
    exact ei_t rfl (ob_v (m_k (j := 4) (by decide)) rfl)
  · rw [if_neg u0]
    refine ei_n (nI_ne0 (by omega) (by omega)) (ob_v (dI_n (a := 8) (by decide) (by omega) (by omega)) ?_)
    have hm : (2 * t + 1) * u * (8 / n) ≤ 15 * 7 * 8 := Nat.mul_le_mul (Nat.mul_le_mul (by omega) (by omega)) (Nat.div_le_self 8 n)
    rw [show (2 : Int32) * nI t + 1 = nI (2 * t + 1) by rw [show (2 : Int32) = nI 2 from rfl, pk_mul, nI_1], pk_mul, pk_mul]
    refine ob_v (rI_n (d := 32) (by omega) (by decide) (by decide)) ?_
    have hlt := Nat.mod_lt ((2 * t + 1) * u * (8 / n)) (show 0 < 32 by decide)
    generalize (2 * t + 1) * u * (8 / n) % 32 = m at hlt ⊢
    unfold wvC
    by_cases m8 : m ≤ 8
    · rw [if_pos m8]
      exact ei_n (nI_ge (b := 9) (by omega) (by omega)) (ob_v (m_k (by omega)) rfl)
    · rw [if_neg m8]
      refine ei_t (nI_le (a := 9) (by omega) (by omega)) ?_
      by_cases m16 : m ≤ 16
      · rw [if_pos m16]
        refine ei_n (nI_ge (b := 17) (by omega) (by omega)) ?_
        rw [show (16 : Int32) - nI m = nI (16 - m) from pk_sub (a := 16) (by omega)]
        exact ob_v (m_k (by omega)) rfl
      · rw [if_neg m16]
        refine ei_t (nI_le (a := 17) (by omega) (by omega)) ?_
        by_cases m24 : m ≤ 24
        · rw [if_pos m24]
          refine ei_n (nI_ge (b := 25) (by omega) (by omega)) ?_
          rw [show nI m - (16 : Int32) = nI (m - 16) from pk_sub (b := 16) (by omega)]
          exact ob_v (m_k (by omega)) rfl
        · rw [if_neg m24]
          refine ei_t (nI_le (a := 25) (by omega) (by omega)) ?_
          rw [show (32 : Int32) - nI m = nI (32 - m) from pk_sub (a := 32) (by omega)]
          exact ob_v (m_k (by omega)) rfl
theorem m_round (v : Int64) (s : Int32) : fX15_round X w v s = some (rnd v s, w) := rfl
theorem x_round (v : Int64) (s : Int32) : fX9_round X w v s = some (rnd v s, w) := rfl
end
