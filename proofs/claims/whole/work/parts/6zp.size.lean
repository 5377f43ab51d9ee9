/-! sizes of numbers on both sides -/
def sz (a : Nat) : Nat := if a = 0 then 0 else Nat.log2 a + 1
theorem sz_s {a : Nat} (h : a ≠ 0) : sz a = sz (a / 2) + 1 := by
  unfold sz
  rw [if_neg h, Nat.log2_def]
  by_cases e : 2 ≤ a
  · rw [if_pos e, if_neg (by omega)]
  · rw [if_neg e, if_pos (by omega)]
theorem sz_k : ∀ (k : Nat) {a : Nat}, 2 ^ k ≤ a → sz a = k + sz (a / 2 ^ k) := by
  intro k
  induction k with
  | zero => intro a _; rw [show (2 : Nat) ^ 0 = 1 from rfl, Nat.div_one, Nat.zero_add]
  | succ k ih =>
    intro a h
    rw [Nat.pow_succ] at h ⊢
    have hp := Nat.two_pow_pos k
    rw [sz_s (by omega), ih (a := a / 2) (by omega), Nat.div_div_eq_div_mul, Nat.mul_comm 2]
    omega
theorem sz_le : ∀ {a : Nat}, sz a ≤ a := by
  intro a
  induction a using Nat.strongRecOn with
  | ind a ih =>
    by_cases e : a = 0
    · rw [e]; decide
    · rw [sz_s e]
      have := ih (a / 2) (by omega)
      omega
theorem sz_4 {a : Nat} (h0 : a ≠ 0) (h : a < 4) : sz a = 1 + a / 2 := by
  rcases (show a = 1 ∨ a = 2 ∨ a = 3 by omega) with rfl | rfl | rfl
  · rw [sz_s (by decide)]; rfl
  · rw [sz_s (by decide), sz_s (by decide)]; rfl
  · rw [sz_s (by decide), sz_s (by decide)]; rfl
theorem sz_16 {a : Nat} (h : a < 65536) : sz a ≤ 16 := by
  by_cases e : 2 ^ 15 ≤ a
  · rw [sz_k 15 e]
    have : a / 2 ^ 15 ≤ 1 := Nat.le_of_lt_succ ((Nat.div_lt_iff_lt_mul (by decide)).mpr (by omega))
    have := sz_le (a := a / 2 ^ 15)
    omega
  · unfold sz
    by_cases z : a = 0
    · rw [if_pos z]; decide
    · rw [if_neg z]
      have := (Nat.log2_lt z (k := 15)).mpr (by omega)
      omega
section
variable {X : px_X} {w : px_W}
theorem m_size13 : ∀ {a n M : Nat}, a < 65536 → n < 1000 → a < M → fX13_sizeOf_13 X M (nI n) (nI a) w = some (nI (n + sz a), w) := by
  intro a
  induction a using Nat.strongRecOn with
  | ind a ih =>
    intro n M h hn hM
    obtain ⟨M, rfl⟩ : ∃ M', M = M' + 1 := ⟨M - 1, by omega⟩
    rw [fX13_sizeOf_13.eq_2]
    by_cases e : a = 0
    · subst e
      exact ei_t (by decide) rfl
    · refine ei_n (nI_ge (a := 0) (by omega) (by omega)) (ob_v (dI_n (d := 2) (by omega) (by decide) (by decide)) ?_)
      by_cases z : n + 1 < 1000
      · rw [nI_1, ih (a / 2) (by omega) (by omega) z (by omega), sz_s e, show n + 1 + sz (a / 2) = n + (sz (a / 2) + 1) by omega]
      · have := sz_16 h
        rw [nI_1]
        have e2 : fX13_sizeOf_13 X M (nI (n + 1)) (nI (a / 2)) w = some (nI (n + 1 + sz (a / 2)), w) := by
          clear ih
          generalize n + 1 = n1
          have : ∀ (c M n1 : Nat), c < 65536 → c < M → fX13_sizeOf_13 X M (nI n1) (nI c) w = some (nI (n1 + sz c), w) := by
            intro c
            induction c using Nat.strongRecOn with
            | ind c ih =>
              intro M n1 hc hM
              obtain ⟨M, rfl⟩ : ∃ M', M = M' + 1 := ⟨M - 1, by omega⟩
              rw [fX13_sizeOf_13.eq_2]
              by_cases e : c = 0
              · subst e
                exact ei_t (by decide) rfl
              · refine ei_n (nI_ge (a := 0) (by omega) (by omega)) (ob_v (dI_n (d := 2) (by omega) (by decide) (by decide)) ?_)
                rw [nI_1, ih (c / 2) (by omega) M (n1 + 1) (by omega) (by omega), sz_s e, show n1 + 1 + sz (c / 2) = n1 + (sz (c / 2) + 1) by omega]
          exact this (a / 2) M n1 (by omega) (by omega)
        rw [e2, sz_s e, show n + 1 + sz (a / 2) = n + (sz (a / 2) + 1) by omega]
theorem m_sizeOf {z : Int} (h : z.natAbs < 65536) : fX13_sizeOf X w (iI z) = some (nI (sz z.natAbs), w) := by
  have e0 : (0 : Int32) = iI 0 := rfl
  have hle : (0 : Int32) ≤ iI z ↔ 0 ≤ z := by rw [e0]; exact iI_le (by omega) (by omega) (by omega) (by omega)
  have fin : fX13_sizeOf_12 X 0 (nI z.natAbs) w = some (nI (sz z.natAbs), w) := by
    unfold fX13_sizeOf_12
    have := m_size13 (X := X) (w := w) (a := z.natAbs) (n := 0) (M := FU) h (by decide) (by unfold FU; omega)
    rw [Nat.zero_add] at this
    exact this
  unfold fX13_sizeOf
  by_cases s : 0 ≤ z
  · refine ei_t (hle.mpr s) ?_
    rw [iI_nat s, show z.toNat = z.natAbs by omega]
    exact fin
  · refine ei_n (fun e => s (hle.mp e)) ?_
    rw [iI_neg, iI_nat (by omega), show (-z).toNat = z.natAbs by omega]
    exact fin
theorem ush {n k : Nat} (hn : n < 65536) (s : Int32) (hs : ((s.toUInt32 &&& Int32.toUInt32 31).toBitVec % 32).toNat = k) : ((nI n).toUInt32 >>> (s.toUInt32 &&& Int32.toUInt32 31)).toInt32 = nI (n / 2 ^ k) := pk_ushrN (by omega) s k hs
theorem x_nlz {a : Nat} (h0 : a ≠ 0) (h : a < 65536) : fJ6_numberOfLeadingZeros_0f7a4 X w (nI a) = some (nI (32 - sz a), w) := by
  have s73 : ∀ (c i : Nat), c ≠ 0 → c < 4 → 4 ≤ i → i < 100 → fJ6_numberOfLeadingZeros_0f7a4_73 X (nI c) (nI i) w = some (nI (i + 1 - sz c), w) := by
    intro c i c0 c4 hi _
    unfold fJ6_numberOfLeadingZeros_0f7a4_73
    rw [ush (k := 1) (by omega) 1 (by decide), show (2 : Nat) ^ 1 = 2 from rfl, pk_sub (by omega), sz_4 c0 c4, show i + 1 - (1 + c / 2) = i - c / 2 by omega]
  have s61 : ∀ (c i : Nat), c ≠ 0 → c < 16 → 6 ≤ i → i < 100 → fJ6_numberOfLeadingZeros_0f7a4_61 X (nI c) (nI i) w = some (nI (i + 1 - sz c), w) := by
    intro c i c0 c4 hi hi2
    unfold fJ6_numberOfLeadingZeros_0f7a4_61
    by_cases e : c < 4
    · exact ei_t (nI_lt (b := 4) e (by omega)) (s73 c i c0 e (by omega) hi2)
    · refine ei_n (nI_nlt (b := 4) (by omega) (by omega)) ?_
      rw [ush (k := 2) (by omega) 2 (by decide), show nI i + (-2) = nI (i - 2) by
        rw [iI_n, iI_n, show (-2 : Int32) = iI (-2) from rfl, iI_add]
        congr 1
        omega, sz_k 2 (a := c) (by omega), s73 (c / 2 ^ 2) (i - 2) (by omega) (by omega) (by omega) (by omega), show i - 2 + 1 - sz (c / 2 ^ 2) = i + 1 - (2 + sz (c / 2 ^ 2)) by omega]
  have s48 : ∀ (c i : Nat), c ≠ 0 → c < 256 → 10 ≤ i → i < 100 → fJ6_numberOfLeadingZeros_0f7a4_48 X (nI c) (nI i) w = some (nI (i + 1 - sz c), w) := by
    intro c i c0 c4 hi hi2
    unfold fJ6_numberOfLeadingZeros_0f7a4_48
    by_cases e : c < 16
    · exact ei_t (nI_lt (b := 16) e (by omega)) (s61 c i c0 e (by omega) hi2)
    · refine ei_n (nI_nlt (b := 16) (by omega) (by omega)) ?_
      rw [ush (k := 4) (by omega) 4 (by decide), show nI i + (-4) = nI (i - 4) by
        rw [iI_n, iI_n, show (-4 : Int32) = iI (-4) from rfl, iI_add]
        congr 1
        omega, sz_k 4 (a := c) (by omega), s61 (c / 2 ^ 4) (i - 4) (by omega) (by omega) (by omega) (by omega), show i - 4 + 1 - sz (c / 2 ^ 4) = i + 1 - (4 + sz (c / 2 ^ 4)) by omega]
  unfold fJ6_numberOfLeadingZeros_0f7a4
  refine ei_t (nI_lt (a := 0) (by omega) (by omega)) (ei_t (nI_lt (b := 65536) h (by omega)) ?_)
  unfold fJ6_numberOfLeadingZeros_0f7a4_33
  by_cases e : a < 256
  · exact ei_t (nI_lt (b := 256) e (by omega)) (s48 a 31 h0 e (by decide) (by decide))
  · refine ei_n (nI_nlt (b := 256) (by omega) (by omega)) ?_
    rw [ush (k := 8) (by omega) 8 (by decide), show (31 : Int32) + (-8) = nI 23 from rfl, sz_k 8 (a := a) (by omega), s48 (a / 2 ^ 8) 23 (by omega) (by omega) (by decide) (by decide), show 23 + 1 - sz (a / 2 ^ 8) = 32 - (8 + sz (a / 2 ^ 8)) by omega]
theorem x_sizeOf {z : Int} (h : z.natAbs < 65536) : fX11_sizeOf X w (iI z) = some (nI (sz z.natAbs), w) := by
  have e0 : (0 : Int32) = iI 0 := rfl
  have hle : (0 : Int32) ≤ iI z ↔ 0 ≤ z := by rw [e0]; exact iI_le (by omega) (by omega) (by omega) (by omega)
  have em : mabs (iI z) = nI z.natAbs := by
    unfold mabs
    by_cases s : 0 ≤ z
    · rw [if_pos (hle.mpr s), iI_nat s]
      congr 1
      omega
    · rw [if_neg (fun e => s (hle.mp e)), e0, iI_sub, iI_nat (by omega)]
      congr 1
      omega
  have h16 := sz_16 h
  unfold fX11_sizeOf
  rw [em]
  by_cases z0 : z.natAbs = 0
  · rw [z0]
    exact ob_v (v := (32, w)) (by
      unfold fJ6_numberOfLeadingZeros_0f7a4
      exact ei_n (by decide) (ei_t rfl rfl)) (by
      show some ((32 : Int32) - 32, w) = _
      rw [show sz 0 = 0 from if_pos rfl, show (32 : Int32) - 32 = nI 0 from by decide])
  · refine ob_v (x_nlz z0 h) ?_
    dsimp only
    rw [show (32 : Int32) = nI 32 from rfl, pk_sub (by omega), show 32 - (32 - sz z.natAbs) = sz z.natAbs by omega]
end
