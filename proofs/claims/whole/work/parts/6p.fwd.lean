/-! the way forward: values -/
theorem l_addT {a b : Int64} (h1 : -9223372036854775808 ≤ a.toInt + b.toInt) (h2 : a.toInt + b.toInt < 9223372036854775808) : (a + b).toInt = a.toInt + b.toInt := by
  have e : a + b = lI (a.toInt + b.toInt) := by
    rw [← lI_add, ← lI_of, ← lI_of]
  rw [e, lI_t h1 h2]
theorem l_mulT {a b : Int64} (h1 : -9223372036854775808 ≤ a.toInt * b.toInt) (h2 : a.toInt * b.toInt < 9223372036854775808) : (a * b).toInt = a.toInt * b.toInt := by
  have e : a * b = lI (a.toInt * b.toInt) := by
    rw [← lI_mul, ← lI_of, ← lI_of]
  rw [e, lI_t h1 h2]
theorem wvC_b : ∀ m : Fin 32, (wvC m.val).toInt.natAbs ≤ 8192 := by decide +kernel
theorem wvN_b (n u t : Nat) : (wvN n u t).toInt.natAbs ≤ 8192 := by
  unfold wvN
  split
  · decide
  · exact wvC_b ⟨_, Nat.mod_lt _ (by decide)⟩
theorem sumL_b {f : Nat → Int64} {M : Nat} : ∀ {n : Nat}, n * M < 4611686018427387904 → (∀ k, k < n → (f k).toInt.natAbs ≤ M) → (sumL f n).toInt.natAbs ≤ n * M := by
  intro n
  induction n with
  | zero => intro _ _; exact Nat.zero_le _
  | succ n ih =>
    intro hM h
    rw [Nat.add_mul, Nat.one_mul] at hM
    have h1 := ih (by omega) (fun k hk => h k (by omega))
    have h2 := h n (by omega)
    rw [sumL, Nat.add_mul, Nat.one_mul, l_addT (by omega) (by omega)]
    omega
theorem wv_b {n u t M : Nat} {z : Int64} (hz : z.toInt.natAbs ≤ M) (hM : M ≤ 1000000) : ((wvN n u t).toInt64 * z).toInt.natAbs ≤ 8192 * M := by
  have h1 := wvN_b n u t
  have e : (wvN n u t).toInt64.toInt = (wvN n u t).toInt := Int32.toInt_toInt64 _
  have hm : ((wvN n u t).toInt * z.toInt).natAbs ≤ 8192 * M := by
    rw [Int.natAbs_mul]
    exact Nat.mul_le_mul h1 hz
  rw [l_mulT (by rw [e]; omega) (by rw [e]; omega), e]
  exact hm
theorem rnd11 {v : Int64} (h1 : v.toInt.natAbs ≤ 1000000000000) : (rnd v 11).toInt = (v.toInt + 1024) / 2048 := by
  unfold rnd
  rw [show ((1 : Int64) <<< ((11 - 1 : Int32).toInt64 &&& 63)) = 1024 from by decide, show (11 : Int32).toInt64 &&& 63 = 11 from by decide]
  show ((v + 1024).toBitVec.sshiftRight' ((11 : Int64).toBitVec.smod 64)).toInt = _
  rw [BitVec.toInt_sshiftRight', Int.shiftRight_eq_div_pow, show ((11 : Int64).toBitVec.smod 64).toNat = 11 from by decide]
  show (v + 1024).toInt / 2048 = _
  have e : (1024 : Int64).toInt = 1024 := by decide
  rw [l_addT (by rw [e]; omega) (by rw [e]; omega), e]
theorem rnd17 {v : Int64} (h1 : v.toInt.natAbs ≤ 1000000000000) : (rnd v 17).toInt = (v.toInt + 65536) / 131072 := by
  unfold rnd
  rw [show ((1 : Int64) <<< ((17 - 1 : Int32).toInt64 &&& 63)) = 65536 from by decide, show (17 : Int32).toInt64 &&& 63 = 17 from by decide]
  show ((v + 65536).toBitVec.sshiftRight' ((17 : Int64).toBitVec.smod 64)).toInt = _
  rw [BitVec.toInt_sshiftRight', Int.shiftRight_eq_div_pow, show ((17 : Int64).toBitVec.smod 64).toNat = 17 from by decide]
  show (v + 65536).toInt / 131072 = _
  have e : (65536 : Int64).toInt = 65536 := by decide
  rw [l_addT (by rw [e]; omega) (by rw [e]; omega), e]
def fw1 (G : Nat → Nat → Int64) (t v : Nat) : Int64 := rnd (sumL (fun j => (wvN 8 v j).toInt64 * G t j) 8) 11
def fw2 (G : Nat → Nat → Int64) (u v : Nat) : Int64 := rnd (sumL (fun t => (wvN 8 u t).toInt64 * fw1 G t v) 8) 17
theorem fw1_b {G : Nat → Nat → Int64} {t v : Nat} (h : ∀ j, j < 8 → (G t j).toInt.natAbs ≤ 128) : (fw1 G t v).toInt.natAbs ≤ 4096 := by
  have h1 := sumL_b (f := fun j => (wvN 8 v j).toInt64 * G t j) (M := 8192 * 128) (n := 8) (by decide) (fun j hj => wv_b (h j hj) (by decide))
  unfold fw1
  rw [rnd11 (by omega)]
  omega
theorem fw2_b {G : Nat → Nat → Int64} {u v : Nat} (h : ∀ t j, t < 8 → j < 8 → (G t j).toInt.natAbs ≤ 128) : (fw2 G u v).toInt.natAbs ≤ 2048 := by
  have h1 := sumL_b (f := fun t => (wvN 8 u t).toInt64 * fw1 G t v) (M := 8192 * 4096) (n := 8) (by decide) (fun t ht => wv_b (fw1_b (fun j hj => h t j ht hj)) (by decide))
  unfold fw2
  rw [rnd17 (by omega)]
  omega
/-- the nearest multiple, kept in its bounds -/
def fwQ (Z : Int) (s : Nat) : Int := if 0 ≤ Z then ((2 * Z.natAbs + s) / (2 * s) : Nat) else -((2 * Z.natAbs + s) / (2 * s) : Nat)
def fwLo (k : Nat) : Int := if k = 0 then -1024 else -1023
def fwC (k : Nat) (q : Int) : Int := if q < fwLo k then fwLo k else if 1023 < q then 1023 else q
def fwV (k : Nat) (Z : Int) (s : Nat) : Int32 := iI (fwC k (fwQ Z s))
theorem fwLo_in (k : Nat) : -1024 ≤ fwLo k ∧ fwLo k ≤ -1023 := by
  unfold fwLo
  split <;> omega
theorem fwC_in (k : Nat) (q : Int) : fwLo k ≤ fwC k q ∧ fwC k q ≤ 1023 := by
  have := fwLo_in k
  unfold fwC
  split
  · omega
  · split <;> omega
theorem fwV_ok (k : Nat) (Z : Int) (s : Nat) : cfOk k (fwV k Z s) := by
  have h := fwC_in k (fwQ Z s)
  have h2 := fwLo_in k
  unfold cfOk fwV
  rw [iI_t (by omega) (by omega)]
  exact h
theorem fwQ_d {A s : Nat} (hA : A ≤ 2048) (h1 : 1 ≤ s) : (2 * A + s) / (2 * s) ≤ 2049 := by
  refine Nat.le_of_lt_succ ((Nat.div_lt_iff_lt_mul (by omega)).mpr ?_)
  have := Nat.mul_le_mul (show 2050 ≤ 2050 from Nat.le_refl _) (show 2 * 1 ≤ 2 * s by omega)
  rcases (show s = 1 ∨ 2 ≤ s by omega) with rfl | h
  · omega
  · have h3 : 2050 * (2 * 2) ≤ 2050 * (2 * s) := Nat.mul_le_mul (Nat.le_refl _) (by omega)
    omega
theorem fwQ_in {Z : Int} {s : Nat} (hZ : Z.natAbs ≤ 2048) (h1 : 1 ≤ s) : -2049 ≤ fwQ Z s ∧ fwQ Z s ≤ 2049 := by
  have h := fwQ_d hZ h1
  unfold fwQ
  generalize (2 * Z.natAbs + s) / (2 * s) = d at h ⊢
  split <;> omega
theorem l32 {z : Int64} (h1 : -2147483648 ≤ z.toInt) (h2 : z.toInt < 2147483648) : z.toInt32 = iI z.toInt := by
  refine Int32.toInt_inj.mp ?_
  rw [iI_t h1 h2, Int64.toInt_toInt32]
  exact Int.bmod_eq_of_le (by omega) (by omega)
section
variable {X : px_X} {b B : Nat} {w0 w1 w : px_W} {x y : rg_S}
/-- the class' nearestMultiple, kept in bounds -/
theorem x_nm {Z : Int} {s : Nat} (hZ : Z.natAbs ≤ 2048) (h1 : 1 ≤ s) (h2 : s ≤ 255) : fX9_nearestMultiple X w (iI Z) (nI s) = some (iI (fwQ Z s), w) := by
  have e0 : (0 : Int32) = iI 0 := rfl
  have hle : (0 : Int32) ≤ iI Z ↔ 0 ≤ Z := by rw [e0]; exact iI_le (by omega) (by omega) (by omega) (by omega)
  have em : mabs (iI Z) = nI Z.natAbs := by
    unfold mabs
    by_cases h : 0 ≤ Z
    · rw [if_pos (hle.mpr h), iI_nat h]
      congr 1
      omega
    · rw [if_neg (fun e => h (hle.mp e)), e0, iI_sub, iI_nat (by omega)]
      congr 1
      omega
  unfold fX9_nearestMultiple fwQ
  rw [em, nI_2, nI_2, nI_add]
  refine ei_t (nI_le (a := 1) h1 (by omega)) (ob_v (dI_n (by omega) (by omega) (by omega)) ?_)
  by_cases h : 0 ≤ Z
  · refine ei_t (hle.mpr h) ?_
    rw [if_pos h, ← iI_n]
  · refine ei_n (fun e => h (hle.mp e)) ?_
    rw [if_neg h, iI_n, iI_neg]
theorem x_clp {k : Nat} {q : Int} (h1 : -2049 ≤ q) (h2 : q ≤ 2049) : mmax (iI (fwLo k)) (mmin 1023 (iI q)) = iI (fwC k q) := by
  have hl := fwLo_in k
  have e : ∀ a c : Int, -3000 ≤ a → a ≤ 3000 → -3000 ≤ c → c ≤ 3000 → (iI a < iI c ↔ a < c) := fun a c p1 p2 p3 p4 => iI_lt (by omega) (by omega) (by omega) (by omega)
  rw [show (1023 : Int32) = iI 1023 from rfl]
  unfold mmax mmin fwC
  by_cases h3 : q < 1023
  · rw [if_pos ((e _ _ (by omega) (by omega) (by omega) (by omega)).mpr h3)]
    by_cases h4 : fwLo k < q
    · rw [if_pos ((e _ _ (by omega) (by omega) (by omega) (by omega)).mpr h4), if_neg (by omega), if_neg (by omega)]
    · rw [if_neg (fun p => h4 ((e _ _ (by omega) (by omega) (by omega) (by omega)).mp p))]
      by_cases h5 : q < fwLo k
      · rw [if_pos h5]
      · rw [if_neg h5, if_neg (by omega), show fwLo k = q by omega]
  · rw [if_neg (fun p => h3 ((e _ _ (by omega) (by omega) (by omega) (by omega)).mp p)), if_pos ((e _ _ (by omega) (by omega) (by omega) (by omega)).mpr (by omega)), if_neg (by omega)]
    by_cases h5 : 1023 < q
    · rw [if_pos h5]
    · rw [if_neg h5, show q = 1023 by omega]
/-- the reference's -/
theorem m_div {A s : Nat} (hA : A ≤ 2048) (h1 : 1 ≤ s) (h2 : s ≤ 255) : dJ (lI A * 2 + (nI s).toInt64) (2 * (nI s).toInt64) = some (lI ((2 * A + s) / (2 * s) : Nat)) := by
  have es : (nI s).toInt64 = lI s := by rw [i_l, n_t (by omega)]
  have e2 : (2 : Int64) = lI 2 := rfl
  have t2 : (lI 2 * lI s).toInt = 2 * s := by rw [lI_mul, lI_t (by omega) (by omega)]
  have t1 : (lI A * lI 2 + lI s).toInt = 2 * A + s := by rw [lI_mul, lI_add, lI_t (by omega) (by omega)]; omega
  have hd := fwQ_d hA h1
  rw [es, e2]
  unfold dJ
  rw [if_neg (fun e => by have := congrArg Int64.toInt e; rw [t2, show (0 : Int64).toInt = 0 from by decide] at this; omega)]
  congr 1
  refine Int64.toInt_inj.mp ?_
  have ht : ((2 * (A : Int) + s).tdiv (2 * s)) = ((2 * A + s) / (2 * s) : Nat) := by
    rw [show (2 * (A : Int) + s) = ((2 * A + s : Nat) : Int) by omega, show (2 * (s : Int)) = ((2 * s : Nat) : Int) by omega]
    rfl
  rw [Int64.toInt_div, t1, t2, ht]
  generalize (2 * A + s) / (2 * s) = d at hd ⊢
  rw [lI_t (by omega) (by omega)]
  exact Int.bmod_eq_of_le (by omega) (by omega)
end
