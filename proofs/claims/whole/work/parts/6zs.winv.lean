/-! bounds along the walk -/
def aB (R N n : Nat) (a : aS) : Prop := a.2.1 ≤ R ∧ a.2.2.1.length ≤ N ∧ a.2.2.2.1.length ≤ n ∧ (∀ c, c ∈ a.2.2.1 → c < 2) ∧ (∀ c, c ∈ a.2.2.2.1 → c < 2) ∧ ∀ c, (a.2.2.2.2 c).natAbs ≤ 1024
theorem aB.m {R N n R' N' n' : Nat} {a : aS} (h : aB R N n a) (hR : R ≤ R') (hN : N ≤ N') (hn : n ≤ n') : aB R' N' n' a := ⟨Nat.le_trans h.1 hR, Nat.le_trans h.2.1 hN, Nat.le_trans h.2.2.1 hn, h.2.2.2⟩
theorem aB_ap {R N n : Nat} {a : aS} (D : List ev) (h : aB R N n a) : aB R N n (ap D a) := h
theorem aB_send {R N n : Nat} {a : aS} (t : Nat) (h : aB R N n a) : aB R N n (aSend t a) := by
  unfold aSend
  split
  · exact h
  · exact ⟨Nat.zero_le _, Nat.zero_le _, h.2.2.1, fun c hc => (by cases hc), h.2.2.2.2⟩
theorem aB_come {R N n : Nat} {a : aS} (h : aB R N n a) : aB R N 0 (aCome a) := ⟨h.1, h.2.1, Nat.le_refl _, h.2.2.2.1, fun c hc => (by cases hc), h.2.2.2.2.2⟩
theorem aB_push {R N n c : Nat} {a : aS} (hc : c < 2) (h : aB R N n a) : aB R N (n + 1) (aPush c a) := by
  refine ⟨h.1, h.2.1, ?_, h.2.2.2.1, fun d hd => ?_, h.2.2.2.2.2⟩
  · show (a.2.2.2.1 ++ [c]).length ≤ n + 1
    rw [List.length_append, List.length_singleton]
    have := h.2.2.1
    omega
  · rcases List.mem_append.mp hd with hd | hd
    · exact h.2.2.2.2.1 d hd
    · rw [List.mem_singleton.mp hd]
      exact hc
theorem aB_long {R N n : Nat} {a : aS} (h : aB R N n a) : aB (R + 1) (N + n) 0 (aLong a) := by
  refine ⟨Nat.succ_le_succ h.1, ?_, Nat.le_refl _, fun d hd => ?_, fun c hc => (by cases hc), h.2.2.2.2.2⟩
  · show (a.2.2.1 ++ a.2.2.2.1).length ≤ N + n
    rw [List.length_append]
    have := h.2.2.1
    have := h.2.1
    omega
  · rcases List.mem_append.mp hd with hd | hd
    · exact h.2.2.2.1 d hd
    · exact h.2.2.2.2.1 d hd
theorem aB_full {N n t : Nat} {a : aS} (hr : a.2.1 ≠ 0) (h : aB 32767 N n a) : aB 32766 900 n (aFull t a) := by
  unfold aFull
  split
  · unfold aSend
    rw [if_neg hr]
    exact ⟨Nat.zero_le _, Nat.zero_le _, h.2.2.1, fun c hc => (by cases hc), h.2.2.2.2⟩
  · rename_i q
    refine ⟨?_, ?_, h.2.2⟩
    · have := h.1
      omega
    · omega
theorem sd_0 {t : Nat} {a : aS} (h : a.2.1 = 0) : aSend t a = a := if_pos h
theorem sd_r {t : Nat} {a : aS} : (aSend t a).2.1 = 0 := by
  unfold aSend
  split
  · assumption
  · rfl
theorem sd_b {t : Nat} {a : aS} (h : a.2.2.1 = []) : (aSend t a).2.2.1 = [] := by
  unfold aSend
  split
  · exact h
  · rfl
theorem sd_c {t : Nat} {a : aS} : (aSend t a).2.2.2 = a.2.2.2 := by
  unfold aSend
  split
  · rfl
  · rfl
theorem a16_2 (t : Nat) : ∀ (n : Nat) (a : aS), (a16 t n a).2 = a.2
  | 0, _ => rfl
  | n + 1, a => (a16_2 t n _).trans rfl
theorem aB_2 {R N n : Nat} {a a' : aS} (h : aB R N n a) (e : a'.2 = a.2) : aB R N n a' := by
  unfold aB
  rw [e]
  exact h
theorem aB_m16 {R N n : Nat} (t : Nat) : ∀ (k : Nat) (a : aS), aB R N n a → aB R N n (m16 t k a)
  | 0, _, h => h
  | k + 1, _, h => aB_m16 t k _ ((aB_come (aB_ap _ (aB_send t h))).m (Nat.le_refl _) (Nat.le_refl _) (Nat.zero_le _))
theorem pr_dir {bf bits c : Nat} {v : Int} {R N n : Nat} {a : aS} (h : aB R N n a) (hv : (v / 2 ^ bits).natAbs ≤ 1024) : aB R N n (aDir bf bits c v a) := by
  unfold aDir
  split
  · exact h
  · refine ⟨h.1, h.2.1, h.2.2.1, h.2.2.2.1, h.2.2.2.2.1, fun j => ?_⟩
    show (if j = c then v / 2 ^ bits else a.2.2.2.2 j).natAbs ≤ 1024
    split
    · exact hv
    · exact h.2.2.2.2.2 j
theorem dir_2 {bf bits c : Nat} {v : Int} {a : aS} : (aDir bf bits c v a).2.1 = a.2.1 ∧ (aDir bf bits c v a).2.2.1 = a.2.2.1 ∧ (aDir bf bits c v a).2.2.2.1 = a.2.2.2.1 := by
  unfold aDir
  split
  · exact ⟨rfl, rfl, rfl⟩
  · exact ⟨rfl, rfl, rfl⟩
theorem div_b {v : Int} (bits : Nat) (h1 : -1024 ≤ v) (h2 : v ≤ 1023) : (v / 2 ^ bits).natAbs ≤ 1024 := by
  have hp : (0 : Int) < 2 ^ bits := Int.pow_pos (by decide)
  have a1 : v / 2 ^ bits ≤ 1023 := by
    rcases Int.lt_or_le v 0 with q | q
    · have := Int.ediv_neg_of_neg_of_pos q hp
      omega
    · exact Int.le_trans (Int.ediv_le_self _ q) h2
  have a2 : -1024 ≤ v / 2 ^ bits := by
    rw [Int.le_ediv_iff_mul_le hp]
    have : (1 : Int) ≤ 2 ^ bits := hp
    have : (1 : Int) * 1024 ≤ 2 ^ bits * 1024 := Int.mul_le_mul_of_nonneg_right this (by decide)
    omega
  omega
theorem am_le (bits : Nat) (v : Int) : am bits v ≤ v.natAbs := Nat.div_le_self _ _
theorem zc_abs (bits : Nat) (v : Int) : (zc bits v).natAbs = am bits v := by
  unfold zc
  split <;> omega
theorem oLp_b {t bits fr : Nat} {Z : Nat → Int} {a : aS} (h : aB 32766 900 0 a) (hb : a.2.2.1 = []) : ∀ n, (oLp t bits Z fr a n).1 ≤ n ∧ aB 32766 900 0 (oLp t bits Z fr a n).2 ∧ (oLp t bits Z fr a n).2.2.2.1 = [] ∧ (a.2.1 = 0 → (oLp t bits Z fr a n).2.2.1 = 0)
  | 0 => ⟨Nat.le_refl _, h, hb, fun h => h⟩
  | n + 1 => by
    obtain ⟨i1, i2, i3, i4⟩ := oLp_b (t := t) (bits := bits) (fr := fr) (Z := Z) h hb n
    rw [oLp.eq_2]
    unfold oSt
    split
    · exact ⟨Nat.succ_le_succ i1, i2, i3, i4⟩
    · have e : ∀ k, (a16 t k (aSend t (oLp t bits Z fr a n).2)).2 = (aSend t (oLp t bits Z fr a n).2).2 := fun k => a16_2 t k _
      refine ⟨Nat.zero_le _, aB_ap _ (aB_ap _ (aB_2 (aB_send t i2) (e _))), ?_, fun _ => ?_⟩
      · show (a16 t _ (aSend t (oLp t bits Z fr a n).2)).2.2.1 = []
        rw [e]
        exact sd_b i3
      · show (a16 t _ (aSend t (oLp t bits Z fr a n).2)).2.1 = 0
        rw [e]
        exact sd_r
theorem oEnd_b {first t : Nat} {p : Nat × aS} (h : aB 32766 900 0 p.2) (hb : p.2.2.2.1 = []) (h0 : first = 0 → p.2.2.1 = 0) : aB 32766 900 0 (oEnd first t p) ∧ (oEnd first t p).2.2.1 = [] ∧ (first = 0 → (oEnd first t p).2.1 = 0) := by
  unfold oEnd
  split
  · exact ⟨h, hb, h0⟩
  · split
    · exact ⟨h, hb, h0⟩
    · rename_i q
      refine ⟨aB_full (by show p.2.2.1 + 1 ≠ 0; omega) (aB_long h), ?_, fun e => absurd e q⟩
      have hl : (aLong p.2).2.2.1 = [] := by
        show p.2.2.2.1 ++ p.2.2.2.2.1 = []
        rw [hb, List.nil_append]
        exact List.eq_nil_of_length_eq_zero (Nat.le_zero.mp h.2.2.1)
      unfold aFull
      split
      · exact sd_b hl
      · exact hl
theorem lNw_lt {bits fr : Nat} {Z : Nat → Int} : ∀ {n i : Nat}, i < n → am bits (Z (fr + i)) = 1 → fr + i < lNw bits Z fr n
  | n + 1, i, hi, h => by
    rw [lNw.eq_2]
    split
    · omega
    · rename_i q
      rcases (show i < n ∨ i = n by omega) with hi | rfl
      · exact lNw_lt hi h
      · exact absurd h q
theorem mQ_b {t l k R N n : Nat} {p : Nat × aS} (h : aB R N n p.2) : aB R N n (mQ t l k p).2 ∧ (mQ t l k p).1 ≤ p.1 ∧ (k < l → (mQ t l k p).1 < 16) := by
  unfold mQ
  split
  · exact ⟨aB_m16 t _ _ h, Nat.mod_le _ _, fun _ => Nat.mod_lt _ (by decide)⟩
  · rename_i q
    exact ⟨h, Nat.le_refl _, fun e => absurd e q⟩
theorem mLp_b {t bits l fr : Nat} {Z : Nat → Int} {a : aS} (h : aB 32766 900 0 a) : ∀ n, (mLp t bits l Z fr a n).1 ≤ n ∧ aB 32766 900 n (mLp t bits l Z fr a n).2
  | 0 => ⟨Nat.le_refl _, h⟩
  | n + 1 => by
    obtain ⟨i1, i2⟩ := mLp_b (t := t) (bits := bits) (l := l) (fr := fr) (Z := Z) h n
    obtain ⟨q1, q2, _⟩ := mQ_b (t := t) (l := l) (k := fr + n) i2
    rw [mLp.eq_2]
    unfold mSt
    split
    · exact ⟨Nat.succ_le_succ i1, i2.m (Nat.le_refl _) (Nat.le_refl _) (Nat.le_succ _)⟩
    · split
      · exact ⟨Nat.zero_le _, (aB_come (aB_ap _ (aB_ap _ (aB_send t q1)))).m (Nat.le_refl _) (Nat.le_refl _) (Nat.zero_le _)⟩
      · exact ⟨Nat.le_succ_of_le (Nat.le_trans q2 i1), aB_push (Nat.mod_lt _ (by decide)) q1⟩
theorem mEnd_b {t n : Nat} {p : Nat × aS} (h : aB 32766 900 n p.2) : aB 32766 900 0 (mEnd t p) := by
  unfold mEnd
  split
  · rename_i q
    refine ⟨h.1, h.2.1, ?_, h.2.2.2⟩
    rw [q.2]
    exact Nat.le_refl _
  · exact aB_full (by show p.2.2.1 + 1 ≠ 0; omega) (aB_long h)
/-- between blocks -/
def aIv (first bf : Nat) (a : aS) : Prop := aB 32766 900 0 a ∧ (first = 0 → a.2.1 = 0) ∧ (bf = 0 → a.2.2.1 = [])
theorem aIv_blk {first last bf bits c : Nat} {Z : Nat → Int} {a : aS} (h : aIv first bf a) (hz : -1024 ≤ Z 0 ∧ Z 0 ≤ 1023) (hf : first = 0 → 0 < last → bf = 0) : aIv first bf (aBlk first last bf bits c Z a) := by
  have h1 : aIv first bf (if first = 0 then aDir bf bits c (Z 0) a else a) := by
    split
    · refine ⟨pr_dir h.1 (div_b bits hz.1 hz.2), fun e => ?_, fun e => ?_⟩
      · rw [dir_2.1]; exact h.2.1 e
      · rw [dir_2.2.1]; exact h.2.2 e
    · exact h
  unfold aBlk
  split
  · exact h1
  · split
    · rename_i q
      obtain ⟨i1, i2, i3, i4⟩ := oLp_b (t := 4 + c) (bits := bits) (fr := max 1 first) (Z := Z) h1.1 (h1.2.2 q) (last + 1 - max 1 first)
      obtain ⟨o1, o2, o3⟩ := oEnd_b (first := first) (t := 4 + c) i2 i3 (fun e => i4 (h1.2.1 e))
      exact ⟨o1, o3, fun _ => o2⟩
    · rename_i l0 q
      refine ⟨mEnd_b (mLp_b h1.1 _).2, fun e => ?_, fun e => absurd e q⟩
      exact absurd (hf e (Nat.pos_of_ne_zero l0)) q
