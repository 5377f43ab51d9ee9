/-! BestTable whole: what settle makes of the numbers f (f 256 = 1) -/
def bS (f : Nat → Nat) : hS := (fun k => f (ps f 257 k), fun k => k, fun _ => 0)
def bB (f : Nat → Nat) : Nat → Nat := (hG (cn f 257) (bS f) (cn f 256)).2.2
def bD (f : Nat → Nat) : Nat → Nat := hY (hN (bB f) (cn f 257)) 240
def bC (f : Nat → Nat) : Nat → Nat := hF (bD f)
def bO (f : Nat → Nat) : List Nat := hO (bB f) (ps f 257) (cn f 256) 256
theorem sum_ps {f g : Nat → Nat} : ∀ {n : Nat}, n ≤ 257 → sumN (fun k => g (ps f 257 k)) (cn f n) = sumN (fun p => if 0 < f p then g p else 0) n := by
  intro n
  induction n with
  | zero => intro _; rfl
  | succ n ih =>
    intro hn
    rw [sumN]
    by_cases z : 0 < f n
    · rw [cn_s1 z, sumN, ih (by omega), if_pos z, ps_at (by omega) z]
    · rw [cn_s0 z, ih (by omega), if_neg z, Nat.add_zero]
theorem bN_s {f : Nat → Nat} (h : f 256 = 1) : cn f 257 = cn f 256 + 1 := cn_s1 (by rw [h]; decide)
theorem bS_pos {f : Nat → Nat} {k : Nat} (hk : k < cn f 257) : 0 < (bS f).1 k := (ps_in hk).2.1
theorem bI {f : Nat → Nat} (h : f 256 = 1) : hI (cn f 257) (hG (cn f 257) (bS f) (cn f 256)) (cn f 256) := (hG_I (cn_b f 257) (fun k hk => bS_pos hk) (by rw [bN_s h]; omega)).1
theorem bK {f : Nat → Nat} (h : f 256 = 1) : sumN (fun k => 2 ^ (256 - bB f k)) (cn f 257) = 2 ^ 256 := hI_end (bI h) (by have := (bI h).2.2.2; have := bN_s h; omega)
theorem bB_le {f : Nat → Nat} (h : f 256 = 1) {k : Nat} (hk : k < cn f 257) : bB f k ≤ 256 := Nat.le_trans ((bI h).2.2.1 k hk) (cn_b f 256)
theorem bB_ge {f : Nat → Nat} (h : f 256 = 1) {k : Nat} (hk : k < cn f 256) : 1 ≤ bB f k := by
  have e := bN_s h
  have t := sumN_two (f := fun k => 2 ^ (256 - bB f k)) (a := k) (b := cn f 256) (n := cn f 257) (by omega) (by omega) (by omega)
  rw [bK h] at t
  have p := Nat.two_pow_pos (256 - bB f (cn f 256))
  by_cases z : bB f k = 0
  · rw [z, Nat.sub_zero] at t
    omega
  · omega
theorem bKI {f : Nat → Nat} (h : f 256 = 1) : kI 256 (hN (bB f) (cn f 257)) := kI_start (fun k hk => bB_le h hk) (cn_b f 257) (bK h)
theorem bD_k {f : Nat → Nat} (h : f 256 = 1) : kI 16 (bD f) := hY_k (bKI h) (n := 240) (by decide)
theorem bC_tot {f : Nat → Nat} (h : f 256 = 1) : dn (bC f) 16 = cn f 256 := by
  have e1 := hY_tot (bKI h) (n := 240) (by decide)
  have e2 := hF_tot (bD_k h)
  have e3 := dn_sum (bC f) 16
  have e4 : sumN (hN (bB f) (cn f 257)) 257 = cn f 257 := by
    have e := hN_sum (bits := bB f) (N := cn f 257) (w := fun _ => 1) (fun k hk => bB_le h hk)
    have e1 : ∀ n, sumN (fun _ => 1) n = n := fun n => by
      induction n with
      | zero => rfl
      | succ n ih => rw [sumN, ih]
    rw [e1, sumN_cong (g := hN (bB f) (cn f 257)) (fun l _ => Nat.mul_one _)] at e
    exact e
  have e5 : sumN (bD f) 17 = sumN (hN (bB f) (cn f 257)) 257 := e1
  have e6 := bN_s h
  have e7 : bC f 0 = 0 := e2.2
  have e8 : sumN (bC f) 17 + 1 = sumN (bD f) 17 := e2.1
  have e9 : dn (bC f) 16 + bC f 0 = sumN (bC f) 17 := e3
  omega
theorem bC_le {f : Nat → Nat} (h : f 256 = 1) (l : Nat) : bC f l ≤ 257 := by
  have hd : bD f l ≤ 257 := by
    by_cases e : l ≤ 16
    · have := sumN_ge (f := bD f) (show l < 16 + 1 by omega)
      have := (bD_k h).2.2
      omega
    · rw [(bD_k h).1 l (by omega)]
      decide
  show uN (bD f) (hD (bD f) 16) (bD f (hD (bD f) 16) - 1) l ≤ 257
  unfold uN
  by_cases e : l = hD (bD f) 16
  · rw [if_pos e, ← e]; omega
  · rw [if_neg e]; exact hd
theorem hO1_mem {bits pos : Nat → Nat} {n v : Nat} : ∀ {k : Nat}, v ∈ hO1 bits pos n k → ∃ j, j < k ∧ v = pos j := by
  intro k
  induction k with
  | zero => intro h; exact absurd h (List.not_mem_nil)
  | succ k ih =>
    intro h
    unfold hO1 at h
    rcases List.mem_append.mp h with h | h
    · obtain ⟨j, h1, h2⟩ := ih h
      exact ⟨j, by omega, h2⟩
    · by_cases e : bits k = n
      · rw [if_pos e] at h
        exact ⟨k, by omega, List.mem_singleton.mp h⟩
      · rw [if_neg e] at h
        exact absurd h (List.not_mem_nil)
theorem hO_mem {bits pos : Nat → Nat} {m v : Nat} : ∀ {n : Nat}, v ∈ hO bits pos m n → ∃ j, j < m ∧ v = pos j := by
  intro n
  induction n with
  | zero => intro h; exact absurd h (List.not_mem_nil)
  | succ n ih =>
    intro h
    unfold hO at h
    rcases List.mem_append.mp h with h | h
    · exact ih h
    · exact hO1_mem h
theorem bO_len {f : Nat → Nat} (h : f 256 = 1) : (bO f).length = cn f 256 := hO_full (fun k hk => ⟨bB_ge h hk, bB_le h (by rw [bN_s h]; omega)⟩)
theorem bO_lt {f : Nat → Nat} (h : f 256 = 1) {i : Nat} (hi : i < cn f 256) : (bO f).getD i 0 < 256 ∧ 0 < f ((bO f).getD i 0) := by
  have hl := bO_len h
  have hm : (bO f).getD i 0 ∈ bO f := by
    rw [List.getD_eq_getElem?_getD, List.getElem?_eq_getElem (by omega), Option.getD_some]
    exact List.getElem_mem _
  obtain ⟨j, h1, h2⟩ := hO_mem hm
  have hN := bN_s h
  obtain ⟨p1, p2, p3⟩ := ps_in (f := f) (n := 257) (k := j) (by omega)
  rw [h2]
  refine ⟨?_, p2⟩
  by_cases e : ps f 257 j = 256
  · rw [e] at p3
    omega
  · omega
section
variable {X : px_X} {b B : Nat} {w0 w1 : px_W} {x y : rg_S} {T : Nat} {f : Nat → Nat}
/-- what a settled table holds -/
def xT (x : rg_S) (T : Nat) (f : Nat → Nat) : Prop := x.1 T 5 = nI (cn f 256) ∧ (∀ l, 1 ≤ l → l ≤ 16 → x.2.2.1 (T + 4) l = nI (bC f l)) ∧ (∀ i, i < cn f 256 → x.2.2.1 (T + 5) i = nI ((bO f).getD i 0)) ∧ ∃ Z2 Z3, x.2.2.1 (T + 2) = aW (bO f) (gW (bC f)) 0 Z2 (cn f 256) ∧ x.2.2.1 (T + 3) = aW (bO f) (gL (bC f) 16) 0 Z3 (cn f 256)
theorem x_best (hT : isT T) (hf : ∀ p, p < 256 → x.2.2.1 (T + 1) p = nI (f p)) (h256 : f 256 = 1) (hs : sumN f 257 < 2 ^ 31) (hz : ∀ p, 257 ≤ p → f p = 0) : ∃ x', fX0_settle X (rg_p lX B w0 x) (B + T) = some (rg_p lX B w0 x') ∧ FT T x x' ∧ xT x' T f := by
  have hNs := bN_s h256
  have hNb := cn_b f 257
  have hMb := cn_b f 256
  have fb : ∀ p, f p < 2 ^ 31 := fun p => by
    by_cases e : p < 257
    · have := sumN_ge (f := f) e
      omega
    · rw [hz p (by omega)]
      decide
  obtain ⟨x1, e1, a5, aF, aG⟩ := x_gather (X := X) (B := B) (w0 := w0) hT hf fb h256
  have hsum : sumN (bS f).1 (cn f 257) < 2 ^ 31 := by
    have e := sum_ps (f := f) (g := f) (n := 257) (Nat.le_refl _)
    have e2 : sumN (fun p => if 0 < f p then f p else 0) 257 = sumN f 257 := sumN_cong (fun p _ => by split <;> omega)
    show sumN (fun k => f (ps f 257 k)) (cn f 257) < 2 ^ 31
    omega
  obtain ⟨x2, e2, bG, bF, b1, b6⟩ := x_joins (X := X) (B := B) (w0 := w0) (x := x1) (s := bS f) (num := (bS f).1) hT (by omega) hNb a5 (fun k hk => by
    obtain ⟨_, d2, d3, d4⟩ := aG k hk
    exact ⟨d2, d3, d4⟩) (fun k hk => bS_pos hk) hsum
  rw [show cn f 257 - 1 = cn f 256 by omega] at bG a5
  have bG' : ∀ k, k < cn f 257 → x2.2.2.1 (T + 9) k = nI (bB f k) ∧ bB f k ≤ 256 := fun k hk => ⟨(bG k hk).2.2, bB_le h256 hk⟩
  have e3 := x_cntL (X := X) (B := B) (w0 := w0) (x := x2) (bits := bB f) (N := cn f 257) hT (by omega) hNb (by rw [b1, a5, show cn f 257 - 1 = cn f 256 by omega]) bG'
  have e4 := x_shorten (X := X) (B := B) (w0 := w0) (x := rg_wA x2 (T + 4) (cA 258 (hN (bB f) (cn f 257)) (x2.2.2.1 (T + 4)))) hT (bKI h256) (wA_s _ _ _)
  rw [wA_wA] at e4
  generalize hx4 : rg_wA x2 (T + 4) (cA 258 (hF (hY (hN (bB f) (cn f 257)) 240)) (x2.2.2.1 (T + 4))) = x4 at e4
  have f4 : ∀ o, o ≠ T + 4 → x4.2.2.1 o = x2.2.2.1 o := fun o ho => by rw [← hx4, wA_n _ _ ho]
  have i4 : x4.1 = x1.1 := by rw [← hx4, wA_1, b1]
  have c4 : ∀ l, 1 ≤ l → l ≤ 16 → x4.2.2.1 (T + 4) l = nI (bC f l) := fun l h1 h2 => by
    rw [← hx4, wA_s, cA_at (by omega)]
    rfl
  have e5 := x_syms (X := X) (B := B) (w0 := w0) (x := x4) (m := cn f 256) (bits := bB f) (pos := ps f 257) hT hMb (by rw [i4]; exact a5) (fun k hk => ⟨by rw [f4 _ (by omega)]; exact (bG' k (by omega)).1, bB_ge h256 hk, bB_le h256 (by omega)⟩) (fun k hk => by rw [f4 _ (by omega), b6]; exact (aG k (by omega)).1)
  generalize hx5 : rg_wA x4 (T + 5) (sL (hO (bB f) (ps f 257) (cn f 256) 256) (x4.2.2.1 (T + 5))) = x5 at e5
  have f5 : ∀ o, o ≠ T + 5 → x5.2.2.1 o = x4.2.2.1 o := fun o ho => by rw [← hx5, wA_n _ _ ho]
  have i5 : x5.1 = x1.1 := by rw [← hx5, wA_1, i4]
  have s5 : ∀ i, i < cn f 256 → x5.2.2.1 (T + 5) i = nI ((bO f).getD i 0) := fun i hi => by
    rw [← hx5, wA_s]
    unfold sL
    have := bO_len h256
    exact if_pos (show i < (bO f).length by omega)
  have e6 := x_give2 (X := X) (B := B) (w0 := w0) (x := x5) (m := cn f 256) (c := bC f) (S := bO f) hT hMb (by rw [i5]; exact a5) (bC_tot h256) (fun l h1 h2 => by rw [f5 _ (by omega)]; exact c4 l h1 h2) (bC_le h256) (fun i hi => ⟨s5 i hi, (bO_lt h256 hi).1⟩)
  refine ⟨rg_wA (rg_wA x5 (T + 2) (aW (bO f) (gW (bC f)) 0 (x5.2.2.1 (T + 2)) (cn f 256))) (T + 3) (aW (bO f) (gL (bC f) 16) 0 (x5.2.2.1 (T + 3)) (cn f 256)), ?_, ?_, ?_, ?_, ?_, x5.2.2.1 (T + 2), x5.2.2.1 (T + 3), ?_, ?_⟩
  · unfold fX0_settle
    refine ob_v (rg_O hT.o) (ob_v e1 (e2.trans ?_))
    unfold fX0_settle_24
    exact ob_v (rg_O hT.o) (ob_v e3 (ob_v (rg_O hT.o) (ob_v e4 (ob_v (rg_O hT.o) (ob_v e5 (ob_v (rg_O hT.o) (ob_v e6 rfl)))))))
  · have t1 : FT T x2 x5 := by
      refine ⟨fun o k ho => by rw [i5, ← b1], by rw [← hx5, ← hx4]; rfl, fun o ho => ?_, ?_⟩
      · rw [f5 o (by omega), f4 o (by omega)]
      · rw [f5 _ (by omega), f4 _ (by omega)]
    refine (aF.trans (bF.trans t1)).trans ⟨fun o k ho => rfl, rfl, fun o ho => ?_, ?_⟩
    · rw [wA_n _ _ (by omega), wA_n _ _ (by omega)]
    · rw [wA_n _ _ (by omega), wA_n _ _ (by omega)]
  · rw [wA_1, wA_1, i5]
    exact a5
  · intro l h1 h2
    rw [wA_n _ _ (by omega), wA_n _ _ (by omega), f5 _ (by omega)]
    exact c4 l h1 h2
  · intro i hi
    rw [wA_n _ _ (by omega), wA_n _ _ (by omega)]
    exact s5 i hi
  · rw [wA_n _ _ (by omega), wA_s]
  · rw [wA_s]
end
