/-! words to read by: which bits begin one -/
theorem nx_mul {c : Nat → Nat} {n : Nat} : ∀ k, nx c n * 2 ^ k ≤ nx c (n + k)
  | 0 => by rw [Nat.pow_zero, Nat.mul_one]; exact Nat.le_refl _
  | k + 1 => by
    have := nx_mul (c := c) (n := n) k
    rw [Nat.pow_succ, ← Nat.mul_assoc, show n + (k + 1) = n + k + 1 from rfl, nx.eq_2]
    omega
/-- the greatest length of a word, and the last word -/
def lgst (c : Nat → Nat) : Nat → Nat
  | 0 => 0
  | n + 1 => if 0 < c (n + 1) then n + 1 else lgst c n
theorem lgst_le {c : Nat → Nat} : ∀ n, lgst c n ≤ n
  | 0 => Nat.le_refl _
  | n + 1 => by
    rw [lgst.eq_2]
    split
    · omega
    · have := lgst_le (c := c) n
      omega
theorem lgst_c {c : Nat → Nat} : ∀ n, 0 < lgst c n → 0 < c (lgst c n)
  | 0, h => absurd h (Nat.lt_irrefl _)
  | n + 1, h => by
    rw [lgst.eq_2] at h ⊢
    split
    · assumption
    · rename_i q
      rw [if_neg q] at h
      exact lgst_c n h
theorem lgst_ge {c : Nat → Nat} : ∀ {n l : Nat}, l ≤ n → 0 < c l → 1 ≤ l → l ≤ lgst c n
  | 0, l, h, _, h1 => by omega
  | n + 1, l, h, hc, h1 => by
    rw [lgst.eq_2]
    split
    · exact h
    · rename_i q
      have : l ≠ n + 1 := fun e => q (by rw [← e]; exact hc)
      exact lgst_ge (by omega) hc h1
/-- some longer word begins with these bits -/
def bg (c : Nat → Nat) (v l : Nat) : Prop := ∃ n i, l < n ∧ n ≤ 16 ∧ dn c (n - 1) ≤ i ∧ i < dn c n ∧ (2 * nx c (n - 1) + (i - dn c (n - 1))) / 2 ^ (n - l) = v
def bgC (c : Nat → Nat) (v l : Nat) : Prop := 0 < lgst c 16 ∧ l ≤ lgst c 16 ∧ v ≤ (nx c (lgst c 16) - 1) / 2 ^ (lgst c 16 - l)
theorem bg_C {c : Nat → Nat} {v l : Nat} (h : bg c v l) : bgC c v l := by
  obtain ⟨n, i, h1, h2, h3, h4, h5⟩ := h
  obtain ⟨n', rfl⟩ : ∃ n', n = n' + 1 := ⟨n - 1, by omega⟩
  rw [show n' + 1 - 1 = n' by omega] at h3 h5
  have ed : dn c (n' + 1) = dn c n' + c (n' + 1) := rfl
  have en : nx c (n' + 1) = 2 * nx c n' + c (n' + 1) := rfl
  have hc : 0 < c (n' + 1) := by omega
  have hL := lgst_ge h2 hc (by omega)
  have hLc := lgst_c (c := c) 16 (by omega)
  unfold bgC
  generalize hLe : lgst c 16 = L at *
  refine ⟨by omega, by omega, ?_⟩
  generalize hW : 2 * nx c n' + (i - dn c n') = W at *
  have hW1 : W + 1 ≤ nx c (n' + 1) := by omega
  have key : W * 2 ^ (L - (n' + 1)) ≤ nx c L - 1 := by
    by_cases e : n' + 1 = L
    · rw [e, Nat.sub_self, Nat.pow_zero, Nat.mul_one, ← e]
      omega
    · have m1 := nx_mul (c := c) (n := n' + 1) (L - (n' + 1))
      rw [show n' + 1 + (L - (n' + 1)) = L by omega] at m1
      have m2 : (W + 1) * 2 ^ (L - (n' + 1)) ≤ nx c (n' + 1) * 2 ^ (L - (n' + 1)) := Nat.mul_le_mul_right _ hW1
      have p := Nat.two_pow_pos (L - (n' + 1))
      rw [Nat.add_mul, Nat.one_mul] at m2
      omega
  rw [← h5]
  have e1 : W / 2 ^ (n' + 1 - l) = W * 2 ^ (L - (n' + 1)) / 2 ^ (L - l) := by
    rw [show L - l = n' + 1 - l + (L - (n' + 1)) by omega, Nat.pow_add, Nat.mul_div_mul_right _ _ (Nat.two_pow_pos _)]
  rw [e1]
  exact Nat.div_le_div_right key
theorem C_bg {c : Nat → Nat} {v l : Nat} (hl : l ≤ 16) (hv : nx c l ≤ v) (h : bgC c v l) : bg c v l := by
  obtain ⟨h1, h2, h3⟩ := h
  have hLc := lgst_c (c := c) 16 h1
  have hL16 := lgst_le (c := c) 16
  generalize lgst c 16 = L at *
  have nL : 1 ≤ nx c L := by
    obtain ⟨L', rfl⟩ : ∃ L', L = L' + 1 := ⟨L - 1, by omega⟩
    rw [nx.eq_2]
    omega
  have hvL : v * 2 ^ (L - l) < nx c L := by
    have := (Nat.le_div_iff_mul_le (Nat.two_pow_pos (L - l))).mp h3
    omega
  -- the shortest length whose words reach these bits
  obtain ⟨d, hd, hmin⟩ := pk_least (fun k => v * 2 ^ k < nx c (l + k)) ⟨L - l, by rw [show l + (L - l) = L by omega]; exact hvL⟩
  have hdL : d ≤ L - l := by
    rcases Nat.lt_or_ge (L - l) d with q | q
    · exact absurd (by rw [show l + (L - l) = L by omega]; exact hvL) (hmin (L - l) q)
    · exact q
  have d0 : d ≠ 0 := by
    intro e
    rw [e, Nat.pow_zero, Nat.mul_one, Nat.add_zero] at hd
    omega
  obtain ⟨d', rfl⟩ : ∃ d', d = d' + 1 := ⟨d - 1, by omega⟩
  have hm := hmin d' (by omega)
  have hm' : nx c (l + d') ≤ v * 2 ^ d' := Nat.le_of_not_lt hm
  have en : nx c (l + (d' + 1)) = 2 * nx c (l + d') + c (l + d' + 1) := rfl
  have ed : dn c (l + d' + 1) = dn c (l + d') + c (l + d' + 1) := rfl
  have ep : v * 2 ^ (d' + 1) = v * 2 ^ d' * 2 := by rw [Nat.pow_succ, Nat.mul_assoc]
  refine ⟨l + d' + 1, dn c (l + d') + (v * 2 ^ (d' + 1) - 2 * nx c (l + d')), by omega, by omega, ?_, ?_, ?_⟩
  · rw [show l + d' + 1 - 1 = l + d' by omega]
    omega
  · rw [ed]
    omega
  · rw [show l + d' + 1 - 1 = l + d' by omega, show dn c (l + d') + (v * 2 ^ (d' + 1) - 2 * nx c (l + d')) - dn c (l + d') = v * 2 ^ (d' + 1) - 2 * nx c (l + d') by omega, show 2 * nx c (l + d') + (v * 2 ^ (d' + 1) - 2 * nx c (l + d')) = v * 2 ^ (d' + 1) by omega, show l + d' + 1 - l = d' + 1 by omega, Nat.mul_div_cancel _ (Nat.two_pow_pos _)]
/-! bits of a scan's data, pure -/
def bnd (D : Nat → Nat) (n i : Nat) : Prop := ∀ Q : Nat → Prop, Q 0 → (∀ j, Q j → j < n → Q (if D j = 255 then j + 2 else j + 1)) → Q i
theorem bnd_0 {D : Nat → Nat} {n : Nat} : bnd D n 0 := fun _ h _ => h
theorem bnd_s {D : Nat → Nat} {n i : Nat} (h : bnd D n i) (hi : i < n) : bnd D n (if D i = 255 then i + 2 else i + 1) := fun Q h0 hs => hs i (h Q h0 hs) hi
/-- behind 255 stands 0 or a restart -/
def dOk (D : Nat → Nat) (n : Nat) : Prop := n ≤ 16384 ∧ (∀ i, D i < 256) ∧ ∀ i, bnd D n i → i < n → D i = 255 → i + 1 < n ∧ (D (i + 1) = 0 ∨ 208 ≤ D (i + 1) ∧ D (i + 1) ≤ 215)
/-- place, bits left, byte held -/
abbrev bSt : Type := Nat × Nat × Nat
def bOk (D : Nat → Nat) (n : Nat) (s : bSt) : Prop := bnd D n s.1 ∧ s.1 ≤ n ∧ s.2.1 ≤ 8 ∧ (1 ≤ s.2.1 → s.2.2 < 256)
def noB (D : Nat → Nat) (n : Nat) (s : bSt) : Prop := n ≤ s.1 ∨ D s.1 = 255 ∧ D (s.1 + 1) ≠ 0
def fil (D : Nat → Nat) (s : bSt) : bSt := if s.2.1 = 0 then (if D s.1 = 255 then s.1 + 2 else s.1 + 1, 8, D s.1) else s
def tk1 (s : bSt) : bSt := (s.1, s.2.1 - 1, s.2.2)
def bit1 (s : bSt) : Nat := s.2.2 / 2 ^ (s.2.1 - 1) % 2
theorem fil_ok {D : Nat → Nat} {n : Nat} {s : bSt} (hd : dOk D n) (h : bOk D n s) (hn : ¬ (s.2.1 = 0 ∧ noB D n s)) : bOk D n (fil D s) ∧ 1 ≤ (fil D s).2.1 := by
  unfold fil
  by_cases q : s.2.1 = 0
  · rw [if_pos q]
    have nb : ¬ noB D n s := fun e => hn ⟨q, e⟩
    unfold noB at nb
    have hs : s.1 < n := by omega
    refine ⟨⟨bnd_s h.1 hs, ?_, Nat.le_refl _, fun _ => hd.2.1 _⟩, (show 1 ≤ 8 by decide)⟩
    show (if D s.1 = 255 then s.1 + 2 else s.1 + 1) ≤ n
    split
    · rename_i e
      have := (hd.2.2 s.1 h.1 hs e).1
      omega
    · omega
  · rw [if_neg q]
    exact ⟨h, by omega⟩
theorem tk1_ok {D : Nat → Nat} {n : Nat} {s : bSt} (h : bOk D n s) : bOk D n (tk1 s) := ⟨h.1, h.2.1, by show s.2.1 - 1 ≤ 8; have := h.2.2.1; omega, fun e => h.2.2.2 (by have e' : 1 ≤ s.2.1 - 1 := e; omega)⟩
theorem bit1_2 (s : bSt) : bit1 s < 2 := Nat.mod_lt _ (by decide)
/-- a bit, a number of bits, a symbol's place: or the fault -/
def tB (D : Nat → Nat) (n : Nat) (s : bSt) : Option (Nat × bSt) := if s.2.1 = 0 ∧ (n ≤ s.1 ∨ D s.1 = 255 ∧ D (s.1 + 1) ≠ 0) then none else some (bit1 (fil D s), tk1 (fil D s))
def tN (D : Nat → Nat) (n : Nat) : Nat → Nat → bSt → Option (Nat × bSt)
  | 0, v, s => some (v, s)
  | k + 1, v, s => match tB D n s with
    | none => none
    | some (b, s') => tN D n k (2 * v + b) s'
theorem tB_ok {D : Nat → Nat} {n : Nat} {s s' : bSt} {v : Nat} (hd : dOk D n) (h : bOk D n s) (e : tB D n s = some (v, s')) : bOk D n s' ∧ v < 2 := by
  unfold tB at e
  split at e
  · cases e
  · rename_i q
    injection e with e
    injection e with e1 e2
    rw [← e1, ← e2]
    exact ⟨tk1_ok (fil_ok hd h q).1, bit1_2 _⟩
theorem tN_ok {D : Nat → Nat} {n : Nat} (hd : dOk D n) : ∀ {k v : Nat} {s s' : bSt} {u : Nat}, bOk D n s → tN D n k v s = some (u, s') → bOk D n s' ∧ v * 2 ^ k ≤ u ∧ u < (v + 1) * 2 ^ k := by
  intro k
  induction k with
  | zero =>
    intro v s s' u h e
    injection e with e
    injection e with e1 e2
    rw [← e1, ← e2, Nat.pow_zero, Nat.mul_one, Nat.mul_one]
    exact ⟨h, Nat.le_refl _, Nat.lt_succ_self _⟩
  | succ k ih =>
    intro v s s' u h e
    rw [tN.eq_2] at e
    cases et : tB D n s with
    | none => rw [et] at e; cases e
    | some q =>
      obtain ⟨b, s1⟩ := q
      rw [et] at e
      obtain ⟨k1, k2⟩ := tB_ok hd h et
      obtain ⟨j1, j2, j3⟩ := ih k1 e
      refine ⟨j1, ?_, ?_⟩
      · rw [Nat.pow_succ, Nat.mul_comm (2 ^ k), ← Nat.mul_assoc]
        refine Nat.le_trans (Nat.mul_le_mul_right _ ?_) j2
        omega
      · rw [Nat.pow_succ, Nat.mul_comm (2 ^ k), ← Nat.mul_assoc]
        refine Nat.lt_of_lt_of_le j3 (Nat.mul_le_mul_right _ ?_)
        omega
