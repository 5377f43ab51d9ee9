/-! the best words are a table: no word all of 1s, no symbol twice -/
theorem sumN_mono {g : Nat → Nat} : ∀ {a c : Nat}, a ≤ c → sumN g a ≤ sumN g c := by
  intro a c h
  induction c with
  | zero => rw [Nat.le_zero.mp h]; exact Nat.le_refl _
  | succ c ih =>
    by_cases e : a = c + 1
    · rw [e]; exact Nat.le_refl _
    · have := ih (by omega)
      rw [sumN]
      omega
theorem nx_sum (c : Nat → Nat) : ∀ n, nx c n + c 0 * 2 ^ n = sumN (fun i => c i * 2 ^ (n - i)) (n + 1) := by
  intro n
  induction n with
  | zero => show 0 + c 0 * 1 = 0 + c 0 * 1; rfl
  | succ n ih =>
    rw [sumN, kI_half, ← ih, Nat.sub_self]
    show 2 * nx c n + c (n + 1) + c 0 * 2 ^ (n + 1) = 2 * (nx c n + c 0 * 2 ^ n) + c (n + 1) * 1
    rw [Nat.pow_succ, Nat.mul_add, ← Nat.mul_assoc, Nat.mul_comm (c 0 * 2 ^ n) 2]
    omega
theorem nx_lt {f : Nat → Nat} (h : f 256 = 1) {n : Nat} (hn : n ≤ 16) : nx (bC f) n < 2 ^ n := by
  have k := bD_k h
  have hp := kI_hd k
  have hle := hD_le (bD f) 16
  have c0 : bC f 0 = 0 := (hF_tot k).2
  have e := sum_uN (c := bD f) (w := fun l => 2 ^ (16 - l)) (i := hD (bD f) 16) (v := bD f (hD (bD f) 16) - 1) (n := 17) (by omega)
  have ks : sumN (fun l => bD f l * 2 ^ (16 - l)) 17 = 2 ^ 16 := k.2.1
  have es : sumN (fun l => bC f l * 2 ^ (16 - l)) 17 < 2 ^ 16 := by
    have w1 := Nat.two_pow_pos (16 - hD (bD f) 16)
    have m1 : bD f (hD (bD f) 16) * 2 ^ (16 - hD (bD f) 16) = (bD f (hD (bD f) 16) - 1) * 2 ^ (16 - hD (bD f) 16) + 1 * 2 ^ (16 - hD (bD f) 16) := by
      rw [← Nat.add_mul]
      congr 1
      omega
    have e' : sumN (fun l => bC f l * 2 ^ (16 - l)) 17 + bD f (hD (bD f) 16) * 2 ^ (16 - hD (bD f) 16) = sumN (fun l => bD f l * 2 ^ (16 - l)) 17 + (bD f (hD (bD f) 16) - 1) * 2 ^ (16 - hD (bD f) 16) := e
    omega
  have mo := sumN_mono (g := fun l => bC f l * 2 ^ (16 - l)) (a := n + 1) (c := 17) (by omega)
  have sc : sumN (fun l => bC f l * 2 ^ (16 - l)) (n + 1) = 2 ^ (16 - n) * sumN (fun l => bC f l * 2 ^ (n - l)) (n + 1) := by
    rw [← sumN_mul]
    refine sumN_cong (fun l hl => ?_)
    rw [show 16 - l = (16 - n) + (n - l) by omega, Nat.pow_add, ← Nat.mul_assoc, Nat.mul_comm (bC f l), Nat.mul_assoc]
  have ex := nx_sum (bC f) n
  rw [c0, Nat.zero_mul, Nat.add_zero] at ex
  rw [← ex] at sc
  refine Nat.lt_of_mul_lt_mul_left (a := 2 ^ (16 - n)) ?_
  rw [← Nat.pow_add, show 16 - n + n = 16 by omega]
  omega
theorem hO1_mem2 {bits pos : Nat → Nat} {n v : Nat} : ∀ {k : Nat}, v ∈ hO1 bits pos n k → ∃ j, j < k ∧ v = pos j ∧ bits j = n := by
  intro k
  induction k with
  | zero => intro h; exact absurd h (List.not_mem_nil)
  | succ k ih =>
    intro h
    unfold hO1 at h
    rcases List.mem_append.mp h with h | h
    · obtain ⟨j, h1, h2⟩ := ih h
      exact ⟨j, by omega, h2⟩
    · by_cases e : bits k = n
      · rw [if_pos e] at h
        exact ⟨k, by omega, List.mem_singleton.mp h, e⟩
      · rw [if_neg e] at h
        exact absurd h (List.not_mem_nil)
theorem hO_mem2 {bits pos : Nat → Nat} {m v : Nat} : ∀ {n : Nat}, v ∈ hO bits pos m n → ∃ j, j < m ∧ v = pos j ∧ bits j ≤ n := by
  intro n
  induction n with
  | zero => intro h; exact absurd h (List.not_mem_nil)
  | succ n ih =>
    intro h
    unfold hO at h
    rcases List.mem_append.mp h with h | h
    · obtain ⟨j, h1, h2, h3⟩ := ih h
      exact ⟨j, h1, h2, by omega⟩
    · obtain ⟨j, h1, h2, h3⟩ := hO1_mem2 h
      exact ⟨j, h1, h2, by omega⟩
theorem hO1_nd {bits pos : Nat → Nat} {n m : Nat} (hi : ∀ i j, i < m → j < m → pos i = pos j → i = j) : ∀ {k : Nat}, k ≤ m → (hO1 bits pos n k).Nodup := by
  intro k
  induction k with
  | zero => intro _; exact List.nodup_nil
  | succ k ih =>
    intro hk
    unfold hO1
    refine List.nodup_append.mpr ⟨ih (by omega), ?_, fun a ha c hc e => ?_⟩
    · by_cases e : bits k = n
      · rw [if_pos e]
        exact List.nodup_cons.mpr ⟨List.not_mem_nil, List.nodup_nil⟩
      · rw [if_neg e]
        exact List.nodup_nil
    · by_cases eb : bits k = n
      · rw [if_pos eb] at hc
        have hc' := List.mem_singleton.mp hc
        obtain ⟨j, h1, h2, _⟩ := hO1_mem2 ha
        have := hi j k (by omega) (by omega) (by rw [← h2, e, hc'])
        omega
      · rw [if_neg eb] at hc
        exact absurd hc (List.not_mem_nil)
theorem hO_nd {bits pos : Nat → Nat} {m : Nat} (hi : ∀ i j, i < m → j < m → pos i = pos j → i = j) : ∀ {n : Nat}, (hO bits pos m n).Nodup := by
  intro n
  induction n with
  | zero => exact List.nodup_nil
  | succ n ih =>
    unfold hO
    refine List.nodup_append.mpr ⟨ih, hO1_nd hi (Nat.le_refl _), fun a ha c hc e => ?_⟩
    obtain ⟨j, h1, h2, h3⟩ := hO_mem2 ha
    obtain ⟨k, k1, k2, k3⟩ := hO1_mem2 hc
    have := hi j k h1 k1 (by rw [← h2, ← k2, e])
    rw [this] at h3
    omega
theorem bO_nd {f : Nat → Nat} (h : f 256 = 1) {i j : Nat} (hi : i < cn f 256) (hj : j < i) : (bO f).getD i 0 ≠ (bO f).getD j 0 := by
  have hl := bO_len h
  have hNs := bN_s h
  have nd : (bO f).Nodup := hO_nd (fun a c ha hc e => cn_inj (by omega) (by omega) e)
  have p := List.pairwise_iff_getElem.mp nd j i (by omega) (by omega) hj
  rw [List.getD_eq_getElem?_getD, List.getD_eq_getElem?_getD, List.getElem?_eq_getElem (by omega), List.getElem?_eq_getElem (by omega), Option.getD_some, Option.getD_some]
  exact fun e => p e.symm
/-- every symbol that occurs is there -/
theorem hO1_has {bits pos : Nat → Nat} {n : Nat} : ∀ {k j : Nat}, j < k → bits j = n → pos j ∈ hO1 bits pos n k := by
  intro k
  induction k with
  | zero => intro j h; exact absurd h (Nat.not_lt_zero j)
  | succ k ih =>
    intro j h e
    unfold hO1
    by_cases ej : j = k
    · subst ej
      rw [if_pos e]
      exact List.mem_append.mpr (Or.inr (List.mem_singleton.mpr rfl))
    · exact List.mem_append.mpr (Or.inl (ih (by omega) e))
theorem hO_has {bits pos : Nat → Nat} {m : Nat} : ∀ {n j : Nat}, j < m → 1 ≤ bits j → bits j ≤ n → pos j ∈ hO bits pos m n := by
  intro n
  induction n with
  | zero => intro j _ h1 h2; omega
  | succ n ih =>
    intro j hj h1 h2
    unfold hO
    by_cases e : bits j = n + 1
    · exact List.mem_append.mpr (Or.inr (hO1_has hj e))
    · exact List.mem_append.mpr (Or.inl (ih hj h1 (by omega)))
theorem bO_has {f : Nat → Nat} (h : f 256 = 1) {s : Nat} (hs : s < 256) (hf : 0 < f s) : ∃ i, i < cn f 256 ∧ (bO f).getD i 0 = s := by
  have hl := bO_len h
  have hNs := bN_s h
  have hlt := cn_lt (f := f) (p := 256) (q := s) hs hf
  have m := hO_has (bits := bB f) (pos := ps f 257) (m := cn f 256) (n := 256) hlt (bB_ge h hlt) (bB_le h (by omega))
  rw [ps_at (by omega) hf] at m
  obtain ⟨i, hi, e⟩ := List.getElem_of_mem m
  have hi' : i < (bO f).length := hi
  refine ⟨i, by omega, ?_⟩
  rw [List.getD_eq_getElem?_getD, List.getElem?_eq_getElem hi', Option.getD_some]
  exact e
