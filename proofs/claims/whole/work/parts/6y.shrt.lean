/-! THE BEST WORDS, pure: how many of each length; none longer than 16 -/
def hN (bits : Nat → Nat) (N l : Nat) : Nat := sumN (fun k => if bits k = l then 1 else 0) N
theorem hN_sum {bits : Nat → Nat} {w : Nat → Nat} : ∀ {N : Nat}, (∀ k, k < N → bits k ≤ 256) → sumN (fun l => hN bits N l * w l) 257 = sumN (fun k => w (bits k)) N := by
  intro N
  induction N with
  | zero =>
    intro _
    rw [sumN_cong (g := fun _ => 0) (fun l _ => by unfold hN sumN; exact Nat.zero_mul _), sumN_0]
    rfl
  | succ N ih =>
    intro h
    have h1 := ih (fun k hk => h k (by omega))
    have h2 := h N (by omega)
    have e := sumN_pt (f := fun l => hN bits N l * w l) (f' := fun l => hN bits (N + 1) l * w l) (b := bits N) (fun l hl => by
      show (sumN (fun k => if bits k = l then 1 else 0) N + (if bits N = l then 1 else 0)) * w l = _
      rw [if_neg (fun h => hl h.symm), Nat.add_zero]
      rfl) (show bits N < 257 by omega)
    have e2 : hN bits (N + 1) (bits N) = hN bits N (bits N) + 1 := by
      show sumN (fun k => if bits k = bits N then 1 else 0) N + (if bits N = bits N then 1 else 0) = _
      rw [if_pos rfl]
      rfl
    rw [e2, Nat.add_mul, Nat.one_mul] at e
    show _ = sumN (fun k => w (bits k)) N + w (bits N)
    rw [← h1]
    omega
/-- the words of at most L bits fill all; at most 257 of them -/
def kI (L : Nat) (c : Nat → Nat) : Prop := (∀ l, L < l → c l = 0) ∧ sumN (fun l => c l * 2 ^ (L - l)) (L + 1) = 2 ^ L ∧ sumN c (L + 1) ≤ 257
theorem kI_start {bits : Nat → Nat} {N : Nat} (hb : ∀ k, k < N → bits k ≤ 256) (hN' : N ≤ 257) (hs : sumN (fun k => 2 ^ (256 - bits k)) N = 2 ^ 256) : kI 256 (hN bits N) := by
  refine ⟨fun l hl => ?_, ?_, ?_⟩
  · unfold hN
    rw [sumN_cong (g := fun _ => 0) (fun k hk => if_neg (by have := hb k hk; omega)), sumN_0]
  · rw [hN_sum (w := fun l => 2 ^ (256 - l)) hb]
    exact hs
  · have e := hN_sum (w := fun _ => 1) hb
    have e1 : ∀ n, sumN (fun _ => 1) n = n := fun n => by
      induction n with
      | zero => rfl
      | succ n ih => rw [sumN, ih]
    rw [e1, sumN_cong (g := hN bits N) (fun l _ => Nat.mul_one _)] at e
    show sumN (hN bits N) 257 ≤ 257
    omega
theorem kI_half {L : Nat} {c : Nat → Nat} : sumN (fun l => c l * 2 ^ (L + 1 - l)) (L + 1) = 2 * sumN (fun l => c l * 2 ^ (L - l)) (L + 1) := by
  rw [← sumN_mul]
  refine sumN_cong (fun l hl => ?_)
  rw [show L + 1 - l = (L - l) + 1 by omega, Nat.pow_succ]
  rw [← Nat.mul_assoc, Nat.mul_comm _ 2]
theorem kI_even {L : Nat} {c : Nat → Nat} (h : kI (L + 1) c) : c (L + 1) % 2 = 0 := by
  have e := h.2.1
  rw [sumN, kI_half, Nat.sub_self, Nat.pow_succ] at e
  omega
theorem kI_down {L : Nat} {c : Nat → Nat} (h : kI (L + 1) c) (h0 : c (L + 1) = 0) : kI L c := by
  have e := h.2.1
  rw [sumN, kI_half, h0, Nat.zero_mul, Nat.add_zero, Nat.pow_succ] at e
  have e2 := h.2.2
  rw [sumN, h0] at e2
  refine ⟨fun l hl => ?_, by omega, e2⟩
  by_cases el : l = L + 1
  · rw [el]; exact h0
  · exact h.1 l (by omega)
/-- the last length up to j that has words -/
def hD (c : Nat → Nat) : Nat → Nat
  | 0 => 0
  | j + 1 => if c (j + 1) = 0 then hD c j else j + 1
theorem hD_le (c : Nat → Nat) : ∀ j, hD c j ≤ j := by
  intro j
  induction j with
  | zero => exact Nat.le_refl 0
  | succ j ih =>
    unfold hD
    split <;> omega
theorem hD_z {c : Nat → Nat} : ∀ {j i : Nat}, hD c j < i → i ≤ j → c i = 0 := by
  intro j
  induction j with
  | zero => intro i h1 h2; exact absurd h1 (by unfold hD; omega)
  | succ j ih =>
    intro i h1 h2
    unfold hD at h1
    by_cases e : c (j + 1) = 0
    · rw [if_pos e] at h1
      by_cases ei : i = j + 1
      · rw [ei]; exact e
      · exact ih h1 (by omega)
    · rw [if_neg e] at h1
      omega
theorem hD_p {c : Nat → Nat} : ∀ {j : Nat}, (∃ i, 1 ≤ i ∧ i ≤ j ∧ 0 < c i) → 1 ≤ hD c j ∧ 0 < c (hD c j) := by
  intro j
  induction j with
  | zero => rintro ⟨i, h1, h2, _⟩; omega
  | succ j ih =>
    rintro ⟨i, h1, h2, h3⟩
    unfold hD
    by_cases e : c (j + 1) = 0
    · rw [if_pos e]
      refine ih ⟨i, h1, ?_, h3⟩
      by_cases ei : i = j + 1
      · rw [ei] at h3; omega
      · omega
    · rw [if_neg e]
      exact ⟨by omega, by omega⟩
theorem kI_j {L : Nat} {c : Nat → Nat} (h : kI (L + 2) c) (hL : 15 ≤ L) (h0 : 0 < c (L + 2)) : 1 ≤ hD c L ∧ 0 < c (hD c L) := by
  refine hD_p (Classical.byContradiction fun hn => ?_)
  have z : ∀ i, 1 ≤ i → i ≤ L → c i = 0 := fun i h1 h2 => by
    by_cases e : c i = 0
    · exact e
    · exact absurd ⟨i, h1, h2, by omega⟩ hn
  have e := h.2.1
  have e2 := h.2.2
  rw [sumN, sumN] at e e2
  rw [Nat.sub_self, show L + 2 - (L + 1) = 1 by omega, Nat.pow_one, show (2 : Nat) ^ 0 = 1 from rfl, Nat.mul_one] at e
  have e3 : sumN (fun l => c l * 2 ^ (L + 2 - l)) (L + 1) = c 0 * 2 ^ (L + 2) := by
    have p := sumN_pt (f := fun _ => 0) (f' := fun l => if l = 0 then c 0 * 2 ^ (L + 2) else 0) (b := 0) (fun k hk => if_neg hk) (show 0 < L + 1 by omega)
    rw [sumN_0, if_pos rfl] at p
    rw [sumN_cong (g := fun l => if l = 0 then c 0 * 2 ^ (L + 2) else 0) (fun l hl => ?_)]
    · omega
    · by_cases el : l = 0
      · rw [if_pos el, el, Nat.sub_zero]
      · rw [if_neg el, z l (by omega) (by omega), Nat.zero_mul]
  rw [e3] at e
  have hp : 2 ^ 17 ≤ 2 ^ (L + 2) := Nat.pow_le_pow_right (by decide) (by omega)
  rw [show (2 : Nat) ^ 17 = 131072 from rfl] at hp
  by_cases c0 : c 0 = 0
  · rw [c0, Nat.zero_mul] at e
    omega
  · have : 1 * 2 ^ (L + 2) ≤ c 0 * 2 ^ (L + 2) := Nat.mul_le_mul (by omega) (Nat.le_refl _)
    omega
/-- one turn: two words of L bits become one of L - 1, and one of j bits two of j + 1 -/
def uN (c : Nat → Nat) (i v : Nat) : Nat → Nat := fun l => if l = i then v else c l
theorem uN_s (c : Nat → Nat) (i v : Nat) : uN c i v i = v := if_pos rfl
theorem uN_n {c : Nat → Nat} {i l v : Nat} (h : l ≠ i) : uN c i v l = c l := if_neg h
def hT (L j : Nat) (c : Nat → Nat) : Nat → Nat := uN (uN (uN (uN c L (c L - 2)) (L - 1) (uN c L (c L - 2) (L - 1) + 1)) (j + 1) (uN (uN c L (c L - 2)) (L - 1) (uN c L (c L - 2) (L - 1) + 1) (j + 1) + 2)) j (uN (uN (uN c L (c L - 2)) (L - 1) (uN c L (c L - 2) (L - 1) + 1)) (j + 1) (uN (uN c L (c L - 2)) (L - 1) (uN c L (c L - 2) (L - 1) + 1) (j + 1) + 2) j - 1)
theorem sum_uN {c : Nat → Nat} {w : Nat → Nat} {i v n : Nat} (hi : i < n) : sumN (fun l => uN c i v l * w l) n + c i * w i = sumN (fun l => c l * w l) n + v * w i := by
  have e := sumN_pt (f := fun l => c l * w l) (f' := fun l => uN c i v l * w l) (b := i) (fun l hl => by rw [uN_n hl]) hi
  rw [uN_s] at e
  exact e
theorem hT_sum {c : Nat → Nat} {w : Nat → Nat} {L j : Nat} (hj : j + 2 ≤ L) (hL : 2 ≤ c L) (hp : 0 < c j) : sumN (fun l => hT L j c l * w l) (L + 1) + 2 * w L + w j = sumN (fun l => c l * w l) (L + 1) + w (L - 1) + 2 * w (j + 1) := by
  have e1 := sum_uN (c := c) (w := w) (i := L) (v := c L - 2) (n := L + 1) (by omega)
  have e2 := sum_uN (c := uN c L (c L - 2)) (w := w) (i := L - 1) (v := uN c L (c L - 2) (L - 1) + 1) (n := L + 1) (by omega)
  have e3 := sum_uN (c := uN (uN c L (c L - 2)) (L - 1) (uN c L (c L - 2) (L - 1) + 1)) (w := w) (i := j + 1) (v := uN (uN c L (c L - 2)) (L - 1) (uN c L (c L - 2) (L - 1) + 1) (j + 1) + 2) (n := L + 1) (by omega)
  have e4 := sum_uN (c := uN (uN (uN c L (c L - 2)) (L - 1) (uN c L (c L - 2) (L - 1) + 1)) (j + 1) (uN (uN c L (c L - 2)) (L - 1) (uN c L (c L - 2) (L - 1) + 1) (j + 1) + 2)) (w := w) (i := j) (v := uN (uN (uN c L (c L - 2)) (L - 1) (uN c L (c L - 2) (L - 1) + 1)) (j + 1) (uN (uN c L (c L - 2)) (L - 1) (uN c L (c L - 2) (L - 1) + 1) (j + 1) + 2) j - 1) (n := L + 1) (by omega)
  have ej : uN (uN (uN c L (c L - 2)) (L - 1) (uN c L (c L - 2) (L - 1) + 1)) (j + 1) (uN (uN c L (c L - 2)) (L - 1) (uN c L (c L - 2) (L - 1) + 1) (j + 1) + 2) j = c j := by
    rw [uN_n (by omega), uN_n (by omega), uN_n (by omega)]
  unfold hT
  rw [ej] at e4 ⊢
  rw [Nat.add_mul] at e2 e3
  have m1 : c L * w L = (c L - 2) * w L + 2 * w L := by
    rw [← Nat.add_mul]
    congr 1
    omega
  have m4 : c j * w j = (c j - 1) * w j + 1 * w j := by
    rw [← Nat.add_mul]
    congr 1
    omega
  omega
theorem hT_at {c : Nat → Nat} {L j : Nat} (hj : j + 2 ≤ L) : hT L j c L = c L - 2 := by
  unfold hT
  rw [uN_n (by omega), uN_n (by omega), uN_n (by omega), uN_s]
theorem hT_hi {c : Nat → Nat} {L j l : Nat} (hj : j + 2 ≤ L) (hl : L < l) : hT L j c l = c l := by
  unfold hT
  rw [uN_n (by omega), uN_n (by omega), uN_n (by omega), uN_n (by omega)]
theorem hT_k {c : Nat → Nat} {L j : Nat} (h : kI L c) (hj : j + 2 ≤ L) (hL : 2 ≤ c L) (hp : 0 < c j) : kI L (hT L j c) := by
  refine ⟨fun l hl => by rw [hT_hi hj hl]; exact h.1 l hl, ?_, ?_⟩
  · have e := hT_sum (w := fun l => 2 ^ (L - l)) hj hL hp
    rw [Nat.sub_self, show L - (L - 1) = 1 by omega, show L - j = (L - (j + 1)) + 1 by omega, Nat.pow_succ] at e
    have e2 := h.2.1
    omega
  · have e := hT_sum (w := fun _ => 1) hj hL hp
    rw [sumN_cong (g := hT L j c) (fun l _ => Nat.mul_one _), sumN_cong (g := c) (fun l _ => Nat.mul_one _)] at e
    have e2 := h.2.2
    omega
/-- t turns at length L, then all lengths above 16 -/
def hW (L : Nat) (c : Nat → Nat) : Nat → (Nat → Nat)
  | 0 => c
  | t + 1 => hT L (hD (hW L c t) (L - 2)) (hW L c t)
theorem hW_k {L : Nat} {c : Nat → Nat} (h : kI L c) (hL : 17 ≤ L) : ∀ {t : Nat}, 2 * t ≤ c L → kI L (hW L c t) ∧ hW L c t L = c L - 2 * t := by
  intro t
  induction t with
  | zero => intro _; exact ⟨h, rfl⟩
  | succ t ih =>
    intro ht
    obtain ⟨i1, i2⟩ := ih (by omega)
    have hd := hD_le (hW L c t) (L - 2)
    have hj : 1 ≤ hD (hW L c t) (L - 2) ∧ 0 < hW L c t (hD (hW L c t) (L - 2)) := by
      obtain ⟨L', rfl⟩ : ∃ L', L = L' + 2 := ⟨L - 2, by omega⟩
      exact kI_j (L := L') i1 (by omega) (by rw [i2]; omega)
    unfold hW
    exact ⟨hT_k i1 (by omega) (by omega) hj.2, by rw [hT_at (by omega), i2]; omega⟩
def hY (c : Nat → Nat) : Nat → (Nat → Nat)
  | 0 => c
  | n + 1 => hW (256 - n) (hY c n) (hY c n (256 - n) / 2)
theorem hY_k {c : Nat → Nat} (h : kI 256 c) : ∀ {n : Nat}, n ≤ 240 → kI (256 - n) (hY c n) := by
  intro n
  induction n with
  | zero => intro _; exact h
  | succ n ih =>
    intro hn
    have i := ih (by omega)
    obtain ⟨L, hL⟩ : ∃ L, 256 - n = L + 1 := ⟨255 - n, by omega⟩
    have ev : hY c n (256 - n) % 2 = 0 := by
      rw [hL] at i ⊢
      exact kI_even i
    obtain ⟨w1, w2⟩ := hW_k i (by omega) (t := hY c n (256 - n) / 2) (by omega)
    unfold hY
    rw [show 256 - (n + 1) = L by omega]
    rw [hL] at w1 w2 ev ⊢
    exact kI_down w1 (by rw [w2]; omega)
/-- the last words' last one is kept free -/
def hF (c : Nat → Nat) : Nat → Nat := uN c (hD c 16) (c (hD c 16) - 1)
theorem kI_two {L : Nat} {c : Nat → Nat} (h : kI L c) (h2 : 2 ≤ sumN c (L + 1)) : ∃ i, 1 ≤ i ∧ i ≤ L ∧ 0 < c i := by
  refine Classical.byContradiction fun hn => ?_
  have z : ∀ i, 1 ≤ i → i ≤ L → c i = 0 := fun i h1 h2 => by
    by_cases e : c i = 0
    · exact e
    · exact absurd ⟨i, h1, h2, by omega⟩ hn
  have g : ∀ w : Nat → Nat, sumN (fun l => c l * w l) (L + 1) = c 0 * w 0 := by
    intro w
    have p := sumN_pt (f := fun _ => 0) (f' := fun l => if l = 0 then c 0 * w 0 else 0) (b := 0) (fun k hk => if_neg hk) (show 0 < L + 1 by omega)
    rw [sumN_0, if_pos rfl] at p
    rw [sumN_cong (g := fun l => if l = 0 then c 0 * w 0 else 0) (fun l hl => ?_)]
    · omega
    · by_cases el : l = 0
      · rw [if_pos el, el]
      · rw [if_neg el, z l (by omega) (by omega), Nat.zero_mul]
  have e := h.2.1
  rw [g (fun l => 2 ^ (L - l)), Nat.sub_zero] at e
  have e1 := g (fun _ => 1)
  rw [sumN_cong (g := c) (fun l _ => Nat.mul_one _), Nat.mul_one] at e1
  have : 2 * 2 ^ L ≤ c 0 * 2 ^ L := Nat.mul_le_mul (by omega) (Nat.le_refl _)
  have hp : 0 < 2 ^ L := Nat.two_pow_pos L
  omega
