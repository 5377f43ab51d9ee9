/-! THE BEST WORDS, pure: joining the two least groups; each group's words fill it -/
def sumN (f : Nat → Nat) : Nat → Nat
  | 0 => 0
  | n + 1 => sumN f n + f n
theorem sumN_cong {f g : Nat → Nat} : ∀ {n : Nat}, (∀ k, k < n → f k = g k) → sumN f n = sumN g n := by
  intro n
  induction n with
  | zero => intro _; rfl
  | succ n ih =>
    intro h
    rw [sumN, sumN, ih (fun k hk => h k (by omega)), h n (by omega)]
theorem sumN_add (f g : Nat → Nat) : ∀ n : Nat, sumN (fun k => f k + g k) n = sumN f n + sumN g n := by
  intro n
  induction n with
  | zero => rfl
  | succ n ih => rw [sumN, sumN, sumN, ih]; omega
theorem sumN_mul (c : Nat) (f : Nat → Nat) : ∀ n : Nat, sumN (fun k => c * f k) n = c * sumN f n := by
  intro n
  induction n with
  | zero => rfl
  | succ n ih => rw [sumN, sumN, ih, Nat.mul_add]
theorem sumN_0 : ∀ n : Nat, sumN (fun _ => 0) n = 0 := by
  intro n
  induction n with
  | zero => rfl
  | succ n ih => rw [sumN, ih]
theorem sumN_pt {f f' : Nat → Nat} {b : Nat} (h : ∀ k, k ≠ b → f' k = f k) : ∀ {n : Nat}, b < n → sumN f' n + f b = sumN f n + f' b := by
  intro n
  induction n with
  | zero => intro hb; exact absurd hb (Nat.not_lt_zero b)
  | succ n ih =>
    intro hb
    rw [sumN, sumN]
    by_cases e : b = n
    · subst e
      rw [sumN_cong (f := f') (g := f) (fun k hk => h k (by omega))]
      omega
    · have := ih (by omega)
      rw [h n (by omega)]
      omega
theorem sumN_ge {f : Nat → Nat} {a : Nat} : ∀ {n : Nat}, a < n → f a ≤ sumN f n := by
  intro n
  induction n with
  | zero => intro h; exact absurd h (Nat.not_lt_zero a)
  | succ n ih =>
    intro h
    rw [sumN]
    by_cases e : a = n
    · subst e; omega
    · have := ih (by omega); omega
theorem sumN_two {f : Nat → Nat} {a b : Nat} (hab : a ≠ b) {n : Nat} (ha : a < n) (hb : b < n) : f a + f b ≤ sumN f n := by
  have h := sumN_pt (f := f) (f' := fun k => if k = b then 0 else f k) (b := b) (fun k hk => if_neg hk) hb
  have h2 := sumN_ge (f := fun k => if k = b then 0 else f k) ha
  rw [if_pos rfl] at h
  rw [if_neg hab] at h2
  omega
/-- the last least of the positive ones below n, but q -/
def hL (num : Nat → Nat) (q : Option Nat) : Nat → Option Nat
  | 0 => none
  | n + 1 => if some n = q ∨ num n = 0 then hL num q n else match hL num q n with
    | none => some n
    | some a => if num n ≤ num a then some n else some a
theorem hL_some {num : Nat → Nat} {q : Option Nat} : ∀ {n a : Nat}, hL num q n = some a → a < n ∧ 0 < num a ∧ some a ≠ q := by
  intro n
  induction n with
  | zero => intro a h; unfold hL at h; cases h
  | succ n ih =>
    intro a h
    unfold hL at h
    by_cases e : some n = q ∨ num n = 0
    · rw [if_pos e] at h
      have := ih h
      exact ⟨by omega, this.2⟩
    · rw [if_neg e] at h
      have e1 : some n ≠ q := fun h => e (Or.inl h)
      have e2 : num n ≠ 0 := fun h => e (Or.inr h)
      cases hn : hL num q n with
      | none =>
        rw [hn] at h
        cases h
        exact ⟨by omega, by omega, e1⟩
      | some c =>
        rw [hn] at h
        dsimp only at h
        by_cases l : num n ≤ num c
        · rw [if_pos l] at h
          cases h
          exact ⟨by omega, by omega, e1⟩
        · rw [if_neg l] at h
          cases h
          have := ih hn
          exact ⟨by omega, this.2⟩
theorem hL_none {num : Nat → Nat} {q : Option Nat} : ∀ {n : Nat}, hL num q n = none → ∀ k, k < n → some k = q ∨ num k = 0 := by
  intro n
  induction n with
  | zero => intro _ k hk; exact absurd hk (Nat.not_lt_zero k)
  | succ n ih =>
    intro h k hk
    unfold hL at h
    by_cases e : some n = q ∨ num n = 0
    · rw [if_pos e] at h
      by_cases ek : k = n
      · rw [ek]; exact e
      · exact ih h k (by omega)
    · rw [if_neg e] at h
      cases hn : hL num q n with
      | none => rw [hn] at h; cases h
      | some c =>
        rw [hn] at h
        dsimp only at h
        split at h <;> cases h
theorem hL_q {num : Nat → Nat} {a : Nat} : ∀ {n : Nat}, n ≤ a → hL num (some a) n = hL num none n := by
  intro n
  induction n with
  | zero => intro _; rfl
  | succ n ih =>
    intro h
    unfold hL
    rw [ih (by omega)]
    by_cases e : num n = 0
    · rw [if_pos (Or.inr e), if_pos (Or.inr e)]
    · rw [if_neg (by rintro (h1 | h1); { cases h1; omega }; exact e h1), if_neg (by rintro (h1 | h1); { cases h1 }; exact e h1)]
/-- both least in one pass -/
def hP (num : Nat → Nat) : Nat → Option Nat × Option Nat
  | 0 => (none, none)
  | n + 1 => if num n = 0 then hP num n else match (hP num n).1 with
    | none => (some n, none)
    | some a => if num n ≤ num a then (some n, some a) else match (hP num n).2 with
      | none => (some a, some n)
      | some c => if num n ≤ num c then (some a, some n) else (some a, some c)
theorem hP_eq (num : Nat → Nat) : ∀ n : Nat, hP num n = (hL num none n, match hL num none n with | none => none | some a => hL num (some a) n) := by
  intro n
  induction n with
  | zero => rfl
  | succ n ih =>
    unfold hP hL
    rw [ih]
    by_cases e : num n = 0
    · rw [if_pos e, if_pos (Or.inr e)]
      cases hn : hL num none n with
      | none => rfl
      | some a =>
        dsimp only
        rw [if_pos (Or.inr e)]
    · rw [if_neg e, if_neg (by rintro (h1 | h1); { cases h1 }; exact e h1)]
      cases hn : hL num none n with
      | none =>
        dsimp only
        rw [if_pos (Or.inl rfl), hL_q (Nat.le_refl n), hn]
      | some a =>
        have ha := (hL_some hn).1
        dsimp only
        by_cases l : num n ≤ num a
        · rw [if_pos l, if_pos l]
          dsimp only
          rw [if_pos (Or.inl rfl), hL_q (Nat.le_refl n), hn]
        · rw [if_neg l, if_neg l]
          dsimp only
          rw [if_neg (by rintro (h1 | h1); { cases h1; omega }; exact e h1)]
          cases hb : hL num (some a) n with
          | none => rfl
          | some c =>
            dsimp only
            split <;> rfl
/-- numbers, groups, bits -/
abbrev hS : Type := (Nat → Nat) × (Nat → Nat) × (Nat → Nat)
def hJ (a b : Nat) (s : hS) : hS := (fun k => if k = b then 0 else if k = a then s.1 a + s.1 b else s.1 k, fun k => if s.2.1 k = a ∨ s.2.1 k = b then a else s.2.1 k, fun k => if s.2.1 k = a ∨ s.2.1 k = b then s.2.2 k + 1 else s.2.2 k)
def hK (s : hS) (g N : Nat) : Nat := sumN (fun k => if s.2.1 k = g then 2 ^ (256 - s.2.2 k) else 0) N
def hC (s : hS) (N : Nat) : Nat := sumN (fun k => if 0 < s.1 k then 1 else 0) N
def hI (N : Nat) (s : hS) (m : Nat) : Prop := (∀ k, k < N → s.2.1 k < N ∧ 0 < s.1 (s.2.1 k)) ∧ (∀ g, g < N → 0 < s.1 g → hK s g N = 2 ^ 256) ∧ (∀ k, k < N → s.2.2 k ≤ m) ∧ hC s N + m = N
theorem hI_0 {N : Nat} {num : Nat → Nat} (h : ∀ k, k < N → 0 < num k) : hI N (num, fun k => k, fun _ => 0) 0 := by
  refine ⟨fun k hk => ⟨hk, h k hk⟩, fun g hg _ => ?_, fun k _ => Nat.le_refl 0, ?_⟩
  · unfold hK
    have e := sumN_pt (f := fun _ => 0) (f' := fun k => if k = g then 2 ^ 256 else 0) (b := g) (fun k hk => if_neg hk) hg
    rw [sumN_0] at e
    rw [if_pos rfl] at e
    show sumN (fun k => if k = g then 2 ^ (256 - 0) else 0) N = 2 ^ 256
    rw [Nat.sub_zero]
    omega
  · unfold hC
    rw [sumN_cong (g := fun _ => 1) (fun k hk => if_pos (h k hk))]
    have : ∀ n, sumN (fun _ => 1) n = n := fun n => by
      induction n with
      | zero => rfl
      | succ n ih => rw [sumN, ih]
    rw [this]
    rfl
theorem hI_two {N m : Nat} {s : hS} (h : hI N s m) (h2 : 2 ≤ hC s N) : ∃ a b, hL s.1 none N = some a ∧ hL s.1 (some a) N = some b := by
  have z : ∀ a : Option Nat, (∀ k, k < N → some k = a ∨ s.1 k = 0) → hC s N ≤ 1 := by
    intro a ha
    unfold hC
    cases a with
    | none =>
      rw [sumN_cong (g := fun _ => 0) (fun k hk => if_neg (by rcases ha k hk with h | h; { cases h }; omega)), sumN_0]
      decide
    | some a =>
      by_cases hl : a < N
      · have e := sumN_pt (f := fun _ => 0) (f' := fun k => if k = a then 1 else 0) (b := a) (fun k hk => if_neg hk) hl
        rw [sumN_0] at e
        rw [if_pos rfl] at e
        have : sumN (fun k => if 0 < s.1 k then 1 else 0) N ≤ sumN (fun k => if k = a then 1 else 0) N := by
          have : ∀ n, n ≤ N → sumN (fun k => if 0 < s.1 k then 1 else 0) n ≤ sumN (fun k => if k = a then 1 else 0) n := by
            intro n
            induction n with
            | zero => intro _; exact Nat.le_refl 0
            | succ n ih =>
              intro hn
              have h1 := ih (by omega)
              rw [sumN, sumN]
              rcases ha n (by omega) with h | h
              · cases h
                rw [if_pos (c := a = a) rfl]
                split <;> omega
              · rw [if_neg (c := 0 < s.1 n) (by omega)]
                omega
          exact this N (Nat.le_refl N)
        omega
      · rw [sumN_cong (g := fun _ => 0) (fun k hk => if_neg (by rcases ha k hk with h | h; { cases h; omega }; omega)), sumN_0]
        decide
  cases ha : hL s.1 none N with
  | none => exact absurd (z none (hL_none ha)) (by omega)
  | some a =>
    cases hb : hL s.1 (some a) N with
    | none => exact absurd (z (some a) (hL_none hb)) (by omega)
    | some b => exact ⟨a, b, rfl, hb⟩
theorem hI_s {N m a b : Nat} {s : hS} (h : hI N s m) (hN : N ≤ 257) (hab : a ≠ b) (ha : a < N) (hb : b < N) (pa : 0 < s.1 a) (pb : 0 < s.1 b) : hI N (hJ a b s) (m + 1) := by
  obtain ⟨h1, h2, h3, h4⟩ := h
  have two : 2 ≤ hC s N := by
    have := sumN_two (f := fun k => if 0 < s.1 k then 1 else 0) hab ha hb
    rw [if_pos pa, if_pos pb] at this
    exact this
  refine ⟨fun k hk => ?_, fun g hg pg => ?_, fun k hk => ?_, ?_⟩
  · show (if s.2.1 k = a ∨ s.2.1 k = b then a else s.2.1 k) < N ∧ 0 < (if (if s.2.1 k = a ∨ s.2.1 k = b then a else s.2.1 k) = b then 0 else if (if s.2.1 k = a ∨ s.2.1 k = b then a else s.2.1 k) = a then s.1 a + s.1 b else s.1 (if s.2.1 k = a ∨ s.2.1 k = b then a else s.2.1 k))
    by_cases e : s.2.1 k = a ∨ s.2.1 k = b
    · rw [if_pos e, if_neg hab, if_pos rfl]
      exact ⟨ha, by omega⟩
    · have := h1 k hk
      rw [if_neg e, if_neg (fun h => e (Or.inr h)), if_neg (fun h => e (Or.inl h))]
      exact this
  · have pg' : 0 < (if g = b then 0 else if g = a then s.1 a + s.1 b else s.1 g) := pg
    by_cases gb : g = b
    · rw [if_pos gb] at pg'
      omega
    · rw [if_neg gb] at pg'
      by_cases ga : g = a
      · subst ga
        have ea := h2 g ha pa
        have eb := h2 b hb pb
        have e2 : 2 * hK (hJ g b s) g N = hK s g N + hK s b N := by
          unfold hK
          rw [← sumN_mul, ← sumN_add]
          refine sumN_cong (fun k hk => ?_)
          have hbk := h3 k hk
          show 2 * (if (if s.2.1 k = g ∨ s.2.1 k = b then g else s.2.1 k) = g then 2 ^ (256 - (if s.2.1 k = g ∨ s.2.1 k = b then s.2.2 k + 1 else s.2.2 k)) else 0) = (if s.2.1 k = g then 2 ^ (256 - s.2.2 k) else 0) + (if s.2.1 k = b then 2 ^ (256 - s.2.2 k) else 0)
          have hp : 2 * 2 ^ (256 - (s.2.2 k + 1)) = 2 ^ (256 - s.2.2 k) := by
            rw [show 256 - s.2.2 k = (256 - (s.2.2 k + 1)) + 1 by omega, Nat.pow_succ, Nat.mul_comm]
          by_cases e : s.2.1 k = g ∨ s.2.1 k = b
          · rw [if_pos e, if_pos rfl, if_pos e, hp]
            rcases e with e | e
            · rw [if_pos e, if_neg (by omega), Nat.add_zero]
            · rw [if_neg (by omega), if_pos e, Nat.zero_add]
          · have e1 : ¬ s.2.1 k = g := fun h => e (Or.inl h)
            have e3 : ¬ s.2.1 k = b := fun h => e (Or.inr h)
            rw [if_neg e, if_neg e1, if_neg e1, if_neg e3]
        omega
      · rw [if_neg ga] at pg'
        rw [← h2 g hg pg']
        unfold hK
        refine sumN_cong (fun k hk => ?_)
        show (if (if s.2.1 k = a ∨ s.2.1 k = b then a else s.2.1 k) = g then 2 ^ (256 - (if s.2.1 k = a ∨ s.2.1 k = b then s.2.2 k + 1 else s.2.2 k)) else 0) = (if s.2.1 k = g then 2 ^ (256 - s.2.2 k) else 0)
        by_cases e : s.2.1 k = a ∨ s.2.1 k = b
        · rw [if_pos e, if_neg (fun h => ga h.symm), if_neg (by rcases e with e | e <;> omega)]
        · rw [if_neg e, if_neg e]
  · have := h3 k hk
    show (if s.2.1 k = a ∨ s.2.1 k = b then s.2.2 k + 1 else s.2.2 k) ≤ m + 1
    split <;> omega
  · have e := sumN_pt (f := fun k => if 0 < s.1 k then 1 else 0) (f' := fun k => if 0 < (hJ a b s).1 k then 1 else 0) (b := b) (fun k hk => by
      show (if 0 < (if k = b then 0 else if k = a then s.1 a + s.1 b else s.1 k) then 1 else 0) = (if 0 < s.1 k then 1 else 0)
      rw [if_neg hk]
      by_cases ka : k = a
      · rw [if_pos ka, if_pos (by omega), ka, if_pos pa]
      · rw [if_neg ka]) hb
    have z : (hJ a b s).1 b = 0 := if_pos rfl
    rw [z, if_pos pb, if_neg (Nat.lt_irrefl 0)] at e
    unfold hC at h4 ⊢
    omega
/-- when one group is left: all words together fill it -/
theorem hI_end {N m : Nat} {s : hS} (h : hI N s m) (h1 : hC s N = 1) : sumN (fun k => 2 ^ (256 - s.2.2 k)) N = 2 ^ 256 := by
  obtain ⟨i1, i2, i3, i4⟩ := h
  have hN : 0 < N := by
    cases N with
    | zero => exact absurd h1 (by unfold hC sumN; decide)
    | succ n => omega
  have g0 := i1 0 hN
  have all : ∀ k, k < N → s.2.1 k = s.2.1 0 := by
    intro k hk
    have gk := i1 k hk
    by_cases e : s.2.1 k = s.2.1 0
    · exact e
    · have := sumN_two (f := fun k => if 0 < s.1 k then 1 else 0) e gk.1 g0.1
      rw [if_pos gk.2, if_pos g0.2] at this
      unfold hC at h1
      omega
  rw [← i2 _ g0.1 g0.2]
  unfold hK
  exact sumN_cong (fun k hk => (if_pos (all k hk)).symm)
