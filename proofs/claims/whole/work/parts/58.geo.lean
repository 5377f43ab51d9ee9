/-! A PICTURE'S SHAPE: width, height, how many components, their factors; units, blocks, first blocks -/
abbrev gG : Type := Nat × Nat × Nat × (Nat → Nat) × (Nat → Nat)
def gMx (f : Nat → Nat) : Nat → Nat
  | 0 => 1
  | c + 1 => max (gMx f c) (f c)
def gUp (a b : Nat) : Nat := (a + b - 1) / b
def gH (g : gG) : Nat := gMx g.2.2.2.1 g.2.2.1
def gV_ (g : gG) : Nat := gMx g.2.2.2.2 g.2.2.1
def gUA (g : gG) : Nat := gUp g.1 (8 * gH g)
def gUD (g : gG) : Nat := gUp g.2.1 (8 * gV_ g)
def gAc (g : gG) (c : Nat) : Nat := gUA g * g.2.2.2.1 c
def gDn (g : gG) (c : Nat) : Nat := gUD g * g.2.2.2.2 c
def gBs (g : gG) : Nat → Nat
  | 0 => 0
  | c + 1 => gBs g c + gAc g c * gDn g c
def gOk (g : gG) : Prop := 1 ≤ g.1 ∧ g.1 ≤ 64 ∧ 1 ≤ g.2.1 ∧ g.2.1 ≤ 64 ∧ 1 ≤ g.2.2.1 ∧ g.2.2.1 ≤ 4 ∧ ∀ c, c < g.2.2.1 → (1 ≤ g.2.2.2.1 c ∧ g.2.2.2.1 c ≤ 2) ∧ 1 ≤ g.2.2.2.2 c ∧ g.2.2.2.2 c ≤ 2
theorem gMx_in {f : Nat → Nat} : ∀ {n : Nat}, (∀ c, c < n → 1 ≤ f c ∧ f c ≤ 2) → 1 ≤ gMx f n ∧ gMx f n ≤ 2 := by
  intro n
  induction n with
  | zero => intro _; exact ⟨Nat.le_refl 1, Nat.le_succ 1⟩
  | succ n ih =>
    intro h
    have h1 := ih (fun c hc => h c (by omega))
    have h2 := h n (by omega)
    unfold gMx
    omega
theorem gMx_ge {f : Nat → Nat} : ∀ {n c : Nat}, c < n → f c ≤ gMx f n := by
  intro n
  induction n with
  | zero => intro c hc; omega
  | succ n ih =>
    intro c hc
    unfold gMx
    by_cases e : c = n
    · subst e; omega
    · have := ih (c := c) (by omega)
      omega
theorem gOk.h {g : gG} (h : gOk g) : 1 ≤ gH g ∧ gH g ≤ 2 := gMx_in (fun c hc => (h.2.2.2.2.2.2 c hc).1)
theorem gOk.v {g : gG} (h : gOk g) : 1 ≤ gV_ g ∧ gV_ g ≤ 2 := gMx_in (fun c hc => (h.2.2.2.2.2.2 c hc).2)
theorem gUp_le {a b : Nat} (ha : 1 ≤ a) (h64 : a ≤ 64) (hb : 8 ≤ b) : 1 ≤ gUp a b ∧ gUp a b ≤ 8 := by
  unfold gUp
  constructor
  · exact (Nat.one_le_div_iff (by omega)).mpr (by omega)
  · refine Nat.le_of_lt_succ ((Nat.div_lt_iff_lt_mul (by omega)).mpr ?_)
    omega
theorem gOk.ua {g : gG} (h : gOk g) : 1 ≤ gUA g ∧ gUA g ≤ 8 := gUp_le h.1 h.2.1 (by have := h.h; omega)
theorem gOk.ud {g : gG} (h : gOk g) : 1 ≤ gUD g ∧ gUD g ≤ 8 := gUp_le h.2.2.1 h.2.2.2.1 (by have := h.v; omega)
theorem gOk.ac {g : gG} (h : gOk g) {c : Nat} (hc : c < g.2.2.1) : 1 ≤ gAc g c ∧ gAc g c ≤ 16 := by
  have h1 := h.ua
  have h2 := (h.2.2.2.2.2.2 c hc).1
  unfold gAc
  exact ⟨Nat.mul_pos h1.1 h2.1, Nat.mul_le_mul h1.2 h2.2⟩
theorem gOk.dn {g : gG} (h : gOk g) {c : Nat} (hc : c < g.2.2.1) : 1 ≤ gDn g c ∧ gDn g c ≤ 16 := by
  have h1 := h.ud
  have h2 := (h.2.2.2.2.2.2 c hc).2
  unfold gDn
  exact ⟨Nat.mul_pos h1.1 h2.1, Nat.mul_le_mul h1.2 h2.2⟩
theorem gOk.ad {g : gG} (h : gOk g) {c : Nat} (hc : c < g.2.2.1) : 1 ≤ gAc g c * gDn g c ∧ gAc g c * gDn g c ≤ 256 := ⟨Nat.mul_pos (h.ac hc).1 (h.dn hc).1, Nat.mul_le_mul (h.ac hc).2 (h.dn hc).2⟩
theorem gOk.bs {g : gG} (h : gOk g) : ∀ {c : Nat}, c ≤ g.2.2.1 → gBs g c ≤ 256 * c := by
  intro c
  induction c with
  | zero => intro _; exact Nat.le_refl 0
  | succ c ih =>
    intro hc
    have h1 := ih (by omega)
    have h2 := h.ad (c := c) (by omega)
    unfold gBs
    omega
theorem gBs_mono {g : gG} : ∀ {c d : Nat}, c ≤ d → gBs g c ≤ gBs g d := by
  intro c d hd
  induction d with
  | zero => rw [Nat.le_zero.mp hd]; exact Nat.le_refl _
  | succ d ih =>
    by_cases e : c = d + 1
    · rw [e]; exact Nat.le_refl _
    · have h1 := ih (by omega)
      rw [show gBs g (d + 1) = gBs g d + gAc g d * gDn g d from rfl]
      omega
/-- the component that a block belongs to -/
def gCo (g : gG) (t : Nat) : Nat := if t < gBs g 1 then 0 else if t < gBs g 2 then 1 else if t < gBs g 3 then 2 else 3
theorem gCo_at {g : gG} {c t : Nat} (hc : c < 4) (h1 : gBs g c ≤ t) (h2 : t < gBs g (c + 1)) : gCo g t = c := by
  unfold gCo
  rcases (show c = 0 ∨ c = 1 ∨ c = 2 ∨ c = 3 by omega) with rfl | rfl | rfl | rfl
  · rw [if_pos h2]
  · rw [if_neg (by omega), if_pos h2]
  · have := gBs_mono (g := g) (c := 1) (d := 2) (by decide)
    rw [if_neg (by omega), if_neg (by omega), if_pos h2]
  · have := gBs_mono (g := g) (c := 1) (d := 3) (by decide)
    have := gBs_mono (g := g) (c := 2) (d := 3) (by decide)
    rw [if_neg (by omega), if_neg (by omega), if_neg (by omega)]
/-- a block of a picture has a component and a number in it -/
theorem gCo_in {g : gG} : ∀ {n t : Nat}, t < gBs g n → ∃ c, c < n ∧ gBs g c ≤ t ∧ t < gBs g (c + 1) := by
  intro n
  induction n with
  | zero => intro t ht; exact absurd ht (by unfold gBs; omega)
  | succ n ih =>
    intro t ht
    by_cases e : t < gBs g n
    · obtain ⟨c, hc, h⟩ := ih e
      exact ⟨c, by omega, h⟩
    · exact ⟨n, by omega, by omega, ht⟩
theorem mmaxN {a b : Nat} (ha : a < 2 ^ 31) (hb : b < 2 ^ 31) : mmax (nI a) (nI b) = nI (max a b) := by
  unfold mmax
  by_cases e : a < b
  · rw [if_pos (nI_lt e hb), Nat.max_eq_right (by omega)]
  · rw [if_neg (nI_nlt (by omega) ha), Nat.max_eq_left (by omega)]
theorem mminN {a b : Nat} (ha : a < 2 ^ 31) (hb : b < 2 ^ 31) : mmin (nI a) (nI b) = nI (min a b) := by
  unfold mmin
  by_cases e : b < a
  · rw [if_pos (nI_lt e ha), Nat.min_eq_right (by omega)]
  · rw [if_neg (nI_nlt (by omega) hb), Nat.min_eq_left (by omega)]
theorem dI_n {a d : Nat} (ha : a < 2 ^ 31) (h0 : 0 < d) (hd : d < 2 ^ 31) : dI (nI a) (nI d) = some (nI (a / d)) := by
  unfold dI
  rw [if_neg (nI_ne0 h0 hd), pk_div ha h0 hd]
theorem rI_n {a d : Nat} (ha : a < 2 ^ 31) (h0 : 0 < d) (hd : d < 2 ^ 31) : rI (nI a) (nI d) = some (nI (a % d)) := by
  unfold rI
  rw [if_neg (nI_ne0 h0 hd), pk_rem ha h0 hd]
section
variable {X : px_X} {b B : Nat} {w0 w1 w : px_W}
theorem x_up {a d : Nat} (h0 : 0 < d) (hd : a + d < 2 ^ 31) : fX11_up X w (nI a) (nI d) = some (nI (gUp a d), w) := by
  unfold fX11_up gUp
  refine ei_t (nI_le (a := 1) h0 (by omega)) ?_
  rw [nI_add, show nI (a + d) - 1 = nI (a + d - 1) from pk_sub (b := 1) (by omega), dI_n (by omega) h0 (by omega), ob_s]
theorem m_up {a d : Nat} (h0 : 0 < d) (hd : a + d < 2 ^ 31) : fX15_up X w (nI a) (nI d) = some (nI (gUp a d), w) := by
  unfold fX15_up gUp
  rw [nI_add, show nI (a + d) - 1 = nI (a + d - 1) from pk_sub (b := 1) (by omega), dI_n (by omega) h0 (by omega), ob_s]
end
/-- the two pictures of the class -/
def isP (P : Nat) : Prop := P = 7 ∨ P = 15
theorem isP.o {P : Nat} (h : isP P) : lX P = some (.inl (2, [(0, 0), (0, 0), (0, 0), (0, 0), (0, 0), (0, 0), (1, P + 1), (1, P + 2), (1, P + 3), (1, P + 4), (1, P + 5), (1, P + 6), (1, P + 7)])) := by rcases h with rfl | rfl <;> rfl
theorem isP.a1 {P : Nat} (h : isP P) : lX (P + 1) = some (.inr (0, 4, fun _ => none)) := by rcases h with rfl | rfl <;> rfl
theorem isP.a2 {P : Nat} (h : isP P) : lX (P + 2) = some (.inr (0, 4, fun _ => none)) := by rcases h with rfl | rfl <;> rfl
theorem isP.a3 {P : Nat} (h : isP P) : lX (P + 3) = some (.inr (0, 4, fun _ => none)) := by rcases h with rfl | rfl <;> rfl
theorem isP.a4 {P : Nat} (h : isP P) : lX (P + 4) = some (.inr (0, 4, fun _ => none)) := by rcases h with rfl | rfl <;> rfl
theorem isP.a5 {P : Nat} (h : isP P) : lX (P + 5) = some (.inr (0, 4, fun _ => none)) := by rcases h with rfl | rfl <;> rfl
theorem isP.a6 {P : Nat} (h : isP P) : lX (P + 6) = some (.inr (0, 12288, fun _ => none)) := by rcases h with rfl | rfl <;> rfl
theorem isP.a7 {P : Nat} (h : isP P) : lX (P + 7) = some (.inr (0, 256, fun _ => none)) := by rcases h with rfl | rfl <;> rfl
/-- the frame that settle reads -/
def xFr (x : rg_S) (P : Nat) (g : gG) : Prop := x.1 P 0 = nI g.1 ∧ x.1 P 1 = nI g.2.1 ∧ x.1 P 2 = nI g.2.2.1 ∧ (∀ c, c < g.2.2.1 → x.2.2.1 (P + 1) c = nI (g.2.2.2.1 c)) ∧ ∀ c, c < g.2.2.1 → x.2.2.1 (P + 2) c = nI (g.2.2.2.2 c)
/-- .. and what it writes -/
def gF (f : Nat → Int32) (v : Nat → Nat) (n : Nat) : Nat → Int32 := fun c => if c < n then nI (v c) else f c
def xSt0 (x : rg_S) (P : Nat) (g : gG) (j : Nat) : rg_S := rg_wI (rg_wI x P 3 (nI (gMx g.2.2.2.1 j))) P 4 (nI (gMx g.2.2.2.2 j))
def xSt (x : rg_S) (P : Nat) (g : gG) (j : Nat) : rg_S := rg_wI (rg_wA (rg_wA (rg_wA (xSt0 x P g g.2.2.1) (P + 3) (gF (x.2.2.1 (P + 3)) (gAc g) j)) (P + 4) (gF (x.2.2.1 (P + 4)) (gDn g) j)) (P + 5) (gF (x.2.2.1 (P + 5)) (gBs g) j)) P 5 (nI (gBs g j))
theorem gF_s (f : Nat → Int32) (v : Nat → Nat) (n : Nat) : upd (gF f v n) n (nI (v n)) = gF f v (n + 1) := by
  funext c
  unfold upd gF
  by_cases e : c = n
  · subst e
    rw [if_pos rfl, if_pos (by omega)]
  · rw [if_neg e]
    by_cases h : c < n
    · rw [if_pos h, if_pos (by omega)]
    · rw [if_neg h, if_neg (by omega)]
theorem gF_0 (f : Nat → Int32) (v : Nat → Nat) : gF f v 0 = f := by
  funext c
  unfold gF
  rw [if_neg (by omega)]
theorem gF_at {f : Nat → Int32} {v : Nat → Nat} {n c : Nat} (h : c < n) : gF f v n c = nI (v c) := by
  unfold gF
  rw [if_pos h]
