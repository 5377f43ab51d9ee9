/-! units of a scan that is read, pure -/
def uB (g : gG) (mm c : Nat) : Nat := if mm = 1 then 1 else g.2.2.2.1 c * g.2.2.2.2 c
def uO (g : gG) (cm : Nat → Nat) (mm : Nat) : Nat → Nat
  | 0 => 0
  | i + 1 => uO g cm mm i + uB g mm (cm i)
def uU (g : gG) (cm : Nat → Nat) (mm : Nat) : Nat := if mm = 1 then gOA g (cm 0) * gOD g (cm 0) else gUA g * gUD g
def uT (g : gG) (mm u c j : Nat) : Nat := gBs g c + scQ g mm u c j
def mOk (g : gG) (cm : Nat → Nat) (mm : Nat) : Prop := 1 ≤ mm ∧ mm ≤ g.2.2.1 ∧ (∀ i, i < mm → cm i < g.2.2.1) ∧ (∀ i j, i < j → j < mm → cm i < cm j) ∧ uO g cm mm mm ≤ 10
theorem rc_inj {i j i' j' A : Nat} (hj : j < A) (hj' : j' < A) (e : i * A + j = i' * A + j') : i = i' ∧ j = j' := by
  have e1 : (i * A + j) / A = i := by rw [Nat.add_comm, Nat.add_mul_div_right _ _ (by omega), Nat.div_eq_of_lt hj, Nat.zero_add]
  have e2 : (i' * A + j') / A = i' := by rw [Nat.add_comm, Nat.add_mul_div_right _ _ (by omega), Nat.div_eq_of_lt hj', Nat.zero_add]
  rw [e, e2] at e1
  refine ⟨e1.symm, ?_⟩
  rw [e1] at e
  omega
section
variable {g : gG} {cm : Nat → Nat} {mm u i j u' i' j' : Nat}
theorem mOk.inj (h : mOk g cm mm) : ∀ i j, i < mm → j < mm → cm i = cm j → i = j := by
  intro i j hi hj e
  rcases Nat.lt_trichotomy i j with q | q | q
  · have := h.2.2.2.1 i j q hj
    omega
  · exact q
  · have := h.2.2.2.1 j i q hi
    omega
theorem uO_mono {i j : Nat} (h : i ≤ j) : uO g cm mm i ≤ uO g cm mm j := by
  induction j with
  | zero => rw [Nat.le_zero.mp h]; exact Nat.le_refl _
  | succ j ih =>
    rcases Nat.lt_or_ge i (j + 1) with q | q
    · exact Nat.le_trans (ih (by omega)) (Nat.le_add_right _ _)
    · rw [show i = j + 1 by omega]
      exact Nat.le_refl _
theorem mOk.o (h : mOk g cm mm) (hi : i < mm) (hj : j < uB g mm (cm i)) : uO g cm mm i + j < 10 := by
  have h1 := uO_mono (g := g) (cm := cm) (mm := mm) (show i + 1 ≤ mm by omega)
  have h2 : uO g cm mm (i + 1) = uO g cm mm i + uB g mm (cm i) := rfl
  have := h.2.2.2.2
  omega
theorem uQ_by (hg : gOk g) (h : mOk g cm mm) (hu : u < uU g cm mm) (hi : i < mm) (hj : j < uB g mm (cm i)) : ∃ by' bx, scQ g mm u (cm i) j = by' * gAc g (cm i) + bx ∧ bx < gAc g (cm i) ∧ by' < gDn g (cm i) ∧ (mm = 1 → by' = u / gOA g (cm i) ∧ bx = u % gOA g (cm i) ∧ j = 0) ∧ (mm ≠ 1 → by' = u / gUA g * g.2.2.2.2 (cm i) + j / g.2.2.2.1 (cm i) ∧ bx = u % gUA g * g.2.2.2.1 (cm i) + j % g.2.2.2.1 (cm i) ∧ j / g.2.2.2.1 (cm i) < g.2.2.2.2 (cm i) ∧ j % g.2.2.2.1 (cm i) < g.2.2.2.1 (cm i)) := by
  have hc := h.2.2.1 i hi
  unfold scQ
  unfold uU at hu
  unfold uB at hj
  by_cases m1 : mm = 1
  · rw [if_pos m1] at hu hj ⊢
    have i0 : i = 0 := by omega
    rw [i0] at hc ⊢
    have oa := hg.oa hc
    have od := hg.od hc
    have u1 : u / gOA g (cm 0) < gOD g (cm 0) := (Nat.div_lt_iff_lt_mul (by omega)).mpr (by rw [Nat.mul_comm]; exact hu)
    have u2 := Nat.mod_lt u (show 0 < gOA g (cm 0) by omega)
    exact ⟨_, _, rfl, by omega, by omega, fun _ => ⟨rfl, rfl, by omega⟩, fun e => absurd m1 e⟩
  · rw [if_neg m1] at hu hj ⊢
    have f := hg.2.2.2.2.2.2 (cm i) hc
    have ua := hg.ua
    have ud := hg.ud
    have u1 : u / gUA g < gUD g := (Nat.div_lt_iff_lt_mul (by omega)).mpr (by rw [Nat.mul_comm]; exact hu)
    have u2 := Nat.mod_lt u (show 0 < gUA g by omega)
    have j1 : j / g.2.2.2.1 (cm i) < g.2.2.2.2 (cm i) := (Nat.div_lt_iff_lt_mul (by omega)).mpr (by rw [Nat.mul_comm]; exact hj)
    have j2 := Nat.mod_lt j (show 0 < g.2.2.2.1 (cm i) by omega)
    exact ⟨_, _, rfl, rc_lt' u2 j2, rc_lt' u1 j1, fun e => absurd e m1, fun _ => ⟨rfl, rfl, j1, j2⟩⟩
theorem uT_lt (hg : gOk g) (h : mOk g cm mm) (hu : u < uU g cm mm) (hi : i < mm) (hj : j < uB g mm (cm i)) : gBs g (cm i) ≤ uT g mm u (cm i) j ∧ uT g mm u (cm i) j < gBs g (cm i + 1) ∧ uT g mm u (cm i) j < gBs g g.2.2.1 := by
  obtain ⟨by', bx, e, b1, b2, _⟩ := uQ_by hg h hu hi hj
  have hc := h.2.2.1 i hi
  have hb := gBs_mono (g := g) (c := cm i + 1) (d := g.2.2.1) (by omega)
  have hbs : gBs g (cm i + 1) = gBs g (cm i) + gAc g (cm i) * gDn g (cm i) := rfl
  have key : scQ g mm u (cm i) j < gAc g (cm i) * gDn g (cm i) := by
    rw [e]
    exact rc_lt b2 b1
  unfold uT
  omega
theorem uT_inj (hg : gOk g) (h : mOk g cm mm) (hu : u < uU g cm mm) (hi : i < mm) (hj : j < uB g mm (cm i)) (hu' : u' < uU g cm mm) (hi' : i' < mm) (hj' : j' < uB g mm (cm i')) (e : uT g mm u (cm i) j = uT g mm u' (cm i') j') : u = u' ∧ i = i' ∧ j = j' := by
  have l1 := uT_lt hg h hu hi hj
  have l2 := uT_lt hg h hu' hi' hj'
  have hi2 : i = i' := by
    rcases Nat.lt_trichotomy i i' with q | q | q
    · have := gBs_mono (g := g) (show cm i + 1 ≤ cm i' from h.2.2.2.1 i i' q hi')
      omega
    · exact q
    · have := gBs_mono (g := g) (show cm i' + 1 ≤ cm i from h.2.2.2.1 i' i q hi)
      omega
  subst hi2
  obtain ⟨y1, x1, e1, a1, a2, a3, a4⟩ := uQ_by hg h hu hi hj
  obtain ⟨y2, x2, e2, c1, c2, c3, c4⟩ := uQ_by hg h hu' hi hj'
  have eq : y1 * gAc g (cm i) + x1 = y2 * gAc g (cm i) + x2 := by
    unfold uT at e
    omega
  obtain ⟨ey, ex⟩ := rc_inj a1 c1 eq
  by_cases m1 : mm = 1
  · obtain ⟨p1, p2, p3⟩ := a3 m1
    obtain ⟨q1, q2, q3⟩ := c3 m1
    have d1 := Nat.div_add_mod u (gOA g (cm i))
    have d2 := Nat.div_add_mod u' (gOA g (cm i))
    rw [← p1, ← p2, ey, ex, q1, q2] at d1
    exact ⟨by omega, rfl, by omega⟩
  · obtain ⟨p1, p2, p3, p4⟩ := a4 m1
    obtain ⟨q1, q2, q3, q4⟩ := c4 m1
    rw [p1, q1] at ey
    rw [p2, q2] at ex
    obtain ⟨r1, r2⟩ := rc_inj p3 q3 ey
    obtain ⟨r3, r4⟩ := rc_inj p4 q4 ex
    have d1 := Nat.div_add_mod u (gUA g)
    have d2 := Nat.div_add_mod u' (gUA g)
    have d3 := Nat.div_add_mod j (g.2.2.2.1 (cm i))
    have d4 := Nat.div_add_mod j' (g.2.2.2.1 (cm i))
    rw [r1, r3] at d1
    rw [r2, r4] at d3
    exact ⟨by omega, rfl, by omega⟩
/-- blocks that are still to come have nothing in the band -/
def zNl (g : gG) (cm : Nat → Nat) (mm first last bf t : Nat) (Q : Nat → Int32) : Prop := bf = 0 → 0 < last → ∀ u i j, u < uU g cm mm → i < mm → j < uB g mm (cm i) → t ≤ 16 * u + uO g cm mm i + j → ∀ k, max 1 first ≤ k → k ≤ last → Q (64 * uT g mm u (cm i) j + k) = 0
theorem zNl.m {first last bf t t' : Nat} {Q : Nat → Int32} (h : zNl g cm mm first last bf t Q) (le : t ≤ t') : zNl g cm mm first last bf t' Q := fun b0 l0 u i j hu hi hj ht => h b0 l0 u i j hu hi hj (by omega)
theorem zNl.s {first last bf : Nat} {Q Q' : Nat → Int32} (hg : gOk g) (hm : mOk g cm mm) (l6 : last ≤ 63) (hu : u < uU g cm mm) (hi : i < mm) (hj : j < uB g mm (cm i)) (h : zNl g cm mm first last bf (16 * u + uO g cm mm i + j) Q) (s : zSm (uT g mm u (cm i) j) Q Q') : zNl g cm mm first last bf (16 * u + uO g cm mm i + (j + 1)) Q' := by
  intro b0 l0 u' i' j' hu' hi' hj' ht k k1 k2
  have ne : uT g mm u (cm i) j ≠ uT g mm u' (cm i') j' := by
    intro e
    obtain ⟨e1, e2, e3⟩ := uT_inj hg hm hu hi hj hu' hi' hj' e
    subst e1 e2 e3
    omega
  rw [s _ (by omega)]
  exact h b0 l0 u' i' j' hu' hi' hj' (by omega) k k1 k2
end
/-- the blocks of a unit, and the units -/
def zJs (bk : Nat → Nat → zS → Nat ⊕ zS) (c : Nat) : Nat → Nat → zS → Nat ⊕ zS
  | 0, _, a => .inr a
  | r + 1, j, a => zBd (bk c j a) (zJs bk c r (j + 1))
def zIs (bk : Nat → Nat → zS → Nat ⊕ zS) (cm Bc : Nat → Nat) : Nat → Nat → zS → Nat ⊕ zS
  | 0, _, a => .inr a
  | r + 1, i, a => zBd (zJs bk (cm i) (Bc (cm i)) 0 a) (zIs bk cm Bc r (i + 1))
def zUn (bk : Nat → Nat → Nat → zS → Nat ⊕ zS) (rs : Nat → zS → Nat ⊕ zS) (cm Bc : Nat → Nat) (mm : Nat) : Nat → Nat → zS → Nat ⊕ zS
  | 0, _, a => .inr a
  | r + 1, u, a => zBd (rs u a) fun a1 => zBd (zIs (bk u) cm Bc mm 0 a1) (zUn bk rs cm Bc mm r (u + 1))
/-- the bits that are left are 1s, and no run goes on -/
def zLf (a : zS) : Prop := a.2.1 = 0 ∧ a.1.2.2 % 2 ^ a.1.2.1 = 2 ^ a.1.2.1 - 1
def zRs (D : Nat → Nat) (n iv u : Nat) (a : zS) : Nat ⊕ zS := if 0 < iv ∧ 0 < u ∧ u % iv = 0 then (if (a.2.1 = 0 ∧ a.1.2.2 % 2 ^ a.1.2.1 = 2 ^ a.1.2.1 - 1) ∧ a.1.1 < n ∧ D a.1.1 = 255 ∧ D (a.1.1 + 1) = 208 + (u / iv - 1) % 8 then .inr ((a.1.1 + 2, 0, a.1.2.2), 0, (fun _ => 0), a.2.2.2) else .inl 5) else .inr a
def zFn (n : Nat) (a : zS) : Nat ⊕ zS := if (a.2.1 = 0 ∧ a.1.2.2 % 2 ^ a.1.2.1 = 2 ^ a.1.2.1 - 1) ∧ a.1.1 = n then .inr a else .inl 5
