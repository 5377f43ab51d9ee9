/-! THE RELATION of the class' state x and the reference's state y -/
def xPic (x : rg_S) (P : Nat) (g : gG) : Prop := xFr x P g ∧ x.1 P 3 = nI (gH g) ∧ x.1 P 4 = nI (gV_ g) ∧ x.1 P 5 = nI (gBs g g.2.2.1) ∧ ∀ c, c < g.2.2.1 → x.2.2.1 (P + 3) c = nI (gAc g c) ∧ x.2.2.1 (P + 4) c = nI (gDn g c) ∧ x.2.2.1 (P + 5) c = nI (gBs g c)
def mPic (y : rg_S) (g : gG) : Prop := mFr y g ∧ y.1 0 26 = nI (gH g) ∧ y.1 0 27 = nI (gV_ g) ∧ y.1 0 28 = nI (gUA g) ∧ y.1 0 29 = nI (gUD g) ∧ ∀ c, c < g.2.2.1 → y.2.2.1 60 c = nI (gAc g c) ∧ y.2.2.1 61 c = nI (gDn g c) ∧ y.2.2.1 62 c = nI (gBs g c)
/-- what a coefficient may be -/
def cfOk (k : Nat) (v : Int32) : Prop := (if k = 0 then -1024 else -1023) ≤ v.toInt ∧ v.toInt ≤ 1023
def pRel (x y : rg_S) (P : Nat) (g : gG) : Prop := gOk g ∧ gBs g g.2.2.1 ≤ 192 ∧ xPic x P g ∧ mPic y g ∧ (∀ i, i < 64 * gBs g g.2.2.1 → x.2.2.1 (P + 6) i = y.2.2.1 64 i ∧ cfOk (i % 64) (y.2.2.1 64 i)) ∧ ∀ i, i < 64 * g.2.2.1 → x.2.2.1 (P + 7) i = y.2.2.1 63 i ∧ ∃ k, 1 ≤ k ∧ k ≤ 255 ∧ y.2.2.1 63 i = nI k
def rB (n : Nat) (f g : Nat → Int32) : Prop := n ≤ 16384 ∧ ∀ i, i < n → f i = g i ∧ bt (g i) = g i
def r1 (x y : rg_S) : Prop := ∃ n, rB n (x.2.2.1 2) (y.2.2.1 1) ∧ x.1 1 1 = nI n ∧ y.1 0 1 = nI n
def r2 (x y : rg_S) : Prop := ∃ o n, (o = 3 ∧ x.2.1 0 2 = 5 ∨ o = 5 ∧ x.2.1 0 2 = 3) ∧ x.2.1 0 1 = o ∧ rB n (x.2.2.1 (o + 1)) (y.2.2.1 2) ∧ x.1 o 1 = nI n ∧ y.1 0 3 = nI n
def r3 (x y : rg_S) : Prop := x.1 0 13 = y.1 0 7 ∧ x.1 0 14 = y.1 0 8 ∧ x.1 0 15 = y.1 0 9 ∧ x.1 0 16 = y.1 0 10 ∧ x.1 0 17 = y.1 0 11
def r4p (x y : rg_S) (p w h : Nat) : Prop := 1 ≤ w ∧ w ≤ 32 ∧ 1 ≤ h ∧ h ≤ 32 ∧ x.1 (24 + 2 * p) 0 = nI w ∧ x.1 (24 + 2 * p) 1 = nI h ∧ y.2.2.1 73 p = nI w ∧ y.2.2.1 74 p = nI h ∧ ∀ i j, i < w → j < h → x.2.2.1 (24 + 2 * p + 1) (32 * j + i) = y.2.2.1 72 (1024 * p + w * j + i)
def r4 (x y : rg_S) : Prop := ∃ w h : Nat → Nat, ∀ p, p < 4 → r4p x y p (w p) (h p)
/-- samples are bytes -/
def r4b (y : rg_S) : Prop := ∀ i, i < 4096 → ∃ c, c < 256 ∧ y.2.2.1 72 i = nI c
def r5 (x y : rg_S) : Prop := ∃ P, (P = 7 ∧ x.2.1 0 5 = 15 ∨ P = 15 ∧ x.2.1 0 5 = 7) ∧ x.2.1 0 4 = P ∧ (x.1 0 3 = 0 ∧ y.1 0 17 = 0 ∨ x.1 0 3 = 1 ∧ y.1 0 17 = 1 ∧ ∃ g, pRel x y P g)
/-- what never changes: the class' waves, the reference's order of the waves; a quarter of a wave -/
def wvK (j : Nat) : Int32 := sc_K.getD j 0
def wvC (m : Nat) : Int32 := if m ≤ 8 then wvK m else if m ≤ 16 then -wvK (16 - m) else if m ≤ 24 then -wvK (m - 16) else wvK (32 - m)
def wvN (n u x : Nat) : Int32 := if u = 0 then wvK 4 else wvC (((2 * x + 1) * u * (8 / n)) % 32)
/-- between calls no run of blocks waits to be written -/
def r7 (x y : rg_S) : Prop := x.1 195 7 = 0 ∧ x.1 195 8 = 0 ∧ x.1 195 10 = 0 ∧ y.1 24 42 = 0
def r6 (x y : rg_S) : Prop := (∀ s u t, s < 4 → u < 2 ^ s → t < 2 ^ s → x.2.2.1 37 (64 * s + 8 * u + t) = wvN (2 ^ s) u t) ∧ (∀ k, k < 64 → y.2.2.1 69 k = nI (zg k / 8) ∧ y.2.2.1 70 k = nI (zg k % 8)) ∧ (∀ k, k < 64 → y.2.2.1 71 (zg k) = nI k) ∧ r7 x y
def Rel (x y : rg_S) : Prop := r1 x y ∧ r2 x y ∧ r3 x y ∧ r4 x y ∧ r4b y ∧ r5 x y ∧ r6 x y
/-- one call on both sides: the same answer, and the relation goes on -/
def op2 (X : px_X) (B b : Nat) {α : Type} (F : px_W → Option (α × px_W)) (G : px_W → Option (α × px_W)) (x y : rg_S) : Prop := ∃ a x' y', (∀ w0, F (rg_p lX B w0 x) = some (a, rg_p lX B w0 x')) ∧ (∀ w0, G (rg_p lM b w0 y) = some (a, rg_p lM b w0 y')) ∧ Rel x' y'
def op1 (X : px_X) (B b : Nat) (F : px_W → Option px_W) (G : px_W → Option px_W) (x y : rg_S) : Prop := ∃ x' y', (∀ w0, F (rg_p lX B w0 x) = some (rg_p lX B w0 x')) ∧ (∀ w0, G (rg_p lM b w0 y) = some (rg_p lM b w0 y')) ∧ Rel x' y'
theorem r1.c {x y x' y' : rg_S} (h : r1 x y) (e1 : x'.1 1 1 = x.1 1 1) (e2 : x'.2.2.1 2 = x.2.2.1 2) (e3 : y'.1 0 1 = y.1 0 1) (e4 : y'.2.2.1 1 = y.2.2.1 1) : r1 x' y' := by
  unfold r1
  rw [e1, e2, e3, e4]
  exact h
theorem r2.c {x y x' y' : rg_S} (h : r2 x y) (e0 : x'.2.1 0 1 = x.2.1 0 1 ∧ x'.2.1 0 2 = x.2.1 0 2) (e1 : ∀ o, o = 3 ∨ o = 5 → x'.1 o 1 = x.1 o 1) (e2 : ∀ o, o = 3 ∨ o = 5 → x'.2.2.1 (o + 1) = x.2.2.1 (o + 1)) (e3 : y'.1 0 3 = y.1 0 3) (e4 : y'.2.2.1 2 = y.2.2.1 2) : r2 x' y' := by
  obtain ⟨o, n, ho, hR, hB, hx, hy⟩ := h
  have ho' : o = 3 ∨ o = 5 := by omega
  refine ⟨o, n, ?_, ?_, ?_, ?_, ?_⟩
  · rw [e0.2]; exact ho
  · rw [e0.1]; exact hR
  · rw [e2 o ho', e4]; exact hB
  · rw [e1 o ho']; exact hx
  · rw [e3]; exact hy
theorem r4.c {x y x' y' : rg_S} (h : r4 x y) (e1 : ∀ p k, p < 4 → k < 2 → x'.1 (24 + 2 * p) k = x.1 (24 + 2 * p) k) (e2 : ∀ p, p < 4 → x'.2.2.1 (24 + 2 * p + 1) = x.2.2.1 (24 + 2 * p + 1)) (e3 : ∀ o, 72 ≤ o → o ≤ 74 → y'.2.2.1 o = y.2.2.1 o) : r4 x' y' := by
  obtain ⟨w, hh, h4⟩ := h
  refine ⟨w, hh, fun p hp => ?_⟩
  obtain ⟨a1, a2, a3, a4, a5, a6, a7, a8, a9⟩ := h4 p hp
  refine ⟨a1, a2, a3, a4, ?_, ?_, ?_, ?_, ?_⟩
  · rw [e1 p 0 hp (by decide)]; exact a5
  · rw [e1 p 1 hp (by decide)]; exact a6
  · rw [e3 73 (by decide) (by decide)]; exact a7
  · rw [e3 74 (by decide) (by decide)]; exact a8
  · rw [e2 p hp, e3 72 (by decide) (by decide)]; exact a9
theorem r4b.c {y y' : rg_S} (h : r4b y) (e : y'.2.2.1 72 = y.2.2.1 72) : r4b y' := by
  unfold r4b
  rw [e]
  exact h
theorem pRel.c {x y x' y' : rg_S} {P : Nat} {g : gG} (h : pRel x y P g) (e1 : ∀ k, k < 6 → x'.1 P k = x.1 P k) (e2 : ∀ j, 1 ≤ j → j ≤ 7 → x'.2.2.1 (P + j) = x.2.2.1 (P + j)) (e3 : ∀ k, 18 ≤ k → k ≤ 29 → y'.1 0 k = y.1 0 k) (e4 : ∀ o, 58 ≤ o → o ≤ 64 → y'.2.2.1 o = y.2.2.1 o) : pRel x' y' P g := by
  unfold pRel xPic mPic xFr mFr at *
  rw [e1 0 (by decide), e1 1 (by decide), e1 2 (by decide), e1 3 (by decide), e1 4 (by decide), e1 5 (by decide), e2 1 (by decide) (by decide), e2 2 (by decide) (by decide), e2 3 (by decide) (by decide), e2 4 (by decide) (by decide), e2 5 (by decide) (by decide), e2 6 (by decide) (by decide), e2 7 (by decide) (by decide), e3 18 (by decide) (by decide), e3 19 (by decide) (by decide), e3 20 (by decide) (by decide), e3 26 (by decide) (by decide), e3 27 (by decide) (by decide), e3 28 (by decide) (by decide), e3 29 (by decide) (by decide), e4 58 (by decide) (by decide), e4 59 (by decide) (by decide), e4 60 (by decide) (by decide), e4 61 (by decide) (by decide), e4 62 (by decide) (by decide), e4 63 (by decide) (by decide), e4 64 (by decide) (by decide)]
  exact h
theorem r5.c {x y x' y' : rg_S} (h : r5 x y) (e0 : x'.2.1 0 4 = x.2.1 0 4 ∧ x'.2.1 0 5 = x.2.1 0 5) (e00 : x'.1 0 3 = x.1 0 3 ∧ y'.1 0 17 = y.1 0 17) (e1 : ∀ P k, P = 7 ∨ P = 15 → k < 6 → x'.1 P k = x.1 P k) (e2 : ∀ P j, P = 7 ∨ P = 15 → 1 ≤ j → j ≤ 7 → x'.2.2.1 (P + j) = x.2.2.1 (P + j)) (e3 : ∀ k, 18 ≤ k → k ≤ 29 → y'.1 0 k = y.1 0 k) (e4 : ∀ o, 58 ≤ o → o ≤ 64 → y'.2.2.1 o = y.2.2.1 o) : r5 x' y' := by
  obtain ⟨P, hP, hR, h⟩ := h
  have hP' : P = 7 ∨ P = 15 := by omega
  refine ⟨P, ?_, ?_, ?_⟩
  · rw [e0.2]; exact hP
  · rw [e0.1]; exact hR
  · rw [e00.1, e00.2]
    rcases h with h | ⟨h1, h2, g, h⟩
    · exact Or.inl h
    · exact Or.inr ⟨h1, h2, g, h.c (fun k hk => e1 P k hP' hk) (fun j h1 h2 => e2 P j hP' h1 h2) e3 e4⟩
theorem r6.c {x y x' y' : rg_S} (h : r6 x y) (e1 : x'.2.2.1 37 = x.2.2.1 37) (e2 : ∀ o, 69 ≤ o → o ≤ 71 → y'.2.2.1 o = y.2.2.1 o) (e3 : ∀ k, x'.1 195 k = x.1 195 k := by intro k; first | rfl | exact wI_n _ _ (by omega) | exact (wI_n _ _ (by omega)).trans (wI_n _ _ (by omega))) (e4 : y'.1 24 42 = y.1 24 42 := by first | rfl | exact wI_n _ _ (by omega)) : r6 x' y' := by
  unfold r6 r7
  rw [e1, e2 69 (by decide) (by decide), e2 70 (by decide) (by decide), e2 71 (by decide) (by decide), e3, e3, e3, e4]
  exact h
theorem gv_o {v : Int64} : ∀ (k n : Nat) (f : Nat → Int32) (i : Nat), i < n → gv_f v k n f i = f i := by
  intro k
  induction k with
  | zero => intro n f i _; rfl
  | succ k ih =>
    intro n f i hi
    rw [gv_f, ih (n + 1) _ i (by omega)]
    exact if_neg (by omega)
theorem gv_r {v : Int64} : ∀ (k n : Nat) (f g : Nat → Int32), (∀ i, i < n → f i = g i ∧ bt (g i) = g i) → ∀ i, i < n + k → gv_f v k n f i = gv_f v k n g i ∧ bt (gv_f v k n g i) = gv_f v k n g i := by
  intro k
  induction k with
  | zero => intro n f g h i hi; exact h i hi
  | succ k ih =>
    intro n f g h i hi
    rw [gv_f, gv_f]
    refine ih (n + 1) _ _ (fun j hj => ?_) i (by omega)
    by_cases e : j = n
    · subst e
      rw [pk_us, pk_us]
      refine ⟨rfl, ?_⟩
      unfold gv_b bt
      simp
    · rw [pk_un e, pk_un e]
      exact h j (by omega)
section
variable {X : px_X} {b B : Nat} {x y : rg_S}
theorem o_give (h : Rel x y) (v : Int64) (n : Int32) : op2 X B b (fun w => fX11_giveInput X w (B + 0) v n) (fun w => fX15_giveInput X w (b + 0) v n) x y := by
  have h' := h
  obtain ⟨⟨c, ⟨hc, hb⟩, hx, hy⟩, h2, h3, h4, h4b, h5, h6⟩ := h
  by_cases hn : n < 1 ∨ 8 < n ∨ 16384 < nI c + n
  · exact ⟨0, x, y, fun w0 => x_giveN hx hn, fun w0 => m_giveN hc hy hn, h'⟩
  · have e1 : (1 : Int32).toInt = 1 := by decide
    have e8 : (8 : Int32).toInt = 8 := by decide
    have eb : (16384 : Int32).toInt = 16384 := by decide
    have n1 : ¬ n < 1 := fun e => hn (Or.inl e)
    have n8 : ¬ 8 < n := fun e => hn (Or.inr (Or.inl e))
    have nb : ¬ 16384 < nI c + n := fun e => hn (Or.inr (Or.inr e))
    rw [i_lt, e1] at n1
    rw [i_lt, e8] at n8
    have en : n = nI n.toInt.toNat := by rw [← iI_nat (by omega)]; exact iI_of n
    rw [i_lt, eb, i_addT (by rw [n_t (by omega)]; omega) (by rw [n_t (by omega)]; omega), n_t (by omega)] at nb
    rw [en]
    refine ⟨1, _, _, fun w0 => x_give hx (by omega) (by omega) (by omega), fun w0 => m_give hy (by omega) (by omega) (by omega), ?_⟩
    refine ⟨⟨c + n.toInt.toNat, ⟨by omega, gv_r _ _ _ _ hb⟩, rfl, rfl⟩, h2.c ⟨rfl, rfl⟩ (fun o ho => wI_n _ _ (by omega)) (fun o ho => wA_n _ _ (by omega)) rfl rfl, h3, h4.c (fun p k hp hk => wI_n _ _ (by omega)) (fun p hp => wA_n _ _ (by omega)) (fun o h1 h2 => wA_n _ _ (by omega)), h4b.c rfl, h5.c ⟨rfl, rfl⟩ ⟨rfl, rfl⟩ (fun P k hP hk => wI_n _ _ (by omega)) (fun P j hP h1 h2 => wA_n _ _ (by omega)) (fun k h1 h2 => wI_n _ _ (by omega)) (fun o h1 h2 => wA_n _ _ (by omega)), h6.c rfl (fun o h1 h2 => wA_n _ _ (by omega))⟩
theorem o_wipe (h : Rel x y) : op1 X B b (fun w => fX11_wipeInput X w (B + 0)) (fun w => fX15_wipeInput X w (b + 0)) x y := by
  obtain ⟨⟨c, ⟨hc, hb⟩, hx, hy⟩, h2, h3, h4, h4b, h5, h6⟩ := h
  exact ⟨_, _, fun w0 => x_wipe, fun w0 => m_wipe, ⟨0, ⟨by omega, fun i hi => absurd hi (by omega)⟩, rfl, rfl⟩, h2.c ⟨rfl, rfl⟩ (fun o ho => (wI_n _ _ (by omega)).trans (wI_n _ _ (by omega))) (fun o ho => rfl) rfl rfl, h3, h4.c (fun p k hp hk => (wI_n _ _ (by omega)).trans (wI_n _ _ (by omega))) (fun p hp => rfl) (fun o h1 h2 => rfl), h4b, h5.c ⟨rfl, rfl⟩ ⟨rfl, rfl⟩ (fun P k hP hk => (wI_n _ _ (by omega)).trans (wI_n _ _ (by omega))) (fun P j hP h1 h2 => rfl) (fun k h1 h2 => wI_n _ _ (by omega)) (fun o h1 h2 => rfl), h6⟩
theorem o_take (h : Rel x y) : op1 X B b (fun w => fX11_takeOutput X w (B + 0)) (fun w => fX15_takeOutput X w (b + 0)) x y := by
  obtain ⟨⟨c, ⟨hc, hb⟩, hx, hy⟩, h2, h3, h4, h4b, h5, h6⟩ := h
  have h2' := h2
  obtain ⟨o, n, ho, hR, ⟨hn, hB⟩, hx1, hy1⟩ := h2'
  have by_ : isBy o := by unfold isBy; omega
  refine ⟨_, _, fun w0 => x_take by_ hR hx1 hn (fun i hi => by rw [(hB i hi).1]; exact (hB i hi).2), fun w0 => m_take hn hy1 (fun i hi => (hB i hi).2), ⟨n, ⟨hn, ?_⟩, rfl, rfl⟩, h2.c ⟨rfl, rfl⟩ (fun o ho => wI_n _ _ (by omega)) (fun o ho => wA_n _ _ (by omega)) rfl rfl, h3, h4.c (fun p k hp hk => wI_n _ _ (by omega)) (fun p hp => wA_n _ _ (by omega)) (fun o h1 h2 => wA_n _ _ (by omega)), h4b.c rfl, h5.c ⟨rfl, rfl⟩ ⟨rfl, rfl⟩ (fun P k hP hk => wI_n _ _ (by omega)) (fun P j hP h1 h2 => wA_n _ _ (by omega)) (fun k h1 h2 => wI_n _ _ (by omega)) (fun o h1 h2 => wA_n _ _ (by omega)), h6.c rfl (fun o h1 h2 => wA_n _ _ (by omega))⟩
  intro i hi
  have e1 : va_cpy (x.2.2.1 (o + 1)) (x.2.2.1 2) 0 0 n i = x.2.2.1 (o + 1) i := by rw [pk_cpy_in (by omega) (by omega), Nat.sub_zero, Nat.zero_add]
  have e2 : va_cpy (y.2.2.1 2) (y.2.2.1 1) 0 0 n i = y.2.2.1 2 i := by rw [pk_cpy_in (by omega) (by omega), Nat.sub_zero, Nat.zero_add]
  show va_cpy (x.2.2.1 (o + 1)) (x.2.2.1 2) 0 0 n i = va_cpy (y.2.2.1 2) (y.2.2.1 1) 0 0 n i ∧ bt (va_cpy (y.2.2.1 2) (y.2.2.1 1) 0 0 n i) = va_cpy (y.2.2.1 2) (y.2.2.1 1) 0 0 n i
  rw [e1, e2]
  exact hB i hi
theorem o_out (h : Rel x y) (k : Int32) : op2 X B b (fun w => fX11_outputAt X w (B + 0) k) (fun w => fX15_outputAt X w (b + 0) k) x y := by
  obtain ⟨o, n, ho, hR, ⟨hn, hB⟩, hx1, hy1⟩ := h.2.1
  have by_ : isBy o := by unfold isBy; omega
  rcases i_place k (n := n) (by omega) with ⟨j, hj, rfl⟩ | hk
  · refine ⟨_, x, y, fun w0 => x_out by_ hR hx1 hn hj, fun w0 => ?_, h⟩
    dsimp only
    rw [m_out hy1 hj hn, (hB j hj).1]
  · exact ⟨_, x, y, fun w0 => x_outN by_ hR hx1 hk, fun w0 => m_outN hy1 hk, h⟩
theorem o_status (h : Rel x y) (a : Int32) : op2 X B b (fun w => fX11_statusOf X w (B + 0) a) (fun w => fX15_statusOf X w (b + 0) a) x y := by
  have h' := h
  obtain ⟨⟨c, hc, hx, hy⟩, ⟨o, n, ho, hR, hB, hx1, hy1⟩, ⟨e1, e2, e3, e4, e5⟩, ⟨w, hh, h4⟩, h4b, h5, h6⟩ := h
  have by_ : isBy o := by unfold isBy; omega
  have key : ∀ w0 w1 : px_W, ∃ v, fX11_statusOf X (rg_p lX B w0 x) (B + 0) a = some (v, rg_p lX B w0 x) ∧ fX15_statusOf X (rg_p lM b w1 y) (b + 0) a = some (v, rg_p lM b w1 y) := fun w0 w1 => s_status by_ hR (hx.trans hy.symm) e1 e2 (hx1.trans hy1.symm) e3 e4 e5 (fun p hp => (h4 p hp).2.2.2.2.1.trans (h4 p hp).2.2.2.2.2.2.1.symm) (fun p hp => (h4 p hp).2.2.2.2.2.1.trans (h4 p hp).2.2.2.2.2.2.2.1.symm) a
  obtain ⟨v, hv, hv'⟩ := key (fun _ => none, 0, 0) (fun _ => none, 0, 0)
  refine ⟨v, x, y, fun w0 => ?_, fun w0 => ?_, h'⟩
  · obtain ⟨u, hu, hu'⟩ := key w0 (fun _ => none, 0, 0)
    rw [hv'] at hu'
    cases hu'
    exact hu
  · obtain ⟨u, hu, hu'⟩ := key (fun _ => none, 0, 0) w0
    rw [hv] at hu
    cases hu
    exact hu'
end
