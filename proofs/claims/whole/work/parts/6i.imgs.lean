/-! samples beside, fit, grow: pictures of samples on both sides -/
theorem rg_lpE {σ α : Type} {F : Nat → σ → Option α} {E : σ → Option α} {n : Nat} (I : Nat → σ → Prop) (step : ∀ m j x, j < n → I j x → ∃ y, F (m + 1) x = F m y ∧ I (j + 1) y) (done : ∀ m x, I n x → F (m + 1) x = E x) : ∀ k m j x, j + k = n → k < m → I j x → ∃ y, F m x = E y ∧ I n y := by
  intro k
  induction k with
  | zero =>
    intro m j x hj hm hx
    obtain ⟨m, rfl⟩ : ∃ m', m = m' + 1 := ⟨m - 1, by omega⟩
    obtain rfl : j = n := by omega
    exact ⟨x, done m x hx, hx⟩
  | succ k ih =>
    intro m j x hj hm hx
    obtain ⟨m, rfl⟩ : ∃ m', m = m' + 1 := ⟨m - 1, by omega⟩
    obtain ⟨y, e, hy⟩ := step m j x (by omega) hx
    obtain ⟨z, e2, hz⟩ := ih m (j + 1) y (by omega) (by omega) hy
    exact ⟨z, e.trans e2, hz⟩
def clampZ (a : Int) (n : Nat) : Nat := if a < 0 then 0 else if a < n then a.toNat else n - 1
theorem clampZ_lt {a : Int} {n : Nat} (h : 1 ≤ n) : clampZ a n < n := by
  unfold clampZ
  split
  · omega
  · split <;> omega
theorem clampZ_in {a n : Nat} (h : a < n) : clampZ (a : Int) n = a := by
  unfold clampZ
  rw [if_neg (by omega), if_pos (by omega)]
  omega
theorem clampZ_neg {a : Int} {n : Nat} (h : a < 0) : clampZ a n = 0 := if_pos h
theorem clampZ_mid {a : Int} {n : Nat} (h : 0 ≤ a) (h2 : a < n) : clampZ a n = a.toNat := by
  unfold clampZ
  rw [if_neg (by omega), if_pos h2]
theorem clampZ_hi {a : Int} {n : Nat} (h : 0 ≤ a) (h2 : (n : Int) ≤ a) : clampZ a n = n - 1 := by
  unfold clampZ
  rw [if_neg (by omega), if_neg (by omega)]
/-- a plane of the class, the reference's area -/
def pI (x : rg_S) (p w h : Nat) (I : Nat → Nat → Int32) : Prop := 1 ≤ w ∧ w ≤ 32 ∧ 1 ≤ h ∧ h ≤ 32 ∧ x.1 (24 + 2 * p) 0 = nI w ∧ x.1 (24 + 2 * p) 1 = nI h ∧ ∀ i j, i < w → j < h → x.2.2.1 (24 + 2 * p + 1) (32 * j + i) = I i j
def aI (y : rg_S) (w h : Nat) (I : Nat → Nat → Int32) : Prop := 1 ≤ w ∧ w ≤ 66 ∧ 1 ≤ h ∧ h ≤ 66 ∧ y.1 0 44 = nI w ∧ y.1 0 45 = nI h ∧ ∀ i j, i < w → j < h → y.2.2.1 75 (w * j + i) = I i j
/-- nothing changed but the planes beside (near, far), the area and its other -/
def FS (x x' : rg_S) : Prop := (∀ o k, o ≠ 32 → o ≠ 34 → x'.1 o k = x.1 o k) ∧ x'.2.1 = x.2.1 ∧ ∀ o, o ≠ 33 → o ≠ 35 → x'.2.2.1 o = x.2.2.1 o
def FA (y y' : rg_S) : Prop := (∀ o k, o ≠ 0 ∨ k ≠ 44 ∧ k ≠ 45 → y'.1 o k = y.1 o k) ∧ y'.2.1 = y.2.1 ∧ ∀ o, o ≠ 75 → o ≠ 76 → y'.2.2.1 o = y.2.2.1 o
theorem FS.rfl {x : rg_S} : FS x x := ⟨fun _ _ _ _ => Eq.refl _, Eq.refl _, fun _ _ _ => Eq.refl _⟩
theorem FA.rfl {y : rg_S} : FA y y := ⟨fun _ _ _ => Eq.refl _, Eq.refl _, fun _ _ _ => Eq.refl _⟩
theorem FS.trans {x x1 x2 : rg_S} (h : FS x x1) (h2 : FS x1 x2) : FS x x2 := ⟨fun o k a c => (h2.1 o k a c).trans (h.1 o k a c), h2.2.1.trans h.2.1, fun o a c => (h2.2.2 o a c).trans (h.2.2 o a c)⟩
theorem FA.trans {y y1 y2 : rg_S} (h : FA y y1) (h2 : FA y1 y2) : FA y y2 := ⟨fun o k a => (h2.1 o k a).trans (h.1 o k a), h2.2.1.trans h.2.1, fun o a c => (h2.2.2 o a c).trans (h.2.2 o a c)⟩
section
variable {X : px_X} {b B : Nat} {w0 w1 : px_W} {x y : rg_S} {P Q n : Nat} {I : Nat → Nat → Int32}
theorem m_smp {w h : Nat} {a c : Int} (hI : aI y w h I) (a1 : -1000 ≤ a) (a2 : a < 1000) (c1 : -1000 ≤ c) (c2 : c < 1000) : fX15_sample X (rg_p lM b w0 y) (b + 0) (iI a) (iI c) = some (I (clampZ a w) (clampZ c h), rg_p lM b w0 y) := by
  obtain ⟨h1, h2, h3, h4, e44, e45, hh⟩ := hI
  have z0 : ∀ z : Int, -1000 ≤ z → z < 1000 → (0 ≤ iI z ↔ 0 ≤ z) := fun z p q => iI_le (a := 0) (by omega) (by omega) (by omega) (by omega)
  have zn : ∀ (z : Int) (m : Nat), -1000 ≤ z → z < 1000 → m < 1000 → (nI m ≤ iI z ↔ (m : Int) ≤ z) := fun z m p q r => by rw [iI_n]; exact iI_le (by omega) (by omega) (by omega) (by omega)
  have fin : ∀ i j, i < w → j < h → fX15_sample_53 X (b + 0) (nI i) (nI j) (rg_p lM b w0 y) = some (I i j, rg_p lM b w0 y) := by
    intro i j hi hj
    have hr := row_lt hi hj
    have hm : w * h ≤ 66 * 66 := Nat.mul_le_mul h2 h4
    unfold fX15_sample_53
    refine ob_v (rg_C rfl rfl) (ob_v (rg_I rfl rfl) ?_)
    rw [e44, pk_mul, nI_add]
    refine ob_v (rg_A rfl (by decide) _ (by omega) (by decide)) ?_
    rw [hh i j hi hj]
  have fin2 : ∀ i, i < w → fX15_sample_26 X (b + 0) (iI c) (nI i) (rg_p lM b w0 y) = some (I i (clampZ c h), rg_p lM b w0 y) := by
    intro i hi
    unfold fX15_sample_26
    by_cases h0 : 0 ≤ c
    · refine ei_t ((z0 c c1 c2).mpr h0) (ob_v (rg_I rfl rfl) ?_)
      rw [e45]
      by_cases hc : (h : Int) ≤ c
      · refine ei_t ((zn c h c1 c2 (by omega)).mpr hc) (ob_v (rg_I rfl rfl) ?_)
        rw [e45, clampZ_hi h0 hc, show nI h - 1 = nI (h - 1) from pk_sub (b := 1) h3]
        exact fin _ _ hi (by omega)
      · refine ei_n (fun e => hc ((zn c h c1 c2 (by omega)).mp e)) ?_
        rw [clampZ_mid h0 (by omega), iI_nat h0]
        exact fin _ _ hi (by omega)
    · rw [clampZ_neg (by omega)]
      exact ei_n (fun e => h0 ((z0 c c1 c2).mp e)) (fin _ 0 hi (by omega))
  unfold fX15_sample
  by_cases h0 : 0 ≤ a
  · refine ei_t ((z0 a a1 a2).mpr h0) (ob_v (rg_I rfl rfl) ?_)
    rw [e44]
    by_cases hc : (w : Int) ≤ a
    · refine ei_t ((zn a w a1 a2 (by omega)).mpr hc) (ob_v (rg_I rfl rfl) ?_)
      rw [e44, clampZ_hi h0 hc, show nI w - 1 = nI (w - 1) from pk_sub (b := 1) h1]
      exact fin2 _ (by omega)
    · refine ei_n (fun e => hc ((zn a w a1 a2 (by omega)).mp e)) ?_
      rw [clampZ_mid h0 (by omega), iI_nat h0]
      exact fin2 _ (by omega)
  · rw [clampZ_neg (by omega)]
    exact ei_n (fun e => h0 ((z0 a a1 a2).mp e)) (fin2 0 (by omega))
theorem mm_clamp {a : Int} {n : Nat} (hn : 1 ≤ n) (h2 : n ≤ 1000) (a1 : -1000 ≤ a) (a2 : a < 1000) : mmax 0 (mmin (iI a) (nI n - 1)) = nI (clampZ a n) := by
  rw [show nI n - 1 = nI (n - 1) from pk_sub (b := 1) hn]
  unfold mmax mmin clampZ
  rw [iI_n (n - 1)]
  by_cases h0 : a < 0
  · have e : ¬ iI ((n - 1 : Nat) : Int) < iI a := by rw [iI_lt (by omega) (by omega) (by omega) (by omega)]; omega
    rw [if_neg e, if_pos h0]
    rw [if_neg (show ¬ (0 : Int32) < iI a by rw [show (0 : Int32) = iI 0 from rfl, iI_lt (by omega) (by omega) (by omega) (by omega)]; omega)]
    rfl
  · rw [if_neg h0]
    by_cases h1 : a < n
    · rw [if_pos h1]
      have e : ¬ iI ((n - 1 : Nat) : Int) < iI a := by rw [iI_lt (by omega) (by omega) (by omega) (by omega)]; omega
      rw [if_neg e]
      by_cases h2 : a = 0
      · rw [if_neg (show ¬ (0 : Int32) < iI a by rw [show (0 : Int32) = iI 0 from rfl, iI_lt (by omega) (by omega) (by omega) (by omega)]; omega), h2]
        rfl
      · rw [if_pos (show (0 : Int32) < iI a by rw [show (0 : Int32) = iI 0 from rfl, iI_lt (by omega) (by omega) (by omega) (by omega)]; omega), iI_nat (by omega)]
    · rw [if_neg h1]
      have e : iI ((n - 1 : Nat) : Int) < iI a := by rw [iI_lt (by omega) (by omega) (by omega) (by omega)]; omega
      rw [if_pos e]
      by_cases h2 : n = 1
      · subst h2
        rw [if_neg (show ¬ (0 : Int32) < iI ((1 - 1 : Nat) : Int) by decide)]
        rfl
      · rw [if_pos (show (0 : Int32) < iI ((n - 1 : Nat) : Int) by rw [show (0 : Int32) = iI 0 from rfl, iI_lt (by omega) (by omega) (by omega) (by omega)]; omega), ← iI_n]
theorem x_near {p w h : Nat} {a c : Int} (hp : p < 6) (hI : pI x p w h I) (a1 : -1000 ≤ a) (a2 : a < 1000) (c1 : -1000 ≤ c) (c2 : c < 1000) : fX3_nearest X (rg_p lX B w0 x) (B + (24 + 2 * p)) (iI a) (iI c) = some (I (clampZ a w) (clampZ c h), rg_p lX B w0 x) := by
  obtain ⟨h1, h2, h3, h4, e0, e1, hh⟩ := hI
  have k1 := clampZ_lt (a := a) h1
  have k2 := clampZ_lt (a := c) h3
  unfold fX3_nearest
  refine ob_v (rg_C (pl_o hp) rfl) (ob_v (rg_I (pl_o hp) rfl) (ob_v (rg_I (pl_o hp) rfl) ?_))
  rw [e0, e1, mm_clamp h3 (by omega) c1 c2, mm_clamp h1 (by omega) a1 a2, show (32 : Int32) * nI (clampZ c h) + nI (clampZ a w) = nI (32 * clampZ c h + clampZ a w) by rw [show (32 : Int32) = nI 32 from rfl, pk_mul, nI_add]]
  refine ob_v (rg_A (pl_a hp) (by decide) _ (by omega) (by decide)) ?_
  rw [hh _ _ k1 k2]
/-- become: the other's samples are the area's -/
theorem m_become {w h : Nat} (w1 : 1 ≤ w) (w2 : w ≤ 66) (h1 : 1 ≤ h) (h2 : h ≤ 66) (hI : ∀ i j, i < w → j < h → y.2.2.1 76 (w * j + i) = I i j) : ∃ y', fX15_become X (rg_p lM b w0 y) (b + 0) (nI w) (nI h) = some (rg_p lM b w0 y') ∧ aI y' w h I ∧ FA y y' := by
  have hm : w * h ≤ 66 * 66 := Nat.mul_le_mul w2 h2
  refine ⟨rg_wA (rg_wI (rg_wI y 0 44 (nI w)) 0 45 (nI h)) 75 (fU (w * h) (y.2.2.1 76) (y.2.2.1 75)), ?_, ⟨w1, w2, h1, h2, ?_, ?_, ?_⟩, ?_, rfl, ?_⟩
  · unfold fX15_become
    refine ob_v (rg_pI rfl rfl _) (ob_v (rg_pI rfl rfl _) ?_)
    have e := rg_lpF (F := fun u (t : Int32 × px_W) => fX15_become_12 X u (b + 0) (nI w) (nI h) t.1 t.2) (w * h) (fun k => (nI k, rg_p lM b w0 (rg_wA (rg_wI (rg_wI y 0 44 (nI w)) 0 45 (nI h)) 75 (fU k (y.2.2.1 76) (y.2.2.1 75))))) (r := some (rg_p lM b w0 (rg_wA (rg_wI (rg_wI y 0 44 (nI w)) 0 45 (nI h)) 75 (fU (w * h) (y.2.2.1 76) (y.2.2.1 75))))) (by omega) ?_ ?_
    · refine Eq.trans ?_ e
      dsimp only
      rw [fU_0, show rg_wA (rg_wI (rg_wI y 0 44 (nI w)) 0 45 (nI h)) 75 (y.2.2.1 75) = rg_wI (rg_wI y 0 44 (nI w)) 0 45 (nI h) from wA_id rfl, nI_0]
    · intro m k hk
      dsimp only
      rw [fX15_become_12.eq_2, pk_mul]
      refine ei_n (nI_ge hk (by omega)) (ob_v (rg_C rfl rfl) (ob_v (rg_C rfl rfl) (ob_v (rg_A rfl (by decide) k (by omega) (by decide)) (ob_v (rg_sA _ rfl (by decide) k _ (by omega) (by decide)) ?_))))
      rw [wA_wA, wA_s, wA_n _ _ (by decide), wI_2, wI_2, id, fU_s, nI_1]
    · intro m
      dsimp only
      rw [fX15_become_12.eq_2, pk_mul]
      exact ei_t (nI_le (Nat.le_refl _) (by omega)) rfl
  · rw [wA_1, wI_n _ _ (by decide), wI_s]
  · rw [wA_1, wI_s]
  · intro i j hi hj
    rw [wA_s, fU_lt (row_lt hi hj)]
    exact hI i j hi hj
  · intro o k ho
    rw [wA_1, wI_n _ _ (by omega), wI_n _ _ (by omega)]
  · intro o o1 o2
    rw [wA_n _ _ o1, wI_2, wI_2]
/-- fit -/
theorem m_fit {aw ah w h : Nat} (hA : aI y aw ah I) (w1 : 1 ≤ w) (w2 : w ≤ 66) (h1 : 1 ≤ h) (h2 : h ≤ 66) : ∃ y', fX15_fit X (rg_p lM b w0 y) (b + 0) (nI w) (nI h) = some (rg_p lM b w0 y') ∧ aI y' w h (fun i j => I (clampZ i aw) (clampZ j ah)) ∧ FA y y' := by
  have hm : w * h ≤ 66 * 66 := Nat.mul_le_mul w2 h2
  have hAw : ∀ f, aI (rg_wA y 76 f) aw ah I := fun f => by
    obtain ⟨p1, p2, p3, p4, p5, p6, p7⟩ := hA
    exact ⟨p1, p2, p3, p4, p5, p6, p7⟩
  obtain ⟨y', e', hI', hF'⟩ := m_become (X := X) (b := b) (w0 := w0) (y := rg_wA y 76 (fB w 0 0 w h 0 (fun i j => I (clampZ i aw) (clampZ j ah)) (y.2.2.1 76))) (I := fun i j => I (clampZ i aw) (clampZ j ah)) w1 w2 h1 h2 (fun i j hi hj => by
    rw [wA_s, fB_at hi, if_pos (by omega)]
    rfl)
  refine ⟨y', ?_, hI', ?_⟩
  · unfold fX15_fit
    have e := rg_lpF (F := fun u (t : Int32 × px_W) => fX15_fit_2 X u (b + 0) (nI w) (nI h) t.1 t.2) h (fun j => (nI j, rg_p lM b w0 (rg_wA y 76 (fB w 0 0 w j 0 (fun i j => I (clampZ i aw) (clampZ j ah)) (y.2.2.1 76))))) (r := some (rg_p lM b w0 y')) (by omega) ?_ ?_
    · refine Eq.trans ?_ e
      dsimp only
      rw [fB_0, wA_id rfl, nI_0]
    · intro m j hj
      dsimp only
      rw [fX15_fit_2.eq_2]
      refine ei_n (nI_ge hj (by omega)) ?_
      refine rg_lpF (F := fun u (t : Int32 × px_W) => fX15_fit_10 X (fX15_fit_2 X m) u (b + 0) (nI w) (nI h) (nI j) t.1 t.2) w (fun i => (nI i, rg_p lM b w0 (rg_wA y 76 (fB w 0 0 w j i (fun i j => I (clampZ i aw) (clampZ j ah)) (y.2.2.1 76))))) (by omega) ?_ ?_
      · intro u i hi
        dsimp only
        have hr := row_lt hi hj
        rw [fX15_fit_10.eq_2]
        refine ei_n (nI_ge hi (by omega)) (ob_v (rg_C rfl rfl) (ob_v (rg_O rfl) ?_))
        have es := m_smp (X := X) (b := b) (w0 := w0) (a := i) (c := j) (hAw (fB w 0 0 w j i (fun i j => I (clampZ i aw) (clampZ j ah)) (y.2.2.1 76))) (by omega) (by omega) (by omega) (by omega)
        rw [← iI_n, ← iI_n] at es
        refine ob_v es ?_
        dsimp only
        rw [show nI w * nI j + nI i = nI (w * (0 + j) + (0 + i)) by rw [pk_mul, nI_add, Nat.zero_add, Nat.zero_add]]
        refine ob_v (rg_sA _ rfl (by decide) _ _ (by rw [Nat.zero_add, Nat.zero_add]; omega) (by decide)) ?_
        rw [wA_wA, wA_s, id, nI_1]
        have e := fB_s (W := w) (ax := 0) (ay := 0) (n := w) (j := j) (i := i) (V := fun (i j : Nat) => I (clampZ i aw) (clampZ j ah)) (Z := y.2.2.1 76) hi (by omega)
        rw [← e]
        rfl
      · intro u
        dsimp only
        rw [fX15_fit_10.eq_2]
        refine ei_t (nI_le (Nat.le_refl _) (by omega)) ?_
        rw [fX15_fit_40, nI_1, fB_row]
    · intro m
      dsimp only
      rw [fX15_fit_2.eq_2]
      refine ei_t (nI_le (Nat.le_refl _) (by omega)) ?_
      unfold fX15_fit_46
      exact ob_v (rg_O rfl) (ob_v e' rfl)
  · refine FA.trans ?_ hF'
    exact ⟨fun o k _ => rfl, rfl, fun o _ o2 => wA_n _ _ o2⟩
end
