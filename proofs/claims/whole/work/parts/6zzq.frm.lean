/-! the reference's shape and frame -/
theorem or_n {A C : Nat} (hA : A < 2 ^ 16) (hC : C < 2 ^ 16) : nI A ||| nI C = nI (A ||| C) := by
  have hAC : A ||| C < 2 ^ 16 := Nat.or_lt_two_pow hA hC
  apply Int32.toBitVec_inj.mp
  apply BitVec.eq_of_toNat_eq
  show (nI A ||| nI C).toBitVec.toNat = _
  rw [Int32.toBitVec_or, BitVec.toNat_or, pk_tn (by omega), pk_tn (by omega), pk_tn (by omega)]
theorem or_add {k a d : Nat} (ha : a < 2 ^ k) : a ||| d * 2 ^ k = a + d * 2 ^ k := by
  have := Nat.shiftLeft_add_eq_or_of_lt ha d
  rw [Nat.shiftLeft_eq] at this
  rw [Nat.or_comm, ← this, Nat.add_comm]
theorem sm_8 {n : Nat} (h : n ≤ 8) : ((nI n &&& 31).toBitVec.smod 32).toNat = n := by
  rcases (show n = 0 ∨ n = 1 ∨ n = 2 ∨ n = 3 ∨ n = 4 ∨ n = 5 ∨ n = 6 ∨ n = 7 ∨ n = 8 by omega) with rfl | rfl | rfl | rfl | rfl | rfl | rfl | rfl | rfl <;> decide
/-- a shape's number -/
def shN (g : gG) : Nat → Nat
  | 0 => 0
  | c + 1 => shN g c + (g.2.2.2.1 c - 1) * 2 ^ (2 * c) + (g.2.2.2.2 c - 1) * 2 ^ (2 * c + 1)
def sS (S : Int32) (g : gG) : Prop := (∃ s, s < 2 ^ (2 * g.2.2.1) ∧ S = nI s) ∧ ∀ c, c < g.2.2.1 → ((S >>> ((2 * nI c) &&& 31)) &&& 1) = nI (g.2.2.2.1 c - 1) ∧ ((S >>> (((2 * nI c) + 1) &&& 31)) &&& 1) = nI (g.2.2.2.2 c - 1)
section
variable {X : px_X} {b B : Nat} {w0 w1 w : px_W} {y y' : rg_S} {g : gG}
theorem shN_lt (hg : gOk g) : ∀ c, c ≤ g.2.2.1 → shN g c < 2 ^ (2 * c)
  | 0, _ => (show 0 < 1 by decide)
  | c + 1, hc => by
    have i := shN_lt hg c (by omega)
    have f := hg.2.2.2.2.2.2 c (by omega)
    rw [shN.eq_2, show 2 * (c + 1) = 2 * c + 1 + 1 by omega, Nat.pow_succ, Nat.pow_succ]
    have a1 : (g.2.2.2.1 c - 1) * 2 ^ (2 * c) ≤ 1 * 2 ^ (2 * c) := Nat.mul_le_mul_right _ (by omega)
    have a2 : (g.2.2.2.2 c - 1) * (2 ^ (2 * c) * 2) ≤ 1 * (2 ^ (2 * c) * 2) := Nat.mul_le_mul_right _ (by omega)
    omega
theorem shN_s (hg : gOk g) {c : Nat} (hc : c < g.2.2.1) : nI (shN g c) ||| ((nI (g.2.2.2.1 c - 1) <<< (nI (2 * c) &&& 31)) ||| (nI (g.2.2.2.2 c - 1) <<< (nI (2 * c + 1) &&& 31))) = nI (shN g (c + 1)) := by
  have h4 := hg.2.2.2.2.2.1
  have i := shN_lt hg c (by omega)
  have f := hg.2.2.2.2.2.2 c hc
  have pw : 2 ^ (2 * c) ≤ 2 ^ 6 := Nat.pow_le_pow_right (by decide) (by omega)
  have pe : 2 ^ (2 * c + 1) = 2 ^ (2 * c) * 2 := Nat.pow_succ _ _
  have a1 : (g.2.2.2.1 c - 1) * 2 ^ (2 * c) ≤ 1 * 2 ^ (2 * c) := Nat.mul_le_mul_right _ (by omega)
  have a2 : (g.2.2.2.2 c - 1) * 2 ^ (2 * c + 1) ≤ 1 * 2 ^ (2 * c + 1) := Nat.mul_le_mul_right _ (by omega)
  rw [pk_shlN _ (2 * c) (sm_8 (by omega)) (by omega), pk_shlN _ (2 * c + 1) (sm_8 (by omega)) (by omega), or_n (by omega) (by omega)]
  have o1 : (g.2.2.2.1 c - 1) * 2 ^ (2 * c) ||| (g.2.2.2.2 c - 1) * 2 ^ (2 * c + 1) = ((g.2.2.2.1 c - 1) + (g.2.2.2.2 c - 1) * 2) * 2 ^ (2 * c) := by
    rw [or_add (by rw [pe]; omega), pe, Nat.add_mul, Nat.mul_assoc, Nat.mul_comm 2 (2 ^ (2 * c))]
  have a3 : ((g.2.2.2.1 c - 1) + (g.2.2.2.2 c - 1) * 2) * 2 ^ (2 * c) ≤ 3 * 2 ^ (2 * c) := Nat.mul_le_mul_right _ (by omega)
  rw [o1, or_n (by omega) (by omega), or_add i, shN.eq_2, pe, Nat.add_mul, Nat.mul_assoc, Nat.mul_comm 2 (2 ^ (2 * c)), Nat.add_assoc]
theorem shN_bit (hg : gOk g) {c : Nat} (hc : c < g.2.2.1) : shN g g.2.2.1 / 2 ^ (2 * c) % 2 = g.2.2.2.1 c - 1 ∧ shN g g.2.2.1 / 2 ^ (2 * c + 1) % 2 = g.2.2.2.2 c - 1 := by
  have h4 := hg.2.2.2.2.2.1
  have h1 := hg.2.2.2.2.1
  have f := hg.2.2.2.2.2.2
  generalize hn : g.2.2.1 = n at *
  have e0 : shN g 0 = 0 := rfl
  have e1 : shN g 1 = shN g 0 + (g.2.2.2.1 0 - 1) * 1 + (g.2.2.2.2 0 - 1) * 2 := rfl
  have e2 : shN g 2 = shN g 1 + (g.2.2.2.1 1 - 1) * 4 + (g.2.2.2.2 1 - 1) * 8 := rfl
  have e3 : shN g 3 = shN g 2 + (g.2.2.2.1 2 - 1) * 16 + (g.2.2.2.2 2 - 1) * 32 := rfl
  have e4 : shN g 4 = shN g 3 + (g.2.2.2.1 3 - 1) * 64 + (g.2.2.2.2 3 - 1) * 128 := rfl
  have hn' : n = 1 ∨ n = 2 ∨ n = 3 ∨ n = 4 := by omega
  rcases hn' with rfl | rfl | rfl | rfl
  · obtain rfl : c = 0 := by omega
    have f0 := f 0 (by decide)
    show _ / 1 % 2 = _ ∧ _ / 2 % 2 = _
    omega
  · have f0 := f 0 (by decide)
    have f1 := f 1 (by decide)
    rcases (show c = 0 ∨ c = 1 by omega) with rfl | rfl
    · show _ / 1 % 2 = _ ∧ _ / 2 % 2 = _
      omega
    · show _ / 4 % 2 = _ ∧ _ / 8 % 2 = _
      omega
  · have f0 := f 0 (by decide)
    have f1 := f 1 (by decide)
    have f2 := f 2 (by decide)
    rcases (show c = 0 ∨ c = 1 ∨ c = 2 by omega) with rfl | rfl | rfl
    · show _ / 1 % 2 = _ ∧ _ / 2 % 2 = _
      omega
    · show _ / 4 % 2 = _ ∧ _ / 8 % 2 = _
      omega
    · show _ / 16 % 2 = _ ∧ _ / 32 % 2 = _
      omega
  · have f0 := f 0 (by decide)
    have f1 := f 1 (by decide)
    have f2 := f 2 (by decide)
    have f3 := f 3 (by decide)
    rcases (show c = 0 ∨ c = 1 ∨ c = 2 ∨ c = 3 by omega) with rfl | rfl | rfl | rfl
    · show _ / 1 % 2 = _ ∧ _ / 2 % 2 = _
      omega
    · show _ / 4 % 2 = _ ∧ _ / 8 % 2 = _
      omega
    · show _ / 16 % 2 = _ ∧ _ / 32 % 2 = _
      omega
    · show _ / 64 % 2 = _ ∧ _ / 128 % 2 = _
      omega
theorem shN_S (hg : gOk g) : sS (nI (shN g g.2.2.1)) g := by
  have h4 := hg.2.2.2.2.2.1
  have l := shN_lt hg g.2.2.1 (Nat.le_refl _)
  have pw : 2 ^ (2 * g.2.2.1) ≤ 2 ^ 8 := Nat.pow_le_pow_right (by decide) (by omega)
  refine ⟨⟨_, l, rfl⟩, fun c hc => ?_⟩
  have bt' := shN_bit hg hc
  rw [show (2 : Int32) * nI c = nI (2 * c) from pk_mul 2 c, show nI (2 * c) + 1 = nI (2 * c + 1) from nI_1 _]
  constructor
  · rw [pk_shrN (by omega) _ (2 * c) (sm_8 (by omega)), pk_andN (Nat.lt_of_le_of_lt (Nat.div_le_self _ _) (by omega)) 1 (by decide), show (2 : Nat) ^ 1 = 2 from rfl, bt'.1]
  · rw [pk_shrN (by omega) _ (2 * c + 1) (sm_8 (by omega)), pk_andN (Nat.lt_of_le_of_lt (Nat.div_le_self _ _) (by omega)) 1 (by decide), show (2 : Nat) ^ 1 = 2 from rfl, bt'.2]
theorem m_shape (hg : gOk g) (h : mFr y g) : fX15_shape X (rg_p lM b w0 y) (b + 0) = some (nI (shN g g.2.2.1), rg_p lM b w0 y) := by
  have h4 := hg.2.2.2.2.2.1
  obtain ⟨_, _, h20, hh, hv⟩ := h
  have lp : ∀ (k M c : Nat), c + k = g.2.2.1 → k < M → fX15_shape_4 X M (b + 0) (nI (shN g c)) (nI c) (rg_p lM b w0 y) = some (nI (shN g g.2.2.1), rg_p lM b w0 y) := by
    intro k
    induction k with
    | zero =>
      intro M c hc hM
      obtain rfl : c = g.2.2.1 := by omega
      obtain ⟨M, rfl⟩ : ∃ M', M = M' + 1 := ⟨M - 1, by omega⟩
      rw [fX15_shape_4.eq_2]
      refine ob_v (rg_I rfl rfl) ?_
      rw [h20]
      exact ei_t (nI_le (Nat.le_refl _) (by omega)) rfl
    | succ k ih =>
      intro M c hc hM
      obtain ⟨M, rfl⟩ : ∃ M', M = M' + 1 := ⟨M - 1, by omega⟩
      have f := hg.2.2.2.2.2.2 c (by omega)
      rw [fX15_shape_4.eq_2]
      refine ob_v (rg_I rfl rfl) ?_
      rw [h20]
      refine ei_n (nI_ge (by omega) (by omega)) (ob_v (rg_C rfl rfl) (ob_v (rg_A rfl (by decide) _ (by omega) (by decide)) (ob_v (rg_C rfl rfl) (ob_v (rg_A rfl (by decide) _ (by omega) (by decide)) ?_))))
      rw [hh c (by omega), hv c (by omega), show nI (g.2.2.2.1 c) - 1 = nI (g.2.2.2.1 c - 1) from pk_sub (b := 1) f.1.1, show nI (g.2.2.2.2 c) - 1 = nI (g.2.2.2.2 c - 1) from pk_sub (b := 1) f.2.1, show (2 : Int32) * nI c = nI (2 * c) from pk_mul 2 c, nI_1 (2 * c), shN_s hg (by omega), nI_1]
      exact ih M (c + 1) (by omega) (by omega)
  unfold fX15_shape
  exact lp g.2.2.1 FU 0 (by omega) (by unfold FU; omega)
theorem m_upS {a d : Nat} (ha : a < 65536) (hd : 1 ≤ d) (hd2 : d < 65536) : fX13_up X w (nI a) (nI d) = some (nI (gUp a d), w) := by
  unfold fX13_up
  rw [nI_add, show nI (a + d) - 1 = nI (a + d - 1) from pk_sub (b := 1) (by omega)]
  exact ob_v (dI_n (a := a + d - 1) (d := d) (by omega) (by omega) (by omega)) rfl
theorem m_lay9 {S a1 a2 : Int32} (hg : gOk g) (hS : sS S g) : ∀ (k M c : Nat), c + k = g.2.2.1 → k < M → fX13_lay_9 X M (b + 24) a1 a2 (nI g.2.2.1) S (nI (gMx g.2.2.2.1 c)) (nI (gMx g.2.2.2.2 c)) (nI c) w = fX13_lay_65 X (b + 24) a1 a2 (nI g.2.2.1) S (nI (gH g)) (nI (gV_ g)) w := by
  have h4 := hg.2.2.2.2.2.1
  intro k
  induction k with
  | zero =>
    intro M c hc hM
    obtain rfl : c = g.2.2.1 := by omega
    obtain ⟨M, rfl⟩ : ∃ M', M = M' + 1 := ⟨M - 1, by omega⟩
    rw [fX13_lay_9.eq_2]
    exact ei_t (nI_le (Nat.le_refl _) (by omega)) rfl
  | succ k ih =>
    intro M c hc hM
    obtain ⟨M, rfl⟩ : ∃ M', M = M' + 1 := ⟨M - 1, by omega⟩
    have f := hg.2.2.2.2.2.2 c (by omega)
    have hb := hS.2 c (by omega)
    have m1 := gMx_in (f := g.2.2.2.1) (n := c) (fun c' hc' => (hg.2.2.2.2.2.2 c' (by omega)).1)
    have m2 := gMx_in (f := g.2.2.2.2) (n := c) (fun c' hc' => (hg.2.2.2.2.2.2 c' (by omega)).2)
    have e := ih M (c + 1) (by omega) (by omega)
    rw [gMx.eq_2, gMx.eq_2] at e
    have e57 : ∀ u, u = nI (max (gMx g.2.2.2.1 c) (g.2.2.2.1 c)) → fX13_lay_34 X (fX13_lay_9 X M) (b + 24) a1 a2 (nI g.2.2.1) S (nI (gMx g.2.2.2.2 c)) (nI c) u w = fX13_lay_65 X (b + 24) a1 a2 (nI g.2.2.1) S (nI (gH g)) (nI (gV_ g)) w := by
      intro u hu
      unfold fX13_lay_34 fX13_lay_57
      rw [hb.2, hu, nI_1]
      by_cases q : g.2.2.2.2 c = 2
      · rw [Nat.max_eq_right (a := gMx g.2.2.2.2 c) (by omega), q] at e
        exact ei_t (by rw [q]; rfl) e
      · rw [Nat.max_eq_left (a := gMx g.2.2.2.2 c) (by omega)] at e
        exact ei_n (by rw [show g.2.2.2.2 c = 1 by omega]; decide) e
    rw [fX13_lay_9.eq_2]
    refine ei_n (nI_ge (by omega) (by omega)) ?_
    rw [hb.1]
    by_cases q : g.2.2.2.1 c = 2
    · exact ei_t (by rw [q]; rfl) (e57 _ (by rw [Nat.max_eq_right (by omega), q]; rfl))
    · exact ei_n (by rw [show g.2.2.2.1 c = 1 by omega]; decide) (e57 _ (by rw [Nat.max_eq_left (by omega)]))
theorem m_lay93 {S a1 a2 a5 a6 : Int32} (hg : gOk g) (hS : sS S g) : ∀ (k M c : Nat), c + k = g.2.2.1 → k < M → fX13_lay_93 X M (b + 24) a1 a2 (nI g.2.2.1) S a5 a6 (nI (gBs g c)) (nI (gUA g)) (nI (gUD g)) (nI c) w = fX13_lay_141 X (b + 24) a1 a2 (nI g.2.2.1) S a5 a6 (nI (gBs g g.2.2.1)) (nI (gUA g)) (nI (gUD g)) w := by
  have h4 := hg.2.2.2.2.2.1
  intro k
  induction k with
  | zero =>
    intro M c hc hM
    obtain rfl : c = g.2.2.1 := by omega
    obtain ⟨M, rfl⟩ : ∃ M', M = M' + 1 := ⟨M - 1, by omega⟩
    rw [fX13_lay_93.eq_2]
    exact ei_t (nI_le (Nat.le_refl _) (by omega)) rfl
  | succ k ih =>
    intro M c hc hM
    obtain ⟨M, rfl⟩ : ∃ M', M = M' + 1 := ⟨M - 1, by omega⟩
    have f := hg.2.2.2.2.2.2 c (by omega)
    have hb := hS.2 c (by omega)
    have e := ih M (c + 1) (by omega) (by omega)
    rw [fX13_lay_93.eq_2]
    refine ei_n (nI_ge (by omega) (by omega)) ?_
    rw [hb.1, hb.2, show (1 : Int32) + nI (g.2.2.2.1 c - 1) = nI (g.2.2.2.1 c) by rw [show (1 : Int32) = nI 1 from rfl, nI_add]; congr 1; omega, show (1 : Int32) + nI (g.2.2.2.2 c - 1) = nI (g.2.2.2.2 c) by rw [show (1 : Int32) = nI 1 from rfl, nI_add]; congr 1; omega, pk_mul, pk_mul, pk_mul, nI_add, nI_1]
    have : gBs g (c + 1) = gBs g c + gUA g * gUD g * g.2.2.2.1 c * g.2.2.2.2 c := by
      show gBs g c + gAc g c * gDn g c = _
      unfold gAc gDn
      congr 1
      rw [Nat.mul_assoc, Nat.mul_assoc, Nat.mul_assoc]
      congr 1
      rw [Nat.mul_left_comm]
    rw [this] at e
    exact e
/-- what is laid, up to a component -/
def lyY (y0 : rg_S) (g : gG) (c : Nat) (y : rg_S) : Prop := y.1 = y0.1 ∧ y.2.1 = y0.2.1 ∧ (∀ p, ¬ (25 ≤ p ∧ p ≤ 31) → y.2.2.1 p = y0.2.2.1 p) ∧ ∀ i, i < c → (y.2.2.1 25 i = nI (g.2.2.2.1 i) ∧ y.2.2.1 26 i = nI (g.2.2.2.2 i) ∧ y.2.2.1 27 i = nI (gAc g i) ∧ y.2.2.1 29 i = nI (gOA g i) ∧ y.2.2.1 30 i = nI (gOD g i)) ∧ y.2.2.1 31 i = nI (gBs g i)
theorem m_lay185 {S a7 : Int32} {y0 : rg_S} (hg : gOk g) (hS : sS S g) : ∀ (k M c : Nat) (y : rg_S), c + k = g.2.2.1 → k < M → lyY y0 g c y → ∃ y', fX13_lay_185 X M (b + 24) (nI g.1) (nI g.2.1) (nI g.2.2.1) S (nI (gH g)) (nI (gV_ g)) a7 (nI (gUA g)) (nI (gUD g)) (nI (gBs g c)) (nI c) (rg_p lM b w0 y) = some (a7, rg_p lM b w0 y') ∧ lyY y0 g g.2.2.1 y' := by
  have h4 := hg.2.2.2.2.2.1
  have hh := hg.h
  have hv := hg.v
  intro k
  induction k with
  | zero =>
    intro M c y hc hM h
    obtain rfl : c = g.2.2.1 := by omega
    obtain ⟨M, rfl⟩ : ∃ M', M = M' + 1 := ⟨M - 1, by omega⟩
    refine ⟨y, ?_, h⟩
    rw [fX13_lay_185.eq_2]
    exact ei_t (nI_le (Nat.le_refl _) (by omega)) rfl
  | succ k ih =>
    intro M c y hc hM h
    obtain ⟨M, rfl⟩ : ∃ M', M = M' + 1 := ⟨M - 1, by omega⟩
    have c4 : c < 4 := by omega
    have f := hg.2.2.2.2.2.2 c (by omega)
    have hb := hS.2 c (by omega)
    have mu : g.1 * g.2.2.2.1 c ≤ 64 * 2 := Nat.mul_le_mul hg.2.1 f.1.2
    have mv : g.2.1 * g.2.2.2.2 c ≤ 64 * 2 := Nat.mul_le_mul hg.2.2.2.1 f.2.2
    have ub : gUp (g.1 * g.2.2.2.1 c) (gH g) < 65536 := Nat.lt_of_le_of_lt (Nat.div_le_self _ _) (by omega)
    have vb' : gUp (g.2.1 * g.2.2.2.2 c) (gV_ g) < 65536 := Nat.lt_of_le_of_lt (Nat.div_le_self _ _) (by omega)
    generalize h1 : rg_wA y 25 (upd (y.2.2.1 25) c (nI (g.2.2.2.1 c))) = y1
    have a1 : y1.2.2.1 25 c = nI (g.2.2.2.1 c) := by rw [← h1, wA_s, pk_us]
    generalize h2 : rg_wA y1 26 (upd (y1.2.2.1 26) c (nI (g.2.2.2.2 c))) = y2
    have a2 : y2.2.2.1 25 c = nI (g.2.2.2.1 c) ∧ y2.2.2.1 26 c = nI (g.2.2.2.2 c) := by rw [← h2, wA_n _ _ (by decide), wA_s, pk_us]; exact ⟨a1, rfl⟩
    generalize h3 : rg_wA y2 27 (upd (y2.2.2.1 27) c (nI (gAc g c))) = y3
    have a3 : y3.2.2.1 25 c = nI (g.2.2.2.1 c) ∧ y3.2.2.1 26 c = nI (g.2.2.2.2 c) ∧ y3.2.2.1 27 c = nI (gAc g c) := by rw [← h3, wA_n _ _ (by decide), wA_n _ _ (by decide), wA_s, pk_us]; exact ⟨a2.1, a2.2, rfl⟩
    generalize h4' : rg_wA y3 28 (upd (y3.2.2.1 28) c (nI (gDn g c))) = y4
    have a4 : y4.2.2.1 25 c = nI (g.2.2.2.1 c) ∧ y4.2.2.1 26 c = nI (g.2.2.2.2 c) ∧ y4.2.2.1 27 c = nI (gAc g c) ∧ y4.2.2.1 28 c = nI (gDn g c) := by rw [← h4', wA_n _ _ (by decide), wA_n _ _ (by decide), wA_n _ _ (by decide), wA_s, pk_us]; exact ⟨a3.1, a3.2.1, a3.2.2, rfl⟩
    generalize h5 : rg_wA y4 29 (upd (y4.2.2.1 29) c (nI (gOA g c))) = y5
    have a5 : y5.2.2.1 25 c = nI (g.2.2.2.1 c) ∧ y5.2.2.1 26 c = nI (g.2.2.2.2 c) ∧ y5.2.2.1 27 c = nI (gAc g c) ∧ y5.2.2.1 28 c = nI (gDn g c) ∧ y5.2.2.1 29 c = nI (gOA g c) := by rw [← h5, wA_n _ _ (by decide), wA_n _ _ (by decide), wA_n _ _ (by decide), wA_n _ _ (by decide), wA_s, pk_us]; exact ⟨a4.1, a4.2.1, a4.2.2.1, a4.2.2.2, rfl⟩
    generalize h6 : rg_wA y5 30 (upd (y5.2.2.1 30) c (nI (gOD g c))) = y6
    have a6 : y6.2.2.1 25 c = nI (g.2.2.2.1 c) ∧ y6.2.2.1 26 c = nI (g.2.2.2.2 c) ∧ y6.2.2.1 27 c = nI (gAc g c) ∧ y6.2.2.1 28 c = nI (gDn g c) ∧ y6.2.2.1 29 c = nI (gOA g c) ∧ y6.2.2.1 30 c = nI (gOD g c) := by rw [← h6, wA_n _ _ (by decide), wA_n _ _ (by decide), wA_n _ _ (by decide), wA_n _ _ (by decide), wA_n _ _ (by decide), wA_s, pk_us]; exact ⟨a5.1, a5.2.1, a5.2.2.1, a5.2.2.2.1, a5.2.2.2.2, rfl⟩
    generalize h7 : rg_wA y6 31 (upd (y6.2.2.1 31) c (nI (gBs g c))) = y7
    have a7' : y7.2.2.1 25 c = nI (g.2.2.2.1 c) ∧ y7.2.2.1 26 c = nI (g.2.2.2.2 c) ∧ y7.2.2.1 27 c = nI (gAc g c) ∧ y7.2.2.1 28 c = nI (gDn g c) ∧ y7.2.2.1 29 c = nI (gOA g c) ∧ y7.2.2.1 30 c = nI (gOD g c) ∧ y7.2.2.1 31 c = nI (gBs g c) := by rw [← h7, wA_n _ _ (by decide), wA_n _ _ (by decide), wA_n _ _ (by decide), wA_n _ _ (by decide), wA_n _ _ (by decide), wA_n _ _ (by decide), wA_s, pk_us]; exact ⟨a6.1, a6.2.1, a6.2.2.1, a6.2.2.2.1, a6.2.2.2.2.1, a6.2.2.2.2.2, rfl⟩
    have keep : ∀ q i, i ≠ c → y7.2.2.1 q i = y.2.2.1 q i := by
      intro q i hi
      rw [← h7, ← h6, ← h5, ← h4', ← h3, ← h2, ← h1]
      have st : ∀ (z : rg_S) (o : Nat) (v : Int32), (rg_wA z o (upd (z.2.2.1 o) c v)).2.2.1 q i = z.2.2.1 q i := by
        intro z o v
        by_cases e : q = o
        · rw [e, wA_s, pk_un hi]
        · rw [wA_n _ _ e]
      rw [st, st, st, st, st, st, st]
    have other : ∀ q, ¬ (25 ≤ q ∧ q ≤ 31) → y7.2.2.1 q = y.2.2.1 q := by
      intro q hq
      rw [← h7, ← h6, ← h5, ← h4', ← h3, ← h2, ← h1, wA_n _ _ (by omega), wA_n _ _ (by omega), wA_n _ _ (by omega), wA_n _ _ (by omega), wA_n _ _ (by omega), wA_n _ _ (by omega), wA_n _ _ (by omega)]
    have hl : lyY y0 g (c + 1) y7 := by
      obtain ⟨i1, i2, i3, i4⟩ := h
      refine ⟨?_, ?_, fun q hq => (other q hq).trans (i3 q hq), fun i hi => ?_⟩
      · rw [← h7, ← h6, ← h5, ← h4', ← h3, ← h2, ← h1]
        exact i1
      · rw [← h7, ← h6, ← h5, ← h4', ← h3, ← h2, ← h1]
        exact i2
      · by_cases e : i = c
        · rw [e]
          exact ⟨⟨a7'.1, a7'.2.1, a7'.2.2.1, a7'.2.2.2.2.1, a7'.2.2.2.2.2.1⟩, a7'.2.2.2.2.2.2⟩
        · rw [keep 25 i e, keep 26 i e, keep 27 i e, keep 29 i e, keep 30 i e, keep 31 i e]
          exact i4 i (by omega)
    obtain ⟨y8, e8, h8⟩ := ih M (c + 1) y7 (by omega) (by omega) hl
    refine ⟨y8, ?_, h8⟩
    rw [fX13_lay_185.eq_2]
    refine ei_n (nI_ge (by omega) (by omega)) (ob_v (rg_C rfl rfl) ?_)
    rw [hb.1, hb.2, show (1 : Int32) + nI (g.2.2.2.1 c - 1) = nI (g.2.2.2.1 c) by rw [show (1 : Int32) = nI 1 from rfl, nI_add]; congr 1; omega, show (1 : Int32) + nI (g.2.2.2.2 c - 1) = nI (g.2.2.2.2 c) by rw [show (1 : Int32) = nI 1 from rfl, nI_add]; congr 1; omega]
    refine ob_v (rg_sA _ rfl (by decide) _ _ c4 (by decide)) ?_
    rw [id, h1]
    refine ob_v (rg_C rfl rfl) (ob_v (rg_sA _ rfl (by decide) _ _ c4 (by decide)) ?_)
    rw [id, h2]
    refine ob_v (rg_C rfl rfl) (ob_v (rg_C rfl rfl) (ob_v (rg_A rfl (by decide) _ c4 (by decide)) ?_))
    rw [a2.1, pk_mul]
    refine ob_v (rg_sA _ rfl (by decide) _ _ c4 (by decide)) ?_
    rw [id, show gUA g * g.2.2.2.1 c = gAc g c from rfl, h3]
    refine ob_v (rg_C rfl rfl) (ob_v (rg_C rfl rfl) (ob_v (rg_A rfl (by decide) _ c4 (by decide)) ?_))
    rw [a3.2.1, pk_mul]
    refine ob_v (rg_sA _ rfl (by decide) _ _ c4 (by decide)) ?_
    rw [id, show gUD g * g.2.2.2.2 c = gDn g c from rfl, h4']
    refine ob_v (rg_C rfl rfl) (ob_v (rg_C rfl rfl) (ob_v (rg_A rfl (by decide) _ c4 (by decide)) ?_))
    rw [a4.1, pk_mul]
    refine ob_v (m_upS (by omega) (by omega) (by omega)) (ob_v (m_upS (d := 8) ub (by decide) (by decide)) ?_)
    refine ob_v (rg_sA _ rfl (by decide) _ _ c4 (by decide)) ?_
    rw [id, show gUp (gUp (g.1 * g.2.2.2.1 c) (gH g)) 8 = gOA g c from rfl, h5]
    refine ob_v (rg_C rfl rfl) (ob_v (rg_C rfl rfl) (ob_v (rg_A rfl (by decide) _ c4 (by decide)) ?_))
    rw [a5.2.1, pk_mul]
    refine ob_v (m_upS (by omega) (by omega) (by omega)) (ob_v (m_upS (d := 8) vb' (by decide) (by decide)) ?_)
    refine ob_v (rg_sA _ rfl (by decide) _ _ c4 (by decide)) ?_
    rw [id, show gUp (gUp (g.2.1 * g.2.2.2.2 c) (gV_ g)) 8 = gOD g c from rfl, h6]
    refine ob_v (rg_C rfl rfl) (ob_v (rg_sA _ rfl (by decide) _ _ c4 (by decide)) ?_)
    rw [id, h7]
    refine ob_v (rg_C rfl rfl) (ob_v (rg_A rfl (by decide) _ c4 (by decide)) (ob_v (rg_C rfl rfl) (ob_v (rg_A rfl (by decide) _ c4 (by decide)) ?_)))
    rw [a7'.2.2.1, a7'.2.2.2.1, pk_mul, nI_add, nI_1]
    exact e8
end
