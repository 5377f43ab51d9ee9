/-! aboutPicture -/
/-- a sum over coefficients -/
def cfS (u : Int32 → Int32) (f : Nat → Int32) : Nat → Int32
  | 0 => 0
  | k + 1 => cfS u f k + u (f k)
theorem cfS_cong {u u' : Int32 → Int32} {f f' : Nat → Int32} : ∀ {n : Nat}, (∀ k, k < n → u (f k) = u' (f' k)) → cfS u f n = cfS u' f' n := by
  intro n
  induction n with
  | zero => intro _; rfl
  | succ n ih =>
    intro h
    rw [cfS, cfS, ih (fun k hk => h k (by omega)), h n (by omega)]
section
variable {X : px_X} {b B : Nat} {w0 w1 w : px_W} {x y : rg_S} {P : Nat} {g : gG}
theorem x_count (hP : isP P) {n : Nat} (hn : n ≤ 192) (h : x.1 P 5 = nI n) : fX2_countOthersThanZero X (rg_p lX B w0 x) (B + P) = some (cfS (fun v => if v = 0 then 0 else 1) (x.2.2.1 (P + 6)) (64 * n), rg_p lX B w0 x) := by
  unfold fX2_countOthersThanZero
  refine rg_lpF (F := fun m (q : Int32 × Int32) => fX2_countOthersThanZero_4 X m (B + P) q.1 q.2 (rg_p lX B w0 x)) (64 * n) (fun k => (cfS (fun v => if v = 0 then 0 else 1) (x.2.2.1 (P + 6)) k, nI k)) (by omega) ?_ ?_
  · intro m k hk
    dsimp only
    rw [fX2_countOthersThanZero_4.eq_2]
    refine ob_v (rg_I hP.o rfl) ?_
    rw [h, show (64 : Int32) * nI n = nI (64 * n) from pk_mul 64 n, if_neg (nI_ge hk (by omega))]
    refine ob_v (rg_C hP.o rfl) (ob_v (rg_A hP.a6 (by decide) k (by omega) (by decide)) ?_)
    unfold fX2_countOthersThanZero_30
    by_cases e : x.2.2.1 (P + 6) k = 0
    · rw [if_pos e, nI_1, cfS, if_pos e]
    · rw [if_neg e, nI_1, cfS, if_neg e]
  · intro m
    dsimp only
    rw [fX2_countOthersThanZero_4.eq_2]
    refine ob_v (rg_I hP.o rfl) ?_
    rw [h, show (64 : Int32) * nI n = nI (64 * n) from pk_mul 64 n, if_pos (nI_le (Nat.le_refl _) (by omega))]
theorem x_sum (hP : isP P) {n : Nat} (hn : n ≤ 192) (h : x.1 P 5 = nI n) : fX2_sumOfAmounts X (rg_p lX B w0 x) (B + P) = some (cfS mabs (x.2.2.1 (P + 6)) (64 * n), rg_p lX B w0 x) := by
  unfold fX2_sumOfAmounts
  refine rg_lpF (F := fun m (q : Int32 × Int32) => fX2_sumOfAmounts_4 X m (B + P) q.1 q.2 (rg_p lX B w0 x)) (64 * n) (fun k => (cfS mabs (x.2.2.1 (P + 6)) k, nI k)) (by omega) ?_ ?_
  · intro m k hk
    dsimp only
    rw [fX2_sumOfAmounts_4.eq_2]
    refine ob_v (rg_I hP.o rfl) ?_
    rw [h, show (64 : Int32) * nI n = nI (64 * n) from pk_mul 64 n, if_neg (nI_ge hk (by omega))]
    refine ob_v (rg_C hP.o rfl) (ob_v (rg_A hP.a6 (by decide) k (by omega) (by decide)) ?_)
    rw [nI_1, cfS]
  · intro m
    dsimp only
    rw [fX2_sumOfAmounts_4.eq_2]
    refine ob_v (rg_I hP.o rfl) ?_
    rw [h, show (64 : Int32) * nI n = nI (64 * n) from pk_mul 64 n, if_pos (nI_le (Nat.le_refl _) (by omega))]
theorem m_blocks (hg : gOk g) (h : mPic y g) : fX15_blocks X (rg_p lM b w0 y) (b + 0) = some (nI (gBs g g.2.2.1), rg_p lM b w0 y) := by
  obtain ⟨hf, _, _, _, _, h5⟩ := h
  have hc4 := hg.2.2.2.2.2.1
  unfold fX15_blocks
  refine rg_lpF (F := fun m (q : Int32 × Int32) => fX15_blocks_4 X m (b + 0) q.1 q.2 (rg_p lM b w0 y)) g.2.2.1 (fun k => (nI (gBs g k), nI k)) (by omega) ?_ ?_
  · intro m c hc
    dsimp only
    obtain ⟨e3, e4, e5⟩ := h5 c hc
    rw [fX15_blocks_4.eq_2]
    refine ob_v (rg_I rfl rfl) ?_
    rw [hf.2.2.1, if_neg (nI_ge hc (by omega))]
    refine ob_v (rg_C rfl rfl) (ob_v (rg_A rfl (by decide) c (by omega) (by decide)) (ob_v (rg_C rfl rfl) (ob_v (rg_A rfl (by decide) c (by omega) (by decide)) ?_)))
    rw [e3, e4, pk_mul, nI_add, nI_1]
    rfl
  · intro m
    dsimp only
    rw [fX15_blocks_4.eq_2]
    refine ob_v (rg_I rfl rfl) ?_
    rw [hf.2.2.1, if_pos (nI_le (Nat.le_refl _) (by omega))]
def mAb (v : Int32) : Int32 := if 0 ≤ v then v else -v
theorem m_sum (hg : gOk g) (hb : gBs g g.2.2.1 ≤ 192) (h : mPic y g) (a : Int32) : fX15_sum X (rg_p lM b w0 y) (b + 0) a = some (cfS (fun v => if a = 0 then (if mAb v ≤ 0 then 0 else 1) else mAb v) (y.2.2.1 64) (64 * gBs g g.2.2.1), rg_p lM b w0 y) := by
  unfold fX15_sum
  refine rg_lpF (F := fun m (q : Int32 × Int32) => fX15_sum_4 X m (b + 0) a q.1 q.2 (rg_p lM b w0 y)) (64 * gBs g g.2.2.1) (fun k => (cfS (fun v => if a = 0 then (if mAb v ≤ 0 then 0 else 1) else mAb v) (y.2.2.1 64) k, nI k)) (by omega) ?_ ?_
  · intro m k hk
    dsimp only
    rw [fX15_sum_4.eq_2]
    refine ob_v (rg_O rfl) (ob_v (m_blocks hg h) ?_)
    dsimp only
    rw [show (64 : Int32) * nI (gBs g g.2.2.1) = nI (64 * gBs g g.2.2.1) from pk_mul 64 _, if_neg (nI_ge hk (by omega))]
    have fin : fX15_sum_40 X (fX15_sum_4 X m) (b + 0) a (cfS (fun v => if a = 0 then (if mAb v ≤ 0 then 0 else 1) else mAb v) (y.2.2.1 64) k) (nI k) (mAb (y.2.2.1 64 k)) (rg_p lM b w0 y) = fX15_sum_4 X m (b + 0) a (cfS (fun v => if a = 0 then (if mAb v ≤ 0 then 0 else 1) else mAb v) (y.2.2.1 64) (k + 1)) (nI (k + 1)) (rg_p lM b w0 y) := by
      unfold fX15_sum_40 fX15_sum_62
      rw [cfS, nI_1]
      by_cases a0 : a = 0
      · rw [if_pos a0, if_pos a0]
        by_cases e : mAb (y.2.2.1 64 k) ≤ 0
        · rw [if_pos e, if_pos e]
        · rw [if_neg e, if_neg e]
      · rw [if_neg a0, if_neg a0]
    refine ob_v (rg_C rfl rfl) (ob_v (rg_A rfl (by decide) k (by omega) (by decide)) ?_)
    by_cases e : 0 ≤ y.2.2.1 64 k
    · refine ei_t e (ob_v (rg_C rfl rfl) (ob_v (rg_A rfl (by decide) k (by omega) (by decide)) ?_))
      rw [show mAb (y.2.2.1 64 k) = y.2.2.1 64 k from if_pos e] at fin
      exact fin
    · refine ei_n e (ob_v (rg_C rfl rfl) (ob_v (rg_A rfl (by decide) k (by omega) (by decide)) ?_))
      rw [show mAb (y.2.2.1 64 k) = -y.2.2.1 64 k from if_neg e] at fin
      exact fin
  · intro m
    dsimp only
    rw [fX15_sum_4.eq_2]
    refine ob_v (rg_O rfl) (ob_v (m_blocks hg h) ?_)
    dsimp only
    rw [show (64 : Int32) * nI (gBs g g.2.2.1) = nI (64 * gBs g g.2.2.1) from pk_mul 64 _, if_pos (nI_le (Nat.le_refl _) (by omega))]
theorem mAb_t {k : Nat} {v : Int32} (h : cfOk k v) : (mAb v).toInt = if 0 ≤ v.toInt then v.toInt else -v.toInt := by
  have e0 : (0 : Int32).toInt = 0 := by decide
  unfold cfOk at h
  have h0 : -1024 ≤ v.toInt := by split at h <;> omega
  unfold mAb
  by_cases e : 0 ≤ v
  · rw [if_pos e]
    rw [i_le, e0] at e
    rw [if_pos e]
  · rw [if_neg e]
    rw [i_le, e0] at e
    rw [if_neg e]
    conv => lhs; rw [iI_of v, iI_neg]
    exact iI_t (by omega) (by omega)
theorem mAb_0 {k : Nat} {v : Int32} (h : cfOk k v) : (if mAb v ≤ 0 then (0 : Int32) else 1) = if v = 0 then 0 else 1 := by
  have e0 : (0 : Int32).toInt = 0 := by decide
  have t := mAb_t h
  by_cases e : v = 0
  · rw [if_pos e, if_pos]
    rw [i_le, e0, t, e]
    decide
  · rw [if_neg e, if_neg]
    rw [i_le, e0, t]
    rw [i_eq, e0] at e
    split <;> omega
theorem mabs_e (v : Int32) : mabs v = mAb v := by
  unfold mabs mAb
  by_cases e : 0 ≤ v
  · rw [if_pos e, if_pos e]
  · rw [if_neg e, if_neg e]
    exact Int32.zero_sub v
theorem o_about (hr : Rel x y) (a : Int32) : op2 X B b (fun w => fX11_aboutPicture X w (B + 0) a) (fun w => fX15_aboutPicture X w (b + 0) a) x y := by
  obtain ⟨P, hP1, hR, h5⟩ := hr.2.2.2.2.2.1
  have hP : isP P := by unfold isP; omega
  unfold op2
  dsimp only
  unfold fX11_aboutPicture fX15_aboutPicture
  rcases h5 with ⟨t1, t2⟩ | ⟨t1, t2, g, hp⟩
  · exact ⟨-1, x, y, fun w0 => ob_v (rg_I rfl rfl) (ei_t t1 rfl), fun w0 => ob_v (rg_I rfl rfl) (ei_t t2 rfl), hr⟩
  have hc4 := hp.1.2.2.2.2.2.1
  have hb := hp.2.1
  have u1 : ¬ x.1 0 3 = 0 := by rw [t1]; decide
  have u2 : ¬ y.1 0 17 = 0 := by rw [t2]; decide
  have hx := hp.2.2.1
  have hy := hp.2.2.2.1
  have gx : ∀ w0 : px_W, gR (rg_p lX B w0 x) (B + 0) 11 4 = some (B + P) := fun w0 => by rw [← hR]; exact rg_R rfl rfl
  have iy : ∀ w0 : px_W, gI (rg_p lM b w0 y) (b + 0) 15 20 = some (nI g.2.2.1) := fun w0 => by rw [← hy.1.2.2.1]; exact rg_I rfl rfl
  have lt : ∀ n : Nat, n < 8 → nI n < 8 := fun n hn => nI_lt (b := 8) hn (by omega)
  unfold fX15_aboutPicture_88
  by_cases h0 : a = 0
  · subst h0
    refine ⟨y.1 0 18, x, y, fun w0 => ob_v (rg_I rfl rfl) (ei_n u1 (ei_t rfl (ob_v (gx w0) (ob_v (rg_I hP.o rfl) ?_)))), fun w0 => ob_v (rg_I rfl rfl) (ei_n u2 (ei_t (by decide) (ei_t rfl (ob_v (rg_I rfl rfl) rfl)))), hr⟩
    rw [hx.1.1, hy.1.1]
  by_cases h1 : a = 1
  · subst h1
    refine ⟨y.1 0 19, x, y, fun w0 => ob_v (rg_I rfl rfl) (ei_n u1 (ei_n h0 (ei_t rfl (ob_v (gx w0) (ob_v (rg_I hP.o rfl) ?_))))), fun w0 => ob_v (rg_I rfl rfl) (ei_n u2 (ei_t (by decide) (ei_n h0 (ei_t rfl (ob_v (rg_I rfl rfl) rfl))))), hr⟩
    rw [hx.1.2.1, hy.1.2.1]
  by_cases h2 : a = 2
  · subst h2
    refine ⟨y.1 0 20, x, y, fun w0 => ob_v (rg_I rfl rfl) (ei_n u1 (ei_n h0 (ei_n h1 (ei_t rfl (ob_v (gx w0) (ob_v (rg_I hP.o rfl) ?_)))))), fun w0 => ob_v (rg_I rfl rfl) (ei_n u2 (ei_t (by decide) (ei_n h0 (ei_n h1 (ei_t rfl (ob_v (rg_I rfl rfl) rfl)))))), hr⟩
    rw [hx.1.2.2.1, hy.1.2.2.1]
  by_cases h3 : a = 3
  · subst h3
    refine ⟨nI (gBs g g.2.2.1), x, y, fun w0 => ob_v (rg_I rfl rfl) (ei_n u1 (ei_n h0 (ei_n h1 (ei_n h2 (ei_t rfl (ob_v (gx w0) (ob_v (rg_I hP.o rfl) ?_))))))), fun w0 => ob_v (rg_I rfl rfl) (ei_n u2 (ei_t (by decide) (ei_n h0 (ei_n h1 (ei_n h2 (ei_t rfl (ob_v (rg_O rfl) (ob_v (m_blocks hp.1 hy) rfl)))))))), hr⟩
    rw [hx.2.2.2.1]
  by_cases h4 : a = 4
  · subst h4
    refine ⟨_, x, y, fun w0 => ob_v (rg_I rfl rfl) (ei_n u1 (ei_n h0 (ei_n h1 (ei_n h2 (ei_n h3 (ei_t rfl (ob_v (gx w0) (ob_v (rg_O hP.o) (ob_v (x_count hP hb hx.2.2.2.1) rfl))))))))), fun w0 => ob_v (rg_I rfl rfl) (ei_n u2 (ei_t (by decide) (ei_n h0 (ei_n h1 (ei_n h2 (ei_n h3 (ei_t rfl (ob_v (rg_O rfl) (ob_v (m_sum hp.1 hb hy 0) ?_))))))))), hr⟩
    dsimp only
    congr 2
    refine cfS_cong (fun k hk => ?_)
    have := hp.2.2.2.2.1 k hk
    rw [if_pos rfl, this.1]
    exact mAb_0 this.2
  by_cases h5 : a = 5
  · subst h5
    refine ⟨_, x, y, fun w0 => ob_v (rg_I rfl rfl) (ei_n u1 (ei_n h0 (ei_n h1 (ei_n h2 (ei_n h3 (ei_n h4 (ei_t rfl (ob_v (gx w0) (ob_v (rg_O hP.o) (ob_v (x_sum hP hb hx.2.2.2.1) rfl)))))))))), fun w0 => ob_v (rg_I rfl rfl) (ei_n u2 (ei_t (by decide) (ei_n h0 (ei_n h1 (ei_n h2 (ei_n h3 (ei_n h4 (ei_t rfl (ob_v (rg_O rfl) (ob_v (m_sum hp.1 hb hy 1) ?_)))))))))), hr⟩
    dsimp only
    congr 2
    refine cfS_cong (fun k hk => ?_)
    have := hp.2.2.2.2.1 k hk
    rw [if_neg n10, this.1, mabs_e]
  have e0 : (0 : Int32).toInt = 0 := by decide
  have e8 : (8 : Int32).toInt = 8 := by decide
  by_cases h6 : a < 8
  · refine ⟨-1, x, y, fun w0 => ob_v (rg_I rfl rfl) (ei_n u1 (ei_n h0 (ei_n h1 (ei_n h2 (ei_n h3 (ei_n h4 (ei_n h5 (ob_v (rg_O rfl) (ob_v (v := (-1, rg_p lX B w0 x)) ?_ rfl))))))))), fun w0 => ob_v (rg_I rfl rfl) (ei_n u2 (ei_t h6 (ei_n h0 (ei_n h1 (ei_n h2 (ei_n h3 (ei_n h4 (ei_n h5 rfl)))))))), hr⟩
    unfold fX11_aboutComponent
    by_cases hs : a - 8 < 0
    · exact ei_t hs rfl
    · refine ei_n hs (ob_v (gx w0) (ob_v (rg_I hP.o rfl) ?_))
      rw [hx.1.2.2.1, show (4 : Int32) * nI g.2.2.1 = nI (4 * g.2.2.1) from pk_mul 4 _]
      refine ei_n ?_ rfl
      rw [i_lt, e8] at h6
      rw [i_lt, e0] at hs
      have lo := i_lo a
      have tt : (a - 8).toInt = a.toInt - 8 ∨ (a - 8).toInt = a.toInt - 8 + 4294967296 := by
        rw [Int32.toInt_sub, e8]
        unfold Int.bmod
        have e32 : ((2 ^ 32 : Nat) : Int) = 4294967296 := by decide
        rw [e32]
        dsimp only
        split <;> omega
      rw [i_lt, n_t (by omega)]
      omega
  · have a8 : 8 ≤ a.toInt := by rw [i_lt, e8] at h6; omega
    have hi := i_hi a
    have ea : a = nI a.toInt.toNat := by rw [← iI_nat (by omega)]; exact iI_of a
    obtain ⟨t, ht8, ht, rfl⟩ : ∃ t, 8 ≤ t ∧ t < 2 ^ 31 ∧ a = nI t := ⟨a.toInt.toNat, by omega, by omega, ea⟩
    have s8 : nI t - 8 = nI (t - 8) := pk_sub (b := 8) ht8
    have n4 : (4 : Int32) * nI g.2.2.1 = nI (4 * g.2.2.1) := pk_mul 4 _
    have n84 : (8 : Int32) + nI (4 * g.2.2.1) = nI (8 + 4 * g.2.2.1) := nI_add 8 _
    have d4 : ∀ u, u < 2 ^ 31 → dI (nI u) 4 = some (nI (u / 4)) := fun u hu => dI_n (d := 4) hu (by decide) (by decide)
    have m4 : ∀ u, u < 2 ^ 31 → rI (nI u) 4 = some (nI (u % 4)) := fun u hu => rI_n (d := 4) hu (by decide) (by decide)
    have ec : (t - 8) / 4 = t / 4 - 2 := by omega
    have er : (t - 8) % 4 = t % 4 := by omega
    have s2 : nI (t / 4) - 2 = nI (t / 4 - 2) := pk_sub (b := 2) (by omega)
    by_cases hcmp : t < 8 + 4 * g.2.2.1
    · have hc : t / 4 - 2 < g.2.2.1 := by omega
      obtain ⟨x3, x4, x5⟩ := hx.2.2.2.2 _ hc
      obtain ⟨y3, y4, y5⟩ := hy.2.2.2.2.2 _ hc
      have x1 := hx.1.2.2.2.1 _ hc
      have x2 := hx.1.2.2.2.2 _ hc
      have y1 := hy.1.2.2.2.1 _ hc
      have y2 := hy.1.2.2.2.2 _ hc
      have cx : ∀ (v : Int32), (∀ w0 : px_W, fX11_aboutComponent X (rg_p lX B w0 x) (B + 0) (nI (t - 8)) = some (v, rg_p lX B w0 x)) → ∀ w0 : px_W, ((fX11_aboutComponent X (rg_p lX B w0 x) (B + 0) (nI t - 8)).bind fun q41 => some (q41.1, q41.2)) = some (v, rg_p lX B w0 x) := by
        intro v hv w0
        rw [s8]
        exact ob_v (hv w0) rfl
      have q : ∀ w0 : px_W, gI (rg_p lX B w0 x) (B + P) 2 2 = some (nI g.2.2.1) := fun w0 => by rw [← hx.1.2.2.1]; exact rg_I hP.o rfl
      rcases (show t % 4 = 0 ∨ t % 4 = 1 ∨ t % 4 = 2 ∨ t % 4 = 3 by omega) with r | r | r | r
      · refine ⟨nI (g.2.2.2.1 (t / 4 - 2)), x, y, fun w0 => ob_v (rg_I rfl rfl) (ei_n u1 (ei_n h0 (ei_n h1 (ei_n h2 (ei_n h3 (ei_n h4 (ei_n h5 (ob_v (rg_O rfl) (cx _ (fun w0 => ?_) w0))))))))), fun w0 => ob_v (rg_I rfl rfl) (ei_n u2 (ei_n h6 (ob_v (iy w0) ?_))), hr⟩
        · unfold fX11_aboutComponent
          refine ei_n (nI_pos (by omega)) (ob_v (gx w0) (ob_v (q w0) ?_))
          rw [n4]
          refine ei_t (nI_lt (by omega) (by omega)) (ob_v (d4 _ (by omega)) (ob_v (m4 _ (by omega)) ?_))
          rw [ec, er, r]
          refine ei_t rfl (ob_v (gx w0) (ob_v (rg_C hP.o rfl) (ob_v (rg_A hP.a1 (by decide) _ (by omega) (by decide)) ?_)))
          rw [x1]
        · rw [n4, n84]
          refine ei_n (nI_ge hcmp (by omega)) (ob_v (d4 _ ht) (ob_v (m4 _ ht) ?_))
          rw [r, s2]
          refine ei_t rfl (ob_v (rg_C rfl rfl) (ob_v (rg_A rfl (by decide) _ (by omega) (by decide)) ?_))
          rw [y1]
      · refine ⟨nI (g.2.2.2.2 (t / 4 - 2)), x, y, fun w0 => ob_v (rg_I rfl rfl) (ei_n u1 (ei_n h0 (ei_n h1 (ei_n h2 (ei_n h3 (ei_n h4 (ei_n h5 (ob_v (rg_O rfl) (cx _ (fun w0 => ?_) w0))))))))), fun w0 => ob_v (rg_I rfl rfl) (ei_n u2 (ei_n h6 (ob_v (iy w0) ?_))), hr⟩
        · unfold fX11_aboutComponent
          refine ei_n (nI_pos (by omega)) (ob_v (gx w0) (ob_v (q w0) ?_))
          rw [n4]
          refine ei_t (nI_lt (by omega) (by omega)) (ob_v (d4 _ (by omega)) (ob_v (m4 _ (by omega)) ?_))
          rw [ec, er, r]
          refine ei_n (by decide) (ei_t rfl (ob_v (gx w0) (ob_v (rg_C hP.o rfl) (ob_v (rg_A hP.a2 (by decide) _ (by omega) (by decide)) ?_))))
          rw [x2]
        · rw [n4, n84]
          refine ei_n (nI_ge hcmp (by omega)) (ob_v (d4 _ ht) (ob_v (m4 _ ht) ?_))
          rw [r, s2]
          refine ei_n (by decide) (ob_v (m4 _ ht) ?_)
          rw [r]
          refine ei_t rfl (ob_v (rg_C rfl rfl) (ob_v (rg_A rfl (by decide) _ (by omega) (by decide)) ?_))
          rw [y2]
      · refine ⟨nI (gAc g (t / 4 - 2)), x, y, fun w0 => ob_v (rg_I rfl rfl) (ei_n u1 (ei_n h0 (ei_n h1 (ei_n h2 (ei_n h3 (ei_n h4 (ei_n h5 (ob_v (rg_O rfl) (cx _ (fun w0 => ?_) w0))))))))), fun w0 => ob_v (rg_I rfl rfl) (ei_n u2 (ei_n h6 (ob_v (iy w0) ?_))), hr⟩
        · unfold fX11_aboutComponent
          refine ei_n (nI_pos (by omega)) (ob_v (gx w0) (ob_v (q w0) ?_))
          rw [n4]
          refine ei_t (nI_lt (by omega) (by omega)) (ob_v (d4 _ (by omega)) (ob_v (m4 _ (by omega)) ?_))
          rw [ec, er, r]
          refine ei_n (by decide) (ei_n (by decide) (ei_t rfl (ob_v (gx w0) (ob_v (rg_C hP.o rfl) (ob_v (rg_A hP.a3 (by decide) _ (by omega) (by decide)) ?_)))))
          rw [x3]
        · rw [n4, n84]
          refine ei_n (nI_ge hcmp (by omega)) (ob_v (d4 _ ht) (ob_v (m4 _ ht) ?_))
          rw [r, s2]
          refine ei_n (by decide) (ob_v (m4 _ ht) ?_)
          rw [r]
          refine ei_n (by decide) (ob_v (m4 _ ht) ?_)
          rw [r]
          refine ei_t rfl (ob_v (rg_C rfl rfl) (ob_v (rg_A rfl (by decide) _ (by omega) (by decide)) ?_))
          rw [y3]
      · refine ⟨nI (gDn g (t / 4 - 2)), x, y, fun w0 => ob_v (rg_I rfl rfl) (ei_n u1 (ei_n h0 (ei_n h1 (ei_n h2 (ei_n h3 (ei_n h4 (ei_n h5 (ob_v (rg_O rfl) (cx _ (fun w0 => ?_) w0))))))))), fun w0 => ob_v (rg_I rfl rfl) (ei_n u2 (ei_n h6 (ob_v (iy w0) ?_))), hr⟩
        · unfold fX11_aboutComponent
          refine ei_n (nI_pos (by omega)) (ob_v (gx w0) (ob_v (q w0) ?_))
          rw [n4]
          refine ei_t (nI_lt (by omega) (by omega)) (ob_v (d4 _ (by omega)) (ob_v (m4 _ (by omega)) ?_))
          rw [ec, er, r]
          refine ei_n (by decide) (ei_n (by decide) (ei_n (by decide) (ob_v (gx w0) (ob_v (rg_C hP.o rfl) (ob_v (rg_A hP.a4 (by decide) _ (by omega) (by decide)) ?_)))))
          rw [x4]
        · rw [n4, n84]
          refine ei_n (nI_ge hcmp (by omega)) (ob_v (d4 _ ht) (ob_v (m4 _ ht) ?_))
          rw [r, s2]
          refine ei_n (by decide) (ob_v (m4 _ ht) ?_)
          rw [r]
          refine ei_n (by decide) (ob_v (m4 _ ht) ?_)
          rw [r]
          refine ei_n (by decide) (ob_v (rg_C rfl rfl) (ob_v (rg_A rfl (by decide) _ (by omega) (by decide)) ?_))
          rw [y4]
    · refine ⟨-1, x, y, fun w0 => ob_v (rg_I rfl rfl) (ei_n u1 (ei_n h0 (ei_n h1 (ei_n h2 (ei_n h3 (ei_n h4 (ei_n h5 (ob_v (rg_O rfl) (ob_v (v := (-1, rg_p lX B w0 x)) ?_ rfl))))))))), fun w0 => ob_v (rg_I rfl rfl) (ei_n u2 (ei_n h6 (ob_v (iy w0) ?_))), hr⟩
      · unfold fX11_aboutComponent
        rw [s8]
        refine ei_n (nI_pos (by omega)) (ob_v (gx w0) (ob_v (rg_I hP.o rfl) ?_))
        rw [hx.1.2.2.1, n4]
        exact ei_n (nI_nlt (by omega) (by omega)) rfl
      · rw [n4, n84]
        exact ei_t (nI_le (by omega) (by omega)) (ei_n h0 (ei_n h1 (ei_n h2 (ei_n h3 (ei_n h4 (ei_n h5 rfl))))))
end
