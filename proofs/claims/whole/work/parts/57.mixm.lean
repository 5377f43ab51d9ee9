/-! mixCanvas of the reference -/
def mnP (y : rg_S) (k i : Nat) : Nat → Int32 := fun t => if t < 3072 ∧ t % 1024 < i then mxT k (t / 1024) (y.2.2.1 72 (t % 1024)) (y.2.2.1 72 (1024 + t % 1024)) (y.2.2.1 72 (2048 + t % 1024)) (y.2.2.1 72 (3072 + t % 1024)) else y.2.2.1 72 t
theorem mnP_0 (y : rg_S) (k : Nat) : mnP y k 0 = y.2.2.1 72 := by
  funext t
  unfold mnP
  rw [if_neg (by omega)]
theorem mnP_at {y : rg_S} {k i t : Nat} (h : t % 1024 = i ∨ 3072 ≤ t) : mnP y k i t = y.2.2.1 72 t := by
  unfold mnP
  rw [if_neg (by omega)]
theorem mnP_s {y : rg_S} {k i : Nat} (hi : i < 1024) : upd (upd (upd (mnP y k i) i (mxT k 0 (y.2.2.1 72 i) (y.2.2.1 72 (1024 + i)) (y.2.2.1 72 (2048 + i)) (y.2.2.1 72 (3072 + i)))) (1024 + i) (mxT k 1 (y.2.2.1 72 i) (y.2.2.1 72 (1024 + i)) (y.2.2.1 72 (2048 + i)) (y.2.2.1 72 (3072 + i)))) (2048 + i) (mxT k 2 (y.2.2.1 72 i) (y.2.2.1 72 (1024 + i)) (y.2.2.1 72 (2048 + i)) (y.2.2.1 72 (3072 + i))) = mnP y k (i + 1) := by
  funext t
  have e : ∀ q, q < 3 → t = 1024 * q + i → mnP y k (i + 1) t = mxT k q (y.2.2.1 72 i) (y.2.2.1 72 (1024 + i)) (y.2.2.1 72 (2048 + i)) (y.2.2.1 72 (3072 + i)) := by
    intro q hq ht
    unfold mnP
    rw [if_pos (by omega), show t / 1024 = q by omega, show t % 1024 = i by omega]
  by_cases h2 : t = 2048 + i
  · rw [e 2 (by decide) h2]
    subst h2
    exact if_pos rfl
  by_cases h1 : t = 1024 + i
  · rw [e 1 (by decide) h1]
    refine (if_neg h2).trans ?_
    subst h1
    exact if_pos rfl
  by_cases h0 : t = i
  · rw [e 0 (by decide) (by omega)]
    refine (if_neg h2).trans ((if_neg h1).trans ?_)
    subst h0
    exact if_pos rfl
  refine (if_neg h2).trans ((if_neg h1).trans ((if_neg h0).trans ?_))
  unfold mnP
  by_cases h : t < 3072 ∧ t % 1024 < i
  · rw [if_pos h, if_pos (by omega)]
  · rw [if_neg h, if_neg (by omega)]
section
variable {X : px_X} {b B : Nat} {w0 w1 : px_W} {y : rg_S}
theorem m_mix_l {k w h : Nat} (hk : k < 7) (ew : y.2.2.1 73 0 = nI w) (eh : y.2.2.1 74 0 = nI h) (hw : w ≤ 32) (hh : h ≤ 32) : fX15_mixCanvas_86 X FU (b + 0) (nI k) 0 (rg_p lM b w0 y) = some (1, rg_p lM b w0 (rg_wA y 72 (mnP y k (w * h)))) := by
  have hm : w * h ≤ 32 * 32 := Nat.mul_le_mul hw hh
  have e := rg_lpF (F := fun m (q : Int32 × px_W) => fX15_mixCanvas_86 X m (b + 0) (nI k) q.1 q.2) (w * h) (fun i => (nI i, rg_p lM b w0 (rg_wA y 72 (mnP y k i)))) (r := some (1, rg_p lM b w0 (rg_wA y 72 (mnP y k (w * h))))) (by omega) ?_ ?_
  · refine Eq.trans ?_ e
    dsimp only
    rw [mnP_0, nI_0, wA_id rfl]
  · intro m i hi
    dsimp only
    rw [fX15_mixCanvas_86.eq_2]
    refine ob_v (rg_C rfl rfl) (ob_v (rg_A rfl (by decide) 0 (by decide) (by decide)) (ob_v (rg_C rfl rfl) (ob_v (rg_A rfl (by decide) 0 (by decide) (by decide)) ?_)))
    rw [wA_n _ _ (by decide), wA_n _ _ (by decide), ew, eh, pk_mul, if_neg (nI_ge hi (by omega))]
    have e1 : (1024 : Int32) + nI i = nI (1024 + i) := by rw [← nI_add]; rfl
    have e2 : (2048 : Int32) + nI i = nI (2048 + i) := by rw [← nI_add]; rfl
    have e3 : (3072 : Int32) + nI i = nI (3072 + i) := by rw [← nI_add]; rfl
    rw [e1, e2, e3]
    refine ob_v (rg_C rfl rfl) (ob_v (rg_A rfl (by decide) i (by omega) (by decide)) ?_)
    refine ob_v (rg_C rfl rfl) (ob_v (rg_A rfl (by decide) (1024 + i) (by omega) (by decide)) ?_)
    refine ob_v (rg_C rfl rfl) (ob_v (rg_A rfl (by decide) (2048 + i) (by omega) (by decide)) ?_)
    refine ob_v (rg_C rfl rfl) (ob_v (rg_A rfl (by decide) (3072 + i) (by omega) (by decide)) ?_)
    rw [wA_s, mnP_at (by omega), mnP_at (by omega), mnP_at (by omega), mnP_at (by omega)]
    refine ob_v (rg_C rfl rfl) (ob_v (m_tone (q := 0) hk (by decide) _ _ _ _) (ob_v (rg_sA _ rfl (by decide) i _ (by omega) (by decide)) ?_))
    refine ob_v (rg_C rfl rfl) (ob_v (m_tone (q := 1) hk (by decide) _ _ _ _) (ob_v (rg_sA _ rfl (by decide) (1024 + i) _ (by omega) (by decide)) ?_))
    refine ob_v (rg_C rfl rfl) (ob_v (m_tone (q := 2) hk (by decide) _ _ _ _) (ob_v (rg_sA _ rfl (by decide) (2048 + i) _ (by omega) (by decide)) ?_))
    rw [nI_1]
    simp only [wA_s, wA_wA, id]
    rw [mnP_s (by omega)]
  · intro m
    dsimp only
    rw [fX15_mixCanvas_86.eq_2]
    refine ob_v (rg_C rfl rfl) (ob_v (rg_A rfl (by decide) 0 (by decide) (by decide)) (ob_v (rg_C rfl rfl) (ob_v (rg_A rfl (by decide) 0 (by decide) (by decide)) ?_)))
    rw [wA_n _ _ (by decide), wA_n _ _ (by decide), ew, eh, pk_mul, if_pos (nI_le (Nat.le_refl _) (by omega))]
theorem m_mix_z {a : Int32} : ∀ d m p, p + d = 4 → d < m → fX15_mixCanvas_18 X m (b + 0) a 0 (nI p) (rg_p lM b w0 y) = some (0, rg_p lM b w0 y) := by
  intro d
  induction d with
  | zero =>
    intro m p hp hm
    obtain ⟨m, rfl⟩ : ∃ m', m = m' + 1 := ⟨m - 1, by omega⟩
    obtain rfl : p = 4 := by omega
    rw [fX15_mixCanvas_18.eq_2]
    unfold fX15_mixCanvas_29 fX15_mixCanvas_78
    by_cases h : a = 3
    · rw [if_pos h]
      exact ei_t (by decide) rfl
    · rw [if_neg h]
      exact ei_t (by decide) rfl
  | succ d ih =>
    intro m p hp hm
    obtain ⟨m, rfl⟩ : ∃ m', m = m' + 1 := ⟨m - 1, by omega⟩
    rw [fX15_mixCanvas_18.eq_2]
    have go : fX15_mixCanvas_70 X (fX15_mixCanvas_18 X m) (b + 0) a (nI p) (rg_p lM b w0 y) = some (0, rg_p lM b w0 y) := by
      unfold fX15_mixCanvas_70 fX15_mixCanvas_71
      rw [nI_1]
      exact ih m (p + 1) (by omega) (by omega)
    unfold fX15_mixCanvas_29 fX15_mixCanvas_78
    by_cases h : a = 3
    · rw [if_pos h]
      refine ei_n (nI_ge (b := 4) (by omega) (by omega)) (ei_t rfl go)
    · rw [if_neg h]
      by_cases h3 : p = 3
      · subst h3
        exact ei_t (by decide) rfl
      · refine ei_n (nI_ge (b := 3) (by omega) (by omega)) (ei_t rfl go)
theorem m_mix_g {k bd : Nat} (hk : k < 7) (hb : bd = if k = 3 then 4 else 3) : ∀ d m p, p + d = bd → d + 4 < m → 0 < p → (∀ q, p ≤ q → q < bd → y.2.2.1 73 q = y.2.2.1 73 0 ∧ y.2.2.1 74 q = y.2.2.1 74 0) → fX15_mixCanvas_18 X m (b + 0) (nI k) 1 (nI p) (rg_p lM b w0 y) = fX15_mixCanvas_86 X FU (b + 0) (nI k) 0 (rg_p lM b w0 y) := by
  have bd4 : bd ≤ 4 := by rw [hb]; split <;> decide
  have un : ∀ m p, p ≤ bd → fX15_mixCanvas_18 X (m + 1) (b + 0) (nI k) 1 (nI p) (rg_p lM b w0 y) = fX15_mixCanvas_29 X (fX15_mixCanvas_18 X m) (b + 0) (nI k) 1 (nI p) (nI bd) (nI p) (rg_p lM b w0 y) := by
    intro m p hp
    rw [fX15_mixCanvas_18.eq_2]
    by_cases h : k = 3
    · subst h
      rw [hb]
      exact ei_t (by decide) rfl
    · rw [hb, if_neg h]
      exact ei_n (fun e => h ((nI_eq (b := 3) (by omega) (by omega)).mp e)) rfl
  intro d
  induction d with
  | zero =>
    intro m p hp hm h0 hq
    obtain ⟨m, rfl⟩ : ∃ m', m = m' + 1 := ⟨m - 1, by omega⟩
    rw [un m p (by omega)]
    unfold fX15_mixCanvas_29 fX15_mixCanvas_78
    exact ei_t (nI_le (by omega) (by omega)) (ei_n n10 rfl)
  | succ d ih =>
    intro m p hp hm h0 hq
    obtain ⟨m, rfl⟩ : ∃ m', m = m' + 1 := ⟨m - 1, by omega⟩
    rw [un m p (by omega)]
    unfold fX15_mixCanvas_29
    refine ei_n (nI_ge (by omega) (by omega)) (ei_n n10 ?_)
    have e := hq p (Nat.le_refl _) (by omega)
    refine ob_v (rg_C rfl rfl) (ob_v (rg_A rfl (by decide) p (by omega) (by decide)) (ob_v (rg_C rfl rfl) (ob_v (rg_A rfl (by decide) 0 (by decide) (by decide)) (ei_t e.1 ?_))))
    refine ob_v (rg_C rfl rfl) (ob_v (rg_A rfl (by decide) p (by omega) (by decide)) (ob_v (rg_C rfl rfl) (ob_v (rg_A rfl (by decide) 0 (by decide) (by decide)) (ei_t e.2 ?_))))
    unfold fX15_mixCanvas_71
    rw [nI_1]
    exact ih m (p + 1) (by omega) (by omega) (by omega) (fun q h1 h2 => hq q (by omega) h2)
theorem m_mix_f {k bd : Nat} (hk : k < 7) (hb : bd = if k = 3 then 4 else 3) : ∀ d m p, p + d = bd → d + 4 < m → 0 < p → (¬ ∀ q, p ≤ q → q < bd → y.2.2.1 73 q = y.2.2.1 73 0 ∧ y.2.2.1 74 q = y.2.2.1 74 0) → fX15_mixCanvas_18 X m (b + 0) (nI k) 1 (nI p) (rg_p lM b w0 y) = some (0, rg_p lM b w0 y) := by
  have bd4 : bd ≤ 4 := by rw [hb]; split <;> decide
  have un : ∀ m p, p ≤ bd → fX15_mixCanvas_18 X (m + 1) (b + 0) (nI k) 1 (nI p) (rg_p lM b w0 y) = fX15_mixCanvas_29 X (fX15_mixCanvas_18 X m) (b + 0) (nI k) 1 (nI p) (nI bd) (nI p) (rg_p lM b w0 y) := by
    intro m p hp
    rw [fX15_mixCanvas_18.eq_2]
    by_cases h : k = 3
    · subst h
      rw [hb]
      exact ei_t (by decide) rfl
    · rw [hb, if_neg h]
      exact ei_n (fun e => h ((nI_eq (b := 3) (by omega) (by omega)).mp e)) rfl
  intro d
  induction d with
  | zero =>
    intro m p hp hm h0 hq
    exact absurd (fun q h1 h2 => absurd h2 (by omega)) hq
  | succ d ih =>
    intro m p hp hm h0 hq
    obtain ⟨m, rfl⟩ : ∃ m', m = m' + 1 := ⟨m - 1, by omega⟩
    rw [un m p (by omega)]
    unfold fX15_mixCanvas_29
    refine ei_n (nI_ge (by omega) (by omega)) (ei_n n10 ?_)
    have go : fX15_mixCanvas_70 X (fX15_mixCanvas_18 X m) (b + 0) (nI k) (nI p) (rg_p lM b w0 y) = some (0, rg_p lM b w0 y) := by
      unfold fX15_mixCanvas_70 fX15_mixCanvas_71
      rw [nI_1]
      exact m_mix_z (3 - p) m (p + 1) (by omega) (by omega)
    refine ob_v (rg_C rfl rfl) (ob_v (rg_A rfl (by decide) p (by omega) (by decide)) (ob_v (rg_C rfl rfl) (ob_v (rg_A rfl (by decide) 0 (by decide) (by decide)) ?_)))
    by_cases e1 : y.2.2.1 73 p = y.2.2.1 73 0
    · refine ei_t e1 ?_
      refine ob_v (rg_C rfl rfl) (ob_v (rg_A rfl (by decide) p (by omega) (by decide)) (ob_v (rg_C rfl rfl) (ob_v (rg_A rfl (by decide) 0 (by decide) (by decide)) ?_)))
      by_cases e2 : y.2.2.1 74 p = y.2.2.1 74 0
      · refine ei_t e2 ?_
        unfold fX15_mixCanvas_71
        rw [nI_1]
        refine ih m (p + 1) (by omega) (by omega) (by omega) (fun h => hq (fun q h1 h2 => ?_))
        by_cases hqp : q = p
        · subst hqp; exact ⟨e1, e2⟩
        · exact h q (by omega) h2
      · exact ei_n e2 go
    · exact ei_n e1 go
theorem m_mix {k w h : Nat} (hk : k < 7) (ew : y.2.2.1 73 0 = nI w) (eh : y.2.2.1 74 0 = nI h) (hw : w ≤ 32) (hh : h ≤ 32) (hs : ∀ p, 0 < p → p < (if k = 3 then 4 else 3) → y.2.2.1 73 p = y.2.2.1 73 0 ∧ y.2.2.1 74 p = y.2.2.1 74 0) : fX15_mixCanvas X (rg_p lM b w0 y) (b + 0) (nI k) = some (1, rg_p lM b w0 (rg_wA y 72 (mnP y k (w * h)))) := by
  unfold fX15_mixCanvas fX15_mixCanvas_15
  rw [if_neg (nI_pos (by omega))]
  refine ei_n (nI_ge (b := 7) (by omega) (by omega)) ?_
  have hb : 1 ≤ (if k = 3 then 4 else 3) ∧ (if k = 3 then 4 else 3) ≤ 4 := by split <;> decide
  have e := m_mix_g (X := X) (b := b) (w0 := w0) (y := y) hk rfl ((if k = 3 then 4 else 3) - 1) FU 1 (by omega) (by unfold FU; omega) (by decide) (fun q h1 h2 => hs q (by omega) h2)
  exact e.trans (m_mix_l hk ew eh hw hh)
theorem m_mixN {a : Int32} (hn : ¬ mxOk (fun p => y.2.2.1 73 p) (fun p => y.2.2.1 74 p) a) : fX15_mixCanvas X (rg_p lM b w0 y) (b + 0) a = some (0, rg_p lM b w0 y) := by
  unfold fX15_mixCanvas fX15_mixCanvas_14 fX15_mixCanvas_15
  have z : fX15_mixCanvas_18 X FU (b + 0) a 0 1 (rg_p lM b w0 y) = some (0, rg_p lM b w0 y) := m_mix_z 3 FU 1 (by omega) (by unfold FU; omega)
  by_cases h0 : a < 0
  · rw [if_pos h0]
    exact z
  rw [if_neg h0]
  by_cases h7 : 7 ≤ a
  · rw [if_pos h7]
    exact z
  rw [if_neg h7]
  obtain ⟨k, hk, rfl⟩ : ∃ k, k < 7 ∧ a = nI k := (i_place a (n := 7) (by decide)).resolve_right (fun e => e.elim h0 h7)
  have hb : 1 ≤ (if k = 3 then 4 else 3) ∧ (if k = 3 then 4 else 3) ≤ 4 := by split <;> decide
  exact m_mix_f (X := X) (b := b) (w0 := w0) (y := y) hk rfl ((if k = 3 then 4 else 3) - 1) FU 1 (by omega) (by unfold FU; omega) (by decide) (fun h => hn ⟨k, hk, rfl, fun p p0 p1 => h p (by omega) p1⟩)
end
