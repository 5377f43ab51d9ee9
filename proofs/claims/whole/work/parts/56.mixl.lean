/-! mixCanvas: the loops -/
/-- the planes with the places of the rows below j, and of row j those below i, mixed -/
def mxP (x : rg_S) (k w j i q : Nat) : Nat → Int32 := fun t => if (t / 32 < j ∨ t / 32 = j ∧ t % 32 < i) ∧ t % 32 < w then mxT k q (x.2.2.1 25 t) (x.2.2.1 27 t) (x.2.2.1 29 t) (x.2.2.1 31 t) else x.2.2.1 (25 + 2 * q) t
def mxA (x : rg_S) (k w j i : Nat) : rg_S := rg_wA (rg_wA (rg_wA x 25 (mxP x k w j i 0)) 27 (mxP x k w j i 1)) 29 (mxP x k w j i 2)
theorem mxA_A (x : rg_S) (k w j i o : Nat) : (mxA x k w j i).2.2.1 o = if o = 29 then mxP x k w j i 2 else if o = 27 then mxP x k w j i 1 else if o = 25 then mxP x k w j i 0 else x.2.2.1 o := rfl
theorem mxA_cong {x : rg_S} {k w j i j' i' : Nat} (h : ∀ q, mxP x k w j i q = mxP x k w j' i' q) : mxA x k w j i = mxA x k w j' i' := by
  unfold mxA
  rw [h, h, h]
theorem mxA_0 (x : rg_S) (k w : Nat) : mxA x k w 0 0 = x := by
  have h : ∀ q, mxP x k w 0 0 q = x.2.2.1 (25 + 2 * q) := by
    intro q
    funext t
    unfold mxP
    rw [if_neg (by omega)]
  refine S_ext rfl rfl (fun o => ?_) rfl
  rw [mxA_A, h, h, h]
  by_cases h1 : o = 29
  · subst h1; rfl
  by_cases h2 : o = 27
  · subst h2; rfl
  by_cases h3 : o = 25
  · subst h3; rfl
  rw [if_neg h1, if_neg h2, if_neg h3]
theorem mxP_row {x : rg_S} {k w j : Nat} (hw : w ≤ 32) (q : Nat) : mxP x k w j w q = mxP x k w (j + 1) 0 q := by
  funext t
  unfold mxP
  by_cases h : (t / 32 < j ∨ t / 32 = j ∧ t % 32 < w) ∧ t % 32 < w
  · rw [if_pos h, if_pos (by omega)]
  · rw [if_neg h, if_neg (by omega)]
theorem mxP_at {x : rg_S} {k w j i q : Nat} (hi : i < 32) : mxP x k w j i q (32 * j + i) = x.2.2.1 (25 + 2 * q) (32 * j + i) := by
  unfold mxP
  rw [if_neg (by omega)]
theorem mxP_s {x : rg_S} {k w j i : Nat} (hi : i < w) (hw : w ≤ 32) (q : Nat) : upd (mxP x k w j i q) (32 * j + i) (mxT k q (x.2.2.1 25 (32 * j + i)) (x.2.2.1 27 (32 * j + i)) (x.2.2.1 29 (32 * j + i)) (x.2.2.1 31 (32 * j + i))) = mxP x k w j (i + 1) q := by
  funext t
  unfold upd mxP
  by_cases e : t = 32 * j + i
  · subst e
    rw [if_pos rfl, if_pos (by omega)]
  · rw [if_neg e]
    by_cases h : (t / 32 < j ∨ t / 32 = j ∧ t % 32 < i) ∧ t % 32 < w
    · rw [if_pos h, if_pos (by omega)]
    · rw [if_neg h, if_neg (by omega)]
theorem mxA_s {x : rg_S} {k w j i : Nat} (hi : i < w) (hw : w ≤ 32) : mx3 (mxA x k w j i) (32 * j + i) (mxT k 0 (x.2.2.1 25 (32 * j + i)) (x.2.2.1 27 (32 * j + i)) (x.2.2.1 29 (32 * j + i)) (x.2.2.1 31 (32 * j + i))) (mxT k 1 (x.2.2.1 25 (32 * j + i)) (x.2.2.1 27 (32 * j + i)) (x.2.2.1 29 (32 * j + i)) (x.2.2.1 31 (32 * j + i))) (mxT k 2 (x.2.2.1 25 (32 * j + i)) (x.2.2.1 27 (32 * j + i)) (x.2.2.1 29 (32 * j + i)) (x.2.2.1 31 (32 * j + i))) = mxA x k w j (i + 1) := by
  refine S_ext rfl rfl (fun o => ?_) rfl
  rw [mx3_A, mxA_A (i := i + 1), ← mxP_s hi hw, ← mxP_s hi hw, ← mxP_s hi hw]
  by_cases h1 : o = 29
  · subst h1; rfl
  by_cases h2 : o = 27
  · subst h2; rfl
  by_cases h3 : o = 25
  · subst h3; rfl
  rw [if_neg h1, if_neg h2, if_neg h3, if_neg h1, if_neg h2, if_neg h3, mxA_A, if_neg h1, if_neg h2, if_neg h3]
section
variable {X : px_X} {b B : Nat} {w0 w1 : px_W} {x : rg_S}
theorem x_mix_row {k w h j M : Nat} (hk : k < 7) (hw : w ≤ 32) (hj : j < 32) : fX11_mixCanvas_93 X (fX11_mixCanvas_84 X M) FU (B + 0) (nI k) (nI w) (nI h) (nI j) 0 (rg_p lX B w0 (mxA x k w j 0)) = fX11_mixCanvas_84 X M (B + 0) (nI k) (nI w) (nI h) (nI (j + 1)) (rg_p lX B w0 (mxA x k w (j + 1) 0)) := by
  refine rg_lpF (F := fun m (q : Int32 × px_W) => fX11_mixCanvas_93 X (fX11_mixCanvas_84 X M) m (B + 0) (nI k) (nI w) (nI h) (nI j) q.1 q.2) w (fun i => (nI i, rg_p lX B w0 (mxA x k w j i))) (by omega) ?_ ?_
  · intro m i hi
    dsimp only
    rw [fX11_mixCanvas_93.eq_2, if_neg (nI_ge hi (by omega))]
    refine ob_v (rg_O rfl) ?_
    rw [show (32 * nI j + nI i : Int32) = nI (32 * j + i) by rw [← nI_add, ← pk_mul]; rfl, x_mixPlace hk (by omega), ob_s, nI_1, ← mxA_s hi hw]
    simp only [mxA_A, if_true, if_false, reduceIte, Nat.reduceEqDiff, mxP_at (show i < 32 by omega)]
  · intro m
    dsimp only
    rw [fX11_mixCanvas_93.eq_2, if_pos (nI_le (Nat.le_refl _) (by omega)), fX11_mixCanvas_118, nI_1, mxA_cong (mxP_row hw)]
theorem x_mix_l {k w h : Nat} (hk : k < 7) (hw : w ≤ 32) (hh : h ≤ 32) : fX11_mixCanvas_84 X FU (B + 0) (nI k) (nI w) (nI h) 0 (rg_p lX B w0 x) = some (1, rg_p lX B w0 (mxA x k w h 0)) := by
  have e := rg_lpF (F := fun m (q : Int32 × px_W) => fX11_mixCanvas_84 X m (B + 0) (nI k) (nI w) (nI h) q.1 q.2) h (fun j => (nI j, rg_p lX B w0 (mxA x k w j 0))) (r := some (1, rg_p lX B w0 (mxA x k w h 0))) (by omega) ?_ ?_
  · refine Eq.trans ?_ e
    dsimp only
    rw [mxA_0, nI_0]
  · intro m j hj
    dsimp only
    rw [fX11_mixCanvas_84.eq_2, if_neg (nI_ge hj (by omega)), x_mix_row hk hw (by omega)]
  · intro m
    dsimp only
    rw [fX11_mixCanvas_84.eq_2, if_pos (nI_le (Nat.le_refl _) (by omega))]
theorem x_isOf {p : Nat} (hp : p < 6) (w h : Int32) : fX3_isOfSize X (rg_p lX B w0 x) (B + (24 + 2 * p)) w h = some (if x.1 (24 + 2 * p) 0 = w ∧ x.1 (24 + 2 * p) 1 = h then 1 else 0, rg_p lX B w0 x) := by
  unfold fX3_isOfSize
  refine ob_v (rg_I (pl_o hp) rfl) ?_
  by_cases h1 : x.1 (24 + 2 * p) 0 = w
  · rw [if_pos h1]
    refine ob_v (rg_I (pl_o hp) rfl) ?_
    by_cases h2 : x.1 (24 + 2 * p) 1 = h
    · rw [if_pos h2, if_pos ⟨h1, h2⟩]
    · rw [if_neg h2, if_neg (fun e => h2 e.2)]
  · rw [if_neg h1, if_neg (fun e => h1 e.1)]
theorem x_is1 {p : Nat} (hp : p < 6) {w h : Int32} (e : x.1 (24 + 2 * p) 0 = w ∧ x.1 (24 + 2 * p) 1 = h) : fX3_isOfSize X (rg_p lX B w0 x) (B + (24 + 2 * p)) w h = some (1, rg_p lX B w0 x) := by rw [x_isOf hp, if_pos e]
theorem x_is0 {p : Nat} (hp : p < 6) {w h : Int32} (e : ¬ (x.1 (24 + 2 * p) 0 = w ∧ x.1 (24 + 2 * p) 1 = h)) : fX3_isOfSize X (rg_p lX B w0 x) (B + (24 + 2 * p)) w h = some (0, rg_p lX B w0 x) := by rw [x_isOf hp, if_neg e]
/-- what mixCanvas wants of the sizes: S p is plane p's -/
def mxOk (W H : Nat → Int32) (a : Int32) : Prop := ∃ k, k < 7 ∧ a = nI k ∧ ∀ p, 0 < p → p < (if k = 3 then 4 else 3) → W p = W 0 ∧ H p = H 0
theorem x_mix {k w h : Nat} (hk : k < 7) (e0 : x.1 24 0 = nI w) (e1 : x.1 24 1 = nI h) (hw : w ≤ 32) (hh : h ≤ 32) (hs : ∀ p, 0 < p → p < (if k = 3 then 4 else 3) → x.1 (24 + 2 * p) 0 = x.1 24 0 ∧ x.1 (24 + 2 * p) 1 = x.1 24 1) : fX11_mixCanvas X (rg_p lX B w0 x) (B + 0) (nI k) = some (1, rg_p lX B w0 (mxA x k w h 0)) := by
  have s1 := hs 1 (by decide) (by split <;> decide)
  have s2 := hs 2 (by decide) (by split <;> decide)
  unfold fX11_mixCanvas
  rw [if_neg (nI_pos (by omega))]
  refine ei_t (nI_le (b := 6) (by omega) (by omega)) ?_
  refine ob_v (rg_C rfl rfl) (ob_v x_pl0 (ob_v (rg_I rfl rfl) ?_))
  refine ob_v (rg_C rfl rfl) (ob_v x_pl0 (ob_v (rg_I rfl rfl) ?_))
  refine ob_v (rg_C rfl rfl) (ob_v x_pl1 (ob_v (rg_O rfl) ?_))
  refine ob_v (x_is1 (p := 1) (by decide) s1) ?_
  refine ei_n n10 ?_
  refine ob_v (rg_C rfl rfl) (ob_v x_pl2 (ob_v (rg_O rfl) ?_))
  refine ob_v (x_is1 (p := 2) (by decide) s2) ?_
  refine ei_n n10 ?_
  by_cases h3 : k = 3
  · subst h3
    refine ei_t (by decide) ?_
    refine ob_v (rg_C rfl rfl) (ob_v x_pl3 (ob_v (rg_O rfl) ?_))
    refine ob_v (x_is1 (p := 3) (by decide) (hs 3 (by decide) (by decide))) ?_
    refine ei_n n10 ?_
    rw [fX11_mixCanvas_81, e0, e1]
    exact x_mix_l hk hw hh
  · refine ei_n (fun e => h3 ((nI_eq (b := 3) (by omega) (by omega)).mp e)) ?_
    rw [fX11_mixCanvas_81, e0, e1]
    exact x_mix_l hk hw hh
theorem x_mixN {a : Int32} (hn : ¬ mxOk (fun p => x.1 (24 + 2 * p) 0) (fun p => x.1 (24 + 2 * p) 1) a) : fX11_mixCanvas X (rg_p lX B w0 x) (B + 0) a = some (0, rg_p lX B w0 x) := by
  unfold fX11_mixCanvas
  by_cases h0 : a < 0
  · rw [if_pos h0]
  rw [if_neg h0]
  by_cases h6 : a ≤ 6
  · rw [if_pos h6]
    obtain ⟨k, hk, rfl⟩ := nI_of2 (M := 6) (n := 6) rfl h0 h6
    refine ob_v (rg_C rfl rfl) (ob_v x_pl0 (ob_v (rg_I rfl rfl) ?_))
    refine ob_v (rg_C rfl rfl) (ob_v x_pl0 (ob_v (rg_I rfl rfl) ?_))
    refine ob_v (rg_C rfl rfl) (ob_v x_pl1 (ob_v (rg_O rfl) ?_))
    by_cases s1 : x.1 26 0 = x.1 24 0 ∧ x.1 26 1 = x.1 24 1
    · refine ob_v (x_is1 (p := 1) (by decide) s1) ?_
      refine ei_n n10 ?_
      refine ob_v (rg_C rfl rfl) (ob_v x_pl2 (ob_v (rg_O rfl) ?_))
      by_cases s2 : x.1 28 0 = x.1 24 0 ∧ x.1 28 1 = x.1 24 1
      · refine ob_v (x_is1 (p := 2) (by decide) s2) ?_
        refine ei_n n10 ?_
        by_cases h3 : k = 3
        · subst h3
          refine ei_t (by decide) ?_
          refine ob_v (rg_C rfl rfl) (ob_v x_pl3 (ob_v (rg_O rfl) ?_))
          refine ob_v (x_is0 (p := 3) (by decide) (fun s3 => hn ⟨3, by decide, rfl, ?_⟩)) rfl
          intro p p0 p1
          rcases (show p = 1 ∨ p = 2 ∨ p = 3 by rw [if_pos rfl] at p1; omega) with rfl | rfl | rfl
          · exact s1
          · exact s2
          · exact s3
        · refine absurd ⟨k, by omega, rfl, ?_⟩ hn
          intro p p0 p1
          rcases (show p = 1 ∨ p = 2 by rw [if_neg h3] at p1; omega) with rfl | rfl
          · exact s1
          · exact s2
      · exact ob_v (x_is0 (p := 2) (by decide) s2) rfl
    · exact ob_v (x_is0 (p := 1) (by decide) s1) rfl
  · rw [if_neg h6]
end
