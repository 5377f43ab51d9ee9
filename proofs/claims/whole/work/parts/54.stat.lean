/-! canvasEight of the class; statusOf on both sides -/
theorem ce_cong {g g' : Nat → Int32} : ∀ n, (∀ k, k < n → g k = g' k) → ce_f g n = ce_f g' n := by
  intro n
  induction n with
  | zero => intro _; rfl
  | succ n ih =>
    intro h
    rw [ce_f, ce_f, ih (fun k hk => h k (by omega)), h n (by omega)]
section
variable {X : px_X} {b B : Nat} {w0 w1 : px_W}
theorem x_eight {x : rg_S} {p w h : Nat} {c d : Int32} (hp : p < 4) (hw : x.1 (24 + 2 * p) 0 = nI w) (hh : x.1 (24 + 2 * p) 1 = nI h) (w2 : w ≤ 32) (h2 : h ≤ 32) : fX11_canvasEight X (rg_p lX B w0 x) (B + 0) (nI p) c d = some (ce_f (fun k => if 0 ≤ c.toInt + k ∧ c.toInt + k < w ∧ 0 ≤ d.toInt ∧ d.toInt < h then x.2.2.1 (24 + 2 * p + 1) (32 * d.toInt.toNat + (c.toInt + k).toNat) else 0) 8, rg_p lX B w0 x) := by
  have e0 : (0 : Int32).toInt = 0 := by decide
  have e7 : (-7 : Int32).toInt = -7 := by decide
  have zero : (∀ k : Nat, k < 8 → ¬ (0 ≤ c.toInt + k ∧ c.toInt + k < w ∧ 0 ≤ d.toInt ∧ d.toInt < h)) → some ((0 : Int64), rg_p lX B w0 x) = some (ce_f (fun k => if 0 ≤ c.toInt + k ∧ c.toInt + k < w ∧ 0 ≤ d.toInt ∧ d.toInt < h then x.2.2.1 (24 + 2 * p + 1) (32 * d.toInt.toNat + (c.toInt + k).toNat) else 0) 8, rg_p lX B w0 x) := by
    intro h
    rw [ce_cong (g' := fun _ => 0) 8 (fun k hk => if_neg (h k hk)), ce_z]
  unfold fX11_canvasEight
  rw [if_neg (nI_pos (by omega))]
  refine ei_n (nI_nlt (b := p) (a := 3) (by omega) (by omega)) ?_
  by_cases h3 : c < -7
  · rw [if_pos h3]
    rw [i_lt, e7] at h3
    exact zero (fun k hk => by omega)
  rw [if_neg h3]
  rw [i_lt, e7] at h3
  refine ob_v (rg_C rfl rfl) ?_
  refine ob_v (x_plane hp) ?_
  refine ob_v (rg_I (pl_o (by omega)) rfl) ?_
  rw [hw]
  by_cases h4 : nI w ≤ c
  · rw [if_pos h4]
    rw [i_le, n_t (by omega)] at h4
    exact zero (fun k hk => by omega)
  rw [if_neg h4]
  rw [i_le, n_t (by omega)] at h4
  by_cases h5 : d < 0
  · rw [if_pos h5]
    rw [i_lt, e0] at h5
    exact zero (fun k hk => by omega)
  rw [if_neg h5]
  rw [i_lt, e0] at h5
  refine ob_v (rg_C rfl rfl) ?_
  refine ob_v (x_plane hp) ?_
  refine ob_v (rg_I (pl_o (by omega)) rfl) ?_
  rw [hh]
  by_cases h6 : d < nI h
  · rw [if_pos h6]
    rw [i_lt, n_t (by omega)] at h6
    have ed : d = nI d.toInt.toNat := by rw [← iI_nat (by omega)]; exact iI_of d
    rw [ed, x_eight_l hp hw w2 (by omega) (by omega) (by omega), ← ed]
    rw [ce_cong (g' := fun k => if 0 ≤ c.toInt + k ∧ c.toInt + k < w ∧ 0 ≤ d.toInt ∧ d.toInt < h then x.2.2.1 (24 + 2 * p + 1) (32 * d.toInt.toNat + (c.toInt + k).toNat) else 0) 8]
    intro k hk
    by_cases hc : 0 ≤ c.toInt + k ∧ c.toInt + k < w
    · rw [if_pos hc, if_pos (by omega)]
    · rw [if_neg hc, if_neg (by omega)]
  · rw [if_neg h6]
    rw [i_lt, n_t (by omega)] at h6
    exact zero (fun k hk => by omega)
theorem x_eightN {x : rg_S} {p c d : Int32} (hp : p < 0 ∨ 4 ≤ p) : fX11_canvasEight X (rg_p lX B w0 x) (B + 0) p c d = some (0, rg_p lX B w0 x) := by
  unfold fX11_canvasEight
  by_cases h1 : p < 0
  · rw [if_pos h1]
  · have h2 := hp.resolve_left h1
    rw [if_neg h1, if_pos]
    rw [i_le] at h2
    rw [i_lt]
    have e3 : (3 : Int32).toInt = 3 := by decide
    have e4 : (4 : Int32).toInt = 4 := by decide
    omega
/-- statusOf: both sides answer the same -/
theorem s_status {x y : rg_S} {o : Nat} (ho : isBy o) (hR : x.2.1 0 1 = o) (e0 : x.1 1 1 = y.1 0 1) (e1 : x.1 0 13 = y.1 0 7) (e2 : x.1 0 14 = y.1 0 8) (e3 : x.1 o 1 = y.1 0 3) (e4 : x.1 0 15 = y.1 0 9) (e5 : x.1 0 16 = y.1 0 10) (e6 : x.1 0 17 = y.1 0 11) (ew : ∀ p, p < 4 → x.1 (24 + 2 * p) 0 = y.2.2.1 73 p) (eh : ∀ p, p < 4 → x.1 (24 + 2 * p) 1 = y.2.2.1 74 p) (a : Int32) :
    ∃ v, fX11_statusOf X (rg_p lX B w0 x) (B + 0) a = some (v, rg_p lX B w0 x) ∧ fX15_statusOf X (rg_p lM b w1 y) (b + 0) a = some (v, rg_p lM b w1 y) := by
  unfold fX11_statusOf fX15_statusOf fX15_statusOf_42
  by_cases h0 : a = 0
  · subst h0
    exact ⟨y.1 0 1, by rw [if_pos rfl]; exact ob_v (rg_C rfl rfl) (ob_v (rg_I rfl rfl) (by rw [e0])), by rw [if_pos (by decide), if_pos rfl]; exact ob_v (rg_I rfl rfl) rfl⟩
  by_cases h1 : a = 1
  · subst h1
    exact ⟨y.1 0 7, by rw [if_neg (by decide), if_pos rfl]; exact ob_v (rg_I rfl rfl) (by rw [e1]), by rw [if_pos (by decide), if_neg (by decide), if_pos rfl]; exact ob_v (rg_I rfl rfl) rfl⟩
  by_cases h2 : a = 2
  · subst h2
    exact ⟨y.1 0 8, by rw [if_neg (by decide), if_neg (by decide), if_pos rfl]; exact ob_v (rg_I rfl rfl) (by rw [e2]), by rw [if_pos (by decide), if_neg (by decide), if_neg (by decide), if_pos rfl]; exact ob_v (rg_I rfl rfl) rfl⟩
  by_cases h3 : a = 3
  · subst h3
    exact ⟨y.1 0 3, by rw [if_neg (by decide), if_neg (by decide), if_neg (by decide), if_pos rfl]; exact ob_v (rg_R rfl rfl) (by rw [hR]; exact ob_v (rg_I ho.o rfl) (by rw [e3])), by rw [if_pos (by decide), if_neg (by decide), if_neg (by decide), if_neg (by decide), if_pos rfl]; exact ob_v (rg_I rfl rfl) rfl⟩
  by_cases h4 : a = 4
  · subst h4
    exact ⟨y.1 0 9, by rw [if_neg (by decide), if_neg (by decide), if_neg (by decide), if_neg (by decide), if_pos rfl]; exact ob_v (rg_I rfl rfl) (by rw [e4]), by rw [if_pos (by decide), if_neg (by decide), if_neg (by decide), if_neg (by decide), if_neg (by decide), if_pos rfl]; exact ob_v (rg_I rfl rfl) rfl⟩
  by_cases h5 : a = 5
  · subst h5
    exact ⟨y.1 0 10, by rw [if_neg (by decide), if_neg (by decide), if_neg (by decide), if_neg (by decide), if_neg (by decide), if_pos rfl]; exact ob_v (rg_I rfl rfl) (by rw [e5]), by rw [if_pos (by decide), if_neg (by decide), if_neg (by decide), if_neg (by decide), if_neg (by decide), if_neg (by decide), if_pos rfl]; exact ob_v (rg_I rfl rfl) rfl⟩
  by_cases h6 : a = 6
  · subst h6
    exact ⟨y.1 0 11, by rw [if_neg (by decide), if_neg (by decide), if_neg (by decide), if_neg (by decide), if_neg (by decide), if_neg (by decide), if_pos rfl]; exact ob_v (rg_I rfl rfl) (by rw [e6]), by rw [if_pos (by decide), if_neg (by decide), if_neg (by decide), if_neg (by decide), if_neg (by decide), if_neg (by decide), if_neg (by decide), if_pos rfl]; exact ob_v (rg_I rfl rfl) rfl⟩
  rw [if_neg h0, if_neg h1, if_neg h2, if_neg h3, if_neg h4, if_neg h5, if_neg h6]
  rw [if_neg h0, if_neg h1, if_neg h2, if_neg h3, if_neg h4, if_neg h5, if_neg h6]
  by_cases h8 : a < 8
  · exact ⟨-1, by rw [if_pos h8], by rw [if_pos h8]⟩
  by_cases h16 : a ≤ 15
  · obtain ⟨j, hj, rfl⟩ : ∃ j, j ≤ 15 ∧ a = nI j := by
      have h0' : ¬ a < 0 := fun e => h8 (by rw [i_lt] at e ⊢; have z : (0 : Int32).toInt = 0 := by decide
                                            have z8 : (8 : Int32).toInt = 8 := by decide
                                            omega)
      exact nI_of2 (M := 15) (n := 15) rfl h0' h16
    have j8 : 8 ≤ j := by
      refine Nat.le_of_not_lt (fun e => h8 (nI_lt (b := 8) e (by omega)))
    have r2 : ∀ j, j ≤ 15 → rI (nI j) 2 = some (nI (j % 2)) := by
      intro j hj
      unfold rI
      rw [if_neg (by decide)]
      exact congrArg some (pk_rem (d := 2) (by omega) (by omega) (by omega))
    have d2 : ∀ j, j ≤ 15 → dI (nI j) 2 = some (nI (j / 2)) := by
      intro j hj
      unfold dI
      rw [if_neg (by decide)]
      exact congrArg some (pk_div (d := 2) (by omega) (by omega) (by omega))
    have s8 : nI j - 8 = nI (j - 8) := pk_sub (b := 8) j8
    have s4 : nI (j / 2) - 4 = nI (j / 2 - 4) := pk_sub (b := 4) (by omega)
    have eq : (j - 8) / 2 = j / 2 - 4 := by omega
    rw [if_neg h8, if_pos h16, if_neg h8, if_neg (show ¬ (16 : Int32) ≤ nI j from nI_ge (b := 16) (by omega) (by omega))]
    have hp : j / 2 - 4 < 4 := by omega
    by_cases hr : j % 2 = 0
    · refine ⟨y.2.2.1 73 (j / 2 - 4), ?_, ?_⟩
      · refine ob_v (rg_C rfl rfl) ?_
        rw [s8]
        refine ob_v (d2 _ (by omega)) ?_
        rw [eq]
        refine ob_v (x_plane hp) ?_
        refine ob_v (r2 _ (by omega)) ?_
        rw [hr, if_pos nI_0]
        refine ob_v (rg_I (pl_o (by omega)) rfl) ?_
        rw [ew _ hp]
      · refine ob_v (r2 _ (by omega)) ?_
        rw [hr, if_pos nI_0]
        refine ob_v (rg_C rfl rfl) ?_
        refine ob_v (d2 _ (by omega)) ?_
        rw [s4]
        refine ob_v (rg_A rfl (by decide) _ hp (by decide)) ?_
        rfl
    · refine ⟨y.2.2.1 74 (j / 2 - 4), ?_, ?_⟩
      · refine ob_v (rg_C rfl rfl) ?_
        rw [s8]
        refine ob_v (d2 _ (by omega)) ?_
        rw [eq]
        refine ob_v (x_plane hp) ?_
        refine ob_v (r2 _ (by omega)) ?_
        rw [if_neg (nI_ne0 (by omega) (by omega))]
        refine ob_v (rg_I (pl_o (by omega)) rfl) ?_
        rw [eh _ hp]
      · refine ob_v (r2 _ (by omega)) ?_
        rw [if_neg (nI_ne0 (by omega) (by omega))]
        refine ob_v (rg_C rfl rfl) ?_
        refine ob_v (d2 _ (by omega)) ?_
        rw [s4]
        refine ob_v (rg_A rfl (by decide) _ hp (by decide)) ?_
        rfl
  · refine ⟨-1, by rw [if_neg h8, if_neg h16], ?_⟩
    rw [if_neg h8, if_pos]
    rw [i_le] at h16 ⊢
    have z : (15 : Int32).toInt = 15 := by decide
    have z8 : (16 : Int32).toInt = 16 := by decide
    omega
end
