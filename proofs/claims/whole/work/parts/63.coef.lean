/-! setCoefficient, coefficientAt, stepAt -/
theorem m1_n {n : Nat} (h : n < 2 ^ 31) : ¬ nI n = -1 := by
  intro e
  have := congrArg Int32.toInt e
  rw [nI_toInt h, show (-1 : Int32).toInt = -1 by decide] at this
  omega
theorem sh_id {v : Int32} (h0 : -32768 ≤ v.toInt) (h1 : v.toInt < 32768) : v.toInt16.toInt32 = v := by
  apply Int32.toInt_inj.mp
  rw [Int16.toInt_toInt32, Int32.toInt_toInt16]
  exact Int.bmod_eq_of_le (by omega) (by omega)
theorem sh_ok {k : Nat} {v : Int32} (h : cfOk k v) : v.toInt16.toInt32 = v := by
  unfold cfOk at h
  refine sh_id ?_ (by omega)
  split at h <;> omega
theorem n64 (t k : Nat) : (64 : Int32) * nI t + nI k = nI (64 * t + k) := by
  rw [← nI_add, ← pk_mul]
  rfl
def inB (g : gG) (a1 a2 a3 : Int32) : Prop := ∃ c i j, c < g.2.2.1 ∧ a1 = nI c ∧ i < gAc g c ∧ a2 = nI i ∧ j < gDn g c ∧ a3 = nI j
theorem gB_in {g : gG} {c i j : Nat} (hc : c < g.2.2.1) (hi : i < gAc g c) (hj : j < gDn g c) : gBs g c + j * gAc g c + i < gBs g (c + 1) ∧ gBs g (c + 1) ≤ gBs g g.2.2.1 := by
  refine ⟨?_, gBs_mono hc⟩
  have := row_lt hi hj
  rw [show gBs g (c + 1) = gBs g c + gAc g c * gDn g c from rfl, Nat.mul_comm j]
  omega
section
variable {X : px_X} {b B : Nat} {w0 w1 w : px_W} {x y : rg_S} {P : Nat} {g : gG}
theorem x_block1 (hP : isP P) (hg : gOk g) (h : xPic x P g) {c i j : Nat} (hc : c < g.2.2.1) (hi : i < gAc g c) (hj : j < gDn g c) : fX2_block X (rg_p lX B w0 x) (B + P) (nI c) (nI i) (nI j) = some (nI (gBs g c + j * gAc g c + i), rg_p lX B w0 x) := by
  have hc4 := hg.2.2.2.2.2.1
  have ha := hg.ac hc
  have hd := hg.dn hc
  obtain ⟨_, _, _, _, h5⟩ := h
  obtain ⟨e3, e4, e5⟩ := h5 c hc
  unfold fX2_block
  rw [if_neg (nI_pos (by omega))]
  refine ob_v (rg_C hP.o rfl) (ob_v (rg_A hP.a3 (by decide) c (by omega) (by decide)) ?_)
  rw [e3, if_neg (nI_ge hi (by omega)), if_neg (nI_pos (by omega))]
  refine ob_v (rg_C hP.o rfl) (ob_v (rg_A hP.a4 (by decide) c (by omega) (by decide)) ?_)
  rw [e4, if_pos (nI_lt hj (by omega))]
  refine ob_v (rg_C hP.o rfl) (ob_v (rg_A hP.a5 (by decide) c (by omega) (by decide)) (ob_v (rg_C hP.o rfl) (ob_v (rg_A hP.a3 (by decide) c (by omega) (by decide)) ?_)))
  rw [e3, e5, pk_mul, nI_add, nI_add]
theorem x_block0 (hP : isP P) (hg : gOk g) (h : xPic x P g) {c : Nat} {a2 a3 : Int32} (hc : c < g.2.2.1) (hn : ¬ ∃ i j, i < gAc g c ∧ a2 = nI i ∧ j < gDn g c ∧ a3 = nI j) : fX2_block X (rg_p lX B w0 x) (B + P) (nI c) a2 a3 = some (-1, rg_p lX B w0 x) := by
  have hc4 := hg.2.2.2.2.2.1
  have ha := hg.ac hc
  have hd := hg.dn hc
  obtain ⟨_, _, _, _, h5⟩ := h
  obtain ⟨e3, e4, e5⟩ := h5 c hc
  unfold fX2_block
  by_cases h1 : a2 < 0
  · rw [if_pos h1]
  rw [if_neg h1]
  refine ob_v (rg_C hP.o rfl) (ob_v (rg_A hP.a3 (by decide) c (by omega) (by decide)) ?_)
  rw [e3]
  by_cases h2 : nI (gAc g c) ≤ a2
  · rw [if_pos h2]
  rw [if_neg h2]
  by_cases h3 : a3 < 0
  · rw [if_pos h3]
  rw [if_neg h3]
  refine ob_v (rg_C hP.o rfl) (ob_v (rg_A hP.a4 (by decide) c (by omega) (by decide)) ?_)
  rw [e4, if_neg]
  intro h4
  obtain ⟨i, hi, rfl⟩ : ∃ i, i < gAc g c ∧ a2 = nI i := (i_place a2 (by omega)).resolve_right (fun e => e.elim h1 h2)
  obtain ⟨j, hj, rfl⟩ : ∃ j, j < gDn g c ∧ a3 = nI j := (i_place a3 (by omega)).resolve_right (fun e => e.elim h3 (fun e => absurd h4 (Int32.not_lt.mpr e)))
  exact hn ⟨i, j, hi, rfl, hj, rfl⟩
theorem x_bo1 (hP : isP P) (hR : x.2.1 0 4 = P) (ht : x.1 0 3 = 1) (hg : gOk g) (h : xPic x P g) {c i j : Nat} (hc : c < g.2.2.1) (hi : i < gAc g c) (hj : j < gDn g c) : fX11_blockOf X (rg_p lX B w0 x) (B + 0) (nI c) (nI i) (nI j) = some (nI (gBs g c + j * gAc g c + i), rg_p lX B w0 x) := by
  have hc4 := hg.2.2.2.2.2.1
  unfold fX11_blockOf
  refine ob_v (rg_I rfl rfl) ?_
  rw [ht, if_neg (by decide), if_neg (nI_pos (by omega))]
  refine ob_v (rg_R rfl rfl) ?_
  rw [hR]
  refine ob_v (rg_I hP.o rfl) ?_
  rw [h.1.2.2.1, if_neg (nI_ge hc (by omega))]
  refine ob_v (rg_R rfl rfl) ?_
  rw [hR]
  refine ob_v (rg_O hP.o) (ob_v (x_block1 hP hg h hc hi hj) rfl)
theorem x_bo0 (hP : isP P) (hR : x.2.1 0 4 = P) (ht : x.1 0 3 = 1) (hg : gOk g) (h : xPic x P g) {a1 a2 a3 : Int32} (hn : ¬ inB g a1 a2 a3) : fX11_blockOf X (rg_p lX B w0 x) (B + 0) a1 a2 a3 = some (-1, rg_p lX B w0 x) := by
  have hc4 := hg.2.2.2.2.2.1
  unfold fX11_blockOf
  refine ob_v (rg_I rfl rfl) ?_
  rw [ht, if_neg (by decide)]
  by_cases h1 : a1 < 0
  · rw [if_pos h1]
  rw [if_neg h1]
  refine ob_v (rg_R rfl rfl) ?_
  rw [hR]
  refine ob_v (rg_I hP.o rfl) ?_
  rw [h.1.2.2.1]
  by_cases h2 : nI g.2.2.1 ≤ a1
  · rw [if_pos h2]
  rw [if_neg h2]
  obtain ⟨c, hc, rfl⟩ : ∃ c, c < g.2.2.1 ∧ a1 = nI c := (i_place a1 (by omega)).resolve_right (fun e => e.elim h1 h2)
  refine ob_v (rg_R rfl rfl) ?_
  rw [hR]
  refine ob_v (rg_O hP.o) (ob_v (x_block0 hP hg h hc (fun e => hn ?_)) rfl)
  obtain ⟨i, j, hi, e2, hj, e3⟩ := e
  exact ⟨c, i, j, hc, rfl, hi, e2, hj, e3⟩
theorem x_boT (ht : x.1 0 3 = 0) (a1 a2 a3 : Int32) : fX11_blockOf X (rg_p lX B w0 x) (B + 0) a1 a2 a3 = some (-1, rg_p lX B w0 x) := by
  unfold fX11_blockOf
  refine ob_v (rg_I rfl rfl) ?_
  rw [ht, if_pos rfl]
theorem m_ibT (ht : y.1 0 17 = 0) (a1 a2 a3 : Int32) : fX15_isBlock X (rg_p lM b w0 y) (b + 0) a1 a2 a3 = some (0, rg_p lM b w0 y) := by
  unfold fX15_isBlock
  refine ob_v (rg_I rfl rfl) ?_
  rw [ht, if_pos rfl]
theorem m_ib1 (ht : y.1 0 17 = 1) (hg : gOk g) (h : mPic y g) {c i j : Nat} (hc : c < g.2.2.1) (hi : i < gAc g c) (hj : j < gDn g c) : fX15_isBlock X (rg_p lM b w0 y) (b + 0) (nI c) (nI i) (nI j) = some (1, rg_p lM b w0 y) := by
  have hc4 := hg.2.2.2.2.2.1
  have ha := hg.ac hc
  have hd := hg.dn hc
  obtain ⟨hf, _, _, _, _, h5⟩ := h
  obtain ⟨e3, e4, e5⟩ := h5 c hc
  unfold fX15_isBlock fX15_isBlock_42 fX15_isBlock_69
  refine ob_v (rg_I rfl rfl) ?_
  rw [ht, if_neg (by decide), if_neg (nI_pos (by omega))]
  refine ob_v (rg_I rfl rfl) ?_
  rw [hf.2.2.1, if_neg (nI_ge hc (by omega)), if_neg (nI_pos (by omega))]
  refine ob_v (rg_C rfl rfl) ?_
  rw [if_neg (nI_pos (by omega))]
  refine ei_n (nI_ge (b := 4) (by omega) (by omega)) (ob_v (rg_A rfl (by decide) c (by omega) (by decide)) ?_)
  rw [e3, if_neg (nI_ge hi (by omega)), if_neg (nI_pos (by omega))]
  refine ob_v (rg_C rfl rfl) ?_
  rw [if_neg (nI_pos (by omega))]
  refine ei_n (nI_ge (b := 4) (by omega) (by omega)) (ob_v (rg_A rfl (by decide) c (by omega) (by decide)) ?_)
  rw [e4, if_neg (nI_ge hj (by omega))]
theorem m_ib0 (ht : y.1 0 17 = 1) (hg : gOk g) (h : mPic y g) {a1 a2 a3 : Int32} (hn : ¬ inB g a1 a2 a3) : fX15_isBlock X (rg_p lM b w0 y) (b + 0) a1 a2 a3 = some (0, rg_p lM b w0 y) := by
  have hc4 := hg.2.2.2.2.2.1
  obtain ⟨hf, _, _, _, _, h5⟩ := h
  unfold fX15_isBlock fX15_isBlock_42 fX15_isBlock_69
  refine ob_v (rg_I rfl rfl) ?_
  rw [ht, if_neg (by decide)]
  by_cases h1 : a1 < 0
  · rw [if_pos h1]
  rw [if_neg h1]
  refine ob_v (rg_I rfl rfl) ?_
  rw [hf.2.2.1]
  by_cases h2 : nI g.2.2.1 ≤ a1
  · rw [if_pos h2]
  rw [if_neg h2]
  obtain ⟨c, hc, rfl⟩ : ∃ c, c < g.2.2.1 ∧ a1 = nI c := (i_place a1 (by omega)).resolve_right (fun e => e.elim h1 h2)
  have ha := hg.ac hc
  have hd := hg.dn hc
  obtain ⟨e3, e4, e5⟩ := h5 c hc
  by_cases h3 : a2 < 0
  · rw [if_pos h3]
  rw [if_neg h3]
  refine ob_v (rg_C rfl rfl) ?_
  rw [if_neg h1]
  refine ei_n (nI_ge (b := 4) (by omega) (by omega)) (ob_v (rg_A rfl (by decide) c (by omega) (by decide)) ?_)
  rw [e3]
  by_cases h4 : nI (gAc g c) ≤ a2
  · rw [if_pos h4]
  rw [if_neg h4]
  by_cases h5 : a3 < 0
  · rw [if_pos h5]
  rw [if_neg h5]
  refine ob_v (rg_C rfl rfl) ?_
  rw [if_neg h1]
  refine ei_n (nI_ge (b := 4) (by omega) (by omega)) (ob_v (rg_A rfl (by decide) c (by omega) (by decide)) ?_)
  rw [e4, if_pos]
  refine Classical.byContradiction (fun h6 => ?_)
  obtain ⟨i, hi, rfl⟩ : ∃ i, i < gAc g c ∧ a2 = nI i := (i_place a2 (by omega)).resolve_right (fun e => e.elim h3 h4)
  obtain ⟨j, hj, rfl⟩ : ∃ j, j < gDn g c ∧ a3 = nI j := (i_place a3 (by omega)).resolve_right (fun e => e.elim h5 h6)
  exact hn ⟨c, i, j, hc, rfl, hi, rfl, hj, rfl⟩
/-- a change of the coefficients alone -/
theorem Rel.coef (h : Rel x y) (hP : isP P) (hR : x.2.1 0 4 = P) (ht : x.1 0 3 = 1) (hp : pRel x y P g) {f f' : Nat → Int32} (hf : ∀ i, i < 64 * gBs g g.2.2.1 → f i = f' i ∧ cfOk (i % 64) (f' i)) : Rel (rg_wA x (P + 6) f) (rg_wA y 64 f') := by
  obtain ⟨h1, h2, h3, h4, h4b, h5, h6⟩ := h
  have hP' : P = 7 ∨ P = 15 := hP
  refine ⟨h1.c rfl (wA_n _ _ (by omega)) rfl rfl, h2.c ⟨rfl, rfl⟩ (fun o ho => rfl) (fun o ho => wA_n _ _ (by omega)) rfl rfl, h3, h4.c (fun p k hp hk => rfl) (fun p hp => wA_n _ _ (by omega)) (fun o o1 o2 => wA_n _ _ (by omega)), h4b.c rfl, ?_, h6.c (wA_n _ _ (by omega)) (fun o o1 o2 => wA_n _ _ (by omega))⟩
  obtain ⟨P', hP1, hR', h5⟩ := h5
  obtain rfl : P = P' := hR.symm.trans hR'
  rcases h5 with h5 | ⟨t1, t2, _⟩
  · exact absurd (ht.symm.trans h5.1) (by decide)
  refine ⟨P, hP1, hR, Or.inr ⟨t1, t2, g, ?_⟩⟩
  obtain ⟨p1, p2, ⟨⟨q1, q2, q3, q4, q5⟩, q6, q7, q8, q9⟩, ⟨⟨s1, s2, s3, s4, s5⟩, s6, s7, s8, s9, s10⟩, p5, p6⟩ := hp
  refine ⟨p1, p2, ⟨⟨q1, q2, q3, ?_, ?_⟩, q6, q7, q8, ?_⟩, ⟨⟨s1, s2, s3, s4, s5⟩, s6, s7, s8, s9, s10⟩, ?_, ?_⟩
  · rw [wA_n _ _ (by omega)]; exact q4
  · rw [wA_n _ _ (by omega)]; exact q5
  · rw [wA_n _ _ (by omega), wA_n _ _ (by omega), wA_n _ _ (by omega)]; exact q9
  · rw [wA_s, wA_s]; exact hf
  · rw [wA_n _ _ (by omega), wA_n _ _ (by omega)]; exact p6
def okV (k v : Int32) : Prop := ¬ v < (if k = 0 then -1024 else -1023) ∧ v ≤ 1023
theorem x_set1 (hP : isP P) (hR : x.2.1 0 4 = P) (ht : x.1 0 3 = 1) (hg : gOk g) (hb : gBs g g.2.2.1 ≤ 192) (h : xPic x P g) {c i j k : Nat} {v : Int32} (hc : c < g.2.2.1) (hi : i < gAc g c) (hj : j < gDn g c) (hk : k < 64) (hv : okV (nI k) v) : fX11_setCoefficient X (rg_p lX B w0 x) (B + 0) (nI c) (nI i) (nI j) (nI k) v = some (1, rg_p lX B w0 (rg_wA x (P + 6) (upd (x.2.2.1 (P + 6)) (64 * (gBs g c + j * gAc g c + i) + k) v))) := by
  have hin := gB_in hc hi hj
  have fin : ∀ z, ¬ v < z → fX11_setCoefficient_43 X (B + 0) (nI k) v (nI (gBs g c + j * gAc g c + i)) z v (rg_p lX B w0 x) = some (1, rg_p lX B w0 (rg_wA x (P + 6) (upd (x.2.2.1 (P + 6)) (64 * (gBs g c + j * gAc g c + i) + k) v))) := by
    intro z hz
    unfold fX11_setCoefficient_43
    rw [if_neg hz, if_pos hv.2]
    refine ob_v (rg_R rfl rfl) ?_
    rw [hR]
    refine ob_v (rg_C hP.o rfl) ?_
    rw [n64]
    exact ob_v (rg_sA _ hP.a6 (by decide) _ _ (by omega) (by decide)) rfl
  unfold fX11_setCoefficient
  refine ob_v (rg_O rfl) (ob_v (x_bo1 hP hR ht hg h hc hi hj) ?_)
  refine ei_n (m1_n (by omega)) (ei_n (nI_pos (by omega)) (ei_n (nI_nlt (a := 63) (b := k) (by omega) (by omega)) ?_))
  have hv1 := hv.1
  by_cases k0 : nI k = 0
  · rw [if_pos k0] at hv1
    exact ei_t k0 (fin _ hv1)
  · rw [if_neg k0] at hv1
    exact ei_n k0 (fin _ hv1)
theorem x_set0 (hP : isP P) (hR : x.2.1 0 4 = P) (hg : gOk g) (hb : gBs g g.2.2.1 ≤ 192) (h : xPic x P g) (ht : x.1 0 3 = 1) {a1 a2 a3 a4 v : Int32} (hn : ¬ (inB g a1 a2 a3 ∧ (∃ k, k < 64 ∧ a4 = nI k) ∧ okV a4 v)) : fX11_setCoefficient X (rg_p lX B w0 x) (B + 0) a1 a2 a3 a4 v = some (0, rg_p lX B w0 x) := by
  unfold fX11_setCoefficient
  refine ob_v (rg_O rfl) ?_
  by_cases h1 : inB g a1 a2 a3
  · obtain ⟨c, i, j, hc, rfl, hi, rfl, hj, rfl⟩ := h1
    have hin := gB_in hc hi hj
    refine ob_v (x_bo1 hP hR ht hg h hc hi hj) (ei_n (m1_n (by omega)) ?_)
    by_cases h2 : a4 < 0
    · exact ei_t h2 rfl
    refine ei_n h2 ?_
    by_cases h3 : 63 < a4
    · exact ei_t h3 rfl
    refine ei_n h3 ?_
    obtain ⟨k, hk, rfl⟩ := nI_of2 (M := 63) (n := 63) rfl h2 (Int32.not_lt.mp h3)
    have nv : ¬ okV (nI k) v := fun e => hn ⟨⟨c, i, j, hc, rfl, hi, rfl, hj, rfl⟩, ⟨k, by omega, rfl⟩, e⟩
    have fin : ∀ z u, (¬ v < z → ¬ v ≤ 1023) → fX11_setCoefficient_43 X (B + 0) (nI k) v u z v (rg_p lX B w0 x) = some (0, rg_p lX B w0 x) := by
      intro z u hz
      unfold fX11_setCoefficient_43
      by_cases e : v < z
      · exact ei_t e rfl
      · exact ei_n e (ei_n (hz e) rfl)
    unfold okV at nv
    by_cases k0 : nI k = 0
    · rw [if_pos k0] at nv
      exact ei_t k0 (fin _ _ (fun e f => nv ⟨e, f⟩))
    · rw [if_neg k0] at nv
      exact ei_n k0 (fin _ _ (fun e f => nv ⟨e, f⟩))
  · exact ob_v (x_bo0 hP hR ht hg h h1) (ei_t rfl rfl)
theorem m_canBe {k v : Int32} : fX15_canBe X w k v = some (1, w) ∧ okV k v ∨ fX15_canBe X w k v = some (0, w) ∧ ¬ okV k v := by
  unfold fX15_canBe fX15_canBe_14 okV
  by_cases k0 : k = 0
  · rw [if_pos k0, if_pos k0]
    by_cases h1 : v < -1024
    · exact Or.inr ⟨if_pos h1, fun e => e.1 h1⟩
    · by_cases h2 : 1023 < v
      · exact Or.inr ⟨(if_neg h1).trans (if_pos h2), fun e => absurd h2 (Int32.not_lt.mpr e.2)⟩
      · exact Or.inl ⟨(if_neg h1).trans (if_neg h2), h1, Int32.not_lt.mp h2⟩
  · rw [if_neg k0, if_neg k0]
    by_cases h1 : v < -1023
    · exact Or.inr ⟨if_pos h1, fun e => e.1 h1⟩
    · by_cases h2 : 1023 < v
      · exact Or.inr ⟨(if_neg h1).trans (if_pos h2), fun e => absurd h2 (Int32.not_lt.mpr e.2)⟩
      · exact Or.inl ⟨(if_neg h1).trans (if_neg h2), h1, Int32.not_lt.mp h2⟩
theorem okV_c {k : Nat} {v : Int32} (hk : k < 64) (h : okV (nI k) v) : cfOk k v := by
  have e1 : (1023 : Int32).toInt = 1023 := by decide
  have e2 : (-1024 : Int32).toInt = -1024 := by decide
  have e3 : (-1023 : Int32).toInt = -1023 := by decide
  unfold okV at h
  unfold cfOk
  rw [i_le, e1] at h
  refine ⟨?_, h.2⟩
  by_cases k0 : k = 0
  · subst k0
    rw [if_pos nI_0, i_lt, e2] at h
    rw [if_pos rfl]
    omega
  · rw [if_neg (nI_ne0 (by omega) (by omega)), i_lt, e3] at h
    rw [if_neg k0]
    omega
theorem m_set1 (ht : y.1 0 17 = 1) (hg : gOk g) (hb : gBs g g.2.2.1 ≤ 192) (h : mPic y g) {c i j k : Nat} {v : Int32} (hc : c < g.2.2.1) (hi : i < gAc g c) (hj : j < gDn g c) (hk : k < 64) (hv : okV (nI k) v) : fX15_setCoefficient X (rg_p lM b w0 y) (b + 0) (nI c) (nI i) (nI j) (nI k) v = some (1, rg_p lM b w0 (rg_wA y 64 (upd (y.2.2.1 64) (64 * (gBs g c + j * gAc g c + i) + k) v))) := by
  have hin := gB_in hc hi hj
  have hc4 := hg.2.2.2.2.2.1
  have h' := h
  obtain ⟨hf, _, _, _, _, h5⟩ := h
  obtain ⟨e3, e4, e5⟩ := h5 c hc
  unfold fX15_setCoefficient
  refine ob_v (rg_O rfl) (ob_v (m_ib1 ht hg h' hc hi hj) ?_)
  refine ei_n n10 (ei_n (nI_pos (by omega)) (ei_n (nI_nlt (a := 63) (b := k) (by omega) (by omega)) ?_))
  rcases m_canBe (X := X) (w := rg_p lM b w0 y) (k := nI k) (v := v) with hh | hh
  · refine ob_v hh.1 (ei_n n10 ?_)
    refine ob_v (rg_C rfl rfl) (ob_v (rg_C rfl rfl) (ob_v (rg_A rfl (by decide) c (by omega) (by decide)) (ob_v (rg_C rfl rfl) (ob_v (rg_A rfl (by decide) c (by omega) (by decide)) ?_))))
    rw [e3, e5, pk_mul, nI_add, nI_add, n64]
    refine ob_v (rg_sA _ rfl (by decide) _ _ (by omega) (by decide)) ?_
    rw [pk_vs, sh_ok (okV_c hk hv)]
  · exact absurd hv hh.2
theorem m_set0 (ht : y.1 0 17 = 1) (hg : gOk g) (h : mPic y g) {a1 a2 a3 a4 v : Int32} (hn : ¬ (inB g a1 a2 a3 ∧ (∃ k, k < 64 ∧ a4 = nI k) ∧ okV a4 v)) : fX15_setCoefficient X (rg_p lM b w0 y) (b + 0) a1 a2 a3 a4 v = some (0, rg_p lM b w0 y) := by
  unfold fX15_setCoefficient
  refine ob_v (rg_O rfl) ?_
  by_cases h1 : inB g a1 a2 a3
  · have h1' := h1
    obtain ⟨c, i, j, hc, rfl, hi, rfl, hj, rfl⟩ := h1
    refine ob_v (m_ib1 ht hg h hc hi hj) (ei_n n10 ?_)
    by_cases h2 : a4 < 0
    · exact ei_t h2 rfl
    refine ei_n h2 ?_
    by_cases h3 : 63 < a4
    · exact ei_t h3 rfl
    refine ei_n h3 ?_
    obtain ⟨k, hk, rfl⟩ := nI_of2 (M := 63) (n := 63) rfl h2 (Int32.not_lt.mp h3)
    rcases m_canBe (X := X) (w := rg_p lM b w0 y) (k := nI k) (v := v) with hh | hh
    · exact absurd ⟨h1', ⟨k, by omega, rfl⟩, hh.2⟩ hn
    · exact ob_v hh.1 (ei_t rfl rfl)
  · exact ob_v (m_ib0 ht hg h h1) (ei_t rfl rfl)
theorem o_set (hr : Rel x y) (a1 a2 a3 a4 v : Int32) : op2 X B b (fun w => fX11_setCoefficient X w (B + 0) a1 a2 a3 a4 v) (fun w => fX15_setCoefficient X w (b + 0) a1 a2 a3 a4 v) x y := by
  obtain ⟨P, hP1, hR, h5⟩ := hr.2.2.2.2.2.1
  have hP : isP P := by unfold isP; omega
  rcases h5 with ⟨t1, t2⟩ | ⟨t1, t2, g, hp⟩
  · refine ⟨0, x, y, fun w0 => ?_, fun w0 => ?_, hr⟩
    · dsimp only
      unfold fX11_setCoefficient
      exact ob_v (rg_O rfl) (ob_v (x_boT t1 _ _ _) (ei_t rfl rfl))
    · dsimp only
      unfold fX15_setCoefficient
      exact ob_v (rg_O rfl) (ob_v (m_ibT t2 _ _ _) (ei_t rfl rfl))
  · by_cases hn : inB g a1 a2 a3 ∧ (∃ k, k < 64 ∧ a4 = nI k) ∧ okV a4 v
    · obtain ⟨⟨c, i, j, hc, rfl, hi, rfl, hj, rfl⟩, ⟨k, hk, rfl⟩, hv⟩ := hn
      refine ⟨1, _, _, fun w0 => x_set1 hP hR t1 hp.1 hp.2.1 hp.2.2.1 hc hi hj hk hv, fun w0 => m_set1 t2 hp.1 hp.2.1 hp.2.2.2.1 hc hi hj hk hv, hr.coef hP hR t1 hp (fun q hq => ?_)⟩
      by_cases e : q = 64 * (gBs g c + j * gAc g c + i) + k
      · subst e
        rw [pk_us, pk_us]
        refine ⟨rfl, ?_⟩
        rw [show (64 * (gBs g c + j * gAc g c + i) + k) % 64 = k by omega]
        exact okV_c hk hv
      · rw [pk_un e, pk_un e]
        exact hp.2.2.2.2.1 q hq
    · exact ⟨0, x, y, fun w0 => x_set0 hP hR hp.1 hp.2.1 hp.2.2.1 t1 hn, fun w0 => m_set0 t2 hp.1 hp.2.2.2.1 hn, hr⟩
theorem o_coef (hr : Rel x y) (a1 a2 a3 a4 : Int32) : op2 X B b (fun w => fX11_coefficientAt X w (B + 0) a1 a2 a3 a4) (fun w => fX15_coefficientAt X w (b + 0) a1 a2 a3 a4) x y := by
  obtain ⟨P, hP1, hR, h5⟩ := hr.2.2.2.2.2.1
  have hP : isP P := by unfold isP; omega
  unfold op2
  dsimp only
  unfold fX11_coefficientAt fX15_coefficientAt
  rcases h5 with ⟨t1, t2⟩ | ⟨t1, t2, g, hp⟩
  · exact ⟨0, x, y, fun w0 => ob_v (rg_O rfl) (ob_v (x_boT t1 _ _ _) (ei_t rfl rfl)), fun w0 => ob_v (rg_O rfl) (ob_v (m_ibT t2 _ _ _) (ei_t rfl rfl)), hr⟩
  · by_cases h1 : inB g a1 a2 a3
    · obtain ⟨c, i, j, hc, rfl, hi, rfl, hj, rfl⟩ := h1
      have hin := gB_in hc hi hj
      have hb := hp.2.1
      have hc4 := hp.1.2.2.2.2.2.1
      obtain ⟨e3, e4, e5⟩ := hp.2.2.2.1.2.2.2.2.2 c hc
      by_cases h2 : a4 < 0
      · exact ⟨0, x, y, fun w0 => ob_v (rg_O rfl) (ob_v (x_bo1 hP hR t1 hp.1 hp.2.2.1 hc hi hj) (ei_n (m1_n (by omega)) (ei_t h2 rfl))), fun w0 => ob_v (rg_O rfl) (ob_v (m_ib1 t2 hp.1 hp.2.2.2.1 hc hi hj) (ei_n n10 (ei_t h2 rfl))), hr⟩
      by_cases h3 : a4 ≤ 63
      · obtain ⟨k, hk, rfl⟩ := nI_of2 (M := 63) (n := 63) rfl h2 h3
        have e64 := n64 (gBs g c + j * gAc g c + i) k
        have eq := hp.2.2.2.2.1 (64 * (gBs g c + j * gAc g c + i) + k) (by omega)
        refine ⟨y.2.2.1 64 (64 * (gBs g c + j * gAc g c + i) + k), x, y, fun w0 => ob_v (rg_O rfl) (ob_v (x_bo1 hP hR t1 hp.1 hp.2.2.1 hc hi hj) (ei_n (m1_n (by omega)) (ei_n h2 (ei_t h3 ?_)))), fun w0 => ob_v (rg_O rfl) (ob_v (m_ib1 t2 hp.1 hp.2.2.2.1 hc hi hj) (ei_n n10 (ei_n h2 (ei_t h3 ?_)))), hr⟩
        · refine ob_v (rg_R rfl rfl) ?_
          rw [hR]
          refine ob_v (rg_C hP.o rfl) ?_
          rw [e64]
          refine ob_v (rg_A hP.a6 (by decide) _ (by omega) (by decide)) ?_
          rw [eq.1]
        · refine ob_v (rg_C rfl rfl) (ob_v (rg_C rfl rfl) (ob_v (rg_A rfl (by decide) c (by omega) (by decide)) (ob_v (rg_C rfl rfl) (ob_v (rg_A rfl (by decide) c (by omega) (by decide)) ?_))))
          rw [e3, e5, pk_mul, nI_add, nI_add, e64]
          exact ob_v (rg_A rfl (by decide) _ (by omega) (by decide)) rfl
      · exact ⟨0, x, y, fun w0 => ob_v (rg_O rfl) (ob_v (x_bo1 hP hR t1 hp.1 hp.2.2.1 hc hi hj) (ei_n (m1_n (by omega)) (ei_n h2 (ei_n h3 rfl)))), fun w0 => ob_v (rg_O rfl) (ob_v (m_ib1 t2 hp.1 hp.2.2.2.1 hc hi hj) (ei_n n10 (ei_n h2 (ei_n h3 rfl)))), hr⟩
    · exact ⟨0, x, y, fun w0 => ob_v (rg_O rfl) (ob_v (x_bo0 hP hR t1 hp.1 hp.2.2.1 h1) (ei_t rfl rfl)), fun w0 => ob_v (rg_O rfl) (ob_v (m_ib0 t2 hp.1 hp.2.2.2.1 h1) (ei_t rfl rfl)), hr⟩
theorem o_step (hr : Rel x y) (a1 a2 : Int32) : op2 X B b (fun w => fX11_stepAt X w (B + 0) a1 a2) (fun w => fX15_stepAt X w (b + 0) a1 a2) x y := by
  obtain ⟨P, hP1, hR, h5⟩ := hr.2.2.2.2.2.1
  have hP : isP P := by unfold isP; omega
  unfold op2
  dsimp only
  unfold fX11_stepAt fX15_stepAt
  rcases h5 with ⟨t1, t2⟩ | ⟨t1, t2, g, hp⟩
  · exact ⟨-1, x, y, fun w0 => ob_v (rg_I rfl rfl) (ei_t t1 rfl), fun w0 => ob_v (rg_I rfl rfl) (ei_t t2 rfl), hr⟩
  have hc4 := hp.1.2.2.2.2.2.1
  have u1 : ¬ x.1 0 3 = 0 := by rw [t1]; decide
  have u2 : ¬ y.1 0 17 = 0 := by rw [t2]; decide
  have ex : x.1 P 2 = nI g.2.2.1 := hp.2.2.1.1.2.2.1
  have ey : y.1 0 20 = nI g.2.2.1 := hp.2.2.2.1.1.2.2.1
  have gx : ∀ w0 : px_W, gR (rg_p lX B w0 x) (B + 0) 11 4 = some (B + P) := fun w0 => by rw [← hR]; exact rg_R rfl rfl
  have ix : ∀ w0 : px_W, gI (rg_p lX B w0 x) (B + P) 2 2 = some (nI g.2.2.1) := fun w0 => by rw [← ex]; exact rg_I hP.o rfl
  have iy : ∀ w0 : px_W, gI (rg_p lM b w0 y) (b + 0) 15 20 = some (nI g.2.2.1) := fun w0 => by rw [← ey]; exact rg_I rfl rfl
  by_cases h1 : a1 < 0
  · exact ⟨-1, x, y, fun w0 => ob_v (rg_I rfl rfl) (ei_n u1 (ei_t h1 rfl)), fun w0 => ob_v (rg_I rfl rfl) (ei_n u2 (ei_t h1 rfl)), hr⟩
  by_cases h2 : nI g.2.2.1 ≤ a1
  · exact ⟨-1, x, y, fun w0 => ob_v (rg_I rfl rfl) (ei_n u1 (ei_n h1 (ob_v (gx w0) (ob_v (ix w0) (ei_t h2 rfl))))), fun w0 => ob_v (rg_I rfl rfl) (ei_n u2 (ei_n h1 (ob_v (iy w0) (ei_t h2 rfl)))), hr⟩
  obtain ⟨c, hc, rfl⟩ : ∃ c, c < g.2.2.1 ∧ a1 = nI c := (i_place a1 (by omega)).resolve_right (fun e => e.elim h1 h2)
  by_cases h3 : a2 < 0
  · exact ⟨-1, x, y, fun w0 => ob_v (rg_I rfl rfl) (ei_n u1 (ei_n h1 (ob_v (gx w0) (ob_v (ix w0) (ei_n h2 (ei_t h3 rfl)))))), fun w0 => ob_v (rg_I rfl rfl) (ei_n u2 (ei_n h1 (ob_v (iy w0) (ei_n h2 (ei_t h3 rfl))))), hr⟩
  by_cases h4 : a2 ≤ 63
  · obtain ⟨k, hk, rfl⟩ := nI_of2 (M := 63) (n := 63) rfl h3 h4
    have e64 : (64 : Int32) * nI c + nI k = nI (64 * c + k) := by rw [← nI_add, ← pk_mul]; rfl
    have eq := hp.2.2.2.2.2 (64 * c + k) (by omega)
    refine ⟨y.2.2.1 63 (64 * c + k), x, y, fun w0 => ob_v (rg_I rfl rfl) (ei_n u1 (ei_n h1 (ob_v (gx w0) (ob_v (ix w0) (ei_n h2 (ei_n h3 (ei_t h4 (ob_v (gx w0) (ob_v (rg_C hP.o rfl) ?_))))))))), fun w0 => ob_v (rg_I rfl rfl) (ei_n u2 (ei_n h1 (ob_v (iy w0) (ei_n h2 (ei_n h3 (ei_t h4 (ob_v (rg_C rfl rfl) ?_))))))), hr⟩
    · rw [e64]
      refine ob_v (rg_A hP.a7 (by decide) _ (by omega) (by decide)) ?_
      rw [eq.1]
    · rw [e64]
      exact ob_v (rg_A rfl (by decide) _ (by omega) (by decide)) rfl
  · exact ⟨-1, x, y, fun w0 => ob_v (rg_I rfl rfl) (ei_n u1 (ei_n h1 (ob_v (gx w0) (ob_v (ix w0) (ei_n h2 (ei_n h3 (ei_n h4 rfl))))))), fun w0 => ob_v (rg_I rfl rfl) (ei_n u2 (ei_n h1 (ob_v (iy w0) (ei_n h2 (ei_n h3 (ei_n h4 rfl)))))), hr⟩
end
