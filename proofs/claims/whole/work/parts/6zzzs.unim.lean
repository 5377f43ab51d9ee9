/-! members of a scan, its units and the end of its bits, by the reference -/
def mbM (cm : Nat → Nat) (mm k : Nat) : Prop := (0 < mm ∧ cm 0 = k) ∨ (1 < mm ∧ cm 1 = k) ∨ (2 < mm ∧ cm 2 = k) ∨ (3 < mm ∧ cm 3 = k)
theorem mbM_i {cm : Nat → Nat} {mm i : Nat} (h4 : mm ≤ 4) (hi : i < mm) : mbM cm mm (cm i) := by
  unfold mbM
  rcases (show i = 0 ∨ i = 1 ∨ i = 2 ∨ i = 3 by omega) with rfl | rfl | rfl | rfl
  · exact Or.inl ⟨hi, rfl⟩
  · exact Or.inr (Or.inl ⟨hi, rfl⟩)
  · exact Or.inr (Or.inr (Or.inl ⟨hi, rfl⟩))
  · exact Or.inr (Or.inr (Or.inr ⟨hi, rfl⟩))
theorem mbM_n {cm : Nat → Nat} {mm k : Nat} (h : ∀ i, i < mm → cm i ≠ k) : ¬ mbM cm mm k := by
  unfold mbM
  intro e
  rcases e with ⟨e1, e2⟩ | ⟨e1, e2⟩ | ⟨e1, e2⟩ | ⟨e1, e2⟩
  · exact h 0 e1 e2
  · exact h 1 e1 e2
  · exact h 2 e1 e2
  · exact h 3 e1 e2
def mkR (v : Int32) (cm : Nat → Nat) (mm : Nat) : Prop := ∀ k, k < 4 → (mbM cm mm k ∧ vb v k = 1) ∨ (¬ mbM cm mm k ∧ vb v k = 0)
def uYr (y : rg_S) (g : gG) (cm : Nat → Nat) (mm iv : Nat) : Prop := mkR (y.1 24 22) cm mm ∧ y.1 24 10 = nI (gUA g) ∧ y.1 24 11 = nI (gUD g) ∧ y.1 24 2 = nI g.2.2.1 ∧ y.1 24 27 = nI iv ∧ ∀ c, c < g.2.2.1 → y.2.2.1 25 c = nI (g.2.2.2.1 c) ∧ y.2.2.1 26 c = nI (g.2.2.2.2 c) ∧ y.2.2.1 27 c = nI (gAc g c) ∧ y.2.2.1 29 c = nI (gOA g c) ∧ y.2.2.1 30 c = nI (gOD g c)
section
variable {X : px_X} {b B : Nat} {w0 w1 w : px_W} {y y' : rg_S} {D : Nat → Nat} {n d0 c i j u mm iv : Nat} {cm : Nat → Nat} {a : zS} {g : gG} {v : Int32}
theorem uYr.f (h : uYr y g cm mm iv) (F : zFY y y') : uYr y' g cm mm iv := by
  unfold uYr at *
  rw [F.1 24 22 (by omega), F.1 24 10 (by omega), F.1 24 11 (by omega), F.1 24 2 (by omega), F.1 24 27 (by omega), F.2.2.1 25 (by omega) (by omega), F.2.2.1 26 (by omega) (by omega), F.2.2.1 27 (by omega) (by omega), F.2.2.1 29 (by omega) (by omega), F.2.2.1 30 (by omega) (by omega)]
  exact h
theorem m_onesR (hg : gOk g) (hm : mOk g cm mm) (h : mkR v cm mm) : fX13_ones X w v = some (nI mm, w) := by
  have e := m_ones4 (X := X) (w := w) v 4 FU 0 0 rfl (by unfold FU; omega)
  unfold fX13_ones
  refine (show fX13_ones_4 X FU _ (nI 0) (nI 0) w = _ from e).trans ?_
  congr 2
  rw [Nat.zero_add]
  congr 1
  have h4 := hg.2.2.2.2.2.1
  have h2 := hm.2.1
  have key : ∀ c, c ≤ 4 → ∀ i, i ≤ mm → (∀ k, k < i → cm k < c) → (∀ k, i ≤ k → k < mm → c ≤ cm k) → sumN (fun j => vb v (0 + j)) c = i := by
    intro c
    induction c with
    | zero =>
      intro _ i hi p1 p2
      rcases Nat.eq_zero_or_pos i with z | z
      · exact z.symm
      · exact absurd (p1 0 z) (Nat.not_lt_zero _)
    | succ c ih =>
      intro hc i hi p1 p2
      rw [sumN.eq_2, Nat.zero_add]
      by_cases q : 0 < i ∧ cm (i - 1) = c
      · have e := ih (by omega) (i - 1) (by omega) (fun k hk => by
          have := hm.2.2.2.1 k (i - 1) hk (by omega)
          omega) (fun k ka kb => by
          rcases Nat.eq_or_lt_of_le ka with z | z
          · rw [← z]
            omega
          · have := p2 k (by omega) kb
            omega)
        have hb := (h c (by omega)).resolve_right (fun e => e.1 (by
          have := mbM_i (cm := cm) (mm := mm) (i := i - 1) (by omega) (by omega)
          rw [q.2] at this
          exact this))
        rw [e, hb.2]
        omega
      · have ne : ∀ k, k < mm → cm k ≠ c := by
          intro k hk e
          rcases Nat.lt_or_ge k i with z | z
          · rcases Nat.lt_or_ge k (i - 1) with z1 | z1
            · have g1 := hm.2.2.2.1 k (i - 1) z1 (by omega)
              have g2 := p1 (i - 1) (by omega)
              omega
            · exact q ⟨by omega, by rw [show i - 1 = k by omega]; exact e⟩
          · have := p2 k z hk
            omega
        have e := ih (by omega) i hi (fun k hk => by
          have g1 := p1 k hk
          have g2 := ne k (by omega)
          omega) (fun k ka kb => by
          have := p2 k ka kb
          omega)
        have hb := (h c (by omega)).resolve_left (fun e => mbM_n ne e.1)
        rw [e, hb.2, Nat.add_zero]
  exact key 4 (Nat.le_refl _) mm (Nat.le_refl _) (fun k hk => by have := hm.2.2.1 k hk; omega) (fun k ka kb => absurd kb (by omega))
theorem m_singleR (hg : gOk g) (hm : mOk g cm mm) (h : mkR (y.1 24 22) cm mm) : fX13_single X (rg_p lM b w0 y) (b + 24) = some (nI (cm 0), rg_p lM b w0 y) := by
  have h4 := hg.2.2.2.2.2.1
  have h1 := hm.1
  have h2 := hm.2.1
  have hc0 := hm.2.2.1 0 h1
  have lp : ∀ (k M i : Nat), i + k = cm 0 → k < M → fX13_single_2 X M (b + 24) (nI i) (rg_p lM b w0 y) = some (nI (cm 0), rg_p lM b w0 y) := by
    intro k
    induction k with
    | zero =>
      intro M i hi hM
      obtain ⟨M, rfl⟩ : ∃ M', M = M' + 1 := ⟨M - 1, by omega⟩
      rw [fX13_single_2.eq_2, show i = cm 0 by omega]
      refine ob_v (rg_I rfl rfl) ?_
      have hb := (h (cm 0) (by omega)).resolve_right (fun e => e.1 (mbM_i (by omega) h1))
      rw [vb_e, hb.2]
      exact ei_n (by decide) rfl
    | succ k ih =>
      intro M i hi hM
      obtain ⟨M, rfl⟩ : ∃ M', M = M' + 1 := ⟨M - 1, by omega⟩
      rw [fX13_single_2.eq_2]
      refine ob_v (rg_I rfl rfl) ?_
      have hb := (h i (by omega)).resolve_left (fun e => mbM_n (fun j hj e2 => by
        rcases Nat.eq_zero_or_pos j with z | z
        · rw [z] at e2
          omega
        · have := hm.2.2.2.1 0 j z hj
          omega) e.1)
      rw [vb_e, hb.2, nI_1]
      exact ei_t (by decide) (ih M (i + 1) (by omega) (by omega))
  unfold fX13_single
  exact lp (cm 0) FU 0 (by omega) (by unfold FU; omega)
theorem nm1R (hg : gOk g) (hm : mOk g cm mm) (m1 : mm ≠ 1) : ¬ nI mm = 1 := fun e => m1 ((nI_eq (b := 1) (by have := hm.2.1; have := hg.2.2.2.2.2.1; omega) (by omega)).mp e)
theorem m_unitsR (hg : gOk g) (hm : mOk g cm mm) (h : uYr y g cm mm iv) : fX13_units X (rg_p lM b w0 y) (b + 24) = some (nI (uU g cm mm), rg_p lM b w0 y) := by
  obtain ⟨h22, h10, h11, h2, h27, hc⟩ := h
  have hc0 := hm.2.2.1 0 hm.1
  have h4 := hg.2.2.2.2.2.1
  unfold fX13_units
  refine ob_v (rg_O rfl) (ob_v (m_singleR hg hm h22) (ob_v (rg_I rfl rfl) (ob_v (m_onesR hg hm h22) ?_)))
  unfold uU
  by_cases m1 : mm = 1
  · rw [if_pos m1]
    refine ei_t (by rw [m1]; rfl) (ob_v (rg_C rfl rfl) (ob_v (rg_A rfl (by decide) _ (by omega) (by decide)) (ob_v (rg_C rfl rfl) (ob_v (rg_A rfl (by decide) _ (by omega) (by decide)) ?_))))
    rw [(hc (cm 0) hc0).2.2.2.1, (hc (cm 0) hc0).2.2.2.2, pk_mul]
  · rw [if_neg m1]
    refine ei_n (nm1R hg hm m1) (ob_v (rg_I rfl rfl) (ob_v (rg_I rfl rfl) ?_))
    rw [h10, h11, pk_mul]
theorem m_blocksR (hg : gOk g) (hm : mOk g cm mm) (h : uYr y g cm mm iv) (hi : i < mm) : fX13_blocksIn X (rg_p lM b w0 y) (b + 24) (nI (cm i)) = some (nI (uB g mm (cm i)), rg_p lM b w0 y) := by
  obtain ⟨h22, h10, h11, h2, h27, hc⟩ := h
  have hcc := hm.2.2.1 i hi
  have h4 := hg.2.2.2.2.2.1
  have h3 := hm.2.1
  unfold fX13_blocksIn
  refine ob_v (rg_I rfl rfl) ?_
  have hb := (h22 (cm i) (by omega)).resolve_right (fun e => e.1 (mbM_i (by omega) hi))
  rw [vb_e, hb.2]
  unfold uB
  refine ei_n (by decide) (ob_v (rg_I rfl rfl) (ob_v (m_onesR hg hm h22) ?_))
  by_cases m1 : mm = 1
  · rw [if_pos m1]
    exact ei_t (by rw [m1]; rfl) rfl
  · rw [if_neg m1]
    refine ei_n (nm1R hg hm m1) (ob_v (rg_C rfl rfl) (ob_v (rg_A rfl (by decide) _ (by omega) (by decide)) (ob_v (rg_C rfl rfl) (ob_v (rg_A rfl (by decide) _ (by omega) (by decide)) ?_))))
    rw [(hc _ hcc).1, (hc _ hcc).2.1, pk_mul]
theorem m_blocks0 (h : uYr y g cm mm iv) (hc : c < 4) (hi : ∀ i, i < mm → cm i ≠ c) : fX13_blocksIn X (rg_p lM b w0 y) (b + 24) (nI c) = some (nI 0, rg_p lM b w0 y) := by
  unfold fX13_blocksIn
  refine ob_v (rg_I rfl rfl) ?_
  have hb := (h.1 c hc).resolve_left (fun e => mbM_n hi e.1)
  rw [vb_e, hb.2]
  exact ei_t (by decide) rfl
theorem m_blockOfR (hg : gOk g) (hm : mOk g cm mm) (h : uYr y g cm mm iv) (hu : u < uU g cm mm) (hi : i < mm) (hj : j < uB g mm (cm i)) : fX13_blockOf X (rg_p lM b w0 y) (b + 24) (nI (cm i)) (nI u) (nI j) = some (nI (scQ g mm u (cm i) j), rg_p lM b w0 y) := by
  obtain ⟨h22, h10, h11, h2, h27, hc⟩ := h
  have hcc := hm.2.2.1 i hi
  have h4 := hg.2.2.2.2.2.1
  have h3 := hm.2.1
  have hun := uU_lt hg hm
  have ua := hg.ua
  have f := hg.2.2.2.2.2.2 (cm i) hcc
  have oa := hg.oa hcc
  have ac := hg.ac hcc
  obtain ⟨a1, a2, a3, a4, a5⟩ := hc (cm i) hcc
  have hj4 := hm.o hi hj
  unfold fX13_blockOf scQ
  refine ob_v (rg_I rfl rfl) (ob_v (m_onesR hg hm h22) ?_)
  by_cases m1 : mm = 1
  · rw [if_pos m1]
    refine ei_t (by rw [m1]; rfl) (ob_v (rg_C rfl rfl) (ob_v (rg_A rfl (by decide) _ (by omega) (by decide)) ?_))
    rw [a4]
    refine ob_v (dI_n (by omega) (by omega) (by omega)) (ob_v (rg_C rfl rfl) (ob_v (rg_A rfl (by decide) _ (by omega) (by decide)) (ob_v (rg_C rfl rfl) (ob_v (rg_A rfl (by decide) _ (by omega) (by decide)) ?_))))
    rw [a4]
    refine ob_v (rI_n (by omega) (by omega) (by omega)) ?_
    rw [a3, pk_mul, nI_add]
  · rw [if_neg m1]
    refine ei_n (nm1R hg hm m1) (ob_v (rg_I rfl rfl) ?_)
    rw [h10]
    refine ob_v (rI_n (by omega) (by omega) (by omega)) (ob_v (rg_C rfl rfl) (ob_v (rg_A rfl (by decide) _ (by omega) (by decide)) (ob_v (rg_C rfl rfl) (ob_v (rg_A rfl (by decide) _ (by omega) (by decide)) ?_))))
    rw [a1]
    refine ob_v (rI_n (by omega) (by omega) (by omega)) (ob_v (rg_I rfl rfl) ?_)
    rw [h10]
    refine ob_v (dI_n (by omega) (by omega) (by omega)) (ob_v (rg_C rfl rfl) (ob_v (rg_A rfl (by decide) _ (by omega) (by decide)) (ob_v (rg_C rfl rfl) (ob_v (rg_A rfl (by decide) _ (by omega) (by decide)) ?_))))
    rw [a1]
    refine ob_v (dI_n (by omega) (by omega) (by omega)) (ob_v (rg_C rfl rfl) (ob_v (rg_A rfl (by decide) _ (by omega) (by decide)) ?_))
    rw [a2, a3, pk_mul, nI_add, pk_mul, pk_mul, nI_add, nI_add]
/-- the bits left are 1s -/
theorem on_s {h i : Nat} : h % 2 ^ (i + 1) = 2 ^ (i + 1) - 1 ↔ h % 2 ^ i = 2 ^ i - 1 ∧ h / 2 ^ i % 2 = 1 := by
  have e := Nat.mod_pow_succ (x := h) (b := 2) (k := i)
  have p := Nat.two_pow_pos i
  have q : 2 ^ (i + 1) = 2 * 2 ^ i := by rw [Nat.pow_succ, Nat.mul_comm]
  have l := Nat.mod_lt h p
  rw [e, q]
  rcases (show h / 2 ^ i % 2 = 0 ∨ h / 2 ^ i % 2 = 1 by omega) with z | z
  · rw [z, Nat.mul_zero]
    omega
  · rw [z, Nat.mul_one]
    omega
theorem m_f15 {A1 : Int32} {hb l : Nat} (q : Prop) [Decidable q] (h44 : y.1 24 44 = nI hb) (h45 : y.1 24 45 = nI l) (l8 : l ≤ 8) (h8 : 1 ≤ l → hb < 256) : ∀ (k M i : Nat), i + k = l → k < M → fX13_finish_15 X M (b + 24) A1 (if q ∧ hb % 2 ^ i = 2 ^ i - 1 then 1 else 0) (nI i) (rg_p lM b w0 y) = fX13_finish_51 X (b + 24) A1 (if q ∧ hb % 2 ^ l = 2 ^ l - 1 then 1 else 0) (rg_p lM b w0 y) := by
  intro k
  induction k with
  | zero =>
    intro M i hi hM
    obtain ⟨M, rfl⟩ : ∃ M', M = M' + 1 := ⟨M - 1, by omega⟩
    rw [fX13_finish_15.eq_2, show i = l by omega]
    refine ob_v (rg_I rfl rfl) ?_
    rw [h45]
    exact ei_t (nI_le (Nat.le_refl _) (by omega)) rfl
  | succ k ih =>
    intro M i hi hM
    obtain ⟨M, rfl⟩ : ∃ M', M = M' + 1 := ⟨M - 1, by omega⟩
    have hb256 := h8 (by omega)
    have ih' := ih M (i + 1) (by omega) (by omega)
    rw [fX13_finish_15.eq_2]
    refine ob_v (rg_I rfl rfl) ?_
    rw [h45]
    refine ei_n (nI_ge (by omega) (by omega)) ?_
    by_cases c : q ∧ hb % 2 ^ i = 2 ^ i - 1
    · rw [if_pos c]
      refine ei_n (by decide) (ob_v (rg_I rfl rfl) ?_)
      rw [h44, pk_shrN (by omega) _ i (sm_8 (by omega)), pk_andN (Nat.lt_of_le_of_lt (Nat.div_le_self _ _) (by omega)) 1 (by decide)]
      by_cases d : hb / 2 ^ i % 2 = 1
      · refine ei_t (by show nI (hb / 2 ^ i % 2 ^ 1) = 1; rw [Nat.pow_one, d]; rfl) ?_
        unfold fX13_finish_44
        rw [if_pos ⟨c.1, on_s.mpr ⟨c.2, d⟩⟩] at ih'
        rw [nI_1]
        exact ih'
      · refine ei_n (by show ¬ nI (hb / 2 ^ i % 2 ^ 1) = 1; rw [Nat.pow_one, show hb / 2 ^ i % 2 = 0 by omega]; decide) ?_
        unfold fX13_finish_43 fX13_finish_44
        rw [if_neg (fun e => d (on_s.mp e.2).2)] at ih'
        rw [nI_1]
        exact ih'
    · rw [if_neg c]
      refine ei_t rfl ?_
      unfold fX13_finish_43 fX13_finish_44
      rw [if_neg (fun e => c ⟨e.1, (on_s.mp e.2).1⟩)] at ih'
      rw [nI_1]
      exact ih'
theorem m_fin15 {A1 : Int32} (h : zY D n y a) (ok : zOk a) : fX13_finish X (rg_p lM b w0 y) (b + 24) A1 = fX13_finish_51 X (b + 24) A1 (if a.2.1 = 0 ∧ a.1.2.2 % 2 ^ a.1.2.1 = 2 ^ a.1.2.1 - 1 then 1 else 0) (rg_p lM b w0 y) := by
  have bo := h.1.2.2.2.2.2.2.2
  have e := m_f15 (X := X) (b := b) (w0 := w0) (A1 := A1) (a.2.1 = 0) h.1.2.1 h.1.2.2.1 bo.2.2.1 bo.2.2.2 a.1.2.1 FU 0 (by omega) (by have := bo.2.2.1; unfold FU; omega)
  have o1 := ok.1
  unfold fX13_finish
  refine ob_v (rg_I rfl rfl) ?_
  rw [h.2.1]
  by_cases r0 : a.2.1 = 0
  · rw [if_pos ⟨r0, by rw [Nat.pow_zero, Nat.mod_one]⟩] at e
    refine ei_t (by rw [r0]; rfl) ?_
    unfold fX13_finish_12
    exact e
  · rw [if_neg (fun e => r0 e.1)] at e
    refine ei_n (nI_ne0 (by omega) (by omega)) ?_
    unfold fX13_finish_12
    exact e
/-- what comes when it's wrong -/
theorem m_f103 {A1 : Int32} (h : y.1 24 46 = 0) : ∃ y', fX13_finish_103 X (b + 24) A1 (rg_p lM b w0 y) = some (rg_p lM b w0 y') ∧ zFY y y' ∧ y'.1 24 46 = nI 5 := by
  have e122 : ∀ z : rg_S, ∃ d : Int32, fX13_finish_122 X (b + 24) A1 (rg_p lM b w0 z) = some (rg_p lM b w0 (rg_wI (rg_wI z 24 45 0) 24 43 d)) := by
    intro z
    by_cases q : A1 = 0
    · refine ⟨(rg_wI z 24 45 0).1 24 43 + 0, ?_⟩
      unfold fX13_finish_122 fX13_finish_141
      exact ob_v (rg_pI rfl rfl _) (ob_v (rg_I rfl rfl) (ei_t q (ob_v (rg_pI rfl rfl _) rfl)))
    · refine ⟨(rg_wI z 24 45 0).1 24 43 + 2, ?_⟩
      unfold fX13_finish_122 fX13_finish_141
      exact ob_v (rg_pI rfl rfl _) (ob_v (rg_I rfl rfl) (ei_n q (ob_v (rg_pI rfl rfl _) rfl)))
  obtain ⟨d, e⟩ := e122 (rg_wI y 24 46 5)
  refine ⟨rg_wI (rg_wI (rg_wI y 24 46 5) 24 45 0) 24 43 d, ?_, (zFY.wI (k := 46) (by omega)).trans ((zFY.wI (k := 45) (by omega)).trans (zFY.wI (k := 43) (by omega))), ?_⟩
  · unfold fX13_finish_103 fX13_finish_104
    exact ei_t rfl (ob_v (rg_I rfl rfl) (ei_t h (ob_v (rg_O rfl) (ob_v (m_wrong h 5) e))))
  · rw [wI_n _ _ (by omega), wI_n _ _ (by omega), wI_s]
    rfl
theorem m_f99 {A1 : Int32} {k : Nat} (hk : k = if A1 = 0 then 0 else 2) (h : zY D n y a) (h2 : bnd D n (a.1.1 + k)) (h3 : a.1.1 + k ≤ n) : ∃ y', fX13_finish_99 X (b + 24) A1 (rg_p lM b w0 y) = some (rg_p lM b w0 y') ∧ zFY y y' ∧ zY D n y' ((a.1.1 + k, 0, a.1.2.2), a.2) := by
  obtain ⟨⟨g1, g2, g3, g4, g5, g6, g7, g8⟩, g9, g10, g11⟩ := h
  refine ⟨rg_wI (rg_wI y 24 45 0) 24 43 (nI (a.1.1 + k)), ?_, (zFY.wI (k := 45) (by omega)).trans (zFY.wI (k := 43) (by omega)), ⟨wI_s _ _ _ _, ?_, ?_, ?_, ?_, g6, g7, h2, h3, Nat.zero_le _, fun e => absurd e (by show ¬ 1 ≤ 0; decide)⟩, ?_, g10, g11⟩
  · unfold fX13_finish_99 fX13_finish_104 fX13_finish_122
    refine ei_n (by decide) (ob_v (rg_pI rfl rfl _) (ob_v (rg_I rfl rfl) ?_))
    rw [wI_n _ _ (by omega), g1]
    by_cases q : A1 = 0
    · rw [if_pos q] at hk
      refine ei_t q ?_
      unfold fX13_finish_141
      rw [hk, show nI a.1.1 + 0 = nI (a.1.1 + 0) from nI_add _ 0]
      exact ob_v (rg_pI rfl rfl _) rfl
    · rw [if_neg q] at hk
      refine ei_n q ?_
      unfold fX13_finish_141
      rw [hk, show nI a.1.1 + 2 = nI (a.1.1 + 2) from nI_add _ 2]
      exact ob_v (rg_pI rfl rfl _) rfl
  · rw [wI_n _ _ (by omega), wI_n _ _ (by omega)]; exact g2
  · rw [wI_n _ _ (by omega), wI_s]; rfl
  · rw [wI_n _ _ (by omega), wI_n _ _ (by omega)]; exact g4
  · rw [wI_n _ _ (by omega), wI_n _ _ (by omega)]; exact g5
  · rw [wI_n _ _ (by omega), wI_n _ _ (by omega)]; exact g9
/-- a restart, but for the predictions -/
def zRc (D : Nat → Nat) (n code : Nat) (a : zS) : Nat ⊕ zS := if (a.2.1 = 0 ∧ a.1.2.2 % 2 ^ a.1.2.1 = 2 ^ a.1.2.1 - 1) ∧ a.1.1 < n ∧ D a.1.1 = 255 ∧ D (a.1.1 + 1) = code then .inr ((a.1.1 + 2, 0, a.1.2.2), a.2) else .inl 5
theorem m_pass {code : Nat} (hc1 : 208 ≤ code) (hc2 : code < 256) (h : zY D n y a) (ok : zOk a) : ∃ y', fX13_finish X (rg_p lM b w0 y) (b + 24) (nI code) = some (rg_p lM b w0 y') ∧ zFY y y' ∧ zYo D n (zRc D n code a) y' := by
  have e1 := m_fin15 (X := X) (b := b) (w0 := w0) (A1 := nI code) h ok
  have hn0 : ¬ nI code = 0 := nI_ne0 (by omega) (by omega)
  have n16 := h.1.2.2.2.2.2.2.1.1
  have g1 := h.1.1
  have hd := h.1.2.2.2.2.2.2.1
  have hbo := h.1.2.2.2.2.2.2.2
  obtain ⟨yb, eb, Fb, fb⟩ := m_f103 (X := X) (b := b) (w0 := w0) (A1 := nI code) h.1.2.2.2.1
  rw [e1]
  unfold zRc
  by_cases c1 : a.2.1 = 0 ∧ a.1.2.2 % 2 ^ a.1.2.1 = 2 ^ a.1.2.1 - 1
  · rw [if_pos c1]
    by_cases s : a.1.1 < n
    · have ar := m_atR (X := X) (b := b) (w0 := w0) h.1 s
      by_cases d : D a.1.1 = 255 ∧ D (a.1.1 + 1) ≠ 0
      · rw [if_pos d] at ar
        obtain ⟨l1, l2⟩ := hd.2.2 _ hbo.1 s d.1
        have h6 := h.1.2.2.2.2.2.1 (a.1.1 + 1) l1
        have D2 := hd.2.1 (a.1.1 + 1)
        have st : ∀ r, (if nI (D (a.1.1 + 1)) = nI code then fX13_finish_99 X (b + 24) (nI code) (rg_p lM b w0 y) else fX13_finish_103 X (b + 24) (nI code) (rg_p lM b w0 y)) = r → fX13_finish_51 X (b + 24) (nI code) 1 (rg_p lM b w0 y) = r := by
          intro r hr
          unfold fX13_finish_51
          refine ei_n (by decide) (ei_n hn0 (ob_v (rg_O rfl) (ob_v ar (ei_n (by show ¬ (1 : Int32) = 0; decide) (ob_v (rg_C rfl rfl) (ob_v (rg_I rfl rfl) ?_))))))
          rw [g1, nI_1]
          refine ob_v (rg_A rfl (by decide) _ (by omega) (by decide)) ?_
          rw [h6.1]
          exact hr
        by_cases q : D (a.1.1 + 1) = code
        · rw [if_pos ⟨c1, s, d.1, q⟩]
          obtain ⟨y', e, F, z⟩ := m_f99 (X := X) (b := b) (w0 := w0) (A1 := nI code) (k := 2) (by rw [if_neg hn0]) h (bnd_2 hbo.1 s d.1) (by omega)
          exact ⟨y', st _ (ei_t (by rw [q]) e), F, Or.inr ⟨_, rfl, ok, z⟩⟩
        · rw [if_neg (fun e => q e.2.2.2)]
          exact ⟨yb, st _ (ei_n (fun e => q ((nI_eq (by omega) (by omega)).mp e)) eb), Fb, Or.inl ⟨5, rfl, by decide, by decide, fb⟩⟩
      · rw [if_neg d] at ar
        rw [if_neg (fun e => d ⟨e.2.2.1, by omega⟩)]
        refine ⟨yb, ?_, Fb, Or.inl ⟨5, rfl, by decide, by decide, fb⟩⟩
        unfold fX13_finish_51
        exact ei_n (by decide) (ei_n hn0 (ob_v (rg_O rfl) (ob_v ar (ei_t rfl eb))))
    · rw [if_neg (fun e => s e.2.1)]
      refine ⟨yb, ?_, Fb, Or.inl ⟨5, rfl, by decide, by decide, fb⟩⟩
      have ar : fX13_atRestart X (rg_p lM b w0 y) (b + 24) = some (0, rg_p lM b w0 y) := by
        unfold fX13_atRestart
        refine ob_v (rg_I rfl rfl) (ob_v (rg_I rfl rfl) ?_)
        rw [g1, h.1.2.2.2.2.1, nI_1]
        have := hbo.2.1
        exact ei_t (nI_le (by omega) (by omega)) rfl
      unfold fX13_finish_51
      exact ei_n (by decide) (ei_n hn0 (ob_v (rg_O rfl) (ob_v ar (ei_t rfl eb))))
  · rw [if_neg c1, if_neg (fun e => c1 e.1)]
    refine ⟨yb, ?_, Fb, Or.inl ⟨5, rfl, by decide, by decide, fb⟩⟩
    unfold fX13_finish_51
    exact ei_t rfl eb
theorem m_end (h : zY D n y a) (ok : zOk a) : ∃ y', fX13_finish X (rg_p lM b w0 y) (b + 24) 0 = some (rg_p lM b w0 y') ∧ zFY y y' ∧ ((∃ f, zFn n a = .inl f ∧ 0 < f ∧ f < 100 ∧ y'.1 24 46 = nI f) ∨ (zFn n a = .inr a ∧ y'.1 24 46 = 0 ∧ ∀ i, i < 12288 → y'.2.2.1 32 i = a.2.2.2 i)) := by
  have e1 := m_fin15 (X := X) (b := b) (w0 := w0) (A1 := 0) h ok
  have n16 := h.1.2.2.2.2.2.2.1.1
  have g1 := h.1.1
  have hbo := h.1.2.2.2.2.2.2.2
  have sn := hbo.2.1
  obtain ⟨yb, eb, Fb, fb⟩ := m_f103 (X := X) (b := b) (w0 := w0) (A1 := 0) h.1.2.2.2.1
  rw [e1]
  unfold zFn
  by_cases c1 : a.2.1 = 0 ∧ a.1.2.2 % 2 ^ a.1.2.1 = 2 ^ a.1.2.1 - 1
  · rw [if_pos c1]
    have st : ∀ r, (if nI a.1.1 = nI n then fX13_finish_99 X (b + 24) 0 (rg_p lM b w0 y) else fX13_finish_103 X (b + 24) 0 (rg_p lM b w0 y)) = r → fX13_finish_51 X (b + 24) 0 1 (rg_p lM b w0 y) = r := by
      intro r hr
      unfold fX13_finish_51
      refine ei_n (by decide) (ei_t rfl (ob_v (rg_I rfl rfl) (ob_v (rg_I rfl rfl) ?_)))
      rw [g1, h.1.2.2.2.2.1]
      exact hr
    by_cases q : a.1.1 = n
    · rw [if_pos ⟨c1, q⟩]
      obtain ⟨y', e, F, z⟩ := m_f99 (X := X) (b := b) (w0 := w0) (A1 := 0) (k := 0) rfl h hbo.1 sn
      exact ⟨y', st _ (ei_t (by rw [q]) e), F, Or.inr ⟨rfl, z.1.2.2.2.1, z.2.2.2⟩⟩
    · rw [if_neg (fun e => q e.2)]
      exact ⟨yb, st _ (ei_n (fun e => q ((nI_eq (by omega) (by omega)).mp e)) eb), Fb, Or.inl ⟨5, rfl, by decide, by decide, fb⟩⟩
  · rw [if_neg c1, if_neg (fun e => c1 e.1)]
    refine ⟨yb, ?_, Fb, Or.inl ⟨5, rfl, by decide, by decide, fb⟩⟩
    unfold fX13_finish_51
    exact ei_t rfl eb
end
