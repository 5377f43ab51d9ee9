/-! a scan saved by the reference: saveScan -/
def yZv (y : rg_S) (g : gG) (Z : Nat → Int) (iv : Nat) : Prop := y.1 0 20 = nI g.2.2.1 ∧ y.1 24 10 = nI (gUA g) ∧ y.1 24 11 = nI (gUD g) ∧ y.1 24 2 = nI g.2.2.1 ∧ y.1 24 27 = nI iv ∧ y.1 24 42 = 0 ∧ (∀ c, c < g.2.2.1 → (y.2.2.1 25 c = nI (g.2.2.2.1 c) ∧ y.2.2.1 26 c = nI (g.2.2.2.2 c) ∧ y.2.2.1 27 c = nI (gAc g c) ∧ y.2.2.1 29 c = nI (gOA g c) ∧ y.2.2.1 30 c = nI (gOD g c)) ∧ y.2.2.1 31 c = nI (gBs g c) ∧ y.2.2.1 39 c = nI c ∧ y.2.2.1 40 c = nI (4 + c)) ∧ ∀ i, i < 64 * gBs g g.2.2.1 → y.2.2.1 32 i = iI (Z i)
/-- what a scan leaves alone in the reference -/
def FYz (y y' : rg_S) : Prop := (∀ p k, ¬ (p = 0 ∧ (k = 5 ∨ k = 6)) → p ≠ 48 → ¬ (p = 24 ∧ (k = 16 ∨ 22 ≤ k ∧ k ≤ 26 ∨ k = 29 ∨ 31 ≤ k ∧ k ≤ 35 ∨ k = 38 ∨ k = 40)) → y'.1 p k = y.1 p k) ∧ y'.2.1 = y.2.1 ∧ ∀ p, p ≠ 3 → ¬ (34 ≤ p ∧ p ≤ 38) → ¬ (41 ≤ p ∧ p ≤ 55) → y'.2.2.1 p = y.2.2.1 p
theorem FYz.rfl {y : rg_S} : FYz y y := ⟨fun _ _ _ _ _ => Eq.refl _, Eq.refl _, fun _ _ _ _ => Eq.refl _⟩
theorem FYz.trans {y y1 y2 : rg_S} (h : FYz y y1) (h2 : FYz y1 y2) : FYz y y2 := ⟨fun p k a c d => (h2.1 p k a c d).trans (h.1 p k a c d), h2.2.1.trans h.2.1, fun p a c d => (h2.2.2 p a c d).trans (h.2.2 p a c d)⟩
theorem FYk.z {y y' : rg_S} (h : FYk y y') : FYz y y' := ⟨fun p k a c d => h.1 p k a c (by omega), h.2.1, fun p a c d => h.2.2 p a c (by omega)⟩
theorem yZv.z {y y' : rg_S} {g : gG} {Z : Nat → Int} {iv : Nat} (h : yZv y g Z iv) (F : FYz y y') : yZv y' g Z iv := by
  unfold yZv at *
  rw [F.1 0 20 (by omega) (by omega) (by omega), F.1 24 10 (by omega) (by omega) (by omega), F.1 24 11 (by omega) (by omega) (by omega), F.1 24 2 (by omega) (by omega) (by omega), F.1 24 27 (by omega) (by omega) (by omega), F.1 24 42 (by omega) (by omega) (by omega), F.2.2 25 (by omega) (by omega) (by omega), F.2.2 26 (by omega) (by omega) (by omega), F.2.2 27 (by omega) (by omega) (by omega), F.2.2 29 (by omega) (by omega) (by omega), F.2.2 30 (by omega) (by omega) (by omega), F.2.2 31 (by omega) (by omega) (by omega), F.2.2 39 (by omega) (by omega) (by omega), F.2.2 40 (by omega) (by omega) (by omega), F.2.2 32 (by omega) (by omega) (by omega)]
  exact h
section
variable {X : px_X} {b B : Nat} {w0 w1 : px_W} {y y' : rg_S} {c0 m iv : Nat} {p : scP} {L : List Int32} {g : gG} {E : List ev} {Z : Nat → Int}
theorem m_c242 (hg : gOk g) (hs : scOk g c0 m) {a2 a3 a4 a5 : Int32} : ∀ (k M c : Nat) (y : rg_S), c + k = g.2.2.1 → k < M → y.1 0 20 = nI g.2.2.1 → yQ y (L ++ cmL c0 (ix c0 m c)) → ∃ y', fX15_saveScan_242 X M (b + 0) (nI (mk c0 m)) a2 a3 a4 a5 (nI c) (rg_p lM b w0 y) = fX15_saveScan_284 X (b + 0) a2 a3 a4 a5 (rg_p lM b w0 y') ∧ yQ y' (L ++ cmL c0 m) ∧ FYp y y' := by
  have h4 := hg.2.2.2.2.2.1
  have hcm := hs.cm hg
  intro k
  induction k with
  | zero =>
    intro M c y hc hM h20 h
    obtain rfl : c = g.2.2.1 := by omega
    obtain ⟨M, rfl⟩ : ∃ M', M = M' + 1 := ⟨M - 1, by omega⟩
    rw [show ix c0 m g.2.2.1 = m by unfold ix; omega] at h
    refine ⟨y, ?_, h, FYp.rfl⟩
    rw [fX15_saveScan_242.eq_2]
    refine ob_v (rg_I rfl rfl) ?_
    rw [h20]
    exact ei_t (nI_le (Nat.le_refl _) (by omega)) rfl
  | succ k ih =>
    intro M c y hc hM h20 h
    obtain ⟨M, rfl⟩ : ∃ M', M = M' + 1 := ⟨M - 1, by omega⟩
    rw [fX15_saveScan_242.eq_2]
    by_cases q : c0 ≤ c ∧ c < c0 + m
    · obtain ⟨i1, i2⟩ := ix_s q
      obtain ⟨y1, e1, h1, F1⟩ := m_putQ (X := X) (b := b) (w0 := w0) h (nI (c + 1))
      obtain ⟨y2, e2, h2, F2⟩ := m_putQ (X := X) (b := b) (w0 := w0) h1 (nI (17 * c))
      rw [i1] at h2
      have h2' : yQ y2 (L ++ cmL c0 (ix c0 m (c + 1))) := by
        rw [i2, cmL.eq_2, show c0 + (c - c0) = c by omega]
        rw [List.append_assoc, List.append_assoc] at h2
        exact h2
      obtain ⟨y3, e3, h3, F3⟩ := ih M (c + 1) y2 (by omega) (by omega) (by rw [F2.1 0 20 (by omega), F1.1 0 20 (by omega)]; exact h20) h2'
      refine ⟨y3, ob_v (rg_I rfl rfl) ?_, h3, F1.trans (F2.trans F3)⟩
      rw [h20, nI_1, show (17 : Int32) * nI c = nI (17 * c) from pk_mul 17 c]
      refine ei_n (nI_ge (by omega) (by omega)) (ei_t ((bit_in hg hs (by omega)).mpr q) (ob_v (rg_O rfl) (ob_v e1 (ob_v (rg_O rfl) (ob_v e2 ?_)))))
      unfold fX15_saveScan_278
      rw [nI_1]
      exact e3
    · obtain ⟨y3, e3, h3, F3⟩ := ih M (c + 1) y (by omega) (by omega) h20 (by rw [ix_n q]; exact h)
      refine ⟨y3, ob_v (rg_I rfl rfl) ?_, h3, F3⟩
      rw [h20]
      refine ei_n (nI_ge (by omega) (by omega)) (ei_n (fun e => q ((bit_in hg hs (by omega)).mp e)) ?_)
      unfold fX15_saveScan_278
      rw [nI_1]
      exact e3
theorem m_d339 {D : List Int32} (hD : D.length ≤ 16384) (hb : ∀ v, v ∈ D → bt v = v) : ∀ (k M i : Nat) (y : rg_S), i + k = D.length → k < M → (∀ j, j < D.length → y.2.2.1 41 j = D.getD j 0) → yQ y (L ++ D.take i) → ∃ y', fX15_saveScan_339 X M (b + 0) (nI D.length) (nI i) (rg_p lM b w0 y) = some (rg_p lM b w0 y') ∧ yQ y' (L ++ D) ∧ FYp y y' := by
  intro k
  induction k with
  | zero =>
    intro M i y hi hM hF h
    obtain ⟨M, rfl⟩ : ∃ M', M = M' + 1 := ⟨M - 1, by omega⟩
    rw [List.take_of_length_le (by omega)] at h
    refine ⟨y, ?_, h, FYp.rfl⟩
    rw [fX15_saveScan_339.eq_2]
    exact ei_t (nI_le (by omega) (by omega)) rfl
  | succ k ih =>
    intro M i y hi hM hF h
    obtain ⟨M, rfl⟩ : ∃ M', M = M' + 1 := ⟨M - 1, by omega⟩
    have hlt : i < D.length := by omega
    have eg : D.getD i 0 = D[i] := by rw [List.getD_eq_getElem?_getD, List.getElem?_eq_getElem hlt]; rfl
    obtain ⟨y1, e1, h1, F1⟩ := m_putQ (X := X) (b := b) (w0 := w0) h (D.getD i 0)
    rw [hb _ (by rw [eg]; exact List.getElem_mem hlt), List.append_assoc, eg, List.take_append_getElem hlt] at h1
    obtain ⟨y2, e2, h2, F2⟩ := ih M (i + 1) y1 (by omega) (by omega) (fun j hj => by rw [F1.2.2.1 41 (by decide)]; exact hF j hj) h1
    refine ⟨y2, ?_, h2, F1.trans F2⟩
    rw [fX15_saveScan_339.eq_2]
    refine ei_n (nI_ge (by omega) (by omega)) (ob_v (rg_C rfl rfl) (ob_v (rg_C rfl rfl) (ob_v (rg_A rfl (by decide) _ (by omega) (by decide)) (ob_v (rg_O rfl) ?_))))
    rw [hF i hlt]
    refine ob_v e1 ?_
    rw [nI_1]
    exact e2
theorem yQ_6 (h : yQ y L) : y.1 0 6 = 0 ∨ y.1 0 6 = 1 := by
  rcases h with h | h
  · rw [h.2.1]
    split
    · exact Or.inr rfl
    · exact Or.inl rfl
  · exact Or.inr h.2.1
theorem wdS_e (hc : c0 + m ≤ 4) (m1 : 1 ≤ m) : (if ctS E p c0 m = 0 then [] else sg 196 (ctS E p c0 m)) ++ tbB E p c0 m 8 = wdS E p c0 m := by
  unfold wdS tbB
  rw [show ix c0 m 8 = m by unfold ix; omega, show ix c0 m (8 - 4) = m by unfold ix; omega]
  by_cases z : ctS E p c0 m = 0
  · rw [if_pos z, if_pos z]
    obtain ⟨m', rfl⟩ : ∃ m', m = m' + 1 := ⟨m - 1, by omega⟩
    rw [ctS.eq_2] at z
    by_cases d : p.1 = 0 ∧ p.2.2.1 = 0
    · rw [if_pos d] at z
      omega
    · by_cases o : 0 < p.2.1
      · rw [if_pos o] at z
        omega
      · rw [if_neg d, if_neg o]
        rfl
  · rw [if_neg z, if_neg z, List.append_assoc]
theorem m_saveScan (hg : gOk g) (hb : gBs g g.2.2.1 ≤ 192) (hs : scOk g c0 m) (hZ : ∀ i, i < 64 * gBs g g.2.2.1 → -1024 ≤ Z i ∧ Z i ≤ 1023) (hp : pOk p) (hm : pM p m) (hiv : iv < 65536) (V : yZv y g Z iv) (h : yQ y L) : ∃ y', fX15_saveScan X (rg_p lM b w0 y) (b + 0) (nI (mk c0 m)) (nI p.1) (nI p.2.1) (nI p.2.2.1) (nI p.2.2.2) = some (rg_p lM b w0 y') ∧ yQ y' (L ++ scL (aAll g c0 m p Z iv).1 p c0 m) ∧ FYz y y' := by
  have hpo := hp
  obtain ⟨p1, p2, p3, p4, pf⟩ := hp
  have hcm := hs.cm hg
  have h4 := hg.2.2.2.2.2.1
  have lE := ln_all (iv := iv) p2 hg hs hZ pf
  have gE := aG_all (iv := iv) p2 p1 hg hs hZ pf
  have zE := all_0 (iv := iv) p2 p1 hg hs hZ pf
  have V' := V
  obtain ⟨v20, v10, v11, v2, v27, v42, vc, vz⟩ := V
  have esc := m_scan (X := X) (b := b) (w0 := w0) (y := y) hg hs v2 hpo hm
  -- statics
  have scI : ∀ k, ¬ (22 ≤ k ∧ k ≤ 26) → (ySc y (mk c0 m) p).1 24 k = y.1 24 k := by
    intro k hk
    unfold ySc
    rw [wI_n _ _ (by omega), wI_n _ _ (by omega), wI_n _ _ (by omega), wI_n _ _ (by omega), wI_n _ _ (by omega)]
  have scO' : ∀ q k, q ≠ 24 → (ySc y (mk c0 m) p).1 q k = y.1 q k := by
    intro q k hq
    unfold ySc
    rw [wI_n _ _ (by omega), wI_n _ _ (by omega), wI_n _ _ (by omega), wI_n _ _ (by omega), wI_n _ _ (by omega)]
  have s22 : (ySc y (mk c0 m) p).1 24 22 = nI (mk c0 m) := by
    unfold ySc
    rw [wI_n _ _ (by omega), wI_n _ _ (by omega), wI_n _ _ (by omega), wI_n _ _ (by omega), wI_s]
  have s23 : (ySc y (mk c0 m) p).1 24 23 = nI p.1 := by
    unfold ySc
    rw [wI_n _ _ (by omega), wI_n _ _ (by omega), wI_n _ _ (by omega), wI_s]
  have s24 : (ySc y (mk c0 m) p).1 24 24 = nI p.2.1 := by
    unfold ySc
    rw [wI_n _ _ (by omega), wI_n _ _ (by omega), wI_s]
  have s25 : (ySc y (mk c0 m) p).1 24 25 = nI p.2.2.1 := by
    unfold ySc
    rw [wI_n _ _ (by omega), wI_s]
  have s26 : (ySc y (mk c0 m) p).1 24 26 = nI p.2.2.2 := by
    unfold ySc
    rw [wI_s]
  have scA : (ySc y (mk c0 m) p).2.2.1 = y.2.2.1 := rfl
  have scR : (ySc y (mk c0 m) p).2.1 = y.2.1 := rfl
  generalize hys : ySc y (mk c0 m) p = ys at *
  have pYs : ∀ y2 : rg_S, (∀ k, 22 ≤ k ∧ k ≤ 26 → y2.1 24 k = ys.1 24 k) → (∀ q, q = 31 ∨ q = 32 ∨ q = 39 ∨ q = 40 → y2.2.2.1 q = ys.2.2.1 q) → pY y2 p.1 p.2.1 p.2.2.1 p.2.2.2 (64 * gBs g g.2.2.1) g.2.2.1 (gBs g) Z := by
    intro y2 e1 e2
    refine ⟨by rw [e1 23 (by omega)]; exact s23, by rw [e1 24 (by omega)]; exact s24, by rw [e1 25 (by omega)]; exact s25, by rw [e1 26 (by omega)]; exact s26, p1, p2, p3, p4, by omega, fun i hi => ⟨?_, hZ i hi⟩, h4, fun c hc => ?_⟩
    · rw [e2 32 (by omega), scA]
      exact vz i hi
    · rw [e2 31 (by omega), e2 39 (by omega), e2 40 (by omega), scA]
      exact (vc c hc).2
  have uYs : ∀ y2 : rg_S, (∀ k, k = 22 ∨ k = 10 ∨ k = 11 ∨ k = 2 ∨ k = 27 → y2.1 24 k = ys.1 24 k) → (∀ q, q = 25 ∨ q = 26 ∨ q = 27 ∨ q = 29 ∨ q = 30 → y2.2.2.1 q = ys.2.2.1 q) → uY y2 g c0 m iv := by
    intro y2 e1 e2
    refine ⟨by rw [e1 22 (by omega)]; exact s22, by rw [e1 10 (by omega), scI 10 (by omega)]; exact v10, by rw [e1 11 (by omega), scI 11 (by omega)]; exact v11, by rw [e1 2 (by omega), scI 2 (by omega)]; exact v2, by rw [e1 27 (by omega), scI 27 (by omega)]; exact v27, fun c hc => ?_⟩
    rw [e2 25 (by omega), e2 26 (by omega), e2 27 (by omega), e2 29 (by omega), e2 30 (by omega), scA]
    exact (vc c hc).1
  have bgI : ∀ y2 : rg_S, ∀ md q k, ¬ (q = 24 ∧ (31 ≤ k ∧ k ≤ 34 ∨ k = 38 ∨ k = 40)) → (yBeg y2 md).1 q k = y2.1 q k := by
    intro y2 md q k hk
    unfold yBeg
    rw [wA_1, wI_n _ _ (by omega), wI_n _ _ (by omega), wI_n _ _ (by omega), wI_n _ _ (by omega), wI_n _ _ (by omega), wI_n _ _ (by omega)]
  have bgA : ∀ y2 : rg_S, ∀ md q, q ≠ 43 → (yBeg y2 md).2.2.1 q = y2.2.2.1 q := by
    intro y2 md q hq
    unfold yBeg
    rw [wA_n _ _ hq]
    rfl
  -- counting
  have tI : ∀ k, k ≠ 35 → ¬ (31 ≤ k ∧ k ≤ 34 ∨ k = 38 ∨ k = 40) → (yBeg (rg_wI ys 24 35 1) 1).1 24 k = ys.1 24 k := fun k h1 h2 => by rw [bgI _ _ _ _ (by omega), wI_n _ _ (by omega)]
  have tA : ∀ q, q ≠ 43 → (yBeg (rg_wI ys 24 35 1) 1).2.2.1 q = ys.2.2.1 q := fun q hq => bgA _ _ q hq
  obtain ⟨vt, yt, et, kt⟩ := m_tally (X := X) (b := b) (w0 := w0) (y := ys) (K := kC c0 m) (p := p) (g := g) (Z := Z) (c0 := c0) (m := m) (iv := iv) rfl ⟨Or.inr rfl, by rw [bgI _ _ _ _ (by omega), wI_s]; rfl, fun e => absurd e kC_0⟩ (pYs _ (fun k hk => tI k (by omega) (by omega)) (fun q hq => tA q (by omega))) (uYs _ (fun k hk => tI k (by omega) (by omega)) (fun q hq => tA q (by omega))) hg hs pf hZ hiv (by rw [scI 42 (by omega)]; exact v42)
  obtain ⟨tF, _, tC, t38, t40, t42, _⟩ := kt
  rw [zE.2.2] at t42
  have tt := tC rfl
  have Ft : FYz y yt := by
    refine ⟨fun q k a1 a2 a3 => ?_, ?_, fun q a1 a2 a3 => ?_⟩
    · by_cases e42 : q = 24 ∧ k = 42
      · rw [e42.1, e42.2, t42, v42]
        rfl
      · rw [tF.1 q k (by omega), bgI _ _ _ _ (by omega), wI_n _ _ (by omega)]
        by_cases q24 : q = 24
        · rw [q24]
          exact scI k (by omega)
        · exact scO' q k q24
    · rw [tF.2.1]
      exact scR
    · rw [tF.2.2.1 q (by omega), tA q (by omega), scA]
  have yq : yQ yt L := by
    unfold yQ yO at *
    rw [tF.1 0 5 (by omega), tF.1 0 6 (by omega), tF.2.2.1 3 (by omega), bgI _ _ _ _ (by omega), bgI _ _ _ _ (by omega), tA 3 (by decide), wI_n _ _ (by omega), wI_n _ _ (by omega), scO' 0 5 (by decide), scO' 0 6 (by decide), scA]
    exact h
  have h20 : yt.1 0 20 = nI g.2.2.1 := by rw [Ft.1 0 20 (by omega) (by omega) (by omega)]; exact v20
  have tsc : ∀ k, k = 22 ∨ k = 23 ∨ k = 24 ∨ k = 25 ∨ k = 26 ∨ k = 10 ∨ k = 11 ∨ k = 2 ∨ k = 27 → yt.1 24 k = ys.1 24 k := fun k hk => by rw [tF.1 24 k (by omega), tI k (by omega) (by omega)]
  -- tables
  obtain ⟨ya, ea, qa, Fa⟩ : ∃ ya, fX15_saveScan_154 X (b + 0) (nI (mk c0 m)) (nI p.1) (nI p.2.1) (nI p.2.2.1) (nI p.2.2.2) (if p.1 = 0 ∧ p.2.2.1 = 0 then 1 else 0) (nI (ctS (aAll g c0 m p Z iv).1 p c0 m)) (nI m) (rg_p lM b w0 yt) = fX15_saveScan_168 X (b + 0) (nI (mk c0 m)) (nI p.1) (nI p.2.1) (nI p.2.2.1) (nI p.2.2.2) (if p.1 = 0 ∧ p.2.2.1 = 0 then 1 else 0) (nI m) (rg_p lM b w0 ya) ∧ yQ ya (L ++ if ctS (aAll g c0 m p Z iv).1 p c0 m = 0 then [] else sg 196 (ctS (aAll g c0 m p Z iv).1 p c0 m)) ∧ FYp yt ya := by
    have cb := ctS_b (E := (aAll g c0 m p Z iv).1) (p := p) (c0 := c0) m
    unfold fX15_saveScan_154
    by_cases z : ctS (aAll g c0 m p Z iv).1 p c0 m = 0
    · rw [if_pos z, List.append_nil]
      exact ⟨yt, ei_t (by rw [z]; decide) rfl, yq, FYp.rfl⟩
    · rw [if_neg z]
      obtain ⟨ya, e1, q1, F1⟩ := m_beg (X := X) (b := b) (w0 := w0) (code := 196) (n := ctS (aAll g c0 m p Z iv).1 p c0 m) yq (by omega)
      exact ⟨ya, ei_n (nI_nle (by omega) (by omega)) (ob_v (rg_O rfl) (ob_v e1 rfl)), q1, F1⟩
  obtain ⟨yb, eb', qb, Fb, db⟩ := m_t171 (X := X) (b := b) (w0 := w0) (E := (aAll g c0 m p Z iv).1) (p := p) (c0 := c0) (m := m) (g := g) (a2 := nI p.1) (a4 := nI p.2.2.1) (a5 := nI p.2.2.2) (a10 := nI m) (L := L ++ if ctS (aAll g c0 m p Z iv).1 p c0 m = 0 then [] else sg 196 (ctS (aAll g c0 m p Z iv).1 p c0 m)) hg hs hpo lE rfl 8 FU 0 ya rfl (by unfold FU; omega) (fun t s ht hs' => by rw [Fa.2.2.1 43 (by decide)]; exact tt t s ht hs') (by
      have : tbB (aAll g c0 m p Z iv).1 p c0 m 0 = [] := by
        unfold tbB
        rw [show ix c0 m 0 = 0 by unfold ix; omega]
        split <;> split <;> rfl
      rw [this, List.append_nil]
      exact qa) (fun t s ht => absurd ht (Nat.not_lt_zero _))
  rw [List.append_assoc, wdS_e (by omega) hcm.2.1] at qb
  -- head
  obtain ⟨yc, ec, qc, Fc⟩ := m_beg (X := X) (b := b) (w0 := w0) (code := 218) (n := 4 + 2 * m) qb (by omega)
  obtain ⟨yd, ed, qd, Fd⟩ := m_putQ (X := X) (b := b) (w0 := w0) qc (nI m)
  have Fad : FYk yt yd := Fa.k.trans (Fb.trans (Fc.k.trans Fd.k))
  obtain ⟨ye, ee, qe, Fe⟩ := m_c242 (X := X) (b := b) (w0 := w0) (c0 := c0) (m := m) (g := g) (a2 := nI p.1) (a3 := nI p.2.1) (a4 := nI p.2.2.1) (a5 := nI p.2.2.2) hg hs g.2.2.1 FU 0 yd (by omega) (by unfold FU; omega) (by rw [Fad.1 0 20 (by omega) (by omega) (by omega)]; exact h20) (by
      rw [show ix c0 m 0 = 0 by unfold ix; omega]
      show yQ yd (_ ++ [])
      rw [List.append_nil]
      exact qd)
  obtain ⟨yf, ef, qf, Ff⟩ := m_putQ (X := X) (b := b) (w0 := w0) qe (nI p.1)
  obtain ⟨yg, eg, qg, Fg⟩ := m_putQ (X := X) (b := b) (w0 := w0) qf (nI p.2.1)
  obtain ⟨yh, eh, qh, Fh⟩ := m_putQ (X := X) (b := b) (w0 := w0) qg (nI (16 * p.2.2.1 + p.2.2.2))
  have F4 : FYp yb yh := Fc.trans (Fd.trans (Fe.trans (Ff.trans (Fg.trans Fh))))
  have Fah : FYk yt yh := Fa.k.trans (Fb.trans F4.k)
  have Fyh : FYz y yh := Ft.trans Fah.z
  have hqh : yQ yh (L ++ (wdS (aAll g c0 m p Z iv).1 p c0 m ++ hdL p c0 m)) := by
    have : L ++ wdS (aAll g c0 m p Z iv).1 p c0 m ++ sg 218 (4 + 2 * m) ++ [bt (nI m)] ++ cmL c0 m ++ [bt (nI p.1)] ++ [bt (nI p.2.1)] ++ [bt (nI (16 * p.2.2.1 + p.2.2.2))] = L ++ (wdS (aAll g c0 m p Z iv).1 p c0 m ++ hdL p c0 m) := by
      unfold hdL
      simp only [List.append_assoc, List.cons_append, List.nil_append]
    rw [this] at qh
    exact qh
  -- writing
  have dT : mdT (aAll g c0 m p Z iv).1 (tbQ c0 m p) 8 yh := fun t s ht hQ hs' hc => by
    rw [F4.2.2.1 38 (by decide), F4.2.2.1 37 (by decide)]
    exact db t s ht hQ hs' hc
  have wI' : ∀ k, k ≠ 35 → ¬ (31 ≤ k ∧ k ≤ 34 ∨ k = 38 ∨ k = 40) → (yBeg (yKp yh) 0).1 24 k = yh.1 24 k := fun k h1 h2 => by
    rw [bgI _ _ _ _ (by omega)]
    unfold yKp
    rw [wA_1, wI_n _ _ (by omega)]
  have wA' : ∀ q, q ≠ 43 → q ≠ 47 → (yBeg (yKp yh) 0).2.2.1 q = yh.2.2.1 q := fun q hq hq2 => by
    rw [bgA _ _ q hq]
    unfold yKp
    rw [wA_n _ _ hq2]
    rfl
  have hI : ∀ k, k = 22 ∨ k = 23 ∨ k = 24 ∨ k = 25 ∨ k = 26 ∨ k = 10 ∨ k = 11 ∨ k = 2 ∨ k = 27 → (yBeg (yKp yh) 0).1 24 k = ys.1 24 k := fun k hk => by
    rw [wI' k (by omega) (by omega), Fah.1 24 k (by omega) (by omega) (by omega)]
    exact tsc k hk
  have hA : ∀ q, q = 31 ∨ q = 32 ∨ q = 39 ∨ q = 40 ∨ q = 25 ∨ q = 26 ∨ q = 27 ∨ q = 29 ∨ q = 30 → (yBeg (yKp yh) 0).2.2.1 q = ys.2.2.1 q := fun q hq => by
    rw [wA' q (by omega) (by omega), Fah.2.2 q (by omega) (by omega) (by omega), tF.2.2.1 q (by omega), tA q (by omega)]
  obtain ⟨yi, ei, Fi, _, hD⟩ := m_wr (X := X) (b := b) (w0 := w0) (y := yh) (K := kW (aAll g c0 m p Z iv).1 c0 m) (p := p) (g := g) (Z := Z) (c0 := c0) (m := m) (iv := iv) (L := dtL (aAll g c0 m p Z iv).1) rfl ⟨Or.inl rfl, by
      rw [bgI _ _ _ _ (by omega)]
      unfold yKp
      rw [wA_1, wI_s]
      rfl, fun _ t s ht => by
      obtain ⟨tq, ts⟩ := gE.1 t s ht
      have cp := cnt_0.mpr ht
      have t8 : t < 8 := by
        rcases tq with ⟨_, _, _, t4⟩ | ⟨_, _, t3⟩ <;> omega
      rw [wA' 38 (by decide) (by decide), wA' 37 (by decide) (by decide)]
      have k := dT t s t8 tq ts cp
      have cb := clF_b ts cp
      exact ⟨k.1, k.2, cb.1, cb.2⟩⟩ (pYs _ (fun k hk => hI k (by omega)) (fun q hq => hA q (by omega))) (uYs _ (fun k hk => hI k (by omega)) (fun q hq => hA q (by omega))) hg hs pf hZ hiv (by rw [Fyh.1 24 42 (by omega) (by omega) (by omega)]; exact v42) (fun _ v hv => hv) rfl
  have Fiz : FYz yh yi := ⟨fun q k a1 a2 a3 => Fi.1 q k (by omega), Fi.2.1, fun q a1 a2 a3 => Fi.2.2.1 q (by omega)⟩
  have qi : yQ yi (L ++ (wdS (aAll g c0 m p Z iv).1 p c0 m ++ hdL p c0 m)) := by
    unfold yQ yO at *
    rw [Fi.1 0 5 (by omega), Fi.1 0 6 (by omega), Fi.2.2.1 3 (by omega)]
    exact hqh
  have start : ∀ r, (if yi.1 0 6 = 0 then (if (0 : Int32) ≤ (if 16384 < (dtL (aAll g c0 m p Z iv).1).length then -1 else nI (dtL (aAll g c0 m p Z iv).1).length) then fX15_saveScan_333 X (b + 0) (if 16384 < (dtL (aAll g c0 m p Z iv).1).length then -1 else nI (dtL (aAll g c0 m p Z iv).1).length) 0 (b + 0) (rg_p lM b w0 yi) else fX15_saveScan_328 X (b + 0) (if 16384 < (dtL (aAll g c0 m p Z iv).1).length then -1 else nI (dtL (aAll g c0 m p Z iv).1).length) (b + 0) (rg_p lM b w0 yi)) else fX15_saveScan_328 X (b + 0) (if 16384 < (dtL (aAll g c0 m p Z iv).1).length then -1 else nI (dtL (aAll g c0 m p Z iv).1).length) (b + 0) (rg_p lM b w0 yi)) = r → fX15_saveScan X (rg_p lM b w0 y) (b + 0) (nI (mk c0 m)) (nI p.1) (nI p.2.1) (nI p.2.2.1) (nI p.2.2.2) = r := by
    intro r hr
    have e284 : fX15_saveScan_284 X (b + 0) (nI p.1) (nI p.2.1) (nI p.2.2.1) (nI p.2.2.2) (rg_p lM b w0 ye) = r := by
      unfold fX15_saveScan_284
      refine ob_v (rg_O rfl) (ob_v ef (ob_v (rg_O rfl) (ob_v eg (ob_v (rg_O rfl) ?_))))
      rw [show (16 : Int32) = nI 16 from rfl, pk_mul, nI_add]
      exact ob_v eh (ob_v (rg_C rfl rfl) (ob_v (rg_O rfl) (ob_v ei (ob_v (rg_I rfl rfl) hr))))
    have e39 : ∀ d, d = (if p.1 = 0 ∧ p.2.2.1 = 0 then (1 : Int32) else 0) → fX15_saveScan_39 X (b + 0) (nI (mk c0 m)) (nI p.1) (nI p.2.1) (nI p.2.2.1) (nI p.2.2.2) d (rg_p lM b w0 yt) = r := by
      intro d hd
      unfold fX15_saveScan_39
      have e50 := m_c50 (X := X) (b := b) (w0 := w0) (y := yt) (p := p) (c0 := c0) (m := m) (a2 := nI p.1) (a4 := nI p.2.2.1) (a5 := nI p.2.2.2) (a8 := d) hg hs hpo lE h20 tt hd g.2.2.1 FU 0 (by omega) (by unfold FU; omega)
      rw [show ix c0 m 0 = 0 by unfold ix; omega] at e50
      refine (show fX15_saveScan_50 X FU (b + 0) (nI (mk c0 m)) (nI p.1) (nI p.2.1) (nI p.2.2.1) (nI p.2.2.2) d (nI 0) (nI 0) (nI 0) _ = _ from e50).trans ?_
      rw [hd]
      refine ea.trans ?_
      unfold fX15_saveScan_168
      refine (show fX15_saveScan_171 X FU (b + 0) (nI (mk c0 m)) (nI p.1) (nI p.2.1) (nI p.2.2.1) (nI p.2.2.2) _ (nI m) (nI 0) _ = _ from eb').trans ?_
      unfold fX15_saveScan_220
      rw [show (4 : Int32) + 2 * nI m = nI (4 + 2 * m) by rw [show (2 : Int32) = nI 2 from rfl, pk_mul]; exact nI_add 4 _]
      refine ob_v (rg_O rfl) (ob_v ec (ob_v (rg_O rfl) (ob_v ed ?_)))
      exact (show fX15_saveScan_242 X FU (b + 0) (nI (mk c0 m)) (nI p.1) (nI p.2.1) (nI p.2.2.1) (nI p.2.2.2) (nI 0) _ = _ from ee).trans e284
    unfold fX15_saveScan fX15_saveScan_38
    refine ob_v (rg_C rfl rfl) (ob_v (rg_O rfl) (ob_v esc (ob_v (rg_C rfl rfl) (ob_v (rg_O rfl) (ob_v et ?_)))))
    by_cases f0 : p.1 = 0
    · refine ei_t (by rw [f0]; rfl) ?_
      by_cases g0 : p.2.2.1 = 0
      · exact ei_t (by rw [g0]; rfl) (e39 _ (by rw [if_pos ⟨f0, g0⟩]))
      · exact ei_n (nI_ne0 (by omega) (by omega)) (e39 _ (by rw [if_neg (fun e => g0 e.2)]))
    · exact ei_n (nI_ne0 (by omega) (by omega)) (e39 _ (by rw [if_neg (fun e => f0 e.1)]))
  unfold scL
  by_cases big : 16384 < (dtL (aAll g c0 m p Z iv).1).length
  · rw [if_pos big] at start
    have e333 : fX15_saveScan_333 X (b + 0) (-1) 1 (b + 0) (rg_p lM b w0 yi) = some (rg_p lM b w0 (rg_wI yi 0 6 1)) := by
      unfold fX15_saveScan_333
      refine ob_v (rg_pZ rfl rfl _ (Or.inr rfl)) ?_
      obtain ⟨FU', hFU⟩ : ∃ m', FU = m' + 1 := ⟨3999999, rfl⟩
      rw [hFU, fX15_saveScan_339.eq_2]
      exact ei_t (by decide) rfl
    refine ⟨rg_wI yi 0 6 1, start _ ?_, Or.inr ⟨?_, wI_s _ _ _ _, ?_⟩, Fyh.trans (Fiz.trans ⟨fun q k a1 _ _ => wI_n _ _ (by omega), rfl, fun _ _ _ _ => rfl⟩)⟩
    · unfold fX15_saveScan_328
      by_cases z6 : yi.1 0 6 = 0
      · exact ei_t z6 (ei_n (by decide) e333)
      · exact ei_n z6 e333
    · rw [List.length_append, List.length_append]
      omega
    · rw [wI_n _ _ (by omega)]
      rcases qi with qi | ⟨_, _, k, hk, e⟩
      · exact ⟨_, Nat.min_le_left _ _, qi.1⟩
      · exact ⟨k, hk, e⟩
  · rw [if_neg big] at start
    have bl : ∀ v, v ∈ dtL (aAll g c0 m p Z iv).1 → bt v = v := bL_emit (fun v hv => by cases hv)
    obtain ⟨yj, ej, qj, Fj⟩ := m_d339 (X := X) (b := b) (w0 := w0) (D := dtL (aAll g c0 m p Z iv).1) (L := L ++ (wdS (aAll g c0 m p Z iv).1 p c0 m ++ hdL p c0 m)) (by omega) bl (dtL (aAll g c0 m p Z iv).1).length FU 0 yi (by omega) (by unfold FU; omega) (hD (by omega)) (by
      show yQ yi (_ ++ [])
      rw [List.append_nil]
      exact qi)
    have e333 : ∀ v, yi.1 0 6 = v → fX15_saveScan_333 X (b + 0) (nI (dtL (aAll g c0 m p Z iv).1).length) v (b + 0) (rg_p lM b w0 yi) = some (rg_p lM b w0 yj) := by
      intro v hv
      unfold fX15_saveScan_333
      refine ob_v (rg_pZ rfl rfl _ (by rw [← hv]; exact yQ_6 qi)) ?_
      rw [wI_id hv]
      exact ej
    refine ⟨yj, start _ ?_, ?_, Fyh.trans (Fiz.trans Fj.k.z)⟩
    · unfold fX15_saveScan_328
      by_cases z6 : yi.1 0 6 = 0
      · exact ei_t z6 (ei_t (nI_le (a := 0) (by omega) (by omega)) (e333 0 z6))
      · exact ei_n z6 (e333 1 ((yQ_6 qi).resolve_left z6))
    · rw [List.append_assoc] at qj
      exact qj
end
