/-! the reference's frame; a picture laid into Scans -/
def yBs (y : rg_S) : rg_S := rg_wA (rg_wA (rg_wI (rg_wI (rg_wI (rg_wI (rg_wI (rg_wI (rg_wA y 32 (fU 12288 (fun _ => 0) (y.2.2.1 32))) 24 22 1) 24 23 0) 24 24 63) 24 25 0) 24 26 0) 24 27 0) 39 (fU 4 (fun _ => 0) (y.2.2.1 39))) 40 (fU 4 (fun _ => 4) (y.2.2.1 40))
/-- what frame leaves alone -/
def FYf (y y' : rg_S) : Prop := (∀ p k, ¬ (p = 24 ∧ (k = 0 ∨ k = 1 ∨ k = 2 ∨ k = 10 ∨ k = 11 ∨ 22 ≤ k ∧ k ≤ 27)) → y'.1 p k = y.1 p k) ∧ y'.2.1 = y.2.1 ∧ ∀ p, ¬ (25 ≤ p ∧ p ≤ 32) → p ≠ 39 → p ≠ 40 → y'.2.2.1 p = y.2.2.1 p
section
variable {X : px_X} {b B : Nat} {w0 w1 w : px_W} {y y' : rg_S} {g : gG} {S : Int32}
theorem m_base : fX13_base X (rg_p lM b w0 y) (b + 24) = some (rg_p lM b w0 (yBs y)) := by
  have e1 := rg_lpF (F := fun M (s : Int32 × rg_S) => fX13_base_2 X M (b + 24) s.1 (rg_p lM b w0 s.2)) 12288 (fun i => (nI i, rg_wA y 32 (fU i (fun _ => 0) (y.2.2.1 32)))) (r := fX13_base_22 X (b + 24) (rg_p lM b w0 (rg_wA y 32 (fU 12288 (fun _ => 0) (y.2.2.1 32))))) (by omega) (by
    intro M i hi
    dsimp only
    rw [fX13_base_2.eq_2]
    refine ei_n (nI_ge (b := 12288) (by omega) (by omega)) (ob_v (rg_C rfl rfl) (ob_v (rg_sA _ rfl (by decide) _ _ hi (by decide)) ?_))
    rw [wA_s, wA_wA, nI_1, ← fU_s i (fun _ => 0) (y.2.2.1 32)]
    rfl) (by
    intro M
    dsimp only
    rw [fX13_base_2.eq_2]
    exact ei_t (by decide) rfl)
  dsimp only at e1
  rw [fU_0, wA_id rfl] at e1
  unfold fX13_base
  refine e1.trans ?_
  unfold fX13_base_22
  refine ob_v (rg_pI rfl rfl _) (ob_v (rg_pI rfl rfl _) (ob_v (rg_pI rfl rfl _) (ob_v (rg_pI rfl rfl _) (ob_v (rg_pI rfl rfl _) (ob_v (rg_pI rfl rfl _) ?_)))))
  generalize hz : rg_wI (rg_wI (rg_wI (rg_wI (rg_wI (rg_wI (rg_wA y 32 (fU 12288 (fun _ => 0) (y.2.2.1 32))) 24 22 1) 24 23 0) 24 24 63) 24 25 0) 24 26 0) 24 27 0 = z
  have z39 : z.2.2.1 39 = y.2.2.1 39 := by
    rw [← hz]
    show (rg_wA y 32 _).2.2.1 39 = _
    rw [wA_n _ _ (by decide)]
  have z40 : z.2.2.1 40 = y.2.2.1 40 := by
    rw [← hz]
    show (rg_wA y 32 _).2.2.1 40 = _
    rw [wA_n _ _ (by decide)]
  have e2 := rg_lpF (F := fun M (s : Int32 × rg_S) => fX13_base_55 X M (b + 24) s.1 (rg_p lM b w0 s.2)) 4 (fun i => (nI i, rg_wA (rg_wA z 39 (fU i (fun _ => 0) (z.2.2.1 39))) 40 (fU i (fun _ => 4) (z.2.2.1 40)))) (r := some (rg_p lM b w0 (rg_wA (rg_wA z 39 (fU 4 (fun _ => 0) (z.2.2.1 39))) 40 (fU 4 (fun _ => 4) (z.2.2.1 40))))) (by omega) (by
    intro M i hi
    dsimp only
    rw [fX13_base_55.eq_2]
    refine ei_n (nI_ge (b := 4) (by omega) (by omega)) (ob_v (rg_C rfl rfl) (ob_v (rg_sA _ rfl (by decide) _ _ hi (by decide)) (ob_v (rg_C rfl rfl) (ob_v (rg_sA _ rfl (by decide) _ _ hi (by decide)) ?_))))
    rw [nI_1]
    congr 2
    refine S_ext rfl rfl (fun o => ?_) rfl
    by_cases o40 : o = 40
    · rw [o40, wA_s, wA_n _ _ (show (40 : Nat) ≠ 39 by decide), wA_s, wA_s, id, ← fU_s i (fun _ => 4)]
    · by_cases o39 : o = 39
      · rw [o39, wA_n _ _ (by decide), wA_s, wA_n _ _ (by decide), wA_s, wA_n _ _ (by decide), wA_s, id, ← fU_s i (fun _ => 0)]
      · rw [wA_n _ _ o40, wA_n _ _ o39, wA_n _ _ o40, wA_n _ _ o39, wA_n _ _ o40, wA_n _ _ o39]) (by
    intro M
    dsimp only
    rw [fX13_base_55.eq_2]
    exact ei_t (by decide) rfl)
  dsimp only at e2
  rw [fU_0, fU_0, wA_id rfl, wA_id rfl, z39, z40] at e2
  refine e2.trans ?_
  rw [← hz]
  rfl
theorem m_fr141 (hg : gOk g) (hS : sS S g) : ∀ r, (fX13_lay_141 X (b + 24) (nI g.1) (nI g.2.1) (nI g.2.2.1) S (nI (gH g)) (nI (gV_ g)) (nI (gBs g g.2.2.1)) (nI (gUA g)) (nI (gUD g)) (rg_p lM b w0 y)).bind (fun q14 => if q14.1 ≤ 192 then (gO q14.2 (b + 24) 13).bind fun o16 => (fX13_base X q14.2 (b + 24)).bind fun q17 => some (1, q17) else some (0, q14.2)) = r → fX13_frame X (rg_p lM b w0 y) (b + 24) (nI g.1) (nI g.2.1) (nI g.2.2.1) S = r := by
  have h4 := hg.2.2.2.2.2.1
  have h1 := hg.2.2.2.2.1
  have w1 := hg.1
  have w2 := hg.2.1
  have v1 := hg.2.2.1
  have v2 := hg.2.2.2.1
  have hh := hg.h
  have hv := hg.v
  intro r hr
  obtain ⟨s, hs, eS⟩ := hS.1
  have pw : 2 ^ (2 * g.2.2.1) ≤ 2 ^ 8 := Nat.pow_le_pow_right (by decide) (by omega)
  have el : fX13_lay X (rg_p lM b w0 y) (b + 24) (nI g.1) (nI g.2.1) (nI g.2.2.1) S = fX13_lay_141 X (b + 24) (nI g.1) (nI g.2.1) (nI g.2.2.1) S (nI (gH g)) (nI (gV_ g)) (nI (gBs g g.2.2.1)) (nI (gUA g)) (nI (gUD g)) (rg_p lM b w0 y) := by
    unfold fX13_lay
    refine (show fX13_lay_9 X FU (b + 24) (nI g.1) (nI g.2.1) (nI g.2.2.1) S (nI (gMx g.2.2.2.1 0)) (nI (gMx g.2.2.2.2 0)) (nI 0) _ = _ from m_lay9 hg hS g.2.2.1 FU 0 (by omega) (by unfold FU; omega)).trans ?_
    unfold fX13_lay_65
    rw [show (8 : Int32) * nI (gH g) = nI (8 * gH g) from pk_mul 8 _, show (8 : Int32) * nI (gV_ g) = nI (8 * gV_ g) from pk_mul 8 _]
    refine ob_v (m_upS (by omega) (by omega) (by omega)) (ob_v (m_upS (by omega) (by omega) (by omega)) ?_)
    exact (show fX13_lay_93 X FU (b + 24) (nI g.1) (nI g.2.1) (nI g.2.2.1) S (nI (gH g)) (nI (gV_ g)) (nI (gBs g 0)) (nI (gUA g)) (nI (gUD g)) (nI 0) _ = _ from m_lay93 hg hS g.2.2.1 FU 0 (by omega) (by unfold FU; omega))
  unfold fX13_frame
  refine ei_n (nI_nlt (b := 1) (by omega) (by omega)) (ei_n (nI_nlt (a := 64) (by omega) (by omega)) (ei_n (nI_nlt (b := 1) (by omega) (by omega)) (ei_n (nI_nlt (a := 64) (by omega) (by omega)) (ei_n (nI_nlt (b := 1) (by omega) (by omega)) (ei_n (nI_nlt (a := 4) (by omega) (by omega)) (ei_n (by rw [eS]; exact nI_nlt (b := 0) (by omega) (by omega)) (ei_n ?_ (ob_v (rg_O rfl) ?_))))))))
  · rw [show (2 : Int32) * nI g.2.2.1 = nI (2 * g.2.2.1) from pk_mul 2 _, pw_n (by omega), eS]
    exact nI_ge hs (by omega)
  · rw [el]
    exact hr
theorem m_frame0 (hg : gOk g) (hS : sS S g) (hb : ¬ gBs g g.2.2.1 ≤ 192) : fX13_frame X (rg_p lM b w0 y) (b + 24) (nI g.1) (nI g.2.1) (nI g.2.2.1) S = some (0, rg_p lM b w0 y) := by
  have h4 := hg.2.2.2.2.2.1
  have bb := hg.bs (c := g.2.2.1) (Nat.le_refl _)
  have nb : ¬ nI (gBs g g.2.2.1) ≤ 192 := nI_ge (a := 192) (by omega) (by omega)
  refine m_fr141 hg hS _ ?_
  unfold fX13_lay_141
  rw [if_neg nb]
  exact ei_n nb rfl
theorem m_frame1 (hg : gOk g) (hS : sS S g) (hb : gBs g g.2.2.1 ≤ 192) : ∃ y', fX13_frame X (rg_p lM b w0 y) (b + 24) (nI g.1) (nI g.2.1) (nI g.2.2.1) S = some (1, rg_p lM b w0 y') ∧ FYf y y' ∧ (y'.1 24 2 = nI g.2.2.1 ∧ y'.1 24 10 = nI (gUA g) ∧ y'.1 24 11 = nI (gUD g)) ∧ (∀ i, i < 12288 → y'.2.2.1 32 i = 0) ∧ ∀ i, i < g.2.2.1 → (y'.2.2.1 25 i = nI (g.2.2.2.1 i) ∧ y'.2.2.1 26 i = nI (g.2.2.2.2 i) ∧ y'.2.2.1 27 i = nI (gAc g i) ∧ y'.2.2.1 29 i = nI (gOA g i) ∧ y'.2.2.1 30 i = nI (gOD g i)) ∧ y'.2.2.1 31 i = nI (gBs g i) := by
  have h4 := hg.2.2.2.2.2.1
  have yb : nI (gBs g g.2.2.1) ≤ 192 := nI_le (b := 192) hb (by omega)
  generalize hz : rg_wI (rg_wI (rg_wI (rg_wI (rg_wI y 24 0 (nI g.1)) 24 1 (nI g.2.1)) 24 2 (nI g.2.2.1)) 24 10 (nI (gUA g))) 24 11 (nI (gUD g)) = z
  obtain ⟨y1, e1, i1, i2, i3, i4⟩ := m_lay185 (X := X) (b := b) (w0 := w0) (S := S) (a7 := nI (gBs g g.2.2.1)) (y0 := z) hg hS g.2.2.1 FU 0 z (by omega) (by unfold FU; omega) ⟨rfl, rfl, fun _ _ => rfl, fun i hi => absurd hi (Nat.not_lt_zero _)⟩
  have bI : ∀ p k, ¬ (p = 24 ∧ 22 ≤ k ∧ k ≤ 27) → (yBs y1).1 p k = z.1 p k := by
    intro p k hk
    unfold yBs
    rw [wA_1, wA_1, wI_n _ _ (by omega), wI_n _ _ (by omega), wI_n _ _ (by omega), wI_n _ _ (by omega), wI_n _ _ (by omega), wI_n _ _ (by omega), wA_1, i1]
  have bA : ∀ p, p ≠ 39 → p ≠ 40 → p ≠ 32 → (yBs y1).2.2.1 p = y1.2.2.1 p := by
    intro p p1 p2 p3
    unfold yBs
    rw [wA_n _ _ p2, wA_n _ _ p1]
    show (rg_wA y1 32 _).2.2.1 p = _
    rw [wA_n _ _ p3]
  refine ⟨yBs y1, m_fr141 hg hS _ ?_, ⟨fun p k hk => ?_, ?_, fun p p1 p2 p3 => ?_⟩, ⟨?_, ?_, ?_⟩, fun i hi => ?_, fun i hi => ?_⟩
  · unfold fX13_lay_141
    rw [if_pos yb]
    have : (pV (rg_p lM b w0 y) (b + 24) 13 0 (.int (nI g.1))).bind (fun w70 => (pV w70 (b + 24) 13 1 (.int (nI g.2.1))).bind fun w71 => (pV w71 (b + 24) 13 2 (.int (nI g.2.2.1))).bind fun w72 => (pV w72 (b + 24) 13 10 (.int (nI (gUA g)))).bind fun w73 => (pV w73 (b + 24) 13 11 (.int (nI (gUD g)))).bind fun w74 => fX13_lay_185 X FU (b + 24) (nI g.1) (nI g.2.1) (nI g.2.2.1) S (nI (gH g)) (nI (gV_ g)) (nI (gBs g g.2.2.1)) (nI (gUA g)) (nI (gUD g)) 0 0 w74) = some (nI (gBs g g.2.2.1), rg_p lM b w0 y1) := by
      refine ob_v (rg_pI rfl rfl _) (ob_v (rg_pI rfl rfl _) (ob_v (rg_pI rfl rfl _) (ob_v (rg_pI rfl rfl _) (ob_v (rg_pI rfl rfl _) ?_))))
      rw [hz]
      exact e1
    rw [this]
    exact ei_t yb (ob_v (rg_O rfl) (ob_v m_base rfl))
  · rw [bI p k (by omega), ← hz, wI_n _ _ (by omega), wI_n _ _ (by omega), wI_n _ _ (by omega), wI_n _ _ (by omega), wI_n _ _ (by omega)]
  · show y1.2.1 = _
    rw [i2, ← hz]
    rfl
  · rw [bA p p2 p3 (by omega), i3 p (by omega), ← hz]
    rfl
  · rw [bI _ _ (by omega), ← hz, wI_n _ _ (by omega), wI_n _ _ (by omega), wI_s]
  · rw [bI _ _ (by omega), ← hz, wI_n _ _ (by omega), wI_s]
  · rw [bI _ _ (by omega), ← hz, wI_s]
  · unfold yBs
    rw [wA_n _ _ (by decide), wA_n _ _ (by decide)]
    show (rg_wA y1 32 _).2.2.1 32 i = 0
    rw [wA_s, fU_lt hi]
  · rw [bA 25 (by decide) (by decide) (by decide), bA 26 (by decide) (by decide) (by decide), bA 27 (by decide) (by decide) (by decide), bA 29 (by decide) (by decide) (by decide), bA 30 (by decide) (by decide) (by decide), bA 31 (by decide) (by decide) (by decide)]
    exact i4 i hi
/-- the picture's coefficients and tables' numbers -/
theorem m_cp75 {a1 a2 : Int32} : fX15_saveAs_75 X FU (b + 0) a1 a2 0 (rg_p lM b w0 y) = fX15_saveAs_106 X (b + 0) a1 a2 (rg_p lM b w0 (rg_wA y 32 (fU 12288 (fun i => vp_nar .short (y.2.2.1 64 i)) (y.2.2.1 32)))) := by
  have e1 := rg_lpF (F := fun M (s : Int32 × rg_S) => fX15_saveAs_75 X M (b + 0) a1 a2 s.1 (rg_p lM b w0 s.2)) 12288 (fun i => (nI i, rg_wA y 32 (fU i (fun i => vp_nar .short (y.2.2.1 64 i)) (y.2.2.1 32)))) (r := fX15_saveAs_106 X (b + 0) a1 a2 (rg_p lM b w0 (rg_wA y 32 (fU 12288 (fun i => vp_nar .short (y.2.2.1 64 i)) (y.2.2.1 32))))) (by omega) (by
    intro M i hi
    dsimp only
    rw [fX15_saveAs_75.eq_2]
    refine ei_n (nI_ge (b := 12288) (by omega) (by omega)) (ob_v (rg_C rfl rfl) (ob_v (rg_C rfl rfl) (ob_v (rg_C rfl rfl) (ob_v (rg_A rfl (by decide) _ hi (by decide)) (ob_v (rg_sA _ rfl (by decide) _ _ hi (by decide)) ?_)))))
    rw [wA_s, wA_wA, nI_1, wA_n _ _ (by decide), ← fU_s i (fun i => vp_nar .short (y.2.2.1 64 i)) (y.2.2.1 32)]) (by
    intro M
    dsimp only
    rw [fX15_saveAs_75.eq_2]
    exact ei_t (by decide) rfl)
  dsimp only at e1
  rw [fU_0, wA_id rfl] at e1
  exact e1
theorem m_tb109 {a1 a2 : Int32} (hg : gOk g) : ∀ (k M c : Nat) (y : rg_S), c + k = g.2.2.1 → k < M → y.1 0 20 = nI g.2.2.1 → y.1 24 2 = nI g.2.2.1 → (∀ i, i < c → y.2.2.1 39 i = nI i ∧ y.2.2.1 40 i = nI (4 + i)) → ∃ y', fX15_saveAs_109 X M (b + 0) a1 a2 (nI c) (rg_p lM b w0 y) = fX15_saveAs_140 X (b + 0) a1 a2 (rg_p lM b w0 y') ∧ (∀ i, i < g.2.2.1 → y'.2.2.1 39 i = nI i ∧ y'.2.2.1 40 i = nI (4 + i)) ∧ y'.1 = y.1 ∧ y'.2.1 = y.2.1 ∧ ∀ p, p ≠ 39 → p ≠ 40 → y'.2.2.1 p = y.2.2.1 p := by
  have h4 := hg.2.2.2.2.2.1
  intro k
  induction k with
  | zero =>
    intro M c y hc hM h20 h2 h
    obtain rfl : c = g.2.2.1 := by omega
    obtain ⟨M, rfl⟩ : ∃ M', M = M' + 1 := ⟨M - 1, by omega⟩
    refine ⟨y, ?_, h, rfl, rfl, fun _ _ _ => rfl⟩
    rw [fX15_saveAs_109.eq_2]
    refine ob_v (rg_I rfl rfl) ?_
    rw [h20]
    exact ei_t (nI_le (Nat.le_refl _) (by omega)) rfl
  | succ k ih =>
    intro M c y hc hM h20 h2 h
    obtain ⟨M, rfl⟩ : ∃ M', M = M' + 1 := ⟨M - 1, by omega⟩
    generalize hy1 : rg_wA (rg_wA y 39 (upd (y.2.2.1 39) c (nI c))) 40 (upd (y.2.2.1 40) c (nI (4 + c))) = y1
    have k1 : ∀ i, i < c + 1 → y1.2.2.1 39 i = nI i ∧ y1.2.2.1 40 i = nI (4 + i) := by
      intro i hi
      rw [← hy1, wA_n _ _ (by decide), wA_s, wA_s]
      by_cases e : i = c
      · rw [e, pk_us, pk_us]
        exact ⟨rfl, rfl⟩
      · rw [pk_un e, pk_un e]
        exact h i (by omega)
    obtain ⟨y2, e2, q1, q2, q3, q4⟩ := ih M (c + 1) y1 (by omega) (by omega) (by rw [← hy1]; exact h20) (by rw [← hy1]; exact h2) k1
    refine ⟨y2, ?_, q1, q2.trans (by rw [← hy1]; rfl), q3.trans (by rw [← hy1]; rfl), fun p p1 p2 => (q4 p p1 p2).trans (by rw [← hy1, wA_n _ _ p2, wA_n _ _ p1])⟩
    rw [fX15_saveAs_109.eq_2]
    refine ob_v (rg_I rfl rfl) ?_
    rw [h20, show (4 : Int32) + nI c = nI (4 + c) from nI_add 4 c]
    refine ei_n (nI_ge (by omega) (by omega)) (ob_v (rg_C rfl rfl) (ob_v (rg_O rfl) (ob_v (v := (1, rg_p lM b w0 y1)) ?_ (by rw [nI_1]; exact e2))))
    unfold fX13_tables
    refine ei_n (nI_nlt (b := 0) (by omega) (by omega)) (ob_v (rg_I rfl rfl) ?_)
    rw [h2]
    refine ei_n (nI_ge (by omega) (by omega)) (ei_n (nI_nlt (b := 0) (by omega) (by omega)) (ei_n (nI_nlt (a := 3) (by omega) (by omega)) (ei_n (nI_nlt (b := 4) (by omega) (by omega)) (ei_t (nI_le (b := 7) (by omega) (by omega)) (ob_v (rg_C rfl rfl) (ob_v (rg_sA _ rfl (by decide) _ _ (by omega) (by decide)) (ob_v (rg_C rfl rfl) (ob_v (rg_sA _ rfl (by decide) _ _ (by omega) (by decide)) ?_))))))))
    rw [wA_n _ _ (show (40 : Nat) ≠ 39 by decide), id, id, hy1]
end
