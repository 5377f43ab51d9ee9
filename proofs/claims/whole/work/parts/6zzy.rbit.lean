/-! bits read: the reference -/
def yR (y : rg_S) (D : Nat → Nat) (n : Nat) (s : bSt) : Prop := y.1 24 43 = nI s.1 ∧ y.1 24 44 = nI s.2.2 ∧ y.1 24 45 = nI s.2.1 ∧ y.1 24 46 = 0 ∧ y.1 24 29 = nI n ∧ (∀ i, i < n → y.2.2.1 41 i &&& 255 = nI (D i) ∧ (y.2.2.1 41 i = 0 ↔ D i = 0)) ∧ dOk D n ∧ bOk D n s
def FYr (y y' : rg_S) : Prop := (∀ p k, ¬ (p = 24 ∧ 43 ≤ k ∧ k ≤ 46) → y'.1 p k = y.1 p k) ∧ y'.2 = y.2
theorem FYr.rfl {y : rg_S} : FYr y y := ⟨fun _ _ _ => Eq.refl _, Eq.refl _⟩
theorem FYr.trans {y y1 y2 : rg_S} (h : FYr y y1) (h2 : FYr y1 y2) : FYr y y2 := ⟨fun p k a => (h2.1 p k a).trans (h.1 p k a), h2.2.trans h.2⟩
section
variable {X : px_X} {b B : Nat} {w0 w1 : px_W} {y y' : rg_S} {D : Nat → Nat} {n : Nat} {s s' : bSt}
theorem m_wrong (h : y.1 24 46 = 0) (k : Int32) : fX13_wrong X (rg_p lM b w0 y) (b + 24) k = some (0, rg_p lM b w0 (rg_wI y 24 46 k)) := by
  unfold fX13_wrong fX13_wrong_16
  exact ob_v (rg_I rfl rfl) (ei_t h (ob_v (rg_pI rfl rfl _) rfl))
theorem wr_F (k : Int32) : FYr y (rg_wI y 24 46 k) := ⟨fun p k' hk => wI_n _ _ (by omega), rfl⟩
/-- the last step: a bit of the held byte -/
theorem m_131 (h : yR y D n s) (hl : 1 ≤ s.2.1) : ∃ y', fX13_takeBit_131 X (b + 24) (rg_p lM b w0 y) = some (nI (bit1 s), rg_p lM b w0 y') ∧ yR y' D n (tk1 s) ∧ FYr y y' := by
  obtain ⟨h1, h2, h3, h4, h5, h6, h7, h8⟩ := h
  have l8 := h8.2.2.1
  have hb := h8.2.2.2 hl
  refine ⟨rg_wI y 24 45 (nI (s.2.1 - 1)), ?_, ⟨?_, ?_, ?_, ?_, ?_, h6, h7, tk1_ok h8⟩, ⟨fun p k hk => wI_n _ _ (by omega), rfl⟩⟩
  · unfold fX13_takeBit_131
    refine ob_v (rg_I rfl rfl) ?_
    rw [h3, show nI s.2.1 - 1 = nI (s.2.1 - 1) from pk_sub (b := 1) hl]
    refine ob_v (rg_pI rfl rfl _) (ob_v (rg_I rfl rfl) (ob_v (rg_I rfl rfl) ?_))
    rw [wI_n _ _ (by omega), wI_s, h2, pk_shrN (by omega) _ (s.2.1 - 1) (sm_8 (by omega)), pk_andN (Nat.lt_of_le_of_lt (Nat.div_le_self _ _) (by omega)) 1 (by decide)]
    rfl
  · rw [wI_n _ _ (by omega)]; exact h1
  · rw [wI_n _ _ (by omega)]; exact h2
  · rw [wI_s]; rfl
  · rw [wI_n _ _ (by omega)]; exact h4
  · rw [wI_n _ _ (by omega)]; exact h5
theorem m_atR (h : yR y D n s) (hs : s.1 < n) : fX13_atRestart X (rg_p lM b w0 y) (b + 24) = some (if D s.1 = 255 ∧ D (s.1 + 1) ≠ 0 then 1 else 0, rg_p lM b w0 y) := by
  obtain ⟨h1, h2, h3, h4, h5, h6, h7, h8⟩ := h
  have n16 := h7.1
  unfold fX13_atRestart
  refine ob_v (rg_I rfl rfl) (ob_v (rg_I rfl rfl) ?_)
  rw [h1, h5, nI_1]
  by_cases e255 : D s.1 = 255
  · obtain ⟨d1, d2⟩ := h7.2.2 s.1 h8.1 hs e255
    refine ei_n (nI_ge (by omega) (by omega)) (ob_v (rg_C rfl rfl) (ob_v (rg_I rfl rfl) ?_))
    rw [h1]
    refine ob_v (rg_A rfl (by decide) _ (by omega) (by decide)) ?_
    rw [(h6 s.1 hs).1]
    refine ei_t (by rw [e255]; rfl) (ob_v (rg_C rfl rfl) (ob_v (rg_I rfl rfl) ?_))
    rw [h1, nI_1]
    refine ob_v (rg_A rfl (by decide) _ (by omega) (by decide)) ?_
    rw [(h6 (s.1 + 1) d1).1]
    by_cases z : D (s.1 + 1) = 0
    · rw [show (if D s.1 = 255 ∧ D (s.1 + 1) ≠ 0 then (1 : Int32) else 0) = 0 from if_neg (fun e => e.2 z)]
      exact ei_t (by rw [z]; decide) rfl
    · rw [show (if D s.1 = 255 ∧ D (s.1 + 1) ≠ 0 then (1 : Int32) else 0) = 1 from if_pos ⟨e255, z⟩]
      have dd := d2.resolve_left z
      refine ei_n (nI_nlt (b := 208) dd.1 (by omega)) (ob_v (rg_C rfl rfl) (ob_v (rg_I rfl rfl) ?_))
      rw [h1, nI_1]
      refine ob_v (rg_A rfl (by decide) _ (by omega) (by decide)) ?_
      rw [(h6 (s.1 + 1) d1).1]
      exact ei_n (nI_nlt (a := 215) dd.2 (by omega)) rfl
  · rw [show (if D s.1 = 255 ∧ D (s.1 + 1) ≠ 0 then (1 : Int32) else 0) = 0 from if_neg (fun e => e255 e.1)]
    by_cases l : n ≤ s.1 + 1
    · exact ei_t (nI_le l (by omega)) rfl
    · refine ei_n (nI_ge (by omega) (by omega)) (ob_v (rg_C rfl rfl) (ob_v (rg_I rfl rfl) ?_))
      rw [h1]
      refine ob_v (rg_A rfl (by decide) _ (by omega) (by decide)) ?_
      rw [(h6 s.1 hs).1]
      have := h7.2.1 s.1
      exact ei_n (fun e => e255 ((nI_eq (b := 255) (by omega) (by omega)).mp e)) rfl
theorem m_tB (h : yR y D n s) : ∃ v y', fX13_takeBit X (rg_p lM b w0 y) (b + 24) = some (v, rg_p lM b w0 y') ∧ FYr y y' ∧ (tB D n s = none ∧ y'.1 24 46 = 1 ∧ v = 0 ∨ ∃ u s', tB D n s = some (u, s') ∧ v = nI u ∧ yR y' D n s') := by
  have h' := h
  obtain ⟨h1, h2, h3, h4, h5, h6, h7, h8⟩ := h
  have n16 := h7.1
  have l8 := h8.2.2.1
  have sn := h8.2.1
  by_cases l0 : s.2.1 = 0
  · have st : ∀ r, (if nI s.1 = nI n then fX13_takeBit_34 X (b + 24) (rg_p lM b w0 y) else (gO (rg_p lM b w0 y) (b + 24) 13).bind fun o49 => (fX13_atRestart X (rg_p lM b w0 y) (b + 24)).bind fun q50 => if q50.1 = 0 then (gR q50.2 (b + 24) 13 28).bind fun v52 => (gI q50.2 (b + 24) 13 43).bind fun v53 => (aN q50.2 1 v52 v53).bind fun v54 => (pV q50.2 (b + 24) 13 44 (.int (v54 &&& 255))).bind fun w55 => (gI w55 (b + 24) 13 44).bind fun v56 => if v56 = 255 then (gI w55 (b + 24) 13 43).bind fun v58 => (gI w55 (b + 24) 13 29).bind fun v59 => if (v58 + 1) = v59 then fX13_takeBit_94 X (b + 24) w55 else (gR w55 (b + 24) 13 28).bind fun v61 => (gI w55 (b + 24) 13 43).bind fun v62 => (aN w55 1 v61 (v62 + 1)).bind fun v63 => if v63 = 0 then fX13_takeBit_101 X (b + 24) w55 else fX13_takeBit_94 X (b + 24) w55 else fX13_takeBit_101 X (b + 24) w55 else fX13_takeBit_34 X (b + 24) q50.2) = r → fX13_takeBit X (rg_p lM b w0 y) (b + 24) = r := by
      intro r hr
      unfold fX13_takeBit
      refine ob_v (rg_I rfl rfl) (ei_t (by rw [h4]; decide) (ob_v (rg_I rfl rfl) (ei_t (by rw [h3, l0]; rfl) (ob_v (rg_I rfl rfl) (ob_v (rg_I rfl rfl) ?_)))))
      rw [h1, h5]
      exact hr
    have e34 : fX13_takeBit_34 X (b + 24) (rg_p lM b w0 y) = some (0, rg_p lM b w0 (rg_wI y 24 46 1)) := by
      unfold fX13_takeBit_34
      exact ob_v (rg_O rfl) (ob_v (m_wrong h4 1) rfl)
    by_cases bad : n ≤ s.1 ∨ D s.1 = 255 ∧ D (s.1 + 1) ≠ 0
    · refine ⟨0, rg_wI y 24 46 1, st _ ?_, wr_F 1, Or.inl ⟨?_, wI_s _ _ _ _, rfl⟩⟩
      · by_cases en : s.1 = n
        · exact ei_t (by rw [en]) e34
        · have q := bad.resolve_left (by omega)
          have ea := m_atR (X := X) (b := b) (w0 := w0) h' (by omega)
          rw [if_pos q] at ea
          exact ei_n (fun e => en ((nI_eq (by omega) (by omega)).mp e)) (ob_v (rg_O rfl) (ob_v ea (ei_n n10 e34)))
      · unfold tB
        rw [if_pos ⟨l0, bad⟩]
    · have hs : s.1 < n := by omega
      have ea := m_atR (X := X) (b := b) (w0 := w0) h' hs
      rw [if_neg (fun e => bad (Or.inr e))] at ea
      have fo := fil_ok h7 h8 (fun e => bad e.2)
      have d256 := h7.2.1 s.1
      have ef : fil D s = (if D s.1 = 255 then s.1 + 2 else s.1 + 1, 8, D s.1) := by
        unfold fil
        rw [if_pos l0]
      generalize hz : rg_wI (rg_wI (rg_wI y 24 44 (nI (D s.1))) 24 43 (nI (if D s.1 = 255 then s.1 + 2 else s.1 + 1))) 24 45 8 = z
      have hzR : yR z D n (fil D s) := by
        refine ⟨?_, ?_, ?_, ?_, ?_, ?_, h7, fo.1⟩
        · rw [← hz, wI_n _ _ (by omega), wI_s, ef]
        · rw [← hz, wI_n _ _ (by omega), wI_n _ _ (by omega), wI_s, ef]
        · rw [← hz, wI_s, ef]; rfl
        · rw [← hz, wI_n _ _ (by omega), wI_n _ _ (by omega), wI_n _ _ (by omega)]; exact h4
        · rw [← hz, wI_n _ _ (by omega), wI_n _ _ (by omega), wI_n _ _ (by omega)]; exact h5
        · rw [← hz]; exact h6
      have Fz : FYr y z := by
        rw [← hz]
        exact ⟨fun p k hk => by rw [wI_n _ _ (by omega), wI_n _ _ (by omega), wI_n _ _ (by omega)], rfl⟩
      obtain ⟨y', e', hR, F⟩ := m_131 (X := X) (b := b) (w0 := w0) hzR fo.2
      have e101 : fX13_takeBit_101 X (b + 24) (rg_p lM b w0 (rg_wI y 24 44 (nI (D s.1)))) = some (nI (bit1 (fil D s)), rg_p lM b w0 y') := by
        unfold fX13_takeBit_101 fX13_takeBit_121
        refine ob_v (rg_I rfl rfl) (ob_v (rg_I rfl rfl) ?_)
        rw [wI_s, show (rg_wI y 24 44 (nI (D s.1))).1 24 43 = y.1 24 43 from wI_n _ _ (by omega), h1]
        by_cases e255 : D s.1 = 255
        · rw [if_pos e255] at hz
          refine ei_t (by rw [e255]; rfl) ?_
          rw [show nI s.1 + 2 = nI (s.1 + 2) from nI_add _ 2]
          refine ob_v (rg_pI rfl rfl _) (ob_v (rg_pI rfl rfl _) ?_)
          rw [hz]
          exact e'
        · rw [if_neg e255] at hz
          refine ei_n (fun e => e255 ((nI_eq (b := 255) (by omega) (by omega)).mp e)) ?_
          rw [nI_1]
          refine ob_v (rg_pI rfl rfl _) (ob_v (rg_pI rfl rfl _) ?_)
          rw [hz]
          exact e'
      refine ⟨nI (bit1 (fil D s)), y', st _ ?_, Fz.trans F, Or.inr ⟨bit1 (fil D s), tk1 (fil D s), ?_, rfl, hR⟩⟩
      · refine ei_n (fun e => by have := (nI_eq (by omega) (by omega)).mp e; omega) (ob_v (rg_O rfl) (ob_v ea (ei_t rfl (ob_v (rg_C rfl rfl) (ob_v (rg_I rfl rfl) ?_)))))
        rw [h1]
        refine ob_v (rg_A rfl (by decide) _ (by omega) (by decide)) ?_
        rw [(h6 s.1 hs).1]
        refine ob_v (rg_pI rfl rfl _) (ob_v (rg_I rfl rfl) ?_)
        rw [wI_s]
        by_cases e255 : D s.1 = 255
        · have dd := h7.2.2 s.1 h8.1 hs e255
          refine ei_t (by rw [e255]; rfl) (ob_v (rg_I rfl rfl) (ob_v (rg_I rfl rfl) ?_))
          rw [wI_n _ _ (by omega), wI_n _ _ (by omega), h1, h5, nI_1]
          refine ei_n (fun e => by have := (nI_eq (by omega) (by omega)).mp e; omega) (ob_v (rg_C rfl rfl) (ob_v (rg_I rfl rfl) ?_))
          rw [wI_n _ _ (by omega), h1, nI_1]
          refine ob_v (rg_A rfl (by decide) _ (by omega) (by decide)) (ei_t ?_ e101)
          rw [wI_2]
          exact (h6 (s.1 + 1) dd.1).2.mpr (Classical.byContradiction (fun e => bad (Or.inr ⟨e255, e⟩)))
        · exact ei_n (fun e => e255 ((nI_eq (b := 255) (by omega) (by omega)).mp e)) e101
      · unfold tB
        rw [if_neg (fun e => bad e.2)]
  · obtain ⟨y', e', hR, F⟩ := m_131 (X := X) (b := b) (w0 := w0) h' (by omega)
    have ef : fil D s = s := by
      unfold fil
      rw [if_neg l0]
    refine ⟨_, y', ?_, F, Or.inr ⟨bit1 s, tk1 s, ?_, rfl, hR⟩⟩
    · unfold fX13_takeBit
      refine ob_v (rg_I rfl rfl) (ei_t (by rw [h4]; decide) (ob_v (rg_I rfl rfl) ?_))
      rw [h3]
      exact ei_n (nI_ne0 (by omega) (by omega)) e'
    · unfold tB
      rw [if_neg (fun e => l0 e.1), ef]
/-- with a fault nothing is read -/
theorem m_tB0 {f : Nat} (hf : y.1 24 46 = nI f) (h0 : 0 < f) (h9 : f < 100) : fX13_takeBit X (rg_p lM b w0 y) (b + 24) = some (0, rg_p lM b w0 y) := by
  unfold fX13_takeBit
  refine ob_v (rg_I rfl rfl) ?_
  rw [hf]
  exact ei_n (nI_nle h0 (by omega)) rfl
theorem m_tN0 {f : Nat} (hf : y.1 24 46 = nI f) (h0 : 0 < f) (h9 : f < 100) {m : Nat} : ∀ (k M i : Nat) (v : Int32), i + k = m → m < 65536 → k < M → ∃ v', fX13_takeBits_4 X M (b + 24) (nI m) v (nI i) (rg_p lM b w0 y) = some (v', rg_p lM b w0 y) := by
  intro k
  induction k with
  | zero =>
    intro M i v hi hm hM
    obtain rfl : i = m := by omega
    obtain ⟨M, rfl⟩ : ∃ M', M = M' + 1 := ⟨M - 1, by omega⟩
    refine ⟨v, ?_⟩
    rw [fX13_takeBits_4.eq_2]
    exact ei_t (nI_le (Nat.le_refl _) (by omega)) rfl
  | succ k ih =>
    intro M i v hi hm hM
    obtain ⟨M, rfl⟩ : ∃ M', M = M' + 1 := ⟨M - 1, by omega⟩
    obtain ⟨v', e'⟩ := ih M (i + 1) (2 * v + 0) (by omega) hm (by omega)
    refine ⟨v', ?_⟩
    rw [fX13_takeBits_4.eq_2]
    refine ei_n (nI_ge (by omega) (by omega)) (ob_v (rg_O rfl) (ob_v (m_tB0 hf h0 h9) ?_))
    rw [nI_1]
    exact e'
theorem m_tN {m : Nat} : ∀ (k M i v : Nat) (y : rg_S) (s : bSt), i + k = m → m < 65536 → k < M → yR y D n s → ∃ u y', fX13_takeBits_4 X M (b + 24) (nI m) (nI v) (nI i) (rg_p lM b w0 y) = some (u, rg_p lM b w0 y') ∧ FYr y y' ∧ (tN D n k v s = none ∧ y'.1 24 46 = 1 ∨ ∃ q s', tN D n k v s = some (q, s') ∧ u = nI q ∧ yR y' D n s') := by
  intro k
  induction k with
  | zero =>
    intro M i v y s hi hm hM h
    obtain rfl : i = m := by omega
    obtain ⟨M, rfl⟩ : ∃ M', M = M' + 1 := ⟨M - 1, by omega⟩
    refine ⟨nI v, y, ?_, FYr.rfl, Or.inr ⟨v, s, rfl, rfl, h⟩⟩
    rw [fX13_takeBits_4.eq_2]
    exact ei_t (nI_le (Nat.le_refl _) (by omega)) rfl
  | succ k ih =>
    intro M i v y s hi hm hM h
    obtain ⟨M, rfl⟩ : ∃ M', M = M' + 1 := ⟨M - 1, by omega⟩
    obtain ⟨w, y1, e1, F1, h1⟩ := m_tB (X := X) (b := b) (w0 := w0) h
    rw [fX13_takeBits_4.eq_2]
    rcases h1 with ⟨t1, t2, t3⟩ | ⟨u, s1, t1, t2, t3⟩
    · obtain ⟨v', e'⟩ := m_tN0 (X := X) (b := b) (w0 := w0) (f := 1) t2 (by decide) (by decide) (m := m) k M (i + 1) (2 * nI v + w) (by omega) hm (by omega)
      refine ⟨v', y1, ei_n (nI_ge (by omega) (by omega)) (ob_v (rg_O rfl) (ob_v e1 ?_)), F1, Or.inl ⟨?_, t2⟩⟩
      · rw [nI_1]
        exact e'
      · rw [tN.eq_2, t1]
    · obtain ⟨q, y2, e2, F2, h2⟩ := ih M (i + 1) (2 * v + u) y1 s1 (by omega) hm (by omega) t3
      refine ⟨q, y2, ei_n (nI_ge (by omega) (by omega)) (ob_v (rg_O rfl) (ob_v e1 ?_)), F1.trans F2, ?_⟩
      · rw [t2, nI_1, nI_2, nI_add]
        exact e2
      · rw [tN.eq_2, t1]
        exact h2
end
