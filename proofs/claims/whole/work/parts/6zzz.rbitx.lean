/-! bits read: the class -/
def xR (x : rg_S) (D : Nat → Nat) (n d0 : Nat) (s : bSt) : Prop := x.1 95 3 = nI (d0 + s.1) ∧ x.1 95 4 = nI s.2.2 ∧ x.1 95 5 = nI s.2.1 ∧ x.1 95 6 = 0 ∧ x.2.1 95 2 = 41 ∧ x.1 41 10 = nI (d0 + n) ∧ d0 + n ≤ 16384 ∧ (∀ i, i < n → x.2.2.1 2 (d0 + i) &&& 255 = nI (D i) ∧ (x.2.2.1 2 (d0 + i) = 0 ↔ D i = 0)) ∧ dOk D n ∧ bOk D n s
def FXr (x x' : rg_S) : Prop := (∀ p k, ¬ (p = 95 ∧ 3 ≤ k ∧ k ≤ 6) → x'.1 p k = x.1 p k) ∧ x'.2 = x.2
theorem FXr.rfl {x : rg_S} : FXr x x := ⟨fun _ _ _ => Eq.refl _, Eq.refl _⟩
theorem FXr.trans {x x1 x2 : rg_S} (h : FXr x x1) (h2 : FXr x1 x2) : FXr x x2 := ⟨fun p k a => (h2.1 p k a).trans (h.1 p k a), h2.2.trans h.2⟩
section
variable {X : px_X} {b B : Nat} {w0 w1 : px_W} {x x' : rg_S} {D : Nat → Nat} {n d0 : Nat} {s s' : bSt}
theorem x_t11 (h : xR x D n d0 s) (hl : 1 ≤ s.2.1) : ∃ x', fX6_takeBit_11 X (B + 95) (rg_p lX B w0 x) = some (nI (bit1 s), rg_p lX B w0 x') ∧ xR x' D n d0 (tk1 s) ∧ FXr x x' := by
  obtain ⟨h1, h2, h3, h4, h5, h6, h7, h8, h9, h10⟩ := h
  have l8 := h10.2.2.1
  have hb := h10.2.2.2 hl
  refine ⟨rg_wI x 95 5 (nI (s.2.1 - 1)), ?_, ⟨?_, ?_, ?_, ?_, h5, ?_, h7, h8, h9, tk1_ok h10⟩, ⟨fun p k hk => wI_n _ _ (by omega), rfl⟩⟩
  · unfold fX6_takeBit_11
    refine ob_v (rg_I rfl rfl) (ei_t h4 (ob_v (rg_I rfl rfl) ?_))
    rw [h3, show nI s.2.1 - 1 = nI (s.2.1 - 1) from pk_sub (b := 1) hl]
    refine ob_v (rg_pI rfl rfl _) (ob_v (rg_I rfl rfl) (ob_v (rg_I rfl rfl) ?_))
    rw [wI_n _ _ (by omega), wI_s, h2, pk_shrN (by omega) _ (s.2.1 - 1) (sm_8 (by omega)), pk_andN (Nat.lt_of_le_of_lt (Nat.div_le_self _ _) (by omega)) 1 (by decide)]
    rfl
  · rw [wI_n _ _ (by omega)]; exact h1
  · rw [wI_n _ _ (by omega)]; exact h2
  · rw [wI_s]; rfl
  · rw [wI_n _ _ (by omega)]; exact h4
  · rw [wI_n _ _ (by omega)]; exact h6
theorem x_tB (h : xR x D n d0 s) : ∃ v x', fX6_takeBit X (rg_p lX B w0 x) (B + 95) = some (v, rg_p lX B w0 x') ∧ FXr x x' ∧ (tB D n s = none ∧ x'.1 95 6 = 1 ∧ v = -1 ∨ ∃ u s', tB D n s = some (u, s') ∧ v = nI u ∧ xR x' D n d0 s') := by
  have h' := h
  obtain ⟨h1, h2, h3, h4, h5, h6, h7, h8, h9, h10⟩ := h
  have n16 := h9.1
  have l8 := h10.2.2.1
  have sn := h10.2.1
  by_cases l0 : s.2.1 = 0
  · have gS : ∀ z : rg_S, z.2 = x.2 → gR (rg_p lX B w0 z) (B + 95) 6 2 = some (B + 41) := fun z e => by
      have : z.2.1 95 2 = 41 := by rw [e]; exact h5
      rw [← this]
      exact rg_R rfl rfl
    have st : ∀ x1 r, fX6_takeByte X (rg_p lX B w0 x) (B + 95) = some (rg_p lX B w0 x1) → fX6_takeBit_11 X (B + 95) (rg_p lX B w0 x1) = r → fX6_takeBit X (rg_p lX B w0 x) (B + 95) = r := by
      intro x1 r e1 hr
      unfold fX6_takeBit
      exact ob_v (rg_I rfl rfl) (ei_t (by rw [h3, l0]; rfl) (ob_v (rg_O rfl) (ob_v e1 hr)))
    have bad11 : ∀ x1 : rg_S, x1.1 95 6 = 1 → fX6_takeBit_11 X (B + 95) (rg_p lX B w0 x1) = some (-1, rg_p lX B w0 x1) := by
      intro x1 e
      unfold fX6_takeBit_11
      exact ob_v (rg_I rfl rfl) (ei_n (by rw [e]; exact n10) rfl)
    by_cases full : n ≤ s.1
    · refine ⟨-1, rg_wI x 95 6 1, st _ _ ?_ (bad11 _ (wI_s _ _ _ _)), ⟨fun p k hk => wI_n _ _ (by omega), rfl⟩, Or.inl ⟨?_, wI_s _ _ _ _, rfl⟩⟩
      · unfold fX6_takeByte
        refine ob_v (rg_I rfl rfl) (ob_v (gS x rfl) (ob_v (rg_I rfl rfl) ?_))
        rw [h1, h6]
        exact ei_n (nI_nlt (by omega) (by omega)) (ob_v (rg_pI rfl rfl _) rfl)
      · unfold tB
        rw [if_pos ⟨l0, Or.inl full⟩]
    · have hs : s.1 < n := by omega
      have d256 := h9.2.1 s.1
      have i1 : ∀ k, k ≠ 4 → (rg_wI x 95 4 (nI (D s.1))).1 95 k = x.1 95 k := fun k hk => wI_n _ _ (by omega)
      have start : ∀ r, (if nI (D s.1) = 255 then (gI (rg_p lX B w0 (rg_wI x 95 4 (nI (D s.1)))) (B + 95) 6 3).bind fun v40 => (gR (rg_p lX B w0 (rg_wI x 95 4 (nI (D s.1)))) (B + 95) 6 2).bind fun v41 => (gI (rg_p lX B w0 (rg_wI x 95 4 (nI (D s.1)))) v41 5 10).bind fun v42 => if v42 ≤ (v40 + 1) then fX6_takeByte_83 X (B + 95) (rg_p lX B w0 (rg_wI x 95 4 (nI (D s.1)))) else (gR (rg_p lX B w0 (rg_wI x 95 4 (nI (D s.1)))) (B + 95) 6 0).bind fun v44 => (gR (rg_p lX B w0 (rg_wI x 95 4 (nI (D s.1)))) v44 1 0).bind fun v45 => (gI (rg_p lX B w0 (rg_wI x 95 4 (nI (D s.1)))) (B + 95) 6 3).bind fun v46 => (aN (rg_p lX B w0 (rg_wI x 95 4 (nI (D s.1)))) 1 v45 (v46 + 1)).bind fun v47 => if v47 = 0 then fX6_takeByte_89 X (B + 95) (rg_p lX B w0 (rg_wI x 95 4 (nI (D s.1)))) else fX6_takeByte_83 X (B + 95) (rg_p lX B w0 (rg_wI x 95 4 (nI (D s.1)))) else fX6_takeByte_89 X (B + 95) (rg_p lX B w0 (rg_wI x 95 4 (nI (D s.1))))) = r → fX6_takeByte X (rg_p lX B w0 x) (B + 95) = r := by
        intro r hr
        unfold fX6_takeByte
        refine ob_v (rg_I rfl rfl) (ob_v (gS x rfl) (ob_v (rg_I rfl rfl) ?_))
        rw [h1, h6]
        refine ei_t (nI_lt (by omega) (by omega)) (ob_v (rg_C rfl rfl) (ob_v (rg_C rfl rfl) (ob_v (rg_I rfl rfl) ?_)))
        rw [h1]
        refine ob_v (rg_A rfl (by decide) _ (by omega) (by decide)) ?_
        rw [(h8 s.1 hs).1]
        refine ob_v (rg_pI rfl rfl _) (ob_v (rg_I rfl rfl) ?_)
        rw [wI_s]
        exact hr
      by_cases bad : D s.1 = 255 ∧ D (s.1 + 1) ≠ 0
      · obtain ⟨e255, nz⟩ := bad
        have dd := h9.2.2 s.1 h10.1 hs e255
        generalize hz : rg_wI (rg_wI x 95 4 (nI (D s.1))) 95 6 1 = z
        have z6 : z.1 95 6 = 1 := by rw [← hz, wI_s]
        refine ⟨-1, z, st _ _ (start _ ?_) (bad11 _ z6), ?_, Or.inl ⟨?_, z6, rfl⟩⟩
        · refine ei_t (by rw [e255]; rfl) (ob_v (rg_I rfl rfl) (ob_v (gS _ rfl) (ob_v (rg_I rfl rfl) ?_)))
          rw [i1 3 (by decide), wI_n _ _ (by omega), h1, h6, nI_1]
          refine ei_n (nI_ge (by omega) (by omega)) (ob_v (rg_C rfl rfl) (ob_v (rg_C rfl rfl) (ob_v (rg_I rfl rfl) ?_)))
          rw [i1 3 (by decide), h1, nI_1]
          refine ob_v (rg_A rfl (by decide) _ (by omega) (by decide)) (ei_n ?_ ?_)
          · rw [wI_2, show d0 + s.1 + 1 = d0 + (s.1 + 1) from rfl]
            exact fun e => nz ((h8 (s.1 + 1) dd.1).2.mp e)
          · unfold fX6_takeByte_83
            refine ob_v (rg_pI rfl rfl _) ?_
            rw [hz]
        · rw [← hz]
          exact ⟨fun p k hk => by rw [wI_n _ _ (by omega), wI_n _ _ (by omega)], rfl⟩
        · unfold tB
          rw [if_pos ⟨l0, Or.inr ⟨e255, nz⟩⟩]
      · have nb : ¬ (n ≤ s.1 ∨ D s.1 = 255 ∧ D (s.1 + 1) ≠ 0) := fun e => e.elim full bad
        have fo := fil_ok h9 h10 (fun e => nb e.2)
        have ef : fil D s = (if D s.1 = 255 then s.1 + 2 else s.1 + 1, 8, D s.1) := by
          unfold fil
          rw [if_pos l0]
        generalize hz : rg_wI (rg_wI (rg_wI x 95 4 (nI (D s.1))) 95 3 (nI (d0 + if D s.1 = 255 then s.1 + 2 else s.1 + 1))) 95 5 8 = z
        have hzR : xR z D n d0 (fil D s) := by
          refine ⟨?_, ?_, ?_, ?_, ?_, ?_, h7, ?_, h9, fo.1⟩
          · rw [← hz, wI_n _ _ (by omega), wI_s, ef]
          · rw [← hz, wI_n _ _ (by omega), wI_n _ _ (by omega), wI_s, ef]
          · rw [← hz, wI_s, ef]; rfl
          · rw [← hz, wI_n _ _ (by omega), wI_n _ _ (by omega), wI_n _ _ (by omega)]; exact h4
          · rw [← hz]; exact h5
          · rw [← hz, wI_n _ _ (by omega), wI_n _ _ (by omega), wI_n _ _ (by omega)]; exact h6
          · rw [← hz]; exact h8
        have Fz : FXr x z := by
          rw [← hz]
          exact ⟨fun p k hk => by rw [wI_n _ _ (by omega), wI_n _ _ (by omega), wI_n _ _ (by omega)], rfl⟩
        have e89 : fX6_takeByte_89 X (B + 95) (rg_p lX B w0 (rg_wI x 95 4 (nI (D s.1)))) = some (rg_p lX B w0 z) := by
          unfold fX6_takeByte_89 fX6_takeByte_109
          refine ob_v (rg_I rfl rfl) (ob_v (rg_I rfl rfl) ?_)
          rw [wI_s, i1 3 (by decide), h1]
          by_cases e255 : D s.1 = 255
          · rw [if_pos e255] at hz
            refine ei_t (by rw [e255]; rfl) ?_
            rw [show nI (d0 + s.1) + 2 = nI (d0 + (s.1 + 2)) from nI_add _ 2]
            refine ob_v (rg_pI rfl rfl _) (ob_v (rg_pI rfl rfl _) ?_)
            rw [hz]
          · rw [if_neg e255] at hz
            refine ei_n (fun e => e255 ((nI_eq (b := 255) (by omega) (by omega)).mp e)) ?_
            rw [show nI (d0 + s.1) + 1 = nI (d0 + (s.1 + 1)) from nI_1 _]
            refine ob_v (rg_pI rfl rfl _) (ob_v (rg_pI rfl rfl _) ?_)
            rw [hz]
        obtain ⟨x', e', hR, F⟩ := x_t11 (X := X) (B := B) (w0 := w0) hzR fo.2
        refine ⟨nI (bit1 (fil D s)), x', st z _ (start _ ?_) e', Fz.trans F, Or.inr ⟨bit1 (fil D s), tk1 (fil D s), ?_, rfl, hR⟩⟩
        · by_cases e255 : D s.1 = 255
          · have dd := h9.2.2 s.1 h10.1 hs e255
            refine ei_t (by rw [e255]; rfl) (ob_v (rg_I rfl rfl) (ob_v (gS _ rfl) (ob_v (rg_I rfl rfl) ?_)))
            rw [i1 3 (by decide), wI_n _ _ (by omega), h1, h6, nI_1]
            refine ei_n (nI_ge (by omega) (by omega)) (ob_v (rg_C rfl rfl) (ob_v (rg_C rfl rfl) (ob_v (rg_I rfl rfl) ?_)))
            rw [i1 3 (by decide), h1, nI_1]
            refine ob_v (rg_A rfl (by decide) _ (by omega) (by decide)) (ei_t ?_ e89)
            rw [wI_2, show d0 + s.1 + 1 = d0 + (s.1 + 1) from rfl]
            exact (h8 (s.1 + 1) dd.1).2.mpr (Classical.byContradiction (fun e => bad ⟨e255, e⟩))
          · exact ei_n (fun e => e255 ((nI_eq (b := 255) (by omega) (by omega)).mp e)) e89
        · unfold tB
          rw [if_neg (fun e => nb e.2)]
  · obtain ⟨x', e', hR, F⟩ := x_t11 (X := X) (B := B) (w0 := w0) h' (by omega)
    have ef : fil D s = s := by
      unfold fil
      rw [if_neg l0]
    refine ⟨_, x', ?_, F, Or.inr ⟨bit1 s, tk1 s, ?_, rfl, hR⟩⟩
    · unfold fX6_takeBit
      refine ob_v (rg_I rfl rfl) ?_
      rw [h3]
      exact ei_n (nI_ne0 (by omega) (by omega)) e'
    · unfold tB
      rw [if_neg (fun e => l0 e.1), ef]
theorem x_tN {m : Nat} : ∀ (k M i v : Nat) (x : rg_S) (s : bSt), i + k = m → m < 65536 → k + 1 < M → xR x D n d0 s → ∃ u x', fX6_takeBits_4 X M (B + 95) (nI m) (nI v) (nI i) (rg_p lX B w0 x) = some (u, rg_p lX B w0 x') ∧ FXr x x' ∧ (tN D n k v s = none ∧ x'.1 95 6 = 1 ∨ ∃ q s', tN D n k v s = some (q, s') ∧ u = nI q ∧ xR x' D n d0 s') := by
  intro k
  induction k with
  | zero =>
    intro M i v x s hi hm hM h
    obtain rfl : i = m := by omega
    obtain ⟨M, rfl⟩ : ∃ M', M = M' + 1 := ⟨M - 1, by omega⟩
    refine ⟨nI v, x, ?_, FXr.rfl, Or.inr ⟨v, s, rfl, rfl, h⟩⟩
    rw [fX6_takeBits_4.eq_2]
    exact ei_t (nI_le (Nat.le_refl _) (by omega)) rfl
  | succ k ih =>
    intro M i v x s hi hm hM h
    obtain ⟨M, rfl⟩ : ∃ M', M = M' + 1 := ⟨M - 1, by omega⟩
    obtain ⟨w, x1, e1, F1, h1⟩ := x_tB (X := X) (B := B) (w0 := w0) h
    rw [fX6_takeBits_4.eq_2]
    rcases h1 with ⟨t1, t2, t3⟩ | ⟨u, s1, t1, t2, t3⟩
    · obtain ⟨M, rfl⟩ : ∃ M', M = M' + 1 := ⟨M - 1, by omega⟩
      refine ⟨2 * nI v + w, x1, ei_n (nI_ge (by omega) (by omega)) (ob_v (rg_I rfl rfl) (ei_t h.2.2.2.1 (ob_v (rg_O rfl) (ob_v e1 ?_)))), F1, Or.inl ⟨?_, t2⟩⟩
      · rw [nI_1, fX6_takeBits_4.eq_2]
        by_cases le : m ≤ i + 1
        · exact ei_t (nI_le le (by omega)) rfl
        · exact ei_n (nI_ge (by omega) (by omega)) (ob_v (rg_I rfl rfl) (ei_n (by rw [t2]; exact n10) rfl))
      · rw [tN.eq_2, t1]
    · obtain ⟨q, x2, e2, F2, h2⟩ := ih M (i + 1) (2 * v + u) x1 s1 (by omega) hm (by omega) t3
      refine ⟨q, x2, ei_n (nI_ge (by omega) (by omega)) (ob_v (rg_I rfl rfl) (ei_t h.2.2.2.1 (ob_v (rg_O rfl) (ob_v e1 ?_)))), F1.trans F2, ?_⟩
      · rw [t2, nI_1, nI_2, nI_add]
        exact e2
      · rw [tN.eq_2, t1]
        exact h2
end
