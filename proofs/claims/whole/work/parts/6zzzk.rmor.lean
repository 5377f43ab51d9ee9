/-! coefficients made more exact by the reference -/
section
variable {X : px_X} {b B : Nat} {w0 w1 : px_W} {x x' y y' : rg_S} {D : Nat → Nat} {n t m c first last bf bb T q : Nat} {bs : Nat → Nat} {s s' : bSt} {W : zT} {a : zS}
theorem m_mor51 {i : Nat} {S0 : Int32} (h : zY D n y a) (ok : zOk a) (hb : bb ≤ 9) (hi : i < 12288) (h6 : i % 64 ≠ 0) (hn : a.2.2.2 i ≠ 0) (hS : S0 = mabs (a.2.2.2 i)) : ∃ y', fX13_more_51 X (b + 24) (nI i) (nI (2 ^ bb)) S0 (rg_p lM b w0 y) = some (rg_p lM b w0 y') ∧ zFY y y' ∧ (tB D n a.1 = none ∧ y'.1 24 46 = 1 ∨ ∃ u s', tB D n a.1 = some (u, s') ∧ zOk (s', a.2.1, a.2.2.1, if u = 1 then upd a.2.2.2 i (rfv bb (a.2.2.2 i)) else a.2.2.2) ∧ zY D n y' (s', a.2.1, a.2.2.1, if u = 1 then upd a.2.2.2 i (rfv bb (a.2.2.2 i)) else a.2.2.2)) := by
  obtain ⟨v, y1, e1, F1, hh⟩ := m_tB (X := X) (b := b) (w0 := w0) h.1
  have cf := ok.2.2 i hi
  have st : ∀ r, (if v = 1 then (if (S0 &&& nI (2 ^ bb)) = 0 then (gR (rg_p lM b w0 y1) (b + 24) 13 12).bind fun v24 => (gR (rg_p lM b w0 y1) (b + 24) 13 12).bind fun v25 => (aN (rg_p lM b w0 y1) 2 v25 (nI i)).bind fun v26 => (if 0 ≤ v26 then (gR (rg_p lM b w0 y1) (b + 24) 13 12).bind fun v28 => (aN (rg_p lM b w0 y1) 2 v28 (nI i)).bind fun v29 => (sN (vp_nar .short) (rg_p lM b w0 y1) 2 v24 (nI i) ((v29 + nI (2 ^ bb)).toInt16.toInt32)).bind fun w30 => some w30 else (gR (rg_p lM b w0 y1) (b + 24) 13 12).bind fun v31 => (aN (rg_p lM b w0 y1) 2 v31 (nI i)).bind fun v32 => (sN (vp_nar .short) (rg_p lM b w0 y1) 2 v24 (nI i) ((v32 - nI (2 ^ bb)).toInt16.toInt32)).bind fun w33 => some w33) else some (rg_p lM b w0 y1)) else some (rg_p lM b w0 y1)) = r → fX13_more_51 X (b + 24) (nI i) (nI (2 ^ bb)) S0 (rg_p lM b w0 y) = r := by
    intro r hr
    unfold fX13_more_51
    exact ob_v (rg_O rfl) (ob_v e1 hr)
  rcases hh with ⟨t1, t2, t3⟩ | ⟨u, s1, t1, t2, t3⟩
  · exact ⟨y1, st _ (ei_n (by rw [t3]; decide) rfl), F1.q, Or.inl ⟨t1, t2⟩⟩
  · have h1 := h.s F1 t3
    by_cases u1 : u = 1
    · have c2 := cf_rf (b := bb) hb h6 cf
      have ok2 : zOk (s1, a.2.1, a.2.2.1, if u = 1 then upd a.2.2.2 i (rfv bb (a.2.2.2 i)) else a.2.2.2) := by
        rw [if_pos u1]
        exact (ok.s s1).q c2
      have v1 : v = 1 := by rw [t2, u1]; rfl
      have eq1 : y1.2.2.1 32 i = a.2.2.2 i := h1.2.2.2 i hi
      by_cases q1 : mabs (a.2.2.2 i) &&& nI (2 ^ bb) = 0
      · refine ⟨rg_wA y1 32 (upd (y1.2.2.1 32) i (rfv bb (a.2.2.2 i))), st _ (ei_t v1 (ei_t (by rw [hS]; exact q1) (ob_v (rg_C rfl rfl) (ob_v (rg_C rfl rfl) (ob_v (rg_A rfl (by decide) _ hi (by decide)) ?_))))), F1.q.trans (zFY.w32 _), Or.inr ⟨u, s1, t1, ok2, ?_⟩⟩
        · rw [eq1]
          by_cases q2 : 0 ≤ a.2.2.2 i
          · have q3 : ¬ a.2.2.2 i ≤ 0 := fun e => hn (Int32.le_antisymm e q2)
            have er : rfv bb (a.2.2.2 i) = a.2.2.2 i + nI (2 ^ bb) := by
              unfold rfv
              rw [if_pos q1, if_neg q3]
            refine ei_t q2 (ob_v (rg_C rfl rfl) (ob_v (rg_A rfl (by decide) _ hi (by decide)) (ob_v (rg_sA _ rfl (by decide) _ _ hi (by decide)) ?_)))
            rw [eq1, ← er, sh_ok c2, nar_ok c2]
          · have q3 : a.2.2.2 i ≤ 0 := (Int32.le_total (a.2.2.2 i) 0).resolve_right q2
            have er : rfv bb (a.2.2.2 i) = a.2.2.2 i - nI (2 ^ bb) := by
              unfold rfv
              rw [if_pos q1, if_pos q3]
            refine ei_n q2 (ob_v (rg_C rfl rfl) (ob_v (rg_A rfl (by decide) _ hi (by decide)) (ob_v (rg_sA _ rfl (by decide) _ _ hi (by decide)) ?_)))
            rw [eq1, ← er, sh_ok c2, nar_ok c2]
        · rw [if_pos u1]
          exact h1.q
      · refine ⟨y1, st _ (ei_t v1 (ei_n (by rw [hS]; exact q1) rfl)), F1.q, Or.inr ⟨u, s1, t1, ok2, ?_⟩⟩
        rw [if_pos u1]
        unfold rfv
        rw [if_neg q1, upd_id]
        exact h1
    · refine ⟨y1, st _ (ei_n (fun e => ?_) rfl), F1.q, Or.inr ⟨u, s1, t1, ?_, ?_⟩⟩
      · rw [t2] at e
        have := (tB_ok h.1.2.2.2.2.2.2.1 h.1.2.2.2.2.2.2.2 t1).2
        exact u1 ((nI_eq (b := 1) (by omega) (by omega)).mp e)
      · rw [if_neg u1]
        exact ok.s s1
      · rw [if_neg u1]
        exact h1
theorem m_mor1 {i : Nat} (k : zKy y first last bf bb bs) (h : zY D n y a) (ok : zOk a) (hc : c < 4) (hq : bs c + q = T) (hT : 64 * T + 64 ≤ 12288) (i1 : 1 ≤ i) (i6 : i < 64) (hn : a.2.2.2 (64 * T + i) ≠ 0) : ∃ y', fX13_more X (rg_p lM b w0 y) (b + 24) (nI c) (nI q) (nI i) = some (rg_p lM b w0 y') ∧ zFY y y' ∧ (tB D n a.1 = none ∧ y'.1 24 46 = 1 ∨ ∃ u s', tB D n a.1 = some (u, s') ∧ zOk (s', a.2.1, a.2.2.1, if u = 1 then upd a.2.2.2 (64 * T + i) (rfv bb (a.2.2.2 (64 * T + i))) else a.2.2.2) ∧ zY D n y' (s', a.2.1, a.2.2.1, if u = 1 then upd a.2.2.2 (64 * T + i) (rfv bb (a.2.2.2 (64 * T + i))) else a.2.2.2)) := by
  have hb : bb ≤ 9 := k.2.2.2.2.2.2.2.1
  obtain ⟨y', e, F, o⟩ := m_mor51 (X := X) (b := b) (w0 := w0) (i := 64 * T + i) (bb := bb) h ok hb (by omega) (by omega) hn rfl
  refine ⟨y', ?_, F, o⟩
  unfold fX13_more
  refine ob_v (rg_C rfl rfl) (ob_v (rg_A rfl (by decide) _ hc (by decide)) (ob_v (rg_I rfl rfl) (ob_v (rg_C rfl rfl) ?_)))
  rw [k.2.2.2.2.2.2.2.2 c hc, n64' hq, nI_add, k.2.2.2.1, pw_16 (by omega)]
  refine ob_v (rg_A rfl (by decide) _ (by omega) (by decide)) ?_
  rw [h.2.2.2 _ (by omega)]
  unfold mabs at e
  by_cases q2 : 0 ≤ a.2.2.2 (64 * T + i)
  · rw [if_pos q2] at e
    refine ei_t q2 (ob_v (rg_C rfl rfl) (ob_v (rg_A rfl (by decide) _ (by omega) (by decide)) ?_))
    rw [h.2.2.2 _ (by omega)]
    exact e
  · rw [if_neg q2] at e
    refine ei_n q2 (ob_v (rg_C rfl rfl) (ob_v (rg_A rfl (by decide) _ (by omega) (by decide)) ?_))
    rw [h.2.2.2 _ (by omega)]
    first
      | exact e
      | (rw [Int32.zero_sub] at e; exact e)
theorem m_zUp (hc : c < 4) (hq : bs c + q = T) (hT : 64 * T + 64 ≤ 12288) : ∀ (j M k z : Nat) (y : rg_S) (a : zS), k + j = last + 1 → 1 ≤ k → z < 1000 → j + 1 < M → zKy y first last bf bb bs → zY D n y a → zOk a → ∃ u y', fX13_over_7 X M (b + 24) (nI c) (nI q) (nI k) (nI z) (rg_p lM b w0 y) = some (u, rg_p lM b w0 y') ∧ zFY y y' ∧ ((∃ f, zUp D n bb (64 * T) j k z a.1 a.2.2.2 = .inl f ∧ 0 < f ∧ f < 100 ∧ y'.1 24 46 = nI f) ∨ ∃ k' s' Q', zUp D n bb (64 * T) j k z a.1 a.2.2.2 = .inr (k', s', Q') ∧ (last < k' ∧ y'.1 24 46 = nI 3 ∨ k' ≤ last ∧ u = nI k' ∧ zOk (s', a.2.1, a.2.2.1, Q') ∧ zY D n y' (s', a.2.1, a.2.2.1, Q'))) := by
  intro j
  induction j with
  | zero =>
    intro M k z y a hk k1 hz hM K h ok
    obtain ⟨M, rfl⟩ : ∃ M', M = M' + 1 := ⟨M - 1, by omega⟩
    have l6 : last ≤ 63 := K.2.2.2.2.2.1
    refine ⟨0, _, ?_, zFY.wI (y := y) (k := 46) (v := 3) (by omega), Or.inr ⟨k, a.1, a.2.2.2, rfl, Or.inl ⟨by omega, wI_s _ _ _ _⟩⟩⟩
    · rw [fX13_over_7.eq_2]
      refine ob_v (rg_I rfl rfl) (ei_t h.1.2.2.2.1 (ob_v (rg_I rfl rfl) (ei_n ?_ ?_)))
      · rw [K.2.1]
        exact nI_ge (by omega) (by omega)
      · unfold fX13_over_23
        exact ob_v (rg_O rfl) (ob_v (m_wrong h.1.2.2.2.1 3) rfl)
  | succ j ih =>
    intro M k z y a hk k1 hz hM K h ok
    obtain ⟨M, rfl⟩ : ∃ M', M = M' + 1 := ⟨M - 1, by omega⟩
    have l6 : last ≤ 63 := K.2.2.2.2.2.1
    have st : ∀ r, (if a.2.2.2 (64 * T + k) = 0 then (if nI z = 0 then some (nI k, rg_p lM b w0 y) else fX13_over_73 X (fX13_over_7 X M) (b + 24) (nI c) (nI q) (nI k) (nI z + (-1)) (rg_p lM b w0 y)) else (gO (rg_p lM b w0 y) (b + 24) 13).bind fun o23 => (fX13_more X (rg_p lM b w0 y) (b + 24) (nI c) (nI q) (nI k)).bind fun q24 => fX13_over_73 X (fX13_over_7 X M) (b + 24) (nI c) (nI q) (nI k) (nI z) q24) = r → fX13_over_7 X (M + 1) (b + 24) (nI c) (nI q) (nI k) (nI z) (rg_p lM b w0 y) = r := by
      intro r hr
      rw [fX13_over_7.eq_2]
      refine ob_v (rg_I rfl rfl) (ei_t h.1.2.2.2.1 (ob_v (rg_I rfl rfl) (ei_t ?_ (ob_v (rg_C rfl rfl) (ob_v (rg_C rfl rfl) (ob_v (rg_A rfl (by decide) _ hc (by decide)) ?_))))))
      · rw [K.2.1]
        exact nI_le (by omega) (by omega)
      · rw [K.2.2.2.2.2.2.2.2 c hc, n64' hq, nI_add]
        refine ob_v (rg_A rfl (by decide) _ (by omega) (by decide)) ?_
        rw [h.2.2.2 _ (by omega)]
        exact hr
    unfold zUp
    by_cases q1 : a.2.2.2 (64 * T + k) = 0
    · rw [if_pos q1]
      by_cases z0 : z = 0
      · rw [if_pos z0]
        exact ⟨_, y, st _ (ei_t q1 (ei_t (by rw [z0]; rfl) rfl)), zFY.rfl, Or.inr ⟨k, a.1, a.2.2.2, rfl, Or.inr ⟨by omega, rfl, ok, h⟩⟩⟩
      · rw [if_neg z0]
        obtain ⟨u, y1, e1, F1, o1⟩ := ih M (k + 1) (z - 1) y a (by omega) (by omega) (by omega) (by omega) K h ok
        refine ⟨u, y1, st _ (ei_t q1 (ei_n (nI_ne0 (by omega) (by omega)) ?_)), F1, o1⟩
        unfold fX13_over_73
        rw [nI_mn1 (by omega), show nI k + 1 = nI (k + 1) from nI_add _ 1]
        exact e1
    · rw [if_neg q1]
      obtain ⟨y1, e1, F1, hh⟩ := m_mor1 (X := X) (b := b) (w0 := w0) (i := k) K h ok hc hq hT k1 (by omega) q1
      have K1 := K.f F1
      have st2 : ∀ r, fX13_over_7 X M (b + 24) (nI c) (nI q) (nI (k + 1)) (nI z) (rg_p lM b w0 y1) = r → fX13_over_7 X (M + 1) (b + 24) (nI c) (nI q) (nI k) (nI z) (rg_p lM b w0 y) = r := by
        intro r hr
        refine st _ (ei_n q1 (ob_v (rg_O rfl) (ob_v e1 ?_)))
        unfold fX13_over_73
        rw [show nI k + 1 = nI (k + 1) from nI_add _ 1]
        exact hr
      rcases hh with ⟨t1, t2⟩ | ⟨u, s1, t1, t2, t3⟩
      · obtain ⟨M', rfl⟩ : ∃ M', M = M' + 1 := ⟨M - 1, by omega⟩
        have y16 : y1.1 24 46 = nI 1 := t2
        refine ⟨0, y1, st2 _ ?_, F1, Or.inl ⟨1, by rw [t1]; rfl, by decide, by decide, y16⟩⟩
        rw [fX13_over_7.eq_2]
        exact ob_v (rg_I rfl rfl) (ei_n (by rw [y16]; decide) rfl)
      · obtain ⟨u2, y2, e2, F2, o2⟩ := ih M (k + 1) z y1 _ (by omega) (by omega) hz (by omega) K1 t3 t2
        refine ⟨u2, y2, st2 _ e2, F1.trans F2, ?_⟩
        rw [t1]
        exact o2
/-- the end of a block in a run -/
theorem m_z204 (hc : c < 4) (hq : bs c + q = T) (hT : 64 * T + 64 ≤ 12288) : ∀ (j M k z : Nat) (y : rg_S) (a : zS), k + j = last + 1 → 1 ≤ k → j < z → j + 1 < M → zKy y first last bf bb bs → zY D n y a → zOk a → 0 < a.2.1 → ∃ y', fX13_readMore_204 X M (b + 24) (nI c) (nI q) (nI k) (rg_p lM b w0 y) = some (rg_p lM b w0 y') ∧ zFY y y' ∧ zYo D n (zUb (zUp D n bb (64 * T) j k z a.1 a.2.2.2) fun _ s Q => .inr (s, a.2.1 - 1, a.2.2.1, Q)) y' := by
  intro j
  induction j with
  | zero =>
    intro M k z y a hk k1 hz hM K h ok r0
    obtain ⟨M, rfl⟩ : ∃ M', M = M' + 1 := ⟨M - 1, by omega⟩
    have l6 : last ≤ 63 := K.2.2.2.2.2.1
    have o1 := ok.1
    refine ⟨_, ?_, zFY.wI (y := y) (k := 38) (v := nI (a.2.1 - 1)) (by omega), Or.inr ⟨_, rfl, ok.r (by omega), h.r⟩⟩
    rw [fX13_readMore_204.eq_2]
    refine ob_v (rg_I rfl rfl) (ei_t ?_ ?_)
    · rw [K.2.1]
      exact nI_lt (by omega) (by omega)
    · unfold fX13_readMore_253
      refine ob_v (rg_I rfl rfl) ?_
      rw [h.2.1, show nI a.2.1 - 1 = nI (a.2.1 - 1) from pk_sub (b := 1) (by omega)]
      exact ob_v (rg_pI rfl rfl _) rfl
  | succ j ih =>
    intro M k z y a hk k1 hz hM K h ok r0
    obtain ⟨M, rfl⟩ : ∃ M', M = M' + 1 := ⟨M - 1, by omega⟩
    have l6 : last ≤ 63 := K.2.2.2.2.2.1
    have st : ∀ r, (if a.2.2.2 (64 * T + k) = 0 then fX13_readMore_247 X (fX13_readMore_204 X M) (b + 24) (nI c) (nI q) (nI k) (rg_p lM b w0 y) else (gO (rg_p lM b w0 y) (b + 24) 13).bind fun o73 => (fX13_more X (rg_p lM b w0 y) (b + 24) (nI c) (nI q) (nI k)).bind fun q74 => fX13_readMore_247 X (fX13_readMore_204 X M) (b + 24) (nI c) (nI q) (nI k) q74) = r → fX13_readMore_204 X (M + 1) (b + 24) (nI c) (nI q) (nI k) (rg_p lM b w0 y) = r := by
      intro r hr
      rw [fX13_readMore_204.eq_2]
      refine ob_v (rg_I rfl rfl) (ei_n ?_ (ob_v (rg_I rfl rfl) (ei_t h.1.2.2.2.1 (ob_v (rg_C rfl rfl) (ob_v (rg_C rfl rfl) (ob_v (rg_A rfl (by decide) _ hc (by decide)) ?_))))))
      · rw [K.2.1]
        exact nI_nlt (by omega) (by omega)
      · rw [K.2.2.2.2.2.2.2.2 c hc, n64' hq, nI_add]
        refine ob_v (rg_A rfl (by decide) _ (by omega) (by decide)) ?_
        rw [h.2.2.2 _ (by omega)]
        exact hr
    unfold zUp
    by_cases q1 : a.2.2.2 (64 * T + k) = 0
    · rw [if_pos q1, if_neg (by omega)]
      obtain ⟨y1, e1, F1, o1⟩ := ih M (k + 1) (z - 1) y a (by omega) (by omega) (by omega) (by omega) K h ok r0
      refine ⟨y1, st _ (ei_t q1 ?_), F1, o1⟩
      unfold fX13_readMore_247
      rw [show nI k + 1 = nI (k + 1) from nI_add _ 1]
      exact e1
    · rw [if_neg q1]
      obtain ⟨y1, e1, F1, hh⟩ := m_mor1 (X := X) (b := b) (w0 := w0) (i := k) K h ok hc hq hT k1 (by omega) q1
      have K1 := K.f F1
      have st2 : ∀ r, fX13_readMore_204 X M (b + 24) (nI c) (nI q) (nI (k + 1)) (rg_p lM b w0 y1) = r → fX13_readMore_204 X (M + 1) (b + 24) (nI c) (nI q) (nI k) (rg_p lM b w0 y) = r := by
        intro r hr
        refine st _ (ei_n q1 (ob_v (rg_O rfl) (ob_v e1 ?_)))
        unfold fX13_readMore_247
        rw [show nI k + 1 = nI (k + 1) from nI_add _ 1]
        exact hr
      rcases hh with ⟨t1, t2⟩ | ⟨u, s1, t1, t2, t3⟩
      · obtain ⟨M', rfl⟩ : ∃ M', M = M' + 1 := ⟨M - 1, by omega⟩
        have y16 : y1.1 24 46 = nI 1 := t2
        refine ⟨rg_wI y1 24 38 (y1.1 24 38 - 1), st2 _ ?_, F1.trans (zFY.wI (by omega)), Or.inl ⟨1, by rw [t1]; rfl, by decide, by decide, by rw [wI_n _ _ (by omega)]; exact y16⟩⟩
        rw [fX13_readMore_204.eq_2]
        unfold fX13_readMore_253
        have e253 : ((gI (rg_p lM b w0 y1) (b + 24) 13 38).bind fun v62 => (pV (rg_p lM b w0 y1) (b + 24) 13 38 (.int (v62 - 1))).bind fun w63 => some w63) = some (rg_p lM b w0 (rg_wI y1 24 38 (y1.1 24 38 - 1))) := ob_v (rg_I rfl rfl) (ob_v (rg_pI rfl rfl _) rfl)
        exact ob_v (rg_I rfl rfl) (ei_c (fun _ => e253) (fun _ => ob_v (rg_I rfl rfl) (ei_n (by rw [y16]; decide) e253)))
      · obtain ⟨y2, e2, F2, o2⟩ := ih M (k + 1) z y1 _ (by omega) (by omega) (by omega) (by omega) K1 t3 t2 r0
        refine ⟨y2, st2 _ e2, F1.trans F2, ?_⟩
        rw [t1]
        exact o2
/-- with a fault nothing more is read -/
theorem m_m5_0 {f M : Nat} {A3 : Int32} (hf : y.1 24 46 = nI f) (h0 : 0 < f) (h9 : f < 100) : ∃ y', fX13_readMore_5 X (M + 1) (b + 24) (nI c) (nI q) A3 (rg_p lM b w0 y) = some (rg_p lM b w0 y') ∧ zFY y y' ∧ y'.1 24 46 = nI f := by
  have nf : ¬ y.1 24 46 = 0 := by rw [hf]; exact nI_ne0 h0 (by omega)
  have e253 : fX13_readMore_253 X (b + 24) (rg_p lM b w0 y) = some (rg_p lM b w0 (rg_wI y 24 38 (y.1 24 38 - 1))) := by
    unfold fX13_readMore_253
    exact ob_v (rg_I rfl rfl) (ob_v (rg_pI rfl rfl _) rfl)
  have e197 : ∃ y', fX13_readMore_197 X (b + 24) (nI c) (nI q) A3 (rg_p lM b w0 y) = some (rg_p lM b w0 y') ∧ zFY y y' ∧ y'.1 24 46 = nI f := by
    unfold fX13_readMore_197
    by_cases r : y.1 24 38 ≤ 0
    · exact ⟨y, ob_v (rg_I rfl rfl) (ei_t r rfl), zFY.rfl, hf⟩
    · refine ⟨rg_wI y 24 38 (y.1 24 38 - 1), ob_v (rg_I rfl rfl) (ei_n r ?_), zFY.wI (by omega), by rw [wI_n _ _ (by omega)]; exact hf⟩
      rw [show FU = 3999999 + 1 from rfl, fX13_readMore_204.eq_2]
      exact ob_v (rg_I rfl rfl) (ei_c (fun _ => e253) (fun _ => ob_v (rg_I rfl rfl) (ei_n nf e253)))
  obtain ⟨y', e, F, h⟩ := e197
  refine ⟨y', ?_, F, h⟩
  rw [fX13_readMore_5.eq_2]
  exact ob_v (rg_I rfl rfl) (ei_c (fun _ => e) (fun _ => ob_v (rg_I rfl rfl) (ei_c (fun _ => ob_v (rg_I rfl rfl) (ei_n nf e)) (fun _ => e))))
theorem m_zTl {M k : Nat} (hc : c < 4) (hq : bs c + q = T) (hT : 64 * T + 64 ≤ 12288) (K : zKy y first last bf bb bs) (k1 : 1 ≤ k) (k2 : k ≤ last) (h : zY D n y a) (ok : zOk a) (hr : 0 < a.2.1) : ∃ y', fX13_readMore_5 X (M + 1) (b + 24) (nI c) (nI q) (nI k) (rg_p lM b w0 y) = some (rg_p lM b w0 y') ∧ zFY y y' ∧ zYo D n (zTl D n last bb (64 * T) k a) y' := by
  have l6 : last ≤ 63 := K.2.2.2.2.2.1
  have o1 := ok.1
  obtain ⟨y', e, F, o⟩ := m_z204 (X := X) (b := b) (w0 := w0) (D := D) (n := n) (last := last) hc hq hT (last + 1 - k) FU k 64 y a (by omega) k1 (by omega) (by unfold FU; omega) K h ok hr
  refine ⟨y', ?_, F, o⟩
  rw [fX13_readMore_5.eq_2]
  refine ob_v (rg_I rfl rfl) (ei_n ?_ (ob_v (rg_I rfl rfl) (ei_n ?_ ?_)))
  · rw [K.2.1]
    exact nI_nlt (by omega) (by omega)
  · rw [h.2.1]
    exact nI_ne0 hr (by omega)
  · unfold fX13_readMore_197
    exact ob_v (rg_I rfl rfl) (ei_n (by rw [h.2.1]; exact nI_nle hr (by omega)) e)
theorem m_zMo (hc : c < 4) (hq : bs c + q = T) (hT : 64 * T + 64 ≤ 12288) (ht : t < 8) (hW : tbOk W.1 W.2.1 W.2.2) : ∀ (j M k : Nat) (y : rg_S) (a : zS), last + 1 ≤ k + j → 1 ≤ k → k ≤ last + 1 → j + 1 < M → zKy y first last bf bb bs → y.2.2.1 40 c = nI t → rT y t W.1 W.2.1 W.2.2 → zY D n y a → zOk a → a.2.1 = 0 → ∃ y', fX13_readMore_5 X M (b + 24) (nI c) (nI q) (nI k) (rg_p lM b w0 y) = some (rg_p lM b w0 y') ∧ zFY y y' ∧ zYo D n (zMo D n W last bb (64 * T) j k a) y' := by
  intro j
  have edone : ∀ (M k : Nat) (y : rg_S) (a : zS), last < k → k < 100 → zKy y first last bf bb bs → zY D n y a → a.2.1 = 0 → fX13_readMore_5 X (M + 1) (b + 24) (nI c) (nI q) (nI k) (rg_p lM b w0 y) = some (rg_p lM b w0 y) := by
    intro M k y a hk k9 K h r0
    rw [fX13_readMore_5.eq_2]
    refine ob_v (rg_I rfl rfl) (ei_t ?_ ?_)
    · rw [K.2.1]
      exact nI_lt hk (by omega)
    · unfold fX13_readMore_197
      exact ob_v (rg_I rfl rfl) (ei_t (by rw [h.2.1, r0]; decide) rfl)
  induction j with
  | zero =>
    intro M k y a hk k1 k2 hM K h40 hw h ok r0
    obtain ⟨M, rfl⟩ : ∃ M', M = M' + 1 := ⟨M - 1, by omega⟩
    have l6 : last ≤ 63 := K.2.2.2.2.2.1
    exact ⟨y, edone M k y a (by omega) (by omega) K h r0, zFY.rfl, Or.inr ⟨a, rfl, ok, h⟩⟩
  | succ j ih =>
    intro M k y a hk k1 k2 hM K h40 hw h ok r0
    obtain ⟨M, rfl⟩ : ∃ M', M = M' + 1 := ⟨M - 1, by omega⟩
    obtain ⟨M0, hM0⟩ : ∃ M', M = M' + 1 := ⟨M - 1, by omega⟩
    have l6 : last ≤ 63 := K.2.2.2.2.2.1
    have hb : bb ≤ 9 := K.2.2.2.2.2.2.2.1
    by_cases q0 : last < k
    · rw [zMo_d q0]
      exact ⟨y, edone M k y a (by omega) (by omega) K h r0, zFY.rfl, Or.inr ⟨a, rfl, ok, h⟩⟩
    · unfold zMo
      rw [if_neg q0]
      obtain ⟨v, y1, e1, F1, hh⟩ := m_sb (X := X) (b := b) (w0 := w0) ht hW h.1 hw
      have K1 := K.f F1.q
      have st : ∀ (u : Nat) (r : Option px_W), u < 256 → v = nI u → (if y1.1 24 46 = 0 then (if nI (u % 16) ≤ 1 then fX13_readMore_73 X (fX13_readMore_5 X M) (b + 24) (nI c) (nI q) (nI k) (nI (u / 16)) (nI (u % 16)) (rg_p lM b w0 y1) else (gO (rg_p lM b w0 y1) (b + 24) 13).bind fun o92 => (fX13_wrong X (rg_p lM b w0 y1) (b + 24) 3).bind fun q93 => fX13_readMore_73 X (fX13_readMore_5 X M) (b + 24) (nI c) (nI q) (nI k) (nI (u / 16)) (nI (u % 16)) q93.2) else fX13_readMore_73 X (fX13_readMore_5 X M) (b + 24) (nI c) (nI q) (nI k) (nI (u / 16)) (nI (u % 16)) (rg_p lM b w0 y1)) = r → fX13_readMore_5 X (M + 1) (b + 24) (nI c) (nI q) (nI k) (rg_p lM b w0 y) = r := by
        intro u r hu hv hr
        rw [fX13_readMore_5.eq_2]
        refine ob_v (rg_I rfl rfl) (ei_n ?_ (ob_v (rg_I rfl rfl) (ei_t (by rw [h.2.1, r0]; rfl) (ob_v (rg_I rfl rfl) (ei_t h.1.2.2.2.1 (ob_v (rg_C rfl rfl) (ob_v (rg_A rfl (by decide) _ hc (by decide)) (ob_v (rg_O rfl) ?_))))))))
        · rw [K.2.1]
          exact nI_nlt (by omega) (by omega)
        · rw [h40]
          refine ob_v e1 ?_
          dsimp only
          rw [hv]
          exact ob_v (dI_n (d := 16) (by omega) (by decide) (by decide)) (ob_v (rI_n (d := 16) (by omega) (by decide) (by decide)) (ob_v (rg_I rfl rfl) hr))
      have e73 : ∀ (z : rg_S) (f : Nat) (v48 v49 : Int32), z.1 24 46 = nI f → 0 < f → f < 100 → fX13_readMore_73 X (fX13_readMore_5 X M) (b + 24) (nI c) (nI q) (nI k) v48 v49 (rg_p lM b w0 z) = some (rg_p lM b w0 z) := by
        intro z f v48 v49 hz f0 f9
        unfold fX13_readMore_73
        exact ob_v (rg_I rfl rfl) (ei_n (by rw [hz]; exact nI_nle f0 (by omega)) rfl)
      rcases hh with ⟨f, t1, t2, t3, t4, t5⟩ | ⟨u, s1, t1, t2, t3, t4⟩
      · refine ⟨y1, st 0 _ (by decide) t5 (ei_n (by rw [t4]; exact nI_ne0 t2 (by omega)) (e73 y1 f _ _ t4 t2 t3)), F1.q, Or.inl ⟨f, by rw [t1]; rfl, t2, t3, t4⟩⟩
      · rw [t1]
        show ∃ y', _ ∧ _ ∧ zYo D n (if 1 < u % 16 then .inl 3 else _) y'
        have h1 := h.s F1 t4
        have ok1 := ok.s s1
        have st2 := fun r hr => st u r t2 t3 (ei_t t4.2.2.2.1 hr)
        by_cases q1 : 1 < u % 16
        · rw [if_pos q1]
          exact ⟨_, st2 _ (ei_n (nI_ge (a := 1) q1 (by omega)) (ob_v (rg_O rfl) (ob_v (m_wrong t4.2.2.2.1 3) (e73 _ 3 _ _ (wI_s _ _ _ _) (by decide) (by decide))))), F1.q.trans (zFY.wI (by omega)), Or.inl ⟨3, rfl, by decide, by decide, wI_s _ _ _ _⟩⟩
        · rw [if_neg q1]
          have st3 : ∀ r, (if nI (u % 16) = 0 then (if 15 ≤ nI (u / 16) then fX13_readMore_111 X (fX13_readMore_5 X M) (b + 24) (nI c) (nI q) (nI k) (nI (u / 16)) (nI (u % 16)) (rg_p lM b w0 y1) else (gO (rg_p lM b w0 y1) (b + 24) 13).bind fun o59 => (fX13_takeBits X (rg_p lM b w0 y1) (b + 24) (nI (u / 16))).bind fun q60 => (pV q60.2 (b + 24) 13 38 (.int (((1 : Int32) <<< (nI (u / 16) &&& 31)) + q60.1))).bind fun w61 => fX13_readMore_194 X (fX13_readMore_5 X M) (b + 24) (nI c) (nI q) (nI k) w61) else fX13_readMore_111 X (fX13_readMore_5 X M) (b + 24) (nI c) (nI q) (nI k) (nI (u / 16)) (nI (u % 16)) (rg_p lM b w0 y1)) = r → fX13_readMore_5 X (M + 1) (b + 24) (nI c) (nI q) (nI k) (rg_p lM b w0 y) = r := by
            intro r hr
            refine st2 _ (ei_t (nI_le (b := 1) (by omega) (by decide)) ?_)
            unfold fX13_readMore_73
            exact ob_v (rg_I rfl rfl) (ei_t (by rw [t4.2.2.2.1]; decide) hr)
          by_cases qe : u % 16 = 0 ∧ u / 16 < 15
          · rw [if_pos qe]
            obtain ⟨v2, y2, e2, F2, hh2⟩ := m_tbs (X := X) (b := b) (w0 := w0) (k := u / 16) (by omega) h1.1
            have st4 : ∀ r, fX13_readMore_5 X M (b + 24) (nI c) (nI q) (nI k) (rg_p lM b w0 (rg_wI y2 24 38 (nI (2 ^ (u / 16)) + v2))) = r → fX13_readMore_5 X (M + 1) (b + 24) (nI c) (nI q) (nI k) (rg_p lM b w0 y) = r := by
              intro r hr
              refine st3 _ (ei_t (by rw [qe.1]; rfl) (ei_n (nI_ge (b := 15) qe.2 (by decide)) (ob_v (rg_O rfl) (ob_v e2 ?_))))
              rw [pw_16 (by omega)]
              refine ob_v (rg_pI rfl rfl _) ?_
              unfold fX13_readMore_194
              exact hr
            have F3 : zFY y1 (rg_wI y2 24 38 (nI (2 ^ (u / 16)) + v2)) := F2.q.trans (zFY.wI (by omega))
            rcases hh2 with ⟨r1, r2⟩ | ⟨vv, s2, r1, r2, r3, r4⟩
            · rw [hM0] at st4 ⊢
              obtain ⟨y3, e3, F4, f3⟩ := m_m5_0 (X := X) (b := b) (w0 := w0) (c := c) (q := q) (f := 1) (M := M0) (A3 := nI k) (y := rg_wI y2 24 38 (nI (2 ^ (u / 16)) + v2)) (by rw [wI_n _ _ (by omega), r2]; rfl) (by decide) (by decide)
              exact ⟨y3, st4 _ e3, F1.q.trans (F3.trans F4), Or.inl ⟨1, by rw [r1]; rfl, by decide, by decide, f3⟩⟩
            · rw [r1]
              have := pw_r qe.2
              have := Nat.two_pow_pos (u / 16)
              have h3 : zY D n (rg_wI y2 24 38 (nI (2 ^ (u / 16)) + v2)) (s2, 2 ^ (u / 16) + vv, a.2.2) := by
                rw [r3, nI_add]
                exact (h1.s F2 r4).r
              rw [hM0] at st4 ⊢
              obtain ⟨y3, e3, F4, o3⟩ := m_zTl (X := X) (b := b) (w0 := w0) (M := M0) (k := k) hc hq hT (K1.f F3) k1 (by omega) h3 (ok1.r (by omega)) (by show 0 < 2 ^ (u / 16) + vv; omega)
              exact ⟨y3, st4 _ e3, F1.q.trans (F3.trans F4), o3⟩
          · rw [if_neg qe]
            have st4 : ∀ r, fX13_readMore_111 X (fX13_readMore_5 X M) (b + 24) (nI c) (nI q) (nI k) (nI (u / 16)) (nI (u % 16)) (rg_p lM b w0 y1) = r → fX13_readMore_5 X (M + 1) (b + 24) (nI c) (nI q) (nI k) (rg_p lM b w0 y) = r := by
              intro r hr
              by_cases z0 : u % 16 = 0
              · exact st3 _ (ei_t (by rw [z0]; rfl) (ei_t (nI_le (a := 15) (by omega) (by omega)) hr))
              · exact st3 _ (ei_n (nI_ne0 (by omega) (by omega)) hr)
            have go : ∀ (sg v : Int32) (s2 : bSt) (y2 : rg_S), (u % 16 = 0 ∧ v = 0 ∨ u % 16 = 1 ∧ sg = 1 ∧ v = nI (2 ^ bb) ∨ u % 16 = 1 ∧ ¬ sg = 1 ∧ v = -nI (2 ^ bb)) → zFY y y2 → zY D n y2 (s2, a.2) → ∃ y', fX13_readMore_125 X (fX13_readMore_5 X M) (b + 24) (nI c) (nI q) (nI k) (nI (u / 16)) (nI (u % 16)) sg (rg_p lM b w0 y2) = some (rg_p lM b w0 y') ∧ zFY y y' ∧ zYo D n (zUb (zUp D n bb (64 * T) (last + 1 - k) k (u / 16) s2 a.2.2.2) fun k' s3 Q => if last < k' then .inl 3 else zMo D n W last bb (64 * T) j (k' + 1) (s3, a.2.1, a.2.2.1, upd Q (64 * T + k') v)) y' := by
              intro sg v s2 y2 hv Fy2 h2
              have K2 := K.f Fy2
              obtain ⟨u2, y3, e3, F3, hh3⟩ := m_zUp (X := X) (b := b) (w0 := w0) (D := D) (n := n) (last := last) hc hq hT (last + 1 - k) FU k (u / 16) y2 (s2, a.2) (by omega) k1 (by omega) (by unfold FU; omega) K2 h2 (ok.s s2)
              have K3 := K2.f F3
              have bad : ∀ f, y3.1 24 46 = nI f → 0 < f → f < 100 → ∃ y', fX13_readMore_125 X (fX13_readMore_5 X M) (b + 24) (nI c) (nI q) (nI k) (nI (u / 16)) (nI (u % 16)) sg (rg_p lM b w0 y2) = some (rg_p lM b w0 y') ∧ zFY y y' ∧ y'.1 24 46 = nI f := by
                intro f hf f0 f9
                obtain ⟨y4, e4, F4, f4⟩ := m_m5_0 (X := X) (b := b) (w0 := w0) (c := c) (q := q) (M := M0) (A3 := u2 + 1) hf f0 f9
                refine ⟨y4, ?_, Fy2.trans (F3.trans F4), f4⟩
                unfold fX13_readMore_125 fX13_over fX13_readMore_191 fX13_readMore_194
                rw [hM0]
                exact ob_v (rg_O rfl) (ob_v e3 (ob_v (rg_I rfl rfl) (ei_n (by rw [hf]; exact nI_ne0 f0 (by omega)) e4)))
              rcases hh3 with ⟨f, r1, r2, r3, r4⟩ | ⟨k', s3, Q', r1, r2⟩
              · obtain ⟨y4, e4, F4, f4⟩ := bad f r4 r2 r3
                exact ⟨y4, e4, F4, Or.inl ⟨f, by rw [r1]; rfl, r2, r3, f4⟩⟩
              · obtain ⟨b1, b2, b3⟩ := zUp_k (last := last) _ _ _ _ _ _ _ _ (by omega) r1
                rw [r1]
                show ∃ y', _ ∧ _ ∧ zYo D n (if last < k' then .inl 3 else zMo D n W last bb (64 * T) j (k' + 1) (s3, a.2.1, a.2.2.1, upd Q' (64 * T + k') v)) y'
                rcases r2 with ⟨g1, g2⟩ | ⟨g1, g2, g3, g4⟩
                · rw [if_pos g1]
                  obtain ⟨y4, e4, F4, f4⟩ := bad 3 g2 (by decide) (by decide)
                  exact ⟨y4, e4, F4, Or.inl ⟨3, rfl, by decide, by decide, f4⟩⟩
                · rw [if_neg (by omega)]
                  have s125 : ∀ r, (if nI (u % 16) = 1 then (gR (rg_p lM b w0 y3) (b + 24) 13 12).bind fun v46 => (gR (rg_p lM b w0 y3) (b + 24) 13 9).bind fun v47 => (aN (rg_p lM b w0 y3) 0 v47 (nI c)).bind fun v48 => (if sg = 1 then (gI (rg_p lM b w0 y3) (b + 24) 13 26).bind fun v51 => fX13_readMore_189 X (fX13_readMore_5 X M) (b + 24) (nI c) (nI q) (nI k') ((1 : Int32) <<< (v51 &&& 31)) ((64 * (v48 + nI q)) + nI k') v46 (rg_p lM b w0 y3) else (gI (rg_p lM b w0 y3) (b + 24) 13 26).bind fun v50 => fX13_readMore_189 X (fX13_readMore_5 X M) (b + 24) (nI c) (nI q) (nI k') (-((1 : Int32) <<< (v50 &&& 31))) ((64 * (v48 + nI q)) + nI k') v46 (rg_p lM b w0 y3)) else fX13_readMore_191 X (fX13_readMore_5 X M) (b + 24) (nI c) (nI q) (nI k') (rg_p lM b w0 y3)) = r → fX13_readMore_125 X (fX13_readMore_5 X M) (b + 24) (nI c) (nI q) (nI k) (nI (u / 16)) (nI (u % 16)) sg (rg_p lM b w0 y2) = r := by
                    intro r hr
                    unfold fX13_readMore_125 fX13_over
                    refine ob_v (rg_O rfl) (ob_v e3 (ob_v (rg_I rfl rfl) (ei_t g4.1.2.2.2.1 ?_)))
                    dsimp only
                    rw [g2]
                    exact hr
                  have cv : cfOk ((64 * T + k') % 64) v := cf_pw hb (by
                    rcases hv with ⟨_, e⟩ | ⟨_, _, e⟩ | ⟨_, _, e⟩
                    · exact Or.inl e
                    · exact Or.inr (Or.inl e)
                    · exact Or.inr (Or.inr e))
                  have F4 : zFY y (rg_wA y3 32 (upd (y3.2.2.1 32) (64 * T + k') v)) := Fy2.trans (F3.trans (zFY.w32 _))
                  have wr : ∀ V : Int32, V = v → ∀ r, fX13_readMore_5 X M (b + 24) (nI c) (nI q) (nI (k' + 1)) (rg_p lM b w0 (rg_wA y3 32 (upd (y3.2.2.1 32) (64 * T + k') v))) = r → fX13_readMore_189 X (fX13_readMore_5 X M) (b + 24) (nI c) (nI q) (nI k') V (nI (64 * T + k')) (b + 32) (rg_p lM b w0 y3) = r := by
                    intro V hV r hr
                    unfold fX13_readMore_189
                    refine ob_v (rg_sA _ rfl (by decide) _ _ (by omega) (by decide)) ?_
                    rw [hV, sh_ok cv, nar_ok cv]
                    unfold fX13_readMore_191 fX13_readMore_194
                    rw [show nI k' + 1 = nI (k' + 1) from nI_add _ 1]
                    exact hr
                  rcases hv with ⟨z0, e⟩ | ⟨z0, e2, e⟩ | ⟨z0, e2, e⟩
                  · have eQ : upd Q' (64 * T + k') v = Q' := by
                      have := upd_id Q' (64 * T + k')
                      rw [b3 g1] at this
                      rw [e]
                      exact this
                    rw [eQ]
                    have F5 := Fy2.trans F3
                    obtain ⟨y4, e4, F6, o4⟩ := ih M (k' + 1) y3 (s3, a.2.1, a.2.2.1, Q') (by omega) (by omega) (by omega) (by omega) K3 (by rw [F5.2.2.1 40 (by decide) (by decide)]; exact h40) (hw.q F5) g4 g3 r0
                    refine ⟨y4, s125 _ (ei_n (by rw [z0]; decide) ?_), F5.trans F6, o4⟩
                    unfold fX13_readMore_191 fX13_readMore_194
                    rw [show nI k' + 1 = nI (k' + 1) from nI_add _ 1]
                    exact e4
                  · obtain ⟨y4, e4, F6, o4⟩ := ih M (k' + 1) _ (s3, a.2.1, a.2.2.1, upd Q' (64 * T + k') v) (by omega) (by omega) (by omega) (by omega) (K.f F4) (by rw [F4.2.2.1 40 (by decide) (by decide)]; exact h40) (hw.q F4) g4.q (g3.q cv) r0
                    refine ⟨y4, s125 _ (ei_t (by rw [z0]; rfl) (ob_v (rg_C rfl rfl) (ob_v (rg_C rfl rfl) (ob_v (rg_A rfl (by decide) _ hc (by decide)) (ei_t e2 (ob_v (rg_I rfl rfl) ?_)))))), F4.trans F6, o4⟩
                    rw [K3.2.2.2.2.2.2.2.2 c hc, n64' hq, nI_add, K3.2.2.2.1, pw_16 (by omega)]
                    exact wr _ e.symm _ e4
                  · obtain ⟨y4, e4, F6, o4⟩ := ih M (k' + 1) _ (s3, a.2.1, a.2.2.1, upd Q' (64 * T + k') v) (by omega) (by omega) (by omega) (by omega) (K.f F4) (by rw [F4.2.2.1 40 (by decide) (by decide)]; exact h40) (hw.q F4) g4.q (g3.q cv) r0
                    refine ⟨y4, s125 _ (ei_t (by rw [z0]; rfl) (ob_v (rg_C rfl rfl) (ob_v (rg_C rfl rfl) (ob_v (rg_A rfl (by decide) _ hc (by decide)) (ei_n e2 (ob_v (rg_I rfl rfl) ?_)))))), F4.trans F6, o4⟩
                    rw [K3.2.2.2.2.2.2.2.2 c hc, n64' hq, nI_add, K3.2.2.2.1, pw_16 (by omega)]
                    exact wr _ e.symm _ e4
            unfold zSg
            by_cases z0 : u % 16 = 0
            · rw [if_pos z0]
              obtain ⟨y2, e2, F2, o2⟩ := go 0 0 s1 y1 (Or.inl ⟨z0, rfl⟩) F1.q h1
              refine ⟨y2, st4 _ ?_, F2, o2⟩
              unfold fX13_readMore_111
              exact ei_n (by rw [z0]; decide) e2
            · rw [if_neg z0]
              have z1 : u % 16 = 1 := by omega
              obtain ⟨v5, y5, e5, F5, hh5⟩ := m_tB (X := X) (b := b) (w0 := w0) h1.1
              have st5 : ∀ r, fX13_readMore_125 X (fX13_readMore_5 X M) (b + 24) (nI c) (nI q) (nI k) (nI (u / 16)) (nI (u % 16)) v5 (rg_p lM b w0 y5) = r → fX13_readMore_5 X (M + 1) (b + 24) (nI c) (nI q) (nI k) (rg_p lM b w0 y) = r := by
                intro r hr
                refine st4 _ ?_
                unfold fX13_readMore_111
                exact ei_t (by rw [z1]; rfl) (ob_v (rg_O rfl) (ob_v e5 hr))
              rcases hh5 with ⟨r1, r2, r3⟩ | ⟨u5, s5, r1, r2, r3⟩
              · have y56 : y5.1 24 46 = nI 1 := r2
                obtain ⟨y6, e6, F6, f6⟩ := m_m5_0 (X := X) (b := b) (w0 := w0) (c := c) (q := q) (M := M0) (A3 := 0 + 1) y56 (by decide) (by decide)
                refine ⟨y6, st5 _ ?_, F1.q.trans (F5.q.trans F6), Or.inl ⟨1, by rw [r1]; rfl, by decide, by decide, f6⟩⟩
                unfold fX13_readMore_125 fX13_over fX13_readMore_191 fX13_readMore_194
                rw [hM0]
                refine ob_v (rg_O rfl) (ob_v (v := (0, rg_p lM b w0 y5)) ?_ (ob_v (rg_I rfl rfl) (ei_n (by rw [y56]; decide) e6)))
                rw [show FU = 3999999 + 1 from rfl, fX13_over_7.eq_2]
                exact ob_v (rg_I rfl rfl) (ei_n (by rw [y56]; decide) rfl)
              · rw [r1]
                have hu := (tB_ok h1.1.2.2.2.2.2.2.1 h1.1.2.2.2.2.2.2.2 r1).2
                by_cases u1 : u5 = 1
                · obtain ⟨y6, e6, F6, o6⟩ := go v5 (nI (2 ^ bb)) s5 y5 (Or.inr (Or.inl ⟨z1, by rw [r2, u1]; rfl, rfl⟩)) (F1.q.trans F5.q) (h1.s F5 r3)
                  refine ⟨y6, st5 _ e6, F6, ?_⟩
                  show zYo D n (zUb (zUp D n bb (64 * T) (last + 1 - k) k (u / 16) s5 a.2.2.2) fun k' s3 Q => if last < k' then .inl 3 else zMo D n W last bb (64 * T) j (k' + 1) (s3, a.2.1, a.2.2.1, upd Q (64 * T + k') (if u5 = 1 then nI (2 ^ bb) else -nI (2 ^ bb)))) y6
                  rw [if_pos u1]
                  exact o6
                · obtain ⟨y6, e6, F6, o6⟩ := go v5 (-nI (2 ^ bb)) s5 y5 (Or.inr (Or.inr ⟨z1, fun e => u1 ((nI_eq (b := 1) (by omega) (by omega)).mp (r2 ▸ e)), rfl⟩)) (F1.q.trans F5.q) (h1.s F5 r3)
                  refine ⟨y6, st5 _ e6, F6, ?_⟩
                  show zYo D n (zUb (zUp D n bb (64 * T) (last + 1 - k) k (u / 16) s5 a.2.2.2) fun k' s3 Q => if last < k' then .inl 3 else zMo D n W last bb (64 * T) j (k' + 1) (s3, a.2.1, a.2.2.1, upd Q (64 * T + k') (if u5 = 1 then nI (2 ^ bb) else -nI (2 ^ bb)))) y6
                  rw [if_neg u1]
                  exact o6
theorem m_zMr (k : zKy y first last bf bb bs) (f1 : 1 ≤ first) (hc : c < 4) (hq : bs c + q = T) (hT : 64 * T + 64 ≤ 12288) (ht : t < 8) (hW : tbOk W.1 W.2.1 W.2.2) (h40 : y.2.2.1 40 c = nI t) (hw : rT y t W.1 W.2.1 W.2.2) (h : zY D n y a) (ok : zOk a) : ∃ y', fX13_readMore X (rg_p lM b w0 y) (b + 24) (nI c) (nI q) = some (rg_p lM b w0 y') ∧ zFY y y' ∧ zYo D n (zMr D n W first last bb (64 * T) a) y' := by
  have l6 : last ≤ 63 := k.2.2.2.2.2.1
  have fl : first ≤ last := k.2.2.2.2.1
  have st : ∀ r, fX13_readMore_5 X FU (b + 24) (nI c) (nI q) (nI first) (rg_p lM b w0 y) = r → fX13_readMore X (rg_p lM b w0 y) (b + 24) (nI c) (nI q) = r := by
    intro r hr
    unfold fX13_readMore
    refine ob_v (rg_I rfl rfl) ?_
    rw [k.1]
    exact hr
  unfold zMr
  by_cases q0 : 0 < a.2.1
  · rw [if_pos q0]
    obtain ⟨y1, e1, F1, o2⟩ := m_zTl (X := X) (b := b) (w0 := w0) (M := 3999999) hc hq hT k f1 fl h ok q0
    exact ⟨y1, st _ e1, F1, o2⟩
  · rw [if_neg q0]
    obtain ⟨y1, e1, F1, o2⟩ := m_zMo (X := X) (b := b) (w0 := w0) (W := W) hc hq hT ht hW 64 FU first y a (by omega) f1 (by omega) (by unfold FU; omega) k h40 hw h ok (by omega)
    exact ⟨y1, st _ e1, F1, o2⟩
end
