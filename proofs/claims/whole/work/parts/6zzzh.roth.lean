/-! the other coefficients of a block, read for the first time: pure, and the class -/
def zEnd (D : Nat → Nat) (n first r : Nat) (a : zS) : Nat ⊕ zS := if first = 0 then (if r = 0 then .inr a else .inl 3) else zOb (tN D n r 0 a.1) fun v s => .inr (s, 2 ^ r + v - 1, a.2.2)
def zOth (D : Nat → Nat) (n : Nat) (W : zT) (first last b at' : Nat) : Nat → Nat → zS → Nat ⊕ zS
  | 0, _, a => .inr a
  | j + 1, k, a => if last < k then .inr a else zSb (zSy D n W a.1) fun u s =>
    if u % 16 = 0 ∧ u / 16 < 15 then zEnd D n first (u / 16) (s, a.2)
    else if 10 < u % 16 ∨ last < k + u / 16 then .inl 3
    else if u % 16 = 0 then zOth D n W first last b at' j (k + u / 16 + 1) (s, a.2)
    else zOb (tN D n (u % 16) 0 s) fun v s2 => if -1023 ≤ nmb (u % 16) v * 2 ^ b ∧ nmb (u % 16) v * 2 ^ b ≤ 1023 then zOth D n W first last b at' j (k + u / 16 + 1) (s2, a.2.1, a.2.2.1, upd a.2.2.2 (at' + (k + u / 16)) (iI (nmb (u % 16) v * 2 ^ b))) else .inl 4
def zOt (D : Nat → Nat) (n : Nat) (W : zT) (first last b at' : Nat) (a : zS) : Nat ⊕ zS := if 0 < a.2.1 then .inr (a.1, a.2.1 - 1, a.2.2) else zOth D n W first last b at' 64 (max 1 first) a
theorem zOth_d {D : Nat → Nat} {n : Nat} {W : zT} {first last b at' j k : Nat} {a : zS} (h : last < k) : zOth D n W first last b at' j k a = .inr a := by
  cases j with
  | zero => rfl
  | succ j =>
    unfold zOth
    exact if_pos h
section
variable {X : px_X} {b B : Nat} {w0 w1 : px_W} {x x' y y' : rg_S} {D : Nat → Nat} {n d0 t P mm m first last bf bb T q : Nat} {cm bs : Nat → Nat} {s s' : bSt} {W : zT} {a : zS}
theorem x_tbs {k : Nat} (hk : k ≤ 16) (h : xR x D n d0 s) : ∃ u x', fX6_takeBits X (rg_p lX B w0 x) (B + 95) (nI k) = some (u, rg_p lX B w0 x') ∧ FXr x x' ∧ (tN D n k 0 s = none ∧ x'.1 95 6 = 1 ∨ ∃ v s', tN D n k 0 s = some (v, s') ∧ v < 2 ^ k ∧ u = nI v ∧ xR x' D n d0 s') := by
  obtain ⟨u, x', e, F, hh⟩ := x_tN (X := X) (B := B) (w0 := w0) (m := k) k FU 0 0 x s (by omega) (by omega) (by unfold FU; omega) h
  refine ⟨u, x', ?_, F, hh.imp id (fun ⟨v, s1, t1, t2, t3⟩ => ⟨v, s1, t1, ?_, t2, t3⟩)⟩
  · unfold fX6_takeBits
    exact e
  · have hv := (tN_ok h.2.2.2.2.2.2.2.2.1 h.2.2.2.2.2.2.2.2.2 t1).2.2
    omega
theorem m_tbs {k : Nat} (hk : k ≤ 16) (h : yR y D n s) : ∃ u y', fX13_takeBits X (rg_p lM b w0 y) (b + 24) (nI k) = some (u, rg_p lM b w0 y') ∧ FYr y y' ∧ (tN D n k 0 s = none ∧ y'.1 24 46 = 1 ∨ ∃ v s', tN D n k 0 s = some (v, s') ∧ v < 2 ^ k ∧ u = nI v ∧ yR y' D n s') := by
  obtain ⟨u, y', e, F, hh⟩ := m_tN (X := X) (b := b) (w0 := w0) (m := k) k FU 0 0 y s (by omega) (by omega) (by unfold FU; omega) h
  refine ⟨u, y', ?_, F, hh.imp id (fun ⟨v, s1, t1, t2, t3⟩ => ⟨v, s1, t1, ?_, t2, t3⟩)⟩
  · unfold fX13_takeBits
    exact e
  · have hv := (tN_ok h.2.2.2.2.2.2.1 h.2.2.2.2.2.2.2 t1).2.2
    omega
theorem zX.r {r : Nat} (h : zX P cm mm D n d0 x a) : zX P cm mm D n d0 (rg_wI x 95 7 (nI r)) (a.1, r, a.2.2) := by
  obtain ⟨⟨h1, h2, h3, h4, h5, h6, h7⟩, h8, h9⟩ := h
  exact ⟨⟨by rw [wI_n _ _ (by omega)]; exact h1, by rw [wI_n _ _ (by omega)]; exact h2, by rw [wI_n _ _ (by omega)]; exact h3, by rw [wI_n _ _ (by omega)]; exact h4, h5, by rw [wI_n _ _ (by omega)]; exact h6, h7⟩, wI_s _ _ _ _, h9⟩
theorem zY.r {r : Nat} (h : zY D n y a) : zY D n (rg_wI y 24 38 (nI r)) (a.1, r, a.2.2) := by
  obtain ⟨⟨h1, h2, h3, h4, h5, h6⟩, h8, h9⟩ := h
  exact ⟨⟨by rw [wI_n _ _ (by omega)]; exact h1, by rw [wI_n _ _ (by omega)]; exact h2, by rw [wI_n _ _ (by omega)]; exact h3, by rw [wI_n _ _ (by omega)]; exact h4, by rw [wI_n _ _ (by omega)]; exact h5, h6⟩, wI_s _ _ _ _, h9⟩
theorem zOk.r {r : Nat} (h : zOk a) (hr : r < 65536) : zOk (a.1, r, a.2.2) := ⟨hr, h.2⟩
/-- a run begins -/
theorem x_start {r : Nat} (hr : r < 15) (h : zX P cm mm D n d0 x a) : ∃ x', fX6_startRun X (rg_p lX B w0 x) (B + 95) (nI r) = some (rg_p lX B w0 x') ∧ zFX P x x' ∧ (tN D n r 0 a.1 = none ∧ x'.1 95 6 = 1 ∨ ∃ v s', tN D n r 0 a.1 = some (v, s') ∧ v < 2 ^ r ∧ zX P cm mm D n d0 x' (s', 2 ^ r + v, a.2.2)) := by
  obtain ⟨u, x1, e, F, hh⟩ := x_tbs (X := X) (B := B) (w0 := w0) (k := r) (by omega) h.1
  have st : fX6_startRun X (rg_p lX B w0 x) (B + 95) (nI r) = some (rg_p lX B w0 (rg_wI x1 95 7 (nI (2 ^ r) + u))) := by
    unfold fX6_startRun
    rw [pw_16 (by omega)]
    exact ob_v (rg_O rfl) (ob_v e (ob_v (rg_pI rfl rfl _) rfl))
  refine ⟨_, st, F.q.trans (zFX.wI (by omega)), ?_⟩
  rcases hh with ⟨t1, t2⟩ | ⟨v, s1, t1, t2, t3, t4⟩
  · exact Or.inl ⟨t1, by rw [wI_n _ _ (by omega)]; exact t2⟩
  · refine Or.inr ⟨v, s1, t1, t2, ?_⟩
    rw [t3, nI_add]
    exact (h.s F t4).r
theorem pw_r {r : Nat} (hr : r < 15) : 2 ^ r ≤ 16384 := Nat.pow_le_pow_right (n := 2) (j := 14) (by decide) (by omega)
theorem x_zEnd {r : Nat} (k : zKx x P first last bf bb) (hl : 0 < last) (hr : r < 15) (h : zX P cm mm D n d0 x a) (ok : zOk a) : ∃ x', fX6_endBlock X (rg_p lX B w0 x) (B + 95) (nI r) = some (rg_p lX B w0 x') ∧ zFX P x x' ∧ zXo P cm mm D n d0 (zEnd D n first r a) x' := by
  have l6 : last ≤ 63 := k.2.2.2.2.2.2.2.2.1
  have fl : first ≤ last := k.2.2.2.2.2.2.2.1
  unfold zEnd
  by_cases f0 : first = 0
  · rw [if_pos f0]
    have st : ∀ z, (if nI r ≤ 0 then some (rg_p lX B w0 x) else (pV (rg_p lX B w0 x) (B + 95) 6 6 (.int 3)).bind fun w14 => some w14) = z → fX6_endBlock X (rg_p lX B w0 x) (B + 95) (nI r) = z := by
      intro z hz
      unfold fX6_endBlock
      refine ob_v k.g2 (ob_v (rg_O rfl) (ob_v (v := (1, rg_p lX B w0 x)) ?_ (ei_n n10 hz)))
      unfold fX5_isWhole
      refine ob_v (rg_I rfl rfl) (ei_t (by rw [k.2.2.2.1, f0]; rfl) (ob_v (rg_I rfl rfl) ?_))
      rw [k.2.2.2.2.1]
      exact ei_n (nI_nle hl (by omega)) rfl
    by_cases r0 : r = 0
    · rw [if_pos r0]
      exact ⟨x, st _ (ei_t (by rw [r0]; decide) rfl), zFX.rfl, Or.inr ⟨a, rfl, ok, h⟩⟩
    · rw [if_neg r0]
      exact ⟨_, st _ (ei_n (nI_nle (by omega) (by omega)) (ob_v (rg_pI rfl rfl _) rfl)), zFX.wI (by omega), Or.inl ⟨3, rfl, by decide, by decide, wI_s _ _ _ _⟩⟩
  · rw [if_neg f0]
    obtain ⟨x1, e1, F1, hh⟩ := x_start (X := X) (B := B) (w0 := w0) hr h
    have st : fX6_endBlock X (rg_p lX B w0 x) (B + 95) (nI r) = some (rg_p lX B w0 (rg_wI x1 95 7 (x1.1 95 7 - 1))) := by
      unfold fX6_endBlock
      refine ob_v k.g2 (ob_v (rg_O rfl) (ob_v (v := (0, rg_p lX B w0 x)) ?_ (ei_t rfl (ob_v (rg_O rfl) (ob_v e1 (ob_v (rg_I rfl rfl) (ob_v (rg_pI rfl rfl _) rfl)))))))
      unfold fX5_isWhole
      refine ob_v (rg_I rfl rfl) ?_
      rw [k.2.2.2.1]
      exact ei_n (nI_ne0 (by omega) (by omega)) rfl
    refine ⟨_, st, F1.trans (zFX.wI (by omega)), ?_⟩
    rcases hh with ⟨t1, t2⟩ | ⟨v, s1, t1, t2, t3⟩
    · exact Or.inl ⟨1, by rw [t1]; rfl, by decide, by decide, by rw [wI_n _ _ (by omega), t2]; rfl⟩
    · have := pw_r hr
      have := Nat.two_pow_pos r
      refine Or.inr ⟨(s1, 2 ^ r + v - 1, a.2.2), by rw [t1]; rfl, ok.r (a := (s1, a.2)) (by omega), ?_⟩
      rw [t3.2.1, show nI (2 ^ r + v) - 1 = nI (2 ^ r + v - 1) from pk_sub (b := 1) (by omega)]
      exact t3.r
theorem x_zOth (hP : isP P) (hT : 64 * T + 64 ≤ 12288) (ht : t < 8) (hW : tbOk W.1 W.2.1 W.2.2) (hl : 0 < last) : ∀ (j M k : Nat) (x : rg_S) (a : zS), last + 1 ≤ k + j → 1 ≤ k → k ≤ last + 1 → j < M → zKx x P first last bf bb → wX x t W.1 W.2.1 W.2.2 → zX P cm mm D n d0 x a → zOk a → ∃ x', fX6_readOthers_30 X M (B + 95) (nI (64 * T)) (B + (55 + 5 * t)) (nI k) (rg_p lX B w0 x) = some (rg_p lX B w0 x') ∧ zFX P x x' ∧ zXo P cm mm D n d0 (zOth D n W first last bb (64 * T) j k a) x' := by
  intro j
  induction j with
  | zero =>
    intro M k x a hk k1 k2 hM K hw h ok
    obtain ⟨M, rfl⟩ : ∃ M', M = M' + 1 := ⟨M - 1, by omega⟩
    have l6 : last ≤ 63 := K.2.2.2.2.2.2.2.2.1
    refine ⟨x, ?_, zFX.rfl, Or.inr ⟨a, rfl, ok, h⟩⟩
    rw [fX6_readOthers_30.eq_2]
    refine ob_v K.g2 (ob_v (rg_I rfl rfl) (ei_t ?_ rfl))
    rw [K.2.2.2.2.1]
    exact nI_lt (by omega) (by omega)
  | succ j ih =>
    intro M k x a hk k1 k2 hM K hw h ok
    obtain ⟨M, rfl⟩ : ∃ M', M = M' + 1 := ⟨M - 1, by omega⟩
    have l6 : last ≤ 63 := K.2.2.2.2.2.2.2.2.1
    have hb : bb ≤ 9 := K.2.2.2.2.2.2.2.2.2.2
    by_cases q0 : last < k
    · rw [zOth_d q0]
      refine ⟨x, ?_, zFX.rfl, Or.inr ⟨a, rfl, ok, h⟩⟩
      rw [fX6_readOthers_30.eq_2]
      refine ob_v K.g2 (ob_v (rg_I rfl rfl) (ei_t ?_ rfl))
      rw [K.2.2.2.2.1]
      exact nI_lt q0 (by omega)
    · unfold zOth
      rw [if_neg q0]
      obtain ⟨v, x1, e1, F1, hh⟩ := x_sb (X := X) (B := B) (w0 := w0) ht hW h.1 hw
      have K1 := K.f (F1.q (P := P))
      have st : ∀ r, (if x1.1 95 6 = 0 then (dI v 16).bind fun v48 => (rI v 16).bind fun v49 => (if v49 = 0 then (if 15 ≤ v48 then fX6_readOthers_96 X (fX6_readOthers_30 X M) (B + 95) (nI (64 * T)) (B + (55 + 5 * t)) (nI k) v48 v49 (rg_p lX B w0 x1) else fX6_readOthers_89 X (B + 95) v48 (rg_p lX B w0 x1)) else fX6_readOthers_96 X (fX6_readOthers_30 X M) (B + 95) (nI (64 * T)) (B + (55 + 5 * t)) (nI k) v48 v49 (rg_p lX B w0 x1)) else some (rg_p lX B w0 x1)) = r → fX6_readOthers_30 X (M + 1) (B + 95) (nI (64 * T)) (B + (55 + 5 * t)) (nI k) (rg_p lX B w0 x) = r := by
        intro r hr
        rw [fX6_readOthers_30.eq_2]
        refine ob_v K.g2 (ob_v (rg_I rfl rfl) (ei_n ?_ (ob_v (rg_I rfl rfl) (ei_t h.1.2.2.2.1 (ob_v (rg_O rfl) (ob_v e1 (ob_v (rg_I rfl rfl) hr)))))))
        rw [K.2.2.2.2.1]
        exact nI_nlt (by omega) (by omega)
      rcases hh with ⟨f, t1, t2, t3, t4, t5⟩ | ⟨u, s1, t1, t2, t3, t4⟩
      · refine ⟨x1, st _ (ei_n (by rw [t4]; exact nI_ne0 t2 (by omega)) rfl), F1.q, Or.inl ⟨f, by rw [t1]; rfl, t2, t3, t4⟩⟩
      · rw [t1]
        show ∃ x', _ ∧ _ ∧ zXo P cm mm D n d0 (if u % 16 = 0 ∧ u / 16 < 15 then _ else _) x'
        have h1 := h.s F1 t4
        have ok1 := ok.s s1
        have w1' := hw.q hP (F1.q (P := P)) ht
        have st2 : ∀ r, (if nI (u % 16) = 0 then (if 15 ≤ nI (u / 16) then fX6_readOthers_96 X (fX6_readOthers_30 X M) (B + 95) (nI (64 * T)) (B + (55 + 5 * t)) (nI k) (nI (u / 16)) (nI (u % 16)) (rg_p lX B w0 x1) else fX6_readOthers_89 X (B + 95) (nI (u / 16)) (rg_p lX B w0 x1)) else fX6_readOthers_96 X (fX6_readOthers_30 X M) (B + 95) (nI (64 * T)) (B + (55 + 5 * t)) (nI k) (nI (u / 16)) (nI (u % 16)) (rg_p lX B w0 x1)) = r → fX6_readOthers_30 X (M + 1) (B + 95) (nI (64 * T)) (B + (55 + 5 * t)) (nI k) (rg_p lX B w0 x) = r := by
          intro r hr
          refine st _ (ei_t t4.2.2.2.1 ?_)
          rw [t3]
          exact ob_v (dI_n (d := 16) (by omega) (by decide) (by decide)) (ob_v (rI_n (d := 16) (by omega) (by decide) (by decide)) hr)
        by_cases qe : u % 16 = 0 ∧ u / 16 < 15
        · rw [if_pos qe]
          obtain ⟨x2, e2, F2, o2⟩ := x_zEnd (X := X) (B := B) (w0 := w0) K1 hl qe.2 h1 ok1
          refine ⟨x2, st2 _ (ei_t (by rw [qe.1]; rfl) (ei_n (nI_ge (b := 15) qe.2 (by decide)) ?_)), F1.q.trans F2, o2⟩
          unfold fX6_readOthers_89
          exact ob_v (rg_O rfl) (ob_v e2 rfl)
        · rw [if_neg qe]
          have st3 : ∀ r, fX6_readOthers_96 X (fX6_readOthers_30 X M) (B + 95) (nI (64 * T)) (B + (55 + 5 * t)) (nI k) (nI (u / 16)) (nI (u % 16)) (rg_p lX B w0 x1) = r → fX6_readOthers_30 X (M + 1) (B + 95) (nI (64 * T)) (B + (55 + 5 * t)) (nI k) (rg_p lX B w0 x) = r := by
            intro r hr
            by_cases z0 : u % 16 = 0
            · exact st2 _ (ei_t (by rw [z0]; rfl) (ei_t (nI_le (a := 15) (by omega) (by omega)) hr))
            · exact st2 _ (ei_n (nI_ne0 (by omega) (by omega)) hr)
          have e117 : fX6_readOthers_117 X (B + 95) (rg_p lX B w0 x1) = some (rg_p lX B w0 (rg_wI x1 95 6 3)) := by
            unfold fX6_readOthers_117
            exact ob_v (rg_pI rfl rfl _) rfl
          by_cases q3 : 10 < u % 16 ∨ last < k + u / 16
          · rw [if_pos q3]
            refine ⟨_, st3 _ ?_, F1.q.trans (zFX.wI (by omega)), Or.inl ⟨3, rfl, by decide, by decide, wI_s _ _ _ _⟩⟩
            unfold fX6_readOthers_96
            by_cases q4 : 10 < u % 16
            · exact ei_t (nI_lt (a := 10) q4 (by omega)) e117
            · refine ei_n (nI_nlt (b := u % 16) (a := 10) (by omega) (by decide)) (ob_v K1.g2 (ob_v (rg_I rfl rfl) (ei_n ?_ e117)))
              rw [K1.2.2.2.2.1, nI_add]
              exact nI_ge (by omega) (by omega)
          · rw [if_neg q3]
            have st4 : ∀ r, (if nI (u % 16) ≤ 0 then fX6_readOthers_155 X (fX6_readOthers_30 X M) (B + 95) (nI (64 * T)) (B + (55 + 5 * t)) (nI (k + u / 16)) (rg_p lX B w0 x1) else (gO (rg_p lX B w0 x1) (B + 95) 6).bind fun o31 => (fX6_takeNumber X (rg_p lX B w0 x1) (B + 95) (nI (u % 16))).bind fun q32 => (gR q32.2 (B + 95) 6 2).bind fun v33 => (gI q32.2 v33 5 4).bind fun v34 => (gO q32.2 (B + 95) 6).bind fun o35 => (fX6_setCoefficientOf X q32.2 (B + 95) (nI (64 * T)) (nI (k + u / 16)) (q32.1 * ((1 : Int32) <<< (v34 &&& 31)))).bind fun q36 => fX6_readOthers_155 X (fX6_readOthers_30 X M) (B + 95) (nI (64 * T)) (B + (55 + 5 * t)) (nI (k + u / 16)) q36) = r → fX6_readOthers_30 X (M + 1) (B + 95) (nI (64 * T)) (B + (55 + 5 * t)) (nI k) (rg_p lX B w0 x) = r := by
              intro r hr
              refine st3 _ ?_
              unfold fX6_readOthers_96
              refine ei_n (nI_nlt (b := u % 16) (a := 10) (by omega) (by decide)) (ob_v K1.g2 (ob_v (rg_I rfl rfl) ?_))
              rw [K1.2.2.2.2.1, nI_add]
              exact ei_t (nI_le (by omega) (by omega)) hr
            by_cases z0 : u % 16 = 0
            · rw [if_pos z0]
              obtain ⟨x2, e2, F2, o2⟩ := ih M (k + u / 16 + 1) x1 (s1, a.2) (by omega) (by omega) (by omega) (by omega) K1 w1' h1 ok1
              refine ⟨x2, st4 _ (ei_t (by rw [z0]; decide) ?_), F1.q.trans F2, o2⟩
              unfold fX6_readOthers_155
              rw [show nI (k + u / 16) + 1 = nI (k + u / 16 + 1) from nI_add _ 1]
              exact e2
            · rw [if_neg z0]
              obtain ⟨v0, x2, e2, F2, hh2⟩ := x_numO (X := X) (B := B) (w0 := w0) (k := u % 16) (by omega) h1.1
              have K2 := K1.f (F2.q (P := P))
              have st5 : ∀ r, (fX6_setCoefficientOf X (rg_p lX B w0 x2) (B + 95) (nI (64 * T)) (nI (k + u / 16)) (v0 * nI (2 ^ bb))).bind (fun q36 => fX6_readOthers_155 X (fX6_readOthers_30 X M) (B + 95) (nI (64 * T)) (B + (55 + 5 * t)) (nI (k + u / 16)) q36) = r → fX6_readOthers_30 X (M + 1) (B + 95) (nI (64 * T)) (B + (55 + 5 * t)) (nI k) (rg_p lX B w0 x) = r := by
                intro r hr
                refine st4 _ (ei_n (nI_nle (by omega) (by omega)) (ob_v (rg_O rfl) (ob_v e2 (ob_v K2.g2 (ob_v (rg_I rfl rfl) (ob_v (rg_O rfl) ?_))))))
                rw [K2.2.2.2.2.2.2.1, pw_16 (by omega)]
                exact hr
              have bad : ∀ (z : rg_S) (f : Nat), zFX P x z → z.1 95 6 = nI f → 0 < f → f < 100 → fX6_readOthers_155 X (fX6_readOthers_30 X M) (B + 95) (nI (64 * T)) (B + (55 + 5 * t)) (nI (k + u / 16)) (rg_p lX B w0 z) = some (rg_p lX B w0 z) := by
                intro z f Fz hz f0 f9
                have Kz := K.f Fz
                obtain ⟨M', rfl⟩ : ∃ M', M = M' + 1 := ⟨M - 1, by omega⟩
                unfold fX6_readOthers_155
                rw [fX6_readOthers_30.eq_2]
                refine ob_v Kz.g2 (ob_v (rg_I rfl rfl) (ei_c (fun _ => rfl) (fun _ => ob_v (rg_I rfl rfl) (ei_n ?_ rfl))))
                rw [hz]
                exact nI_ne0 f0 (by omega)
              rcases hh2 with ⟨r1, r2⟩ | ⟨vv, s2, r1, r2, r3, r4⟩
              · have x26 : x2.1 95 6 = nI 1 := r2
                exact ⟨x2, st5 _ (ob_v (x_setC0 x26 (by decide) (by decide)) (bad x2 1 (F1.q.trans F2.q) x26 (by decide) (by decide))), F1.q.trans F2.q, Or.inl ⟨1, by rw [r1]; rfl, by decide, by decide, x26⟩⟩
              · rw [r1]
                show ∃ x', _ ∧ _ ∧ zXo P cm mm D n d0 (if -1023 ≤ nmb (u % 16) vv * 2 ^ bb ∧ nmb (u % 16) vv * 2 ^ bb ≤ 1023 then zOth D n W first last bb (64 * T) j (k + u / 16 + 1) (s2, a.2.1, a.2.2.1, upd a.2.2.2 (64 * T + (k + u / 16)) (iI (nmb (u % 16) vv * 2 ^ bb))) else .inl 4) x'
                rw [r3, iI_pw] at st5
                have hz : (nmb (u % 16) vv).natAbs ≤ 1024 := by
                  have h2 := nmb_b r2
                  have h3 : 2 ^ (u % 16) ≤ 2 ^ 10 := Nat.pow_le_pow_right (by decide) (by omega)
                  omega
                have zb := dr_b hb hz
                generalize nmb (u % 16) vv * 2 ^ bb = z at st5 zb ⊢
                have h2 := h1.s F2 r4
                have kn : ¬ k + u / 16 = 0 := by omega
                rcases x_setC (X := X) (B := B) (w0 := w0) (k := k + u / 16) (z := z) hP K2.2.1 hT (by omega) (by omega) h2.1.2.2.2.1 with ⟨e, g⟩ | ⟨e, g⟩
                · unfold cKB at g
                  rw [if_neg kn] at g
                  rw [if_pos g]
                  have F3 : zFX P x1 (rg_wA x2 (P + 6) (upd (x2.2.2.1 (P + 6)) (64 * T + (k + u / 16)) (iI z))) := F2.q.trans (zFX.w6 _)
                  obtain ⟨x3, e3, F4, o3⟩ := ih M (k + u / 16 + 1) _ (s2, a.2.1, a.2.2.1, upd a.2.2.2 (64 * T + (k + u / 16)) (iI z)) (by omega) (by omega) (by omega) (by omega) (K1.f F3) (w1'.q hP F3 ht) (h2.q hP) ((ok.s s2).q (by
                    unfold cfOk
                    rw [if_neg (by omega), iI_t (by omega) (by omega)]
                    exact g))
                  refine ⟨x3, st5 _ (ob_v e ?_), F1.q.trans (F3.trans F4), o3⟩
                  unfold fX6_readOthers_155
                  rw [show nI (k + u / 16) + 1 = nI (k + u / 16 + 1) from nI_add _ 1]
                  exact e3
                · unfold cKB at g
                  rw [if_neg kn] at g
                  rw [if_neg g]
                  have F3 : zFX P x (rg_wI x2 95 6 4) := F1.q.trans (F2.q.trans (zFX.wI (by omega)))
                  exact ⟨_, st5 _ (ob_v e (bad _ 4 F3 (wI_s _ _ _ _) (by decide) (by decide))), F3, Or.inl ⟨4, rfl, by decide, by decide, wI_s _ _ _ _⟩⟩
theorem x_zOt (k : zKx x P first last bf bb) (hT : 64 * T + 64 ≤ 12288) (ht : t < 8) (hW : tbOk W.1 W.2.1 W.2.2) (hw : wX x t W.1 W.2.1 W.2.2) (hl : 0 < last) (h : zX P cm mm D n d0 x a) (ok : zOk a) : ∃ x', fX6_readOthers X (rg_p lX B w0 x) (B + 95) (nI (64 * T)) (B + (55 + 5 * t)) = some (rg_p lX B w0 x') ∧ zFX P x x' ∧ zXo P cm mm D n d0 (zOt D n W first last bb (64 * T) a) x' := by
  have l6 : last ≤ 63 := k.2.2.2.2.2.2.2.2.1
  have fl : first ≤ last := k.2.2.2.2.2.2.2.1
  have o1 := ok.1
  unfold zOt
  by_cases q0 : 0 < a.2.1
  · rw [if_pos q0]
    refine ⟨_, ?_, zFX.wI (P := P) (y := x) (k := 7) (v := nI (a.2.1 - 1)) (by omega), Or.inr ⟨_, rfl, ok.r (by omega), h.r⟩⟩
    unfold fX6_readOthers
    refine ob_v (rg_I rfl rfl) ?_
    rw [h.2.1]
    refine ei_n (nI_nle q0 (by omega)) (ob_v (rg_I rfl rfl) ?_)
    rw [h.2.1, show nI a.2.1 - 1 = nI (a.2.1 - 1) from pk_sub (b := 1) (by omega)]
    exact ob_v (rg_pI rfl rfl _) rfl
  · rw [if_neg q0]
    obtain ⟨x1, e1, F1, o2⟩ := x_zOth (X := X) (B := B) (w0 := w0) k.1 hT ht hW hl 64 FU (max 1 first) x a (by omega) (by omega) (by omega) (by unfold FU; omega) k hw h ok
    refine ⟨x1, ?_, F1, o2⟩
    unfold fX6_readOthers
    refine ob_v (rg_I rfl rfl) (ei_t (by rw [h.2.1, show a.2.1 = 0 by omega]; decide) (ob_v k.g2 (ob_v (rg_I rfl rfl) ?_)))
    rw [k.2.2.2.1, show mmax 1 (nI first) = nI (max 1 first) by
      show (if nI 1 < nI first then nI first else nI 1) = nI (max 1 first)
      by_cases q : 1 < first
      · rw [if_pos (nI_lt (a := 1) q (by omega)), Nat.max_eq_right (by omega)]
      · rw [if_neg (nI_nlt (b := first) (a := 1) (by omega) (by omega)), Nat.max_eq_left (by omega)]]
    exact e1
end
