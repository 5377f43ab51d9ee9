/-! symbols read: the reference, whole -/
section
variable {X : px_X} {b B : Nat} {w0 w1 : px_W} {y y' : rg_S} {D : Nat → Nat} {n t m l v : Nat} {s s' : bSt} {c : Nat → Nat} {S : List Nat}
theorem m_77 (ht : t < 8) {q : Nat} (hq : q < 256) {fl N V L : Int32} {k4 : Nat → Int32 → Int32 → Int32 → px_W → Option (Int32 × px_W)} {k23 : Nat → Int32 → Int32 → Int32 → Int32 → Int32 → px_W → Option (Int32 × px_W)} : ∃ fl1, fX13_symbol_77 X k4 k23 (b + 24) (nI t) V L fl (nI q) N (rg_p lM b w0 y) = k23 (b + 24) (nI t) V L fl1 (nI (q + 1)) (rg_p lM b w0 y) := by
  have n256 : (256 : Int32) * nI t + nI q = nI (256 * t + q) := by rw [show (256 : Int32) = nI 256 from rfl, pk_mul, nI_add]
  have e114 : fX13_symbol_114 X k4 k23 (b + 24) (nI t) V L (nI q) (rg_p lM b w0 y) = k23 (b + 24) (nI t) V L 0 (nI (q + 1)) (rg_p lM b w0 y) := by
    unfold fX13_symbol_114 fX13_symbol_115
    rw [nI_1]
  have e110 : fX13_symbol_110 X k4 k23 (b + 24) (nI t) V L (nI q) (rg_p lM b w0 y) = k23 (b + 24) (nI t) V L 1 (nI (q + 1)) (rg_p lM b w0 y) := by
    unfold fX13_symbol_110 fX13_symbol_115
    rw [nI_1]
  unfold fX13_symbol_77
  rw [n256]
  by_cases f0 : fl = 0
  · by_cases le : N ≤ L
    · exact ⟨0, ei_t f0 (ei_t le e114)⟩
    · by_cases ev : (y.2.2.1 38 (256 * t + q) >>> ((N - L) &&& 31)) = V
      · exact ⟨1, ei_t f0 (ei_n le (ob_v (rg_C rfl rfl) (ob_v (rg_A rfl (by decide) _ (by omega) (by decide)) (ei_t ev e110))))⟩
      · exact ⟨0, ei_t f0 (ei_n le (ob_v (rg_C rfl rfl) (ob_v (rg_A rfl (by decide) _ (by omega) (by decide)) (ei_n ev e114))))⟩
  · exact ⟨1, ei_n f0 e110⟩
theorem m_23m (ht : t < 8) (hT : tbOk c S m) (hr : rT y t c S m) {i0 : Nat} (hi0 : i0 < m) (hl : gL c 16 i0 = l) (hv : gW c i0 = v) {k4 : Nat → Int32 → Int32 → Int32 → px_W → Option (Int32 × px_W)} : ∀ (k M q : Nat) (fl : Int32), q + k = S.getD i0 0 → k < M → fX13_symbol_23 X k4 M (b + 24) (nI t) (nI v) (nI l) fl (nI q) (rg_p lM b w0 y) = some (nI (S.getD i0 0), rg_p lM b w0 y) := by
  have s256 := hT.2.2.2.2.1
  have snd := hT.2.2.2.2.2
  have hm := hT.2.1
  have g0 := gL_in (c := c) (i := i0) (k := 16) (by omega)
  have w0' := gW_b hT hi0
  rw [hl] at g0 w0'
  rw [hv] at w0'
  have s0 := s256 i0 hi0
  intro k
  induction k with
  | zero =>
    intro M q fl hq hM
    obtain rfl : q = S.getD i0 0 := by omega
    obtain ⟨M, rfl⟩ : ∃ M', M = M' + 1 := ⟨M - 1, by omega⟩
    rcases hr (S.getD i0 0) s0 with ⟨i, hi, hs, a1, a2⟩ | ⟨hno, _⟩
    · obtain rfl : i = i0 := by
        rcases Nat.lt_trichotomy i i0 with q1 | q1 | q1
        · exact absurd hs.symm (snd i0 i hi0 q1)
        · exact q1
        · exact absurd hs (snd i i0 hi q1)
      rw [fX13_symbol_23.eq_2, show (256 : Int32) * nI t + nI (S.getD i 0) = nI (256 * t + S.getD i 0) by rw [show (256 : Int32) = nI 256 from rfl, pk_mul, nI_add]]
      refine ei_n (nI_ge (b := 256) (by omega) (by omega)) (ob_v (rg_C rfl rfl) (ob_v (rg_A rfl (by decide) _ (by omega) (by decide)) ?_))
      rw [a1, hl]
      refine ei_n (nI_nle (by omega) (by omega)) (ei_t rfl (ob_v (rg_C rfl rfl) (ob_v (rg_A rfl (by decide) _ (by omega) (by decide)) ?_)))
      rw [a2, hv]
      exact ei_t rfl rfl
    · exact absurd rfl (hno i0 hi0)
  | succ k ih =>
    intro M q fl hq hM
    obtain ⟨M, rfl⟩ : ∃ M', M = M' + 1 := ⟨M - 1, by omega⟩
    have n256 : (256 : Int32) * nI t + nI q = nI (256 * t + q) := by rw [show (256 : Int32) = nI 256 from rfl, pk_mul, nI_add]
    have e77 : ∀ N, fX13_symbol_77 X k4 (fX13_symbol_23 X k4 M) (b + 24) (nI t) (nI v) (nI l) fl (nI q) N (rg_p lM b w0 y) = some (nI (S.getD i0 0), rg_p lM b w0 y) := fun N => by
      obtain ⟨fl1, e⟩ := m_77 (X := X) (b := b) (w0 := w0) (y := y) (fl := fl) (N := N) (V := nI v) (L := nI l) (k4 := k4) (k23 := fX13_symbol_23 X k4 M) ht (q := q) (by omega)
      exact e.trans (ih M (q + 1) fl1 (by omega) (by omega))
    rw [fX13_symbol_23.eq_2, n256]
    refine ei_n (nI_ge (b := 256) (by omega) (by omega)) (ob_v (rg_C rfl rfl) (ob_v (rg_A rfl (by decide) _ (by omega) (by decide)) ?_))
    rcases hr q (by omega) with ⟨i, hi, hs, a1, a2⟩ | ⟨hno, a1⟩
    · rw [a1]
      have gi := gL_in (c := c) (i := i) (k := 16) (by omega)
      have wi := gW_b hT hi
      refine ei_n (nI_nle (by omega) (by omega)) ?_
      by_cases el : gL c 16 i = l
      · refine ei_t (by rw [el]) (ob_v (rg_C rfl rfl) (ob_v (rg_A rfl (by decide) _ (by omega) (by decide)) ?_))
        rw [a2]
        refine ei_n (fun e => ?_) (e77 _)
        have ev := (nI_eq (by omega) (by omega)).mp e
        have u1 : gW c i = 2 * nx c (l - 1) + (i - dn c (l - 1)) := by unfold gW; rw [el]
        have u2 : gW c i0 = 2 * nx c (l - 1) + (i0 - dn c (l - 1)) := by unfold gW; rw [hl]
        rw [el] at gi
        have : i = i0 := by omega
        rw [this] at hs
        omega
      · exact ei_n (fun e => el ((nI_eq (by omega) (by omega)).mp e)) (e77 _)
    · rw [a1]
      exact ei_t (by decide) (e77 _)
theorem rT.r (h : rT y t c S m) (F : FYr y y') : rT y' t c S m := by
  unfold rT
  rw [F.2]
  exact h
/-- with a fault the search stops -/
theorem m_sy0 {f : Nat} (hf : y.1 24 46 = nI f) (h0 : 0 < f) (h9 : f < 100) {T V : Int32} {l M : Nat} (hl : l ≤ 17) : fX13_symbol_4 X (M + 1) (b + 24) T V (nI l) (rg_p lM b w0 y) = some (0, rg_p lM b w0 y) := by
  rw [fX13_symbol_4.eq_2]
  by_cases q : 16 < l
  · exact ei_t (nI_lt (a := 16) q (by omega)) rfl
  · refine ei_n (nI_nlt (a := 16) (by omega) (by omega)) (ob_v (rg_I rfl rfl) ?_)
    rw [hf]
    exact ei_n (nI_ne0 h0 (by omega)) rfl
theorem m_sy (ht : t < 8) (hT : tbOk c S m) : ∀ (j l v M : Nat) (y : rg_S) (s : bSt), l + j = 16 → j + 1 < M → nx c l ≤ v → v < 2 ^ l → yR y D n s → rT y t c S m → ∃ u y', fX13_symbol_4 X M (b + 24) (nI t) (nI v) (nI l) (rg_p lM b w0 y) = some (u, rg_p lM b w0 y') ∧ FYr y y' ∧ ((∃ f, sy D n c j l v s = .inl f ∧ (f = 1 ∨ f = 2) ∧ y'.1 24 46 = nI f ∧ u = 0) ∨ ∃ i s', sy D n c j l v s = .inr (i, s') ∧ i < m ∧ u = nI (S.getD i 0) ∧ yR y' D n s') := by
  have hm := hT.2.1
  intro j
  induction j with
  | zero =>
    intro l v M y s hl hM hv hv2 h hr
    obtain rfl : l = 16 := by omega
    obtain ⟨M, rfl⟩ : ∃ M', M = M' + 1 := ⟨M - 1, by omega⟩
    obtain ⟨fl', f1, f2, f3⟩ := m_23n (X := X) (b := b) (w0 := w0) ht hT hr hv (by omega) (Nat.le_refl _) (k4 := fX13_symbol_4 X M) 256 FU 0 0 rfl (by unfold FU; omega) (Or.inl rfl)
    have z : fl' = 0 := by
      rcases f1 with e | e
      · exact e
      · rcases f2.mp e with e | ⟨i, hi, _, h2, _⟩
        · exact absurd e (by decide)
        · have := (gL_in (c := c) (i := i) (k := 16) (by omega)).2.1
          omega
    refine ⟨0, rg_wI y 24 46 2, ?_, wr_F 2, Or.inl ⟨2, rfl, Or.inr rfl, wI_s _ _ _ _, rfl⟩⟩
    rw [fX13_symbol_4.eq_2]
    refine ei_n (by decide) (ob_v (rg_I rfl rfl) (ei_t h.2.2.2.1 ?_))
    refine (show fX13_symbol_23 X (fX13_symbol_4 X M) FU (b + 24) (nI t) (nI v) (nI 16) 0 (nI 0) _ = _ from f3).trans ?_
    unfold fX13_symbol_123 fX13_symbol_128
    exact ei_t z (ob_v (rg_O rfl) (ob_v (m_wrong h.2.2.2.1 2) rfl))
  | succ j ih =>
    intro l v M y s hl hM hv hv2 h hr
    obtain ⟨M, rfl⟩ : ∃ M', M = M' + 1 := ⟨M - 1, by omega⟩
    have p16 : 2 ^ l ≤ 2 ^ 16 := Nat.pow_le_pow_right (by decide) (by omega)
    obtain ⟨fl', f1, f2, f3⟩ := m_23n (X := X) (b := b) (w0 := w0) ht hT hr hv (by omega) (by omega) (k4 := fX13_symbol_4 X M) 256 FU 0 0 rfl (by unfold FU; omega) (Or.inl rfl)
    have f2' : fl' = 1 ↔ bgC c v l := by
      refine ⟨fun e => ?_, fun e => ?_⟩
      · rcases f2.mp e with e | ⟨i, hi, _, h2⟩
        · exact absurd e (by decide)
        · exact bg_C ((bg_i hT).mpr ⟨i, hi, h2⟩)
      · obtain ⟨i, hi, h2⟩ := (bg_i hT).mp (C_bg (by omega) hv e)
        exact f2.mpr (Or.inr ⟨i, hi, Nat.zero_le _, h2⟩)
    have st : ∀ r, fX13_symbol_123 X (fX13_symbol_4 X M) (b + 24) (nI t) (nI v) (nI l) fl' (rg_p lM b w0 y) = r → fX13_symbol_4 X (M + 1) (b + 24) (nI t) (nI v) (nI l) (rg_p lM b w0 y) = r := by
      intro r hr'
      rw [fX13_symbol_4.eq_2]
      refine ei_n (nI_nlt (a := 16) (by omega) (by omega)) (ob_v (rg_I rfl rfl) (ei_t h.2.2.2.1 ?_))
      exact (show fX13_symbol_23 X (fX13_symbol_4 X M) FU (b + 24) (nI t) (nI v) (nI l) 0 (nI 0) _ = _ from f3).trans hr'
    unfold fX13_symbol_123 fX13_symbol_128 at st
    rw [sy.eq_2]
    by_cases bg' : bgC c v l
    · have e1' := f2'.mpr bg'
      unfold bgC at bg'
      rw [if_pos bg']
      obtain ⟨w, y1, e1, F1, h1⟩ := m_tB (X := X) (b := b) (w0 := w0) h
      rcases h1 with ⟨t1, t2, t3⟩ | ⟨u, s1, t1, t2, t3⟩
      · obtain ⟨M, rfl⟩ : ∃ M', M = M' + 1 := ⟨M - 1, by omega⟩
        refine ⟨0, y1, st _ (ei_n (by rw [e1']; exact n10) (ob_v (rg_O rfl) (ob_v e1 ?_))), F1, Or.inl ⟨1, by rw [t1], Or.inl rfl, t2, rfl⟩⟩
        rw [nI_1]
        exact m_sy0 (f := 1) t2 (by decide) (by decide) (by omega)
      · have u2 := (tB_ok h.2.2.2.2.2.2.1 h.2.2.2.2.2.2.2 t1).2
        have r1 := hr.r F1
        have pe : 2 ^ (l + 1) = 2 ^ l * 2 := Nat.pow_succ _ _
        by_cases q : 2 * v + u < nx c (l + 1)
        · obtain ⟨M, rfl⟩ : ∃ M', M = M' + 1 := ⟨M - 1, by omega⟩
          have hd : dn c (l + 1) = dn c l + c (l + 1) := rfl
          have hn : nx c (l + 1) = 2 * nx c l + c (l + 1) := rfl
          have hd2 := dn_16 hT (show l + 1 ≤ 16 by omega)
          have gl : gL c 16 (dn c l + (2 * v + u - 2 * nx c l)) = l + 1 := gL_at (by omega) (by omega) (by omega)
          have gw : gW c (dn c l + (2 * v + u - 2 * nx c l)) = 2 * v + u := by
            unfold gW
            rw [gl, show l + 1 - 1 = l by omega]
            omega
          refine ⟨_, y1, st _ (ei_n (by rw [e1']; exact n10) (ob_v (rg_O rfl) (ob_v e1 ?_))), F1, Or.inr ⟨dn c l + (2 * v + u - 2 * nx c l), s1, ?_, by omega, rfl, t3⟩⟩
          · dsimp only
            rw [t2, nI_2, nI_add, nI_1, fX13_symbol_4.eq_2]
            refine ei_n (nI_nlt (a := 16) (by omega) (by omega)) (ob_v (rg_I rfl rfl) (ei_t t3.2.2.2.1 ?_))
            have := hT.2.2.2.2.1 (dn c l + (2 * v + u - 2 * nx c l)) (by omega)
            exact m_23m (X := X) (b := b) (w0 := w0) ht hT r1 (i0 := dn c l + (2 * v + u - 2 * nx c l)) (by omega) gl gw _ FU 0 0 (Nat.zero_add _) (by unfold FU; omega)
          · rw [t1]
            show (if 2 * v + u < nx c (l + 1) then _ else _) = _
            rw [if_pos q]
        · obtain ⟨u2', y2, e2, F2, h2⟩ := ih (l + 1) (2 * v + u) M y1 s1 (by omega) (by omega) (by omega) (by omega) t3 r1
          refine ⟨u2', y2, st _ (ei_n (by rw [e1']; exact n10) (ob_v (rg_O rfl) (ob_v e1 ?_))), F1.trans F2, ?_⟩
          · dsimp only
            rw [t2, nI_2, nI_add, nI_1]
            exact e2
          · rw [t1]
            show (∃ f, (if 2 * v + u < nx c (l + 1) then _ else _) = _ ∧ _) ∨ ∃ i s', (if 2 * v + u < nx c (l + 1) then _ else _) = _ ∧ _
            rw [if_neg q]
            exact h2
    · have z : fl' = 0 := f1.resolve_right (fun e => bg' (f2'.mp e))
      unfold bgC at bg'
      rw [if_neg bg']
      exact ⟨0, rg_wI y 24 46 2, st _ (ei_t z (ob_v (rg_O rfl) (ob_v (m_wrong h.2.2.2.1 2) rfl))), wr_F 2, Or.inl ⟨2, rfl, Or.inr rfl, wI_s _ _ _ _, rfl⟩⟩
end
