/-! every segment keeps what holds of a state: all kinds -/
def sgKp (s s' : sgS) : Prop := s.1 3 ≠ 0 → s'.1 3 = s.1 3 ∧ s'.1 4 = s.1 4 ∧ s'.1 6 = s.1 6 ∧ s'.1 9 = s.1 9 ∧ s'.2.2.2.2.1 = s.2.2.2.2.1 ∧ (s.1 5 ≠ 0 → s'.1 5 = s.1 5)
theorem sgKp.trans {s s1 s2 : sgS} (h : sgKp s s1) (h2 : sgKp s1 s2) : sgKp s s2 := by
  intro k
  obtain ⟨a1, a2, a3, a4, a5, a6⟩ := h k
  obtain ⟨b1, b2, b3, b4, b5, b6⟩ := h2 (by rw [a1]; exact k)
  exact ⟨b1.trans a1, b2.trans a2, b3.trans a3, b4.trans a4, b5.trans a5, fun e => (b6 (by rw [a6 e]; exact e)).trans (a6 e)⟩
section
variable {c : sgC} {s s' : sgS} {p : Nat}
theorem ok_n (ok : sgOk s) (o2 : sgO2 s) (v : ∀ k, k ≠ 0 → k ≠ 2 → k ≠ 1 → s'.1 k = s.1 k) (h1 : s'.1 1 < 65536) (e0 : 4 * s'.1 2 + 2 ≤ s'.1 0) (e8 : 10 * s.1 8 + 2 ≤ s'.1 0) (hq : ∀ i, s'.2.1 i ≤ 255) (hq2 : ∀ t k, k < 64 → s'.2.1 (64 * t) ≠ 0 → s'.2.1 (64 * t + k) ≠ 0) (hT : TOk s'.2.2.1) (el : s'.2.2.2 = s.2.2.2) : sgOk s' ∧ sgO2 s' ∧ sgKp s s' := by
  have v3 := v 3 (by decide) (by decide) (by decide)
  have v4 := v 4 (by decide) (by decide) (by decide)
  have v5 := v 5 (by decide) (by decide) (by decide)
  have v6 := v 6 (by decide) (by decide) (by decide)
  have v7 := v 7 (by decide) (by decide) (by decide)
  have v8 := v 8 (by decide) (by decide) (by decide)
  have v9 := v 9 (by decide) (by decide) (by decide)
  obtain ⟨k1, k3, k6, k6b, k7, kc, kq, kl, k8⟩ := ok
  obtain ⟨o1, o2, o3, o4, o5, o6, o7, o8, o9, o10⟩ := o2
  unfold sgOk sgO2 sgKp
  rw [v3, v4, v5, v6, v7, v8, v9, el]
  exact ⟨⟨h1, k3, k6, k6b, k7, kc, hq, kl, k8⟩, ⟨o1, o2, o3, o4, o5, o6, ⟨e0, e8⟩, hT, hq2, o10⟩, fun _ => ⟨rfl, rfl, rfl, rfl, rfl, fun _ => rfl⟩⟩
theorem sgSg_ok {D : Nat → Nat} {L code pm : Nat} (hD : ∀ i, i < L → D i < 256) (hL : L ≤ 16384) (ok : sgOk s) (o2 : sgO2 s) (hcs : sgCs code s) (hpm : s.1 0 + 2 ≤ pm) (e : sgSg D L code (uG s.1 0 pm, s.2) = .inr s') : sgOk s' ∧ sgO2 s' ∧ sgKp s s' ∧ pm + 2 ≤ s'.1 0 := by
  rw [sgSg_e] at e
  have e : (if L ≤ pm + 1 then (.inl (1, L) : sgF ⊕ sgS) else if 256 * D pm + D (pm + 1) < 2 then .inl (5, pm) else sgBy code (D, L, pm + (256 * D pm + D (pm + 1)), pm) (uG (uG s.1 0 pm) 2 (s.1 2 + 1), s.2) (pm + 2)) = .inr s' := e
  split at e
  · cases e
  split at e
  · cases e
  rename_i d1 d2
  generalize hc : ((D, L, pm + (256 * D pm + D (pm + 1)), pm) : sgC) = c at e
  generalize hs1 : ((uG (uG s.1 0 pm) 2 (s.1 2 + 1), s.2) : sgS) = s1 at e
  have v1 : ∀ k, k ≠ 0 → k ≠ 2 → s1.1 k = s.1 k := by
    intro k a b
    rw [← hs1]
    exact (uG_n _ _ b).trans (uG_n _ _ a)
  have v12 : s1.1 2 = s.1 2 + 1 := by rw [← hs1]; rfl
  have w1 : s1.2 = s.2 := by rw [← hs1]
  have hDc : ∀ i, i < c.2.1 → c.1 i < 256 := by
    rw [← hc]
    exact hD
  have cen : pm + 2 ≤ c.2.2.1 := by
    rw [← hc]
    show pm + 2 ≤ pm + (256 * D pm + D (pm + 1))
    omega
  obtain ⟨o2c, o2s⟩ := o2.2.2.2.2.2.2.1
  unfold sgBy at e
  by_cases c219 : code = 219
  · rw [if_pos c219] at e
    obtain ⟨a, e1, e2⟩ := sgB_i e
    have := Sum.inr.inj e2
    subst this
    rw [w1] at e1
    obtain ⟨i1, i2⟩ := sgQs_ok (p' := a.1) (q' := a.2) 16384 (pm + 2) s.2.1 ok.2.2.2.2.2.2.1 e1
    have i3 := sgQs_o (p' := a.1) (q' := a.2) 16384 (pm + 2) s.2.1 ok.2.2.2.2.2.2.1 o2.2.2.2.2.2.2.2.2.1 e1
    obtain ⟨r1, r2, r3⟩ := ok_n (s' := (uG s1.1 0 a.1, a.2, s1.2.2)) ok o2 (fun k a b _ => (uG_n _ _ a).trans (v1 k a b)) (by show uG s1.1 0 a.1 1 < 65536; rw [uG_n _ _ (by decide), v1 1 (by decide) (by decide)]; exact ok.1) (by show 4 * uG s1.1 0 a.1 2 + 2 ≤ uG s1.1 0 a.1 0; rw [uG_s, uG_n _ _ (by decide), v12]; omega) (by show 10 * s.1 8 + 2 ≤ uG s1.1 0 a.1 0; rw [uG_s]; omega) i1 i3 (by show TOk s1.2.2.1; rw [w1]; exact o2.2.2.2.2.2.2.2.1) (by show s1.2.2.2 = _; rw [w1])
    exact ⟨r1, r2, r3, by show pm + 2 ≤ uG s1.1 0 a.1 0; rw [uG_s]; omega⟩
  rw [if_neg c219] at e
  by_cases c196 : code = 196
  · rw [if_pos c196] at e
    obtain ⟨a, e1, e2⟩ := sgB_i e
    have := Sum.inr.inj e2
    subst this
    rw [w1] at e1
    have i1 := sgWs_p (p' := a.1) (T' := a.2) hDc 16384 (pm + 2) s.2.2.1 e1
    have i3 := sgWs_o (p' := a.1) (T' := a.2) hDc 16384 (pm + 2) s.2.2.1 o2.2.2.2.2.2.2.2.1 e1
    obtain ⟨r1, r2, r3⟩ := ok_n (s' := (uG s1.1 0 a.1, s1.2.1, a.2, s1.2.2.2)) ok o2 (fun k a b _ => (uG_n _ _ a).trans (v1 k a b)) (by show uG s1.1 0 a.1 1 < 65536; rw [uG_n _ _ (by decide), v1 1 (by decide) (by decide)]; exact ok.1) (by show 4 * uG s1.1 0 a.1 2 + 2 ≤ uG s1.1 0 a.1 0; rw [uG_s, uG_n _ _ (by decide), v12]; omega) (by show 10 * s.1 8 + 2 ≤ uG s1.1 0 a.1 0; rw [uG_s]; omega) (by show ∀ i, s1.2.1 i ≤ 255; rw [w1]; exact ok.2.2.2.2.2.2.1) (by show ∀ t k, k < 64 → s1.2.1 (64 * t) ≠ 0 → s1.2.1 (64 * t + k) ≠ 0; rw [w1]; exact o2.2.2.2.2.2.2.2.2.1) i3 (by show s1.2.2.2 = _; rw [w1])
    exact ⟨r1, r2, r3, by show pm + 2 ≤ uG s1.1 0 a.1 0; rw [uG_s]; omega⟩
  rw [if_neg c196] at e
  by_cases c221 : code = 221
  · rw [if_pos c221] at e
    obtain ⟨a, e1, e2⟩ := sgB_i e
    obtain ⟨e3, e4⟩ := sgE_i e2
    subst e4
    have g := sgU_i (u := a.1) (q := a.2) e1
    obtain ⟨r1, r2, r3⟩ := ok_n (s' := (uG (uG s1.1 0 a.2) 1 a.1, s1.2)) ok o2 (fun k h0 h2 h1 => (uG_n _ _ h1).trans ((uG_n _ _ h0).trans (v1 k h0 h2))) (by show uG (uG s1.1 0 a.2) 1 a.1 1 < 65536; rw [uG_s]; omega) (by show 4 * uG (uG s1.1 0 a.2) 1 a.1 2 + 2 ≤ uG (uG s1.1 0 a.2) 1 a.1 0; rw [uG_n _ _ (by decide), uG_n _ _ (by decide), uG_n _ _ (by decide), uG_s, v12]; omega) (by show 10 * s.1 8 + 2 ≤ uG (uG s1.1 0 a.2) 1 a.1 0; rw [uG_n _ _ (by decide), uG_s]; omega) (by show ∀ i, s1.2.1 i ≤ 255; rw [w1]; exact ok.2.2.2.2.2.2.1) (by show ∀ t k, k < 64 → s1.2.1 (64 * t) ≠ 0 → s1.2.1 (64 * t + k) ≠ 0; rw [w1]; exact o2.2.2.2.2.2.2.2.2.1) (by show TOk s1.2.2.1; rw [w1]; exact o2.2.2.2.2.2.2.2.1) (by show s1.2.2.2 = _; rw [w1])
    exact ⟨r1, r2, r3, by show pm + 2 ≤ uG (uG s1.1 0 a.2) 1 a.1 0; rw [uG_n _ _ (by decide), uG_s]; omega⟩
  rw [if_neg c221] at e
  obtain ⟨k1, k3, k6, k6b, k7, kc, kq, kl, k8⟩ := ok
  obtain ⟨o1, oq, o3, o4, o5, o6, o7, o8, o9, o10⟩ := o2
  by_cases cfr : code = 192 ∨ code = 194
  · rw [if_pos cfr] at e
    obtain ⟨a, e1, e2⟩ := sgB_i e
    have E := Sum.inr.inj e2
    obtain ⟨hh, ww, n, p', cs⟩ := a
    obtain ⟨g1, g2, g3, g4, g5, g6⟩ := sgFr_ok hDc e1
    have kz : s.1 3 = 0 := by
      unfold sgCs at hcs
      rcases hcs with ⟨_, z⟩ | ⟨_, z⟩
      · omega
      · rcases z with z | z | z | z | z
        · exact z.2
        all_goals omega
    have kz2 := k7 kz
    have u : ∀ k, s'.1 k = if k = 0 then p' else if k = 3 then code else if k = 4 then ww else if k = 5 then hh else if k = 6 then n else if k = 9 then (if hh = 0 then 1 else 0) else s1.1 k := by
      intro k
      rw [← E]
    have u1 : s'.1 1 = s.1 1 := (u 1).trans (v1 1 (by decide) (by decide))
    have u2 : s'.1 2 = s.1 2 + 1 := (u 2).trans v12
    have u7 : s'.1 7 = s.1 7 := (u 7).trans (v1 7 (by decide) (by decide))
    have u8 : s'.1 8 = s.1 8 := (u 8).trans (v1 8 (by decide) (by decide))
    have u0 : s'.1 0 = p' := u 0
    have u3 : s'.1 3 = code := u 3
    have u4 : s'.1 4 = ww := u 4
    have u5 : s'.1 5 = hh := u 5
    have u6 : s'.1 6 = n := u 6
    have u9 : s'.1 9 = (if hh = 0 then 1 else 0) := u 9
    have x1 : s'.2.1 = s.2.1 := by rw [← E, w1]
    have x2 : s'.2.2.1 = s.2.2.1 := by rw [← E, w1]
    have x3 : s'.2.2.2.1 = s.2.2.2.1 := by rw [← E, w1]
    have x4 : s'.2.2.2.2.1 = cs := by rw [← E]
    have x5 : s'.2.2.2.2.2.2 = s.2.2.2.2.2.2 := by rw [← E, w1]
    refine ⟨?_, ?_, fun z => absurd kz z, by omega⟩
    · unfold sgOk
      rw [u1, u3, u6, u7, u8, x1, x3, x4]
      exact ⟨k1, by omega, by omega, fun _ => g3.1, fun z => by omega, g4, kq, kl, ⟨fun _ k _ => o1 kz _, fun _ => kz2.2.2⟩⟩
    · unfold sgO2
      rw [u0, u2, u3, u4, u5, u7, u8, u9, x1, x2, x3, x5]
      refine ⟨fun z => by omega, fun _ cc j _ _ => o1 kz _, fun _ z => ?_, fun _ _ z => ?_, fun z => absurd kz2.2.1 z, fun _ => ⟨g2, g1⟩, ⟨by omega, by omega⟩, o8, o9, fun cc z => absurd (o1 kz _) z⟩
      · rw [if_pos z]
        exact ⟨by decide, Or.inl kz2.2.2⟩
      · by_cases h0 : hh = 0
        · exact h0
        · rw [if_neg h0] at z
          exact absurd rfl z
  rw [if_neg cfr] at e
  by_cases c218 : code = 218
  · rw [if_pos c218] at e
    obtain ⟨s2, e1, e2⟩ := sgB_i e
    obtain ⟨ed, e3, e4⟩ := sgB_i e2
    have E := Sum.inr.inj e4
    obtain ⟨nn, mb, fi, la, bf, bb, p1, p2, p3, f1, f2, f3, f4, f5, f6, f7⟩ := sgSc_i e1
    have kn : s.1 3 ≠ 0 ∧ s.1 7 = 0 := by
      unfold sgCs at hcs
      rcases hcs with ⟨_, z⟩ | ⟨z0, z⟩
      · omega
      · rcases z with z | z | z | z | z
        · omega
        · exact ⟨z.2, z0⟩
        all_goals omega
    have t3 : s1.1 3 = s.1 3 := v1 3 (by decide) (by decide)
    have t6 : s1.1 6 = s.1 6 := v1 6 (by decide) (by decide)
    rw [w1, t6] at f2
    rw [t3] at f3 f4
    rw [w1] at f4 f5
    have hkd : s.1 3 = 192 ∨ s.1 3 = 194 := by omega
    have g1 := sgI_p f1
    obtain ⟨mok, mp⟩ := sgMb_ok (by rw [← hc]; exact hL) nn 0 0 0 p1 (fun _ => (0, 0, 0, 0)) ⟨fun k hk => absurd hk (Nat.not_lt_zero _), fun j k _ hk => absurd hk (Nat.not_lt_zero _), by show 0 ≤ 10; decide⟩ (fun k hk => absurd hk (Nat.not_lt_zero _)) rfl f2
    rw [Nat.zero_add] at mok
    obtain ⟨b1, b2, b3, b4, b5, b6, b7, b8, b9⟩ := sgBn_ok hkd f3
    have g5 := sgDt_p _ _ _ e3
    have s20 : s2.1 0 = p3 := by rw [f7]; rfl
    have u : ∀ k, k ≠ 0 → k ≠ 16 → s'.1 k = if k = 0 then p3 else if k = 7 then (if s1.1 9 ≠ 0 ∧ s1.1 8 = 0 then 1 else 0) else if k = 8 then s1.1 8 + 1 else if k = 10 then nn else if k = 11 then fi else if k = 12 then la else if k = 13 then bf else if k = 14 then bb else if k = 15 then p3 else s1.1 k := by
      intro k a b
      rw [← E]
      refine ((uG_n _ _ b).trans (uG_n _ _ a)).trans ?_
      rw [f7]
    have t8 : s1.1 8 = s.1 8 := v1 8 (by decide) (by decide)
    have t9 : s1.1 9 = s.1 9 := v1 9 (by decide) (by decide)
    rw [t8, t9] at u
    have u0 : s'.1 0 = ed := by rw [← E]; rfl
    have u1 : s'.1 1 = s.1 1 := (u 1 (by decide) (by decide)).trans (v1 1 (by decide) (by decide))
    have u2 : s'.1 2 = s.1 2 + 1 := (u 2 (by decide) (by decide)).trans v12
    have u3 : s'.1 3 = s.1 3 := (u 3 (by decide) (by decide)).trans t3
    have u4 : s'.1 4 = s.1 4 := (u 4 (by decide) (by decide)).trans (v1 4 (by decide) (by decide))
    have u5 : s'.1 5 = s.1 5 := (u 5 (by decide) (by decide)).trans (v1 5 (by decide) (by decide))
    have u6 : s'.1 6 = s.1 6 := (u 6 (by decide) (by decide)).trans t6
    have u7 : s'.1 7 = (if s.1 9 ≠ 0 ∧ s.1 8 = 0 then 1 else 0) := u 7 (by decide) (by decide)
    have u8 : s'.1 8 = s.1 8 + 1 := u 8 (by decide) (by decide)
    have u9 : s'.1 9 = s.1 9 := (u 9 (by decide) (by decide)).trans t9
    have x1 : s'.2.1 = s.2.1 := by rw [← E, f7]; show s1.2.1 = _; rw [w1]
    have x2 : s'.2.2.1 = s.2.2.1 := by rw [← E, f7]; show s1.2.2.1 = _; rw [w1]
    have nos : ∀ n, sgNo s1 fi la bb mb n = sgNo s fi la bb mb n := by
      intro n
      induction n with
      | zero => unfold sgNo; rw [w1]
      | succ n ih => unfold sgNo; rw [ih, w1]
    have x3 : s'.2.2.2.1 = (sgNo s fi la bb mb nn).1 := by rw [← E, f7, ← nos]; rfl
    have x4 : s'.2.2.2.2.1 = s.2.2.2.2.1 := by rw [← E, f7]; show s1.2.2.2.2.1 = _; rw [w1]
    have x5 : s'.2.2.2.2.2.2 = (sgNo s fi la bb mb nn).2 := by rw [← E, f7, ← nos]; rfl
    have snt : (sgNo s fi la bb mb nn).1 (64 * (mb 0).1) ≠ 0 := by
      by_cases f0 : fi = 0
      · rcases sgNo_f (s := s) (fi := fi) (la := la) (bb := bb) (mb := mb) (n := nn) (i := 0) (by omega) (j := 64 * (mb 0).1) (by omega) with z | z
        · omega
        · exact z
      · refine sgNo_n nn ?_
        have := (sgFt_i nn 0 f4 0 (Nat.le_refl _) (by omega)).1
        intro z
        apply this
        rw [if_neg (by omega)]
        exact ⟨by omega, z⟩
    have m0 := (mok.1 0 (by omega)).1
    refine ⟨?_, ?_, fun _ => ⟨u3, u4, u6, u9, x4, fun _ => u5⟩, by omega⟩
    · unfold sgOk
      rw [u1, u3, u6, u7, u8, x1, x3, x4]
      exact ⟨k1, k3, k6, k6b, fun z => absurd z kn.1, kc, kq, sgNo_le b3 kl nn, ⟨fun z => by omega, fun z => absurd (z _ m0) snt⟩⟩
    · unfold sgO2
      rw [u0, u2, u3, u4, u5, u7, u8, u9, x1, x2, x3, x5]
      refine ⟨fun z => absurd z kn.1, fun z => ?_, fun z z5 => ?_, fun _ z => by omega, fun z => ⟨by omega, ?_⟩, o6, ⟨by omega, by omega⟩, o8, o9, sgNo_st (n6 := nn) kq o9 b1 b2 (fun i hi => (sgTb_i nn 0 f5 i (Nat.zero_le _) (by omega)).1) o10 nn (Nat.le_refl _)⟩
      · obtain ⟨y1, y2, y3, y4⟩ := b7 (by omega)
        rw [y1, y2]
        exact sgNo_sq (n6 := nn) (oq z) nn
      · obtain ⟨y1, y2⟩ := o3 z z5
        refine ⟨y1, Or.inr ?_⟩
        rw [if_pos ⟨y1, y2.resolve_right (fun e => e kn.2)⟩]
        decide
      · by_cases y : s.1 9 ≠ 0 ∧ s.1 8 = 0
        · exact o4 kn.1 y.2 y.1
        · rw [if_neg y] at z
          exact absurd rfl z
  rw [if_neg c218] at e
  by_cases c220 : code = 220
  · rw [if_pos c220] at e
    obtain ⟨a, e1, e2⟩ := sgB_i e
    obtain ⟨e3, e4⟩ := sgE_i e2
    have g := sgU_i (u := a.1) (q := a.2) e1
    have kn : s.1 7 ≠ 0 := by
      unfold sgCs at hcs
      rcases hcs with ⟨z, _⟩ | ⟨_, z⟩
      · exact z
      · omega
    have kn3 : s.1 3 ≠ 0 := fun z => kn (k7 z).2.1
    have o5' := o5 kn
    have u : ∀ k, k ≠ 0 → k ≠ 5 → k ≠ 7 → k ≠ 2 → s'.1 k = s.1 k := by
      intro k h0 h5 h7 h2
      rw [e4]
      exact (uG_n _ _ h7).trans ((uG_n _ _ h5).trans ((uG_n _ _ h0).trans (v1 k h0 h2)))
    have u0 : s'.1 0 = a.2 := by rw [e4]; rfl
    have u1 := u 1 (by decide) (by decide) (by decide) (by decide)
    have u2 : s'.1 2 = s.1 2 + 1 := by rw [e4]; exact v12
    have u3 := u 3 (by decide) (by decide) (by decide) (by decide)
    have u4 := u 4 (by decide) (by decide) (by decide) (by decide)
    have u5 : s'.1 5 = a.1 := by rw [e4]; rfl
    have u6 := u 6 (by decide) (by decide) (by decide) (by decide)
    have u7 : s'.1 7 = 0 := by rw [e4]; rfl
    have u8 := u 8 (by decide) (by decide) (by decide) (by decide)
    have u9 := u 9 (by decide) (by decide) (by decide) (by decide)
    have x : s'.2 = s.2 := by rw [e4]; exact w1
    refine ⟨?_, ?_, fun _ => ⟨u3, u4, u6, u9, by rw [x], fun z => absurd o5'.2 z⟩, by omega⟩
    · unfold sgOk
      rw [u1, u3, u6, u7, u8, x]
      exact ⟨k1, k3, k6, k6b, fun z => absurd z kn3, kc, kq, kl, k8⟩
    · unfold sgO2
      rw [u0, u2, u3, u4, u5, u7, u8, u9, x]
      exact ⟨o1, oq, fun _ z => by omega, fun _ z => absurd z o5'.1, fun z => absurd rfl z, fun z => ⟨(o6 z).1, by omega⟩, ⟨by omega, by omega⟩, o8, o9, o10⟩
  rw [if_neg c220] at e
  split at e
  · cases e
  · have := Sum.inr.inj e
    subst this
    obtain ⟨r1, r2, r3⟩ := ok_n (s' := (uG s1.1 0 c.2.2.1, s1.2)) ⟨k1, k3, k6, k6b, k7, kc, kq, kl, k8⟩ ⟨o1, oq, o3, o4, o5, o6, o7, o8, o9, o10⟩ (fun k a b _ => (uG_n _ _ a).trans (v1 k a b)) (by show uG s1.1 0 c.2.2.1 1 < 65536; rw [uG_n _ _ (by decide), v1 1 (by decide) (by decide)]; exact k1) (by show 4 * uG s1.1 0 c.2.2.1 2 + 2 ≤ uG s1.1 0 c.2.2.1 0; rw [uG_s, uG_n _ _ (by decide), v12]; omega) (by show 10 * s.1 8 + 2 ≤ uG s1.1 0 c.2.2.1 0; rw [uG_s]; omega) (by show ∀ i, s1.2.1 i ≤ 255; rw [w1]; exact kq) (by show ∀ t k, k < 64 → s1.2.1 (64 * t) ≠ 0 → s1.2.1 (64 * t + k) ≠ 0; rw [w1]; exact o9) (by show TOk s1.2.2.1; rw [w1]; exact o8) (by show s1.2.2.2 = _; rw [w1])
    exact ⟨r1, r2, r3, by show pm + 2 ≤ uG s1.1 0 c.2.2.1 0; rw [uG_s]; omega⟩
end
