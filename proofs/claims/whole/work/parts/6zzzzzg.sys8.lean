/-! a scan's segment with its data, by the reference -/
section
variable {X : px_X} {b B : Nat} {w0 w1 : px_W} {y y' z z' : rg_S} {c : sgC} {p i n nn L kd K iv fi la bf bb fr code : Nat} {f : sgF} {s : sgS} {D : Nat → Nat} {A1 : Int32} {mb : sg4}
theorem sTl_e : ∃ v, sTl b (rg_p lM b w0 y) = some (v, rg_p lM b w0 y) := by
  unfold sTl
  by_cases h : y.1 4 14 = 0
  · by_cases h2 : y.1 4 27 = 1
    · exact ⟨1, ob_v (rg_I rfl rfl) (ei_t h (ob_v (rg_I rfl rfl) (ei_t h2 rfl)))⟩
    · exact ⟨0, ob_v (rg_I rfl rfl) (ei_t h (ob_v (rg_I rfl rfl) (ei_n h2 rfl)))⟩
  · exact ⟨0, ob_v (rg_I rfl rfl) (ei_n h rfl)⟩
theorem m_sg8 (hp : fpY y D L (s.1 0)) (hs : fsY y s) (ok : sgOk s) (hsq : s.1 3 ≠ 194 → ∀ cc j, j < 64 → s.2.2.2.1 (64 * cc) = 0 → s.2.2.2.1 (64 * cc + j) = 0) (k0 : s.1 3 ≠ 0) (k4 : 4 * s.1 2 + 2 ≤ s.1 0) (k10 : 10 * s.1 8 + 2 ≤ s.1 0) : (∃ f y' v, sgSg D L 218 s = .inl f ∧ FYg y y' ∧ ftY y' f ∧ fX14_segment X (rg_p lM b w0 y) (b + 4) (nI 218) = some (v, rg_p lM b w0 y')) ∨ (∃ s2 y' v, sgSg D L 218 s = .inr s2 ∧ sgBad D (s2.1 0) ∧ FYg y y' ∧ ftY y' (4, s2.1 0 + 1) ∧ fX14_segment X (rg_p lM b w0 y) (b + 4) (nI 218) = some (v, rg_p lM b w0 y')) ∨ ∃ s2 y', sgSg D L 218 s = .inr s2 ∧ ¬ sgBad D (s2.1 0) ∧ FYg y y' ∧ fpY y' D L (s2.1 0) ∧ fsY y' s2 ∧ scR y' (30 * s.1 8) (s2.1 10) (s2.1 11) (s2.1 12) (s2.1 13) (s2.1 14) (s2.1 15) (s2.1 1) ∧ scM y' (30 * s.1 8) s2.2.2.2.2.2.1 (s2.1 10) ∧ y'.2.2.1 17 (30 * s.1 8 + 6) = nI (s2.1 16 - s2.1 15) ∧ (s2.1 7 ≠ 0 → s2.1 8 = 1) ∧ fX14_segment X (rg_p lM b w0 y) (b + 4) (nI 218) = (kTl X b (nI (30 * s.1 8)) (rg_p lM b w0 y')).bind (sTl b) := by
  have hL := hp.2.2.2.2.1
  have hD := hp.2.2.2.2.2
  rw [sgSg_e]
  generalize hpm : s.1 0 = p at *
  obtain ⟨y1, F1, o1⟩ := m_seg (X := X) (b := b) (w0 := w0) hp
  rcases o1 with ⟨a1, a2, a3⟩ | ⟨a1, a2, a3, a4⟩ | ⟨a1, a2, kk, start⟩
  · rw [if_pos a1]
    exact Or.inl ⟨_, y1, 0, rfl, F1.g, a2, a3 _⟩
  · rw [if_neg (by omega), if_pos a2]
    exact Or.inl ⟨_, y1, 0, rfl, F1.g, a3, a4 _⟩
  rw [if_neg (by omega), if_neg (by omega)]
  generalize hn : 256 * D p + D (p + 1) = n at *
  generalize hcc : ((D, L, p + n, p) : sgC) = c at *
  have cD : c.1 = D ∧ c.2.1 = L ∧ c.2.2.1 = p + n ∧ c.2.2.2 = p := by rw [← hcc]; exact ⟨rfl, rfl, rfl, rfl⟩
  have fs1 : fsY y1 s := hs.k F1
  have kb := kk.2.2.2.2.2.1
  have k4' : 4 * s.1 2 + 3 < 16384 := by omega
  unfold sgBy
  rw [if_neg (by decide), if_neg (by decide), if_neg (by decide), if_neg (by decide), if_pos rfl, sgSc_1, sgB_B]
  obtain ⟨y2, e2, F2, o2⟩ := m_sc (X := X) (b := b) (w0 := w0) fs1 ok hsq k0 kk
  have st : ∀ z, fX14_segment_161 X (b + 4) (nI 218) (rg_p lM b w0 y2) = z → fX14_segment X (rg_p lM b w0 y) (b + 4) (nI 218) = z := by
    intro z hz
    refine start _ _ ?_
    unfold sgD
    exact ei_n (by decide) (ei_n (by decide) (ei_n (by decide) (ei_n (by decide) (ei_n (by decide) (ei_t rfl (ob_v (rg_O rfl) (ob_v e2 hz)))))))
  have es : sgSc1 c (uG s.1 2 (s.1 2 + 1), s.2) (p + 2) = sgSc1 c s (p + 2) := rfl
  rw [es]
  rcases o2 with ⟨f, r1, r2⟩ | ⟨a, r1, S2, k2, ⟨i30, i37, i38, i39, i40⟩, m2, nn4, mok, ⟨u1, u2, u3⟩, pl⟩
  · rw [r1]
    obtain ⟨y3, e3, F3, f3⟩ := m_161f (X := X) (b := b) (w0 := w0) (A := nI 218) r2
    exact Or.inl ⟨f, y3, 0, rfl, F1.g.trans (F2.trans F3), f3, st _ e3⟩
  rw [r1]
  obtain ⟨nn, mb, fi, la, bf, bb, p3⟩ := a
  have i30 : y2.1 4 30 = nI nn := i30
  have i37 : y2.1 4 37 = nI fi := i37
  have i38 : y2.1 4 38 = nI la := i38
  have i39 : y2.1 4 39 = nI bf := i39
  have i40 : y2.1 4 40 = nI bb := i40
  have m2 : mmY y2 nn mb := m2
  have k2 : kY y2 c p3 := k2
  have u1 : fi ≤ la := u1
  have u2 : la ≤ 63 := u2
  have u3 : bb ≤ 13 := u3
  have nn4 : 1 ≤ nn ∧ nn ≤ 4 := nn4
  have mok : mmOk (s.1 6) s.2.2.2.2.1 mb nn := mok
  have pl : p + 2 + 6 ≤ p3 := pl
  generalize hs1 : ((uG s.1 2 (s.1 2 + 1), s.2) : sgS) = s1
  have w1 : s1.2 = s.2 := by rw [← hs1]
  have v1 : ∀ k, k ≠ 2 → s1.1 k = s.1 k := by
    intro k h
    rw [← hs1]
    exact uG_n _ _ h
  have v2 : s1.1 2 = s.1 2 + 1 := by rw [← hs1]; rfl
  generalize ha : (nn, mb, fi, la, bf, bb, p3) = a
  show (∃ f y' v, sgB (sgE c a.2.2.2.2.2.2 (sgSt s1 a)) _ = .inl f ∧ _) ∨ (∃ s2 y' v, sgB (sgE c a.2.2.2.2.2.2 (sgSt s1 a)) _ = .inr s2 ∧ _) ∨ ∃ s2 y', sgB (sgE c a.2.2.2.2.2.2 (sgSt s1 a)) _ = .inr s2 ∧ _
  have a7 : a.2.2.2.2.2.2 = p3 := by rw [← ha]
  rw [a7]
  unfold sgE
  by_cases pe : p3 = c.2.2.1
  · rw [if_pos pe]
    show (∃ f y' v, sgB (sgDt c.1 c.2.1 (s1.1 1) (c.2.1 + 1) ((sgSt s1 a).1 0) 0) (fun e => (.inr (sgEd (sgSt s1 a) e) : sgF ⊕ sgS)) = .inl f ∧ _) ∨ (∃ s2 y' v, sgB (sgDt c.1 c.2.1 (s1.1 1) (c.2.1 + 1) ((sgSt s1 a).1 0) 0) (fun e => (.inr (sgEd (sgSt s1 a) e) : sgF ⊕ sgS)) = .inr s2 ∧ _) ∨ ∃ s2 y', sgB (sgDt c.1 c.2.1 (s1.1 1) (c.2.1 + 1) ((sgSt s1 a).1 0) 0) (fun e => (.inr (sgEd (sgSt s1 a) e) : sgF ⊕ sgS)) = .inr s2 ∧ _
    have a0 : (sgSt s1 a).1 0 = p3 := a7
    rw [cD.1, cD.2.1, a0, v1 1 (by omega)]
    obtain ⟨y3, e3, F3, g1, g2, g3, g4⟩ := m_cl1 (X := X) (b := b) (w0 := w0) (A1 := nI 218) (k := s.1 2) (by rw [← pe]; exact k2) (by rw [S2.1 _ _ (by omega)]; exact fs1.2.1) k4'
    rw [cD.1, cD.2.1, ← pe] at g1
    have gi : ∀ j, j ≠ 7 → j ≠ 10 → ¬ (4 ≤ j ∧ j ≤ 6 ∨ j = 30 ∨ 37 ≤ j ∧ j ≤ 40) → y3.1 4 j = y1.1 4 j := fun j h1 h2 h3 => by rw [g3 j h1 h2, S2.1 _ _ (by omega)]
    have ga : ∀ j, j ≠ 6 → ¬ (19 ≤ j ∧ j ≤ 22) → y3.2.2.1 j = y1.2.2.1 j := fun j h1 h2 => by rw [g4 j h1, S2.2.2.1 j h2]
    obtain ⟨h1, h2, h3, h4, h5, h6, h7, h8, h9, h10⟩ := fs1
    obtain ⟨y4, e4, F4, o4⟩ := m_keepS (X := X) (b := b) (w0 := w0) (s := s1) (y := y3) (k := s.1 8) (iv := s.1 1) (nn := nn) (mb := mb) (fi := fi) (la := la) (bf := bf) (bb := bb) ok.1 (by omega) nn4.2 u1 u2 u3 (fun i hi => by have := (mok.1 i hi).1; have := ok.2.2.1; omega) g1 (by rw [gi _ (by omega) (by omega) (by omega)]; exact h1) (by rw [gi _ (by omega) (by omega) (by omega)]; exact h6) (by rw [g3 _ (by omega) (by omega)]; exact i30) (by rw [g3 _ (by omega) (by omega)]; exact i37) (by rw [g3 _ (by omega) (by omega)]; exact i38) (by rw [g3 _ (by omega) (by omega)]; exact i39) (by rw [g3 _ (by omega) (by omega)]; exact i40) (by
      unfold mmY
      rw [g4 19 (by omega), g4 20 (by omega), g4 21 (by omega), g4 22 (by omega)]
      exact m2) (by
      unfold laY
      rw [w1, ga 18 (by omega) (by omega)]
      exact h9)
    have st2 : ∀ z, (kTl X b (nI (30 * s.1 8)) (rg_p lM b w0 y4)).bind (sTl b) = z → fX14_segment X (rg_p lM b w0 y) (b + 4) (nI 218) = z := by
      intro z hz
      refine st _ ?_
      unfold fX14_segment_161
      refine ob_v (rg_O rfl) (ob_v e3 (ei_t rfl (ob_v (rg_I rfl rfl) (ei_t g1.2.1 (ob_v (rg_O rfl) ?_)))))
      rw [e4]
      exact hz
    have Fall : FYg y y4 := F1.g.trans (F2.trans (F3.trans F4))
    rcases o4 with ⟨f, t1, t2⟩ | ⟨e, t1, t2, t3⟩ | ⟨e, t1, t2, t3, t4, t5, t6, t7, t8, t9, t10⟩
    · rw [t1]
      obtain ⟨v, hv⟩ := sTl_e (b := b) (w0 := w0) (y := y4)
      exact Or.inl ⟨f, y4, v, rfl, Fall, t2, st2 _ (ob_v (kTl_f t2) hv)⟩
    · rw [t1]
      obtain ⟨v, hv⟩ := sTl_e (b := b) (w0 := w0) (y := y4)
      exact Or.inr (Or.inl ⟨_, y4, v, rfl, t2, Fall, t3, st2 _ (ob_v (kTl_f t3) hv)⟩)
    · rw [t1]
      refine Or.inr (Or.inr ⟨_, y4, rfl, t2, Fall, t3, ?_, ?_, ?_, ?_, ?_, st2 _ rfl⟩)
      · have gj : ∀ j, j ≠ 7 → j ≠ 10 → j ≠ 27 → ¬ (4 ≤ j ∧ j ≤ 6 ∨ j = 30 ∨ 37 ≤ j ∧ j ≤ 40) → y4.1 4 j = y1.1 4 j := fun j h1 h2 h3 h4 => by rw [t5 j (by omega) h3, gi j h1 h2 h4]
        have gb : ∀ j, j ≠ 6 → j ≠ 17 → j ≠ 18 → ¬ (19 ≤ j ∧ j ≤ 22) → y4.2.2.1 j = y1.2.2.1 j := fun j h1 h2 h3 h4 => by rw [t6 j h2 h3, ga j h1 h4]
        rw [← ha]
        refine ⟨?_, ?_, ?_, ?_, ?_, ?_, ?_, ?_, ?_, ?_⟩
        · rw [gj _ (by omega) (by omega) (by omega) (by omega), h1]
          show nI (s.1 1) = nI (s1.1 1)
          rw [v1 1 (by omega)]
        · rw [t5 10 (by omega) (by omega), g2]
          show nI (s.1 2 + 1) = nI (s1.1 2)
          rw [v2]
        · rw [gj _ (by omega) (by omega) (by omega) (by omega), h3]
          show nI (s.1 3) = nI (s1.1 3)
          rw [v1 3 (by omega)]
        · intro z
          have z' : s1.1 3 ≠ 0 := z
          rw [v1 3 (by omega)] at z'
          rw [gj _ (by omega) (by omega) (by omega) (by omega), gj _ (by omega) (by omega) (by omega) (by omega), (h4 z').1, (h4 z').2]
          show nI (s.1 4) = nI (s1.1 4) ∧ nI (s.1 5) = nI (s1.1 5)
          rw [v1 4 (by omega), v1 5 (by omega)]
          exact ⟨rfl, rfl⟩
        · rw [gj _ (by omega) (by omega) (by omega) (by omega), h5]
          show nI (s.1 6) = nI (s1.1 6)
          rw [v1 6 (by omega)]
        · rw [t4]
          show nI (s.1 8 + 1) = nI (s1.1 8 + 1)
          rw [v1 8 (by omega)]
        · show qY y4 s1.2.1
          unfold qY
          rw [w1, gb 11 (by omega) (by omega) (by omega) (by omega), gb 12 (by omega) (by omega) (by omega) (by omega)]
          exact h7
        · show wsY y4 s1.2.2.1
          unfold wsY
          rw [w1, gb 13 (by omega) (by omega) (by omega) (by omega), gb 14 (by omega) (by omega) (by omega) (by omega), gb 15 (by omega) (by omega) (by omega) (by omega), gb 16 (by omega) (by omega) (by omega) (by omega)]
          exact h8
        · exact t7
        · show csY y4 (s1.1 6) s1.2.2.2.2.1
          unfold csY
          rw [v1 6 (by omega), w1, gb 7 (by omega) (by omega) (by omega) (by omega), gb 8 (by omega) (by omega) (by omega) (by omega), gb 9 (by omega) (by omega) (by omega) (by omega), gb 10 (by omega) (by omega) (by omega) (by omega)]
          exact h10
      · rw [← ha]
        show scR y4 (30 * s.1 8) nn fi la bf bb p3 (s1.1 1)
        rw [v1 1 (by omega)]
        exact t8
      · rw [← ha]
        exact t9
      · rw [← ha]
        exact t10
      · rw [← ha]
        show (if s1.1 9 ≠ 0 ∧ s1.1 8 = 0 then 1 else 0) ≠ 0 → s1.1 8 + 1 = 1
        intro z
        by_cases q : s1.1 9 ≠ 0 ∧ s1.1 8 = 0
        · omega
        · rw [if_neg q] at z
          exact absurd rfl z
  · rw [if_neg pe]
    obtain ⟨y3, e3, F3, f3⟩ := m_161F (X := X) (b := b) (w0 := w0) (A := nI 218) k2 pe
    exact Or.inl ⟨_, y3, 0, rfl, F1.g.trans (F2.trans F3), f3, st _ e3⟩
end
