/-! a scan's data, and its row, by the reference -/
theorem bad_d {D : Nat → Nat} {e : Nat} : sgBad D e ∨ ¬ sgBad D e := Classical.em _
section
variable {X : px_X} {b B : Nat} {w0 w1 : px_W} {y y' z z' : rg_S} {c : sgC} {p i n nn L kd K iv : Nat} {f : sgF} {s : sgS} {D : Nat → Nat} {A1 : Int32}
theorem m_d4_0 {A2 A3 : Int32} {M : Nat} (h : ftY y f) : fX14_readData_4 X (M + 1) (b + 4) A1 A2 A3 (rg_p lM b w0 y) = fX14_readData_142 X (b + 4) A1 A2 (rg_p lM b w0 y) := by
  rw [fX14_readData_4.eq_2]
  exact ei_c (fun _ => rfl) (fun _ => ob_v (rg_I rfl rfl) (ei_n h.n rfl))
theorem m_dt (hiv : iv < 65536) : ∀ (r p t M : Nat) (y : rg_S), L < p + r → r + 5 < M → t ≤ p → fpY y D L p → y.1 4 20 = nI iv → ∃ A2 y', FYq y y' ∧ fX14_readData_4 X M (b + 4) A1 (nI t) 1 (rg_p lM b w0 y) = fX14_readData_142 X (b + 4) A1 A2 (rg_p lM b w0 y') ∧ ((∃ f, sgDt D L iv r p t = .inl f ∧ ftY y' f) ∨ (∃ e, sgDt D L iv r p t = .inr e ∧ sgBad D e ∧ ftY y' (4, e + 1)) ∨ ∃ e, sgDt D L iv r p t = .inr e ∧ ¬ sgBad D e ∧ fpY y' D L (e + 2)) := by
  intro r
  induction r with
  | zero =>
    intro p t M y hr _ _ h
    have := h.2.2.2.2.1.2
    omega
  | succ r ih =>
    intro p t M y hr hM ht h h20
    obtain ⟨M, rfl⟩ : ∃ M', M = M' + 1 := ⟨M - 1, by omega⟩
    obtain ⟨M0, hM0⟩ : ∃ M', M = M' + 1 := ⟨M - 1, by omega⟩
    have hL := h.2.2.2.2.1
    obtain ⟨v1, y1, e1, F1, o1⟩ := m_nf (X := X) (b := b) (w0 := w0) h
    have start : ∀ z, (if y1.1 4 4 = 0 then (if v1 = 255 then (fX14_next X (rg_p lM b w0 y1) (b + 4)).bind fun q62 => if q62.1 < 208 then fX14_readData_62 X (fX14_readData_4 X M) (b + 4) A1 (nI t) q62.1 q62.2 else if 215 < q62.1 then fX14_readData_62 X (fX14_readData_4 X M) (b + 4) A1 (nI t) q62.1 q62.2 else fX14_readData_63 X (fX14_readData_4 X M) (b + 4) A1 (nI t) q62.1 1 q62.2 else fX14_readData_4 X M (b + 4) A1 (nI t) 1 (rg_p lM b w0 y1)) else fX14_readData_4 X M (b + 4) A1 (nI t) 1 (rg_p lM b w0 y1)) = z → fX14_readData_4 X (M + 1) (b + 4) A1 (nI t) 1 (rg_p lM b w0 y) = z := by
      intro z hz
      rw [fX14_readData_4.eq_2]
      refine ei_n (by decide) (ob_v (rg_I rfl rfl) (ei_t h.2.1 (ob_v (rg_O rfl) (ob_v e1 (ob_v (rg_I rfl rfl) ?_)))))
      by_cases c1 : y1.1 4 4 = 0
      · rw [if_pos c1] at hz
        refine ei_t c1 ?_
        by_cases c2 : v1 = 255
        · rw [if_pos c2] at hz
          exact ei_t c2 (ob_v (rg_O rfl) hz)
        · rw [if_neg c2] at hz
          exact ei_n c2 hz
      · rw [if_neg c1] at hz
        exact ei_n c1 hz
    have i1 : y1.1 4 20 = nI iv := by rw [F1.1 _ _ (by omega)]; exact h20
    unfold sgDt
    rcases o1 with ⟨a1, a2, a3⟩ | ⟨a1, a2, a3⟩
    · rw [if_pos (by omega)]
      refine ⟨nI t, y1, F1, start _ (ei_n a3.n ?_), Or.inl ⟨_, rfl, a3⟩⟩
      rw [hM0]
      exact m_d4_0 a3
    have hD := (h.2.2.2.2.2 p a1).2
    by_cases d : D p = 255
    · rw [a2, d] at start
      obtain ⟨v2, y2, e2, F2, o2⟩ := m_nf (X := X) (b := b) (w0 := w0) a3
      have start2 : ∀ z, (if v2 < 208 then fX14_readData_62 X (fX14_readData_4 X M) (b + 4) A1 (nI t) v2 (rg_p lM b w0 y2) else if 215 < v2 then fX14_readData_62 X (fX14_readData_4 X M) (b + 4) A1 (nI t) v2 (rg_p lM b w0 y2) else fX14_readData_63 X (fX14_readData_4 X M) (b + 4) A1 (nI t) v2 1 (rg_p lM b w0 y2)) = z → fX14_readData_4 X (M + 1) (b + 4) A1 (nI t) 1 (rg_p lM b w0 y) = z := fun z hz => start _ (ei_t a3.2.1 (ei_t rfl (ob_v e2 hz)))
      rcases o2 with ⟨c1, c2, c3⟩ | ⟨c1, c2, c3⟩
      · rw [if_pos c1]
        refine ⟨nI t + 0, y2, F1.trans F2, start2 _ (ei_t (by rw [c2]; decide) ?_), Or.inl ⟨_, rfl, c3⟩⟩
        unfold fX14_readData_62 fX14_readData_63
        refine ob_v (rg_I rfl rfl) (ei_n c3.n ?_)
        unfold fX14_readData_110
        refine ei_t rfl ?_
        unfold fX14_readData_121
        refine ei_t c2 ?_
        unfold fX14_readData_133 fX14_readData_138 fX14_readData_139
        rw [hM0]
        exact m_d4_0 c3
      rw [if_neg (by omega), if_neg (by omega)]
      have hD2 := (h.2.2.2.2.2 (p + 1) c1).2
      have i2 : y2.1 4 20 = nI iv := by rw [F2.1 _ _ (by omega)]; exact i1
      by_cases d0 : D (p + 1) = 0
      · rw [if_pos d0]
        obtain ⟨A2, y3, F3, e3, o3⟩ := ih (p + 2) t M y2 (by omega) (by omega) (by omega) c3 i2
        refine ⟨A2, y3, (F1.trans F2).trans F3, start2 _ (ei_t (by rw [c2, d0]; decide) (Eq.trans ?_ e3)), o3⟩
        unfold fX14_readData_62 fX14_readData_63
        refine ob_v (rg_I rfl rfl) (ei_t c3.2.1 (ei_t rfl ?_))
        unfold fX14_readData_110
        refine ei_t rfl ?_
        unfold fX14_readData_121
        refine ei_t (by rw [c2, d0]; rfl) ?_
        unfold fX14_readData_133 fX14_readData_138 fX14_readData_139
        rw [Int32.add_zero]
      rw [if_neg d0]
      have nv0 : ¬ v2 = 0 := by rw [c2]; exact nI_ne0 (by omega) (by omega)
      by_cases rs : 208 ≤ D (p + 1) ∧ D (p + 1) ≤ 215
      · -- a restart
        have start3 : ∀ z, fX14_readData_63 X (fX14_readData_4 X M) (b + 4) A1 (nI t) v2 1 (rg_p lM b w0 y2) = z → fX14_readData_4 X (M + 1) (b + 4) A1 (nI t) 1 (rg_p lM b w0 y) = z := fun z hz => start2 _ (ei_n (by rw [c2]; exact nI_nlt (b := 208) rs.1 (by omega)) (ei_n (by rw [c2]; exact nI_nlt (a := 215) rs.2 (by omega)) hz))
        have rm : rI (nI t) 8 = some (nI (t % 8)) := rI_n (a := t) (d := 8) (by omega) (by omega) (by omega)
        by_cases due : 0 < iv ∧ D (p + 1) = 208 + t % 8
        · rw [if_pos due]
          obtain ⟨A2, y3, F3, e3, o3⟩ := ih (p + 2) (t + 1) M y2 (by omega) (by omega) (by omega) c3 i2
          refine ⟨A2, y3, (F1.trans F2).trans F3, start3 _ (Eq.trans ?_ e3), o3⟩
          unfold fX14_readData_63
          refine ob_v (rg_I rfl rfl) (ei_t c3.2.1 (ei_n (by decide) (ob_v (rg_I rfl rfl) ?_)))
          rw [i2]
          refine ei_n (nI_ne0 (by omega) (by omega)) (ob_v rm (ei_t ?_ ?_))
          · rw [c2, due.2, show (208 : Int32) = nI 208 from rfl, nI_add]
          unfold fX14_readData_110
          refine ei_n (by decide) ?_
          unfold fX14_readData_121
          refine ei_n nv0 (ei_n (by decide) ?_)
          unfold fX14_readData_133 fX14_readData_138 fX14_readData_139
          rw [nI_1]
        · rw [if_neg due]
          obtain ⟨y3, e3, F3, f1, f2⟩ := m_sw (X := X) (b := b) (w0 := w0) (y := y2) (f := 4) (q := p + 1) c3.2.1
          have ft : ftY y3 (4, p + 1) := ftY.i f1 f2 (by decide) (by decide) (by omega)
          have e97 : ∀ z, fX14_readData_142 X (b + 4) A1 (nI t + 1) (rg_p lM b w0 y3) = z → fX14_readData_97 X (fX14_readData_4 X M) (b + 4) A1 (nI t) v2 1 (rg_p lM b w0 y2) = z := by
            intro z hz
            unfold fX14_readData_97
            refine ob_v (rg_I rfl rfl) (ob_v (rg_O rfl) ?_)
            rw [c3.1, show nI (p + 2) - 1 = nI (p + 1) from pk_sub (a := p + 2) (b := 1) (by omega)]
            refine ob_v e3 ?_
            unfold fX14_readData_110
            refine ei_n (by decide) ?_
            unfold fX14_readData_121
            refine ei_n nv0 (ei_n (by decide) ?_)
            unfold fX14_readData_133 fX14_readData_138 fX14_readData_139
            rw [hM0]
            exact (m_d4_0 ft).trans hz
          refine ⟨nI t + 1, y3, (F1.trans F2).trans F3, start3 _ ?_, Or.inr (Or.inl ⟨p, rfl, rs, ft⟩)⟩
          unfold fX14_readData_63
          refine ob_v (rg_I rfl rfl) (ei_t c3.2.1 (ei_n (by decide) (ob_v (rg_I rfl rfl) ?_)))
          rw [i2]
          by_cases iz : iv = 0
          · exact ei_t (by rw [iz]; rfl) (e97 _ rfl)
          · refine ei_n (nI_ne0 (by omega) (by omega)) (ob_v rm (ei_n ?_ (e97 _ rfl)))
            rw [c2, show (208 : Int32) = nI 208 from rfl, nI_add]
            exact fun e => due ⟨by omega, (nI_eq (by omega) (by omega)).mp e⟩
      · -- another marker
        rw [if_neg (fun e => rs (by have := e.2; omega))]
        have e62 : ∀ z, fX14_readData_142 X (b + 4) A1 (nI t + 0) (rg_p lM b w0 y2) = z → fX14_readData_62 X (fX14_readData_4 X M) (b + 4) A1 (nI t) v2 (rg_p lM b w0 y2) = z := by
          intro z hz
          unfold fX14_readData_62 fX14_readData_63
          refine ob_v (rg_I rfl rfl) (ei_t c3.2.1 (ei_t rfl ?_))
          unfold fX14_readData_110
          refine ei_t rfl ?_
          unfold fX14_readData_121
          refine ei_n nv0 (ei_t rfl ?_)
          unfold fX14_readData_138 fX14_readData_139
          rw [hM0, fX14_readData_4.eq_2]
          exact ei_t rfl hz
        refine ⟨nI t + 0, y2, F1.trans F2, start2 _ ?_, Or.inr (Or.inr ⟨p, rfl, rs, c3⟩)⟩
        rw [c2] at e62 ⊢
        by_cases l : D (p + 1) < 208
        · exact ei_t (nI_lt (b := 208) l (by omega)) (e62 _ rfl)
        · exact ei_n (nI_nlt (b := 208) (by omega) (by omega)) (ei_t (nI_lt (a := 215) (by omega) (by omega)) (e62 _ rfl))
    · have nd : ¬ v1 = 255 := by rw [a2]; exact fun e => d ((nI_eq (b := 255) (by omega) (by omega)).mp e)
      by_cases c1 : L ≤ p + 1
      · rw [if_pos c1]
        obtain ⟨v2, y2, e2, F2, o2⟩ := m_nf (X := X) (b := b) (w0 := w0) a3
        rcases o2 with ⟨c1', c2, c3⟩ | ⟨c1', _⟩
        · refine ⟨nI t, y2, F1.trans F2, start _ (ei_t a3.2.1 (ei_n nd ?_)), Or.inl ⟨_, rfl, c3⟩⟩
          obtain ⟨M1, hM1⟩ : ∃ M', M0 = M' + 1 := ⟨M0 - 1, by omega⟩
          rw [hM0, fX14_readData_4.eq_2]
          refine ei_n (by decide) (ob_v (rg_I rfl rfl) (ei_t a3.2.1 (ob_v (rg_O rfl) (ob_v e2 (ob_v (rg_I rfl rfl) (ei_n c3.n ?_))))))
          unfold fX14_readData_139
          rw [hM1]
          exact m_d4_0 c3
        · omega
      · rw [if_neg c1, if_pos d]
        obtain ⟨A2, y3, F3, e3, o3⟩ := ih (p + 1) t M y1 (by omega) (by omega) (by omega) a3 i1
        exact ⟨A2, y3, F1.trans F3, start _ (ei_t a3.2.1 (ei_n nd e3)), o3⟩
def FYd (y y' : rg_S) : Prop := (∀ p k, ¬ (p = 4 ∧ (4 ≤ k ∧ k ≤ 6 ∨ k = 27)) → y'.1 p k = y.1 p k) ∧ y'.2.1 = y.2.1 ∧ (∀ a, a ≠ 17 → y'.2.2.1 a = y.2.2.1 a) ∧ y'.2.2.2 = y.2.2.2
theorem FYd.g {y y' : rg_S} (h : FYd y y') : FYg y y' := ⟨fun p k a => h.1 p k (by omega), ⟨h.1 _ _ (by omega), h.1 _ _ (by omega)⟩, h.2.1, fun a e => h.2.2.1 a (by omega), h.2.2.2⟩
theorem m_rdt {k : Nat} (hiv : iv < 65536) (hK : K + 7 < 61440) (h : fpY y D L p) (h20 : y.1 4 20 = nI iv) (h27 : y.1 4 27 = nI k) (h17 : y.2.2.1 17 (K + 5) = nI p) : ∃ y', fX14_readData X (rg_p lM b w0 y) (b + 4) (nI K) = some (rg_p lM b w0 y') ∧ FYd y y' ∧ ((∃ f, sgDt D L iv (L + 1) p 0 = .inl f ∧ ftY y' f) ∨ (∃ e, sgDt D L iv (L + 1) p 0 = .inr e ∧ sgBad D e ∧ ftY y' (4, e + 1)) ∨ ∃ e, sgDt D L iv (L + 1) p 0 = .inr e ∧ ¬ sgBad D e ∧ fpY y' D L e ∧ y'.1 4 27 = nI (k + 1) ∧ y'.2.2.1 17 (K + 6) = nI (e - p) ∧ ∀ j, j ≠ K + 6 → j ≠ K + 7 → y'.2.2.1 17 j = y.2.2.1 17 j) := by
  obtain ⟨A2, y1, F1, e1, o1⟩ := m_dt (X := X) (b := b) (w0 := w0) (A1 := nI K) (D := D) (L := L) hiv (L + 1) p 0 FU y (by omega) (by unfold FU; have := h.2.2.2.2.1; omega) (by omega) h h20
  have hL := h.2.2.2.2.1
  have e163 : ∀ (v : Int32), fX14_readData_163 X (b + 4) (nI K) A2 v (b + 4) (rg_p lM b w0 y1) = some (rg_p lM b w0 (rg_wI (wRa (wRa (rg_wI y1 4 6 v) 17 (K + 6) (v - nI p)) 17 (K + 7) A2) 4 27 (nI (k + 1)))) := by
    intro v
    unfold fX14_readData_163
    rw [show nI K + 5 = nI (K + 5) from nI_add _ 5, show nI K + 6 = nI (K + 6) from nI_add _ 6, show nI K + 7 = nI (K + 7) from nI_add _ 7]
    refine ob_v (rg_pI rfl rfl _) (ob_v (rg_C rfl rfl) (ob_v (rg_I rfl rfl) (ob_v (rg_C rfl rfl) (ob_v (rg_A rfl (by decide) _ (by omega) (by decide)) ?_))))
    rw [wI_s, wI_2, F1.2, h17]
    refine ob_v (rg_sA _ rfl (by decide) _ _ (by omega) (by decide)) (ob_v (rg_C rfl rfl) (ob_v (rg_sA _ rfl (by decide) _ _ (by omega) (by decide)) (ob_v (rg_I rfl rfl) ?_)))
    rw [wA_1, wA_1, wI_n _ _ (by omega), F1.1 _ _ (by omega), h27, nI_1]
    exact ob_v (rg_pI rfl rfl _) rfl
  have fr : ∀ (v : Int32), FYd y (rg_wI (wRa (wRa (rg_wI y1 4 6 v) 17 (K + 6) (v - nI p)) 17 (K + 7) A2) 4 27 (nI (k + 1))) := by
    intro v
    refine ⟨fun q j a => ?_, ?_, fun a ha => ?_, ?_⟩
    · rw [wI_n _ _ (by omega), wRa_1, wRa_1, wI_n _ _ (by omega), F1.1 _ _ (by omega)]
    · show y1.2.1 = y.2.1
      rw [F1.2]
    · rw [wI_2, wRa_n ha, wRa_n ha, wI_2, F1.2]
    · show y1.2.2.2 = y.2.2.2
      rw [F1.2]
  have st : ∀ z, fX14_readData_142 X (b + 4) (nI K) A2 (rg_p lM b w0 y1) = z → fX14_readData X (rg_p lM b w0 y) (b + 4) (nI K) = z := by
    intro z hz
    unfold fX14_readData
    exact e1.trans hz
  have ftw : ∀ (v : Int32) (f : sgF), ftY y1 f → ftY (rg_wI (wRa (wRa (rg_wI y1 4 6 v) 17 (K + 6) (v - nI p)) 17 (K + 7) A2) 4 27 (nI (k + 1))) f := by
    intro v f hf
    refine ftY.wi ?_ (by omega)
    exact (hf.wi (k := 6) (by omega)).w.w
  have bad : ∀ (f : sgF), ftY y1 f → fX14_readData X (rg_p lM b w0 y) (b + 4) (nI K) = some (rg_p lM b w0 (rg_wI (wRa (wRa (rg_wI y1 4 6 (y1.1 4 6)) 17 (K + 6) (y1.1 4 6 - nI p)) 17 (K + 7) A2) 4 27 (nI (k + 1)))) := by
    intro f hf
    refine st _ ?_
    unfold fX14_readData_142
    exact ob_v (rg_I rfl rfl) (ei_n hf.n (ob_v (rg_I rfl rfl) (e163 _)))
  rcases o1 with ⟨f, r1, r2⟩ | ⟨e, r1, r2, r3⟩ | ⟨e, r1, r2, r3⟩
  · exact ⟨_, bad f r2, fr _, Or.inl ⟨f, r1, ftw _ _ r2⟩⟩
  · exact ⟨_, bad _ r3, fr _, Or.inr (Or.inl ⟨e, r1, r2, ftw _ _ r3⟩)⟩
  · obtain ⟨g1, g2, _, _⟩ := sgDt_p _ _ _ r1
    refine ⟨_, st _ (?_ : _ = some (rg_p lM b w0 (rg_wI (wRa (wRa (rg_wI y1 4 6 (nI e)) 17 (K + 6) (nI e - nI p)) 17 (K + 7) A2) 4 27 (nI (k + 1))))), fr _, Or.inr (Or.inr ⟨e, r1, r2, ?_, wI_s _ _ _ _, ?_, ?_⟩)⟩
    · unfold fX14_readData_142
      refine ob_v (rg_I rfl rfl) (ei_t r3.2.1 (ob_v (rg_I rfl rfl) ?_))
      rw [r3.1, show nI (e + 2) - 2 = nI e from pk_sub (a := e + 2) (b := 2) (by omega)]
      exact e163 _
    · obtain ⟨_, b4, b7, b1, b5, b9⟩ := r3
      refine ⟨?_, ?_, ?_, ?_, ⟨hL.1, by omega, by rw [wI_n _ _ (by omega), wRa_1, wRa_1, wI_n _ _ (by omega)]; exact b5.2.2⟩, ?_⟩
      · rw [wI_n _ _ (by omega), wRa_1, wRa_1, wI_s]
      · rw [wI_n _ _ (by omega), wRa_1, wRa_1, wI_n _ _ (by omega)]; exact b4
      · rw [wI_n _ _ (by omega), wRa_1, wRa_1, wI_n _ _ (by omega)]; exact b7
      · rw [wI_n _ _ (by omega), wRa_1, wRa_1, wI_n _ _ (by omega)]; exact b1
      · rw [wI_2, wRa_n (by decide), wRa_n (by decide), wI_2]; exact b9
    · rw [wI_2, wRa_s, if_neg (by omega), wRa_s, if_pos rfl, pk_sub g1]
    · intro j h1 h2
      rw [wI_2, wRa_s, if_neg h2, wRa_s, if_neg h1, wI_2, F1.2]
end
