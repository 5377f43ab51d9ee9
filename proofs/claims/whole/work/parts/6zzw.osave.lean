/-! saveAs keeps the relation -/
section
variable {X : px_X} {b B : Nat} {w0 w1 : px_W} {x y x' y' : rg_S} {o P iv s : Nat} {g : gG} {S : Nat → Int32} {Z : Nat → Int}
/-- what saving leaves alone in the class -/
def FXv (o : Nat) (x x' : rg_S) : Prop := (∀ p k, p < 105 → ¬ (p = o ∧ (k = 1 ∨ k = 2)) → x'.1 p k = x.1 p k) ∧ (∀ p k, p < 105 → x'.2.1 p k = x.2.1 p k) ∧ (∀ p, p < 105 → p ≠ o + 1 → x'.2.2.1 p = x.2.2.1 p) ∧ x'.1 195 7 = 0 ∧ x'.1 195 8 = 0 ∧ x'.1 195 10 = 0
theorem x_saveF (hst : px_st X) (So : o = 3 ∨ o = 5) (hP : isP P) (hg : gOk g) (hb : gBs g g.2.2.1 ≤ 192) (hZ : ∀ i, i < 64 * gBs g g.2.2.1 → -1024 ≤ Z i ∧ Z i ≤ 1023) (hs : s ≤ 2) (hiv : iv < 65536) (hR2 : x.2.1 0 2 = o) (hR4 : x.2.1 0 4 = P) (px : xPic x P g) (pz : ∀ i, i < 64 * gBs g g.2.2.1 → x.2.2.1 (P + 6) i = iI (Z i)) (pS : ∀ i, i < 64 * g.2.2.1 → x.2.2.1 (P + 7) i = S i) (q7 : x.1 195 7 = 0 ∧ x.1 195 8 = 0 ∧ x.1 195 10 = 0) : ∃ x', fX11_saveAs_52 X (B + 0) (nI s) (nI iv) (X.2.2.2.2.2 (s + 1)) (rg_p lX B w0 x) = (if 16384 < (filL g S Z iv s).length then some (-1, rg_p lX B w0 x') else some (nI (filL g S Z iv s).length, rg_p lX B w0 (rg_wR (rg_wR x' 0 1 o) 0 2 (x.2.1 0 1)))) ∧ xO x' o (filL g S Z iv s) ∧ FXv o x x' := by
  have hby : isBy o := Or.inr So
  have hP' := hP
  unfold isP at hP'
  generalize hx0 : rg_wI (rg_wI (rg_wR (rg_wR (rg_wI (rg_wR (rg_wR x 105 0 o) 105 1 P) 105 2 (nI iv)) 195 0 o) 195 1 P) o 1 0) o 2 0 = x0
  have i0 : ∀ p k, ¬ (p = 105 ∧ k = 2) → ¬ (p = o ∧ (k = 1 ∨ k = 2)) → x0.1 p k = x.1 p k := by
    intro p k h1 h2
    rw [← hx0, wI_n _ _ (by omega), wI_n _ _ (by omega), wR_1, wR_1, wI_n _ _ (by omega), wR_1, wR_1]
  have r0 : ∀ p k, p ≠ 105 → p ≠ 195 → x0.2.1 p k = x.2.1 p k := by
    intro p k h1 h2
    rw [← hx0]
    show (rg_wR (rg_wR (rg_wI (rg_wR (rg_wR x 105 0 o) 105 1 P) 105 2 (nI iv)) 195 0 o) 195 1 P).2.1 p k = _
    rw [wR_2, if_neg (by omega), wR_2, if_neg (by omega)]
    show (rg_wR (rg_wR x 105 0 o) 105 1 P).2.1 p k = _
    rw [wR_2, if_neg (by omega), wR_2, if_neg (by omega)]
  have ra : x0.2.1 105 0 = o := by
    rw [← hx0]
    show (rg_wR (rg_wR (rg_wI (rg_wR (rg_wR x 105 0 o) 105 1 P) 105 2 (nI iv)) 195 0 o) 195 1 P).2.1 105 0 = _
    rw [wR_2, if_neg (by omega), wR_2, if_neg (by omega)]
    show (rg_wR (rg_wR x 105 0 o) 105 1 P).2.1 105 0 = _
    rw [wR_2, if_neg (by omega), wR_2, if_pos ⟨rfl, rfl⟩]
  have rb : x0.2.1 105 1 = P := by
    rw [← hx0]
    show (rg_wR (rg_wR (rg_wI (rg_wR (rg_wR x 105 0 o) 105 1 P) 105 2 (nI iv)) 195 0 o) 195 1 P).2.1 105 1 = _
    rw [wR_2, if_neg (by omega), wR_2, if_neg (by omega)]
    show (rg_wR (rg_wR x 105 0 o) 105 1 P).2.1 105 1 = _
    rw [wR_2, if_pos ⟨rfl, rfl⟩]
  have rc : x0.2.1 195 0 = o := by
    rw [← hx0]
    show (rg_wR (rg_wR (rg_wI (rg_wR (rg_wR x 105 0 o) 105 1 P) 105 2 (nI iv)) 195 0 o) 195 1 P).2.1 195 0 = _
    rw [wR_2, if_neg (by omega), wR_2, if_pos ⟨rfl, rfl⟩]
  have rd : x0.2.1 195 1 = P := by
    rw [← hx0]
    show (rg_wR (rg_wR (rg_wI (rg_wR (rg_wR x 105 0 o) 105 1 P) 105 2 (nI iv)) 195 0 o) 195 1 P).2.1 195 1 = _
    rw [wR_2, if_pos ⟨rfl, rfl⟩]
  have i2 : x0.1 105 2 = nI iv := by rw [← hx0, wI_n _ _ (by omega), wI_n _ _ (by omega), wR_1, wR_1, wI_s]
  have a0 : x0.2.2.1 = x.2.2.1 := by rw [← hx0]; rfl
  have O0 : xO x0 o [] := by
    rw [← hx0]
    exact ⟨by rw [wI_n _ _ (by omega), wI_s]; rfl, by rw [wI_s]; rfl, fun i hi => absurd hi (Nat.not_lt_zero _)⟩
  obtain ⟨x1, e1, h1, F1⟩ := x_marker (X := X) (B := B) (w0 := w0) So ra O0 216
  have px0 : xPic x0 P g := by
    unfold xPic xFr at *
    rw [i0 P 0 (by omega) (by omega), i0 P 1 (by omega) (by omega), i0 P 2 (by omega) (by omega), i0 P 3 (by omega) (by omega), i0 P 4 (by omega) (by omega), i0 P 5 (by omega) (by omega), a0]
    exact px
  have px1 : xPic x1 P g := px0.fs So hP (F1.s So)
  have V1 : xSv x1 o P iv g Z := by
    refine ⟨by rw [F1.2.1]; exact ra, by rw [F1.2.1]; exact rb, by rw [F1.1 _ _ (by omega)]; exact i2, by rw [F1.2.1]; exact rc, by rw [F1.2.1]; exact rd, ?_, px1, fun i hi => ?_⟩
    · rw [F1.1 _ _ (by omega), F1.1 _ _ (by omega), F1.1 _ _ (by omega), i0 _ _ (by omega) (by omega), i0 _ _ (by omega) (by omega), i0 _ _ (by omega) (by omega)]
      exact q7
    · rw [F1.2.2.1 _ (by omega), a0]
      exact pz i hi
  obtain ⟨x2, e2, h2, F2⟩ := x_tellPic (X := X) (B := B) (w0 := w0) (S := S) (kind := if s = 2 then 194 else 192) So hP hg hiv V1.1 V1.2.1 V1.2.2.1 px1.1 (fun j hj => by rw [F1.2.2.1 _ (by omega), a0]; exact pS j hj) h1
  have V2 : xSv x2 o P iv g Z := V1.fu So hP (F2.s So).u (by rw [F2.1 _ _ (by omega), F2.1 _ _ (by omega), F2.1 _ _ (by omega)]; exact V1.2.2.2.2.2.1)
  have R4 : x2.2.1 0 4 = P := by rw [F2.2.1, F1.2.1, r0 0 4 (by omega) (by omega)]; exact hR4
  obtain ⟨l, hl1, hl2⟩ := scr_l hs
  obtain ⟨x3, e3, V3, h3, F3⟩ := x_rows (X := X) (B := B) (w0 := w0) (L := [] ++ [bt 255, bt 216] ++ hdF g S (if s = 2 then 194 else 192) iv) hst So hP hg hb hZ hiv hl1 (scr_ok s) hl2 (scrR s).length FU 0 x2 (by omega) (by have := (scr_ok s).1; unfold FU; omega) R4 V2 (by show xO x2 o (_ ++ []); rw [List.append_nil]; exact h2)
  obtain ⟨x4, e4, h4, F4⟩ := x_marker (X := X) (B := B) (w0 := w0) So V3.1 h3 217
  rw [List.nil_append, show [bt 255, bt 216] ++ hdF g S (if s = 2 then 194 else 192) iv ++ rowsL g Z iv (scrR s) (scrR s).length ++ [bt 255, bt 217] = filL g S Z iv s from rfl] at h4
  have R2 : x4.2.1 0 2 = o := by rw [F4.2.1, F3.2.1, F2.2.1, F1.2.1, r0 0 2 (by omega) (by omega)]; exact hR2
  have R1 : x4.2.1 0 1 = x.2.1 0 1 := by rw [F4.2.1, F3.2.1, F2.2.1, F1.2.1, r0 0 1 (by omega) (by omega)]
  refine ⟨x4, ?_, h4, ⟨fun p k hp hk => ?_, fun p k hp => ?_, fun p hp hk => ?_, ?_, ?_, ?_⟩⟩
  · have gS : gR (rg_p lX B w0 x) (B + 0) 11 2 = some (B + o) := by rw [← hR2]; exact rg_R rfl rfl
    have gPp : gR (rg_p lX B w0 x) (B + 0) 11 4 = some (B + P) := by rw [← hR4]; exact rg_R rfl rfl
    have ebeg : fX4_begin X (rg_p lX B w0 x) (B + 105) (B + o) (B + P) (nI iv) = some (rg_p lX B w0 x1) := by
      unfold fX4_begin
      refine ob_v (rg_pR rfl rfl o) (ob_v (rg_pR rfl rfl P) (ob_v (rg_pI rfl rfl _) (ob_v (rg_C rfl rfl) (ob_v (rg_O rfl) (ob_v (v := rg_p lX B w0 (rg_wR (rg_wR (rg_wI (rg_wR (rg_wR x 105 0 o) 105 1 P) 105 2 (nI iv)) 195 0 o) 195 1 P)) ?_ ?_)))))
      · unfold fX7_begin
        exact ob_v (rg_pR rfl rfl o) (ob_v (rg_pR rfl rfl P) rfl)
      · refine ob_v (gOut (o := o) ?_) (ob_v (rg_O hby.o) (ob_v (v := rg_p lX B w0 x0) ?_ (ob_v (rg_O rfl) (ob_v e1 rfl))))
        · have := ra
          rw [← hx0] at this
          exact this
        · unfold fX1_clear
          refine ob_v (rg_pI hby.o rfl _) (ob_v (rg_pZ hby.o rfl _ (Or.inl rfl)) ?_)
          rw [hx0]
    have e87 : ∀ v, v = nI (if s = 2 then 194 else 192) → fX11_saveAs_87 X (B + 0) (X.2.2.2.2.2 (s + 1)) v (B + 105) (rg_p lX B w0 x1) = (if 16384 < (filL g S Z iv s).length then some (-1, rg_p lX B w0 x4) else some (nI (filL g S Z iv s).length, rg_p lX B w0 (rg_wR (rg_wR x4 0 1 o) 0 2 (x.2.1 0 1)))) := by
      intro v hv
      unfold fX11_saveAs_87
      rw [hv]
      refine ob_v (rg_O rfl) (ob_v e2 ?_)
      refine (show fX11_saveAs_93 X FU (B + 0) (X.2.2.2.2.2 (s + 1)) (nI (5 * 0)) _ = _ from e3).trans ?_
      unfold fX11_saveAs_205
      have g2 : ∀ z : rg_S, z.2.1 0 2 = o → gR (rg_p lX B w0 z) (B + 0) 11 2 = some (B + o) := fun z e => by rw [← e]; exact rg_R rfl rfl
      refine ob_v (rg_C rfl rfl) (ob_v (rg_O rfl) (ob_v e4 (ob_v (g2 x4 R2) (ob_v (rg_I hby.o rfl) ?_))))
      rw [h4.2.1]
      by_cases big : 16384 < (filL g S Z iv s).length
      · rw [if_pos big, if_pos big]
        exact ei_n n10 rfl
      · rw [if_neg big, if_neg big]
        have g1 : gR (rg_p lX B w0 x4) (B + 0) 11 1 = some (B + x.2.1 0 1) := by rw [← R1]; exact rg_R rfl rfl
        refine ei_t rfl (ob_v g1 (ob_v (g2 x4 R2) (ob_v (rg_pR rfl rfl o) (ob_v (rg_pR rfl rfl (x.2.1 0 1)) ?_))))
        have g3 : gR (rg_p lX B w0 (rg_wR (rg_wR x4 0 1 o) 0 2 (x.2.1 0 1))) (B + 0) 11 1 = some (B + o) := by
          have : (rg_wR (rg_wR x4 0 1 o) 0 2 (x.2.1 0 1)).2.1 0 1 = o := by rw [wR_2, if_neg (by omega), wR_2, if_pos ⟨rfl, rfl⟩]
          rw [show B + o = B + (rg_wR (rg_wR x4 0 1 o) 0 2 (x.2.1 0 1)).2.1 0 1 by rw [this]]
          exact rg_R rfl rfl
        refine ob_v g3 (ob_v (rg_I hby.o rfl) ?_)
        rw [wR_1, wR_1, h4.1, Nat.min_eq_right (by omega)]
    unfold fX11_saveAs_52
    refine ob_v (rg_C rfl rfl) (ob_v gS (ob_v gPp (ob_v (rg_O rfl) (ob_v ebeg (ob_v (rg_C rfl rfl) ?_)))))
    by_cases s2 : s = 2
    · exact ei_t (by rw [s2]; rfl) (e87 _ (by rw [if_pos s2]; rfl))
    · exact ei_n (fun e => s2 ((nI_eq (b := 2) (by omega) (by omega)).mp e)) (e87 _ (by rw [if_neg s2]; rfl))
  · rw [F4.1 p k (by omega), F3.1 p k (by omega) hk, F2.1 p k (by omega), F1.1 p k (by omega), i0 p k (by omega) hk]
  · rw [F4.2.1, F3.2.1, F2.2.1, F1.2.1, r0 p k (by omega) (by omega)]
  · rw [F4.2.2.1 p hk, F3.2.2 p hp hk, F2.2.2.1 p hk, F1.2.2.1 p hk, a0]
  · rw [F4.1 _ _ (by omega)]; exact V3.2.2.2.2.2.1.1
  · rw [F4.1 _ _ (by omega)]; exact V3.2.2.2.2.2.1.2.1
  · rw [F4.1 _ _ (by omega)]; exact V3.2.2.2.2.2.1.2.2
/-- what saving leaves alone in the reference -/
def FYv (y y' : rg_S) : Prop := (∀ k, k ≠ 5 → k ≠ 6 → y'.1 0 k = y.1 0 k) ∧ y'.1 24 42 = y.1 24 42 ∧ ∀ p, p < 3 ∨ 56 ≤ p → y'.2.2.1 p = y.2.2.1 p
theorem m_saveF (hg : gOk g) (hb : gBs g g.2.2.1 ≤ 192) (hZ : ∀ i, i < 64 * gBs g g.2.2.1 → -1024 ≤ Z i ∧ Z i ≤ 1023) (hs : s ≤ 2) (hiv : iv < 65536) (h17 : y.1 0 17 = 1) (hm : mPic y g) (pz : ∀ i, i < 64 * gBs g g.2.2.1 → y.2.2.1 64 i = iI (Z i) ∧ vp_nar .short (y.2.2.1 64 i) = y.2.2.1 64 i) (pS : ∀ i, i < 64 * g.2.2.1 → y.2.2.1 63 i = S i) (h42 : y.1 24 42 = 0) : ∃ y', fX15_saveAs X (rg_p lM b w0 y) (b + 0) (nI s) (nI iv) = (if 16384 < (filL g S Z iv s).length then some (-1, rg_p lM b w0 y') else some (nI (filL g S Z iv s).length, rg_p lM b w0 (rg_wA (rg_wI y' 0 3 (nI (filL g S Z iv s).length)) 2 (fU (filL g S Z iv s).length (fun i => vp_nar .byte (y'.2.2.1 3 i)) (y'.2.2.1 2))))) ∧ yQ y' (filL g S Z iv s) ∧ FYv y y' := by
  have h4 := hg.2.2.2.2.2.1
  have hf := hm.1
  obtain ⟨y1, e1, F1, ⟨f2, f10, f11⟩, _, fc⟩ := m_frame1 (X := X) (b := b) (w0 := w0) (y := y) hg (shN_S hg) hb
  generalize hy2 : rg_wI y1 24 27 (nI iv) = y2
  generalize hy3 : rg_wA y2 32 (fU 12288 (fun i => vp_nar .short (y2.2.2.1 64 i)) (y2.2.2.1 32)) = y3
  have i3 : ∀ p k, ¬ (p = 24 ∧ k = 27) → y3.1 p k = y1.1 p k := fun p k hk => by rw [← hy3, wA_1, ← hy2, wI_n _ _ (by omega)]
  have a3 : ∀ p, p ≠ 32 → y3.2.2.1 p = y1.2.2.1 p := fun p hp => by rw [← hy3, wA_n _ _ hp, ← hy2]; rfl
  obtain ⟨y4, e4, t4, j4, r4', a4⟩ := m_tb109 (X := X) (b := b) (w0 := w0) (a1 := nI s) (a2 := nI iv) hg g.2.2.1 FU 0 y3 (by omega) (by unfold FU; omega) (by rw [i3 0 20 (by omega), F1.1 0 20 (by omega)]; exact hf.2.2.1) (by rw [i3 24 2 (by omega)]; exact f2) (fun i hi => absurd hi (Nat.not_lt_zero _))
  have y64 : y2.2.2.1 64 = y.2.2.1 64 := by rw [← hy2]; exact F1.2.2 64 (by decide) (by decide) (by decide)
  have hf4 : mFr y4 g := by
    unfold mFr at *
    rw [j4, i3 0 18 (by omega), i3 0 19 (by omega), i3 0 20 (by omega), F1.1 0 18 (by omega), F1.1 0 19 (by omega), F1.1 0 20 (by omega), a4 58 (by decide) (by decide), a4 59 (by decide) (by decide), a3 58 (by decide), a3 59 (by decide), F1.2.2 58 (by decide) (by decide) (by decide), F1.2.2 59 (by decide) (by decide) (by decide)]
    exact hf
  have V4 : yZv y4 g Z iv := by
    refine ⟨hf4.2.2.1, by rw [j4, i3 24 10 (by omega)]; exact f10, by rw [j4, i3 24 11 (by omega)]; exact f11, by rw [j4, i3 24 2 (by omega)]; exact f2, by rw [j4, ← hy3, wA_1, ← hy2, wI_s], by rw [j4, i3 24 42 (by omega), F1.1 24 42 (by omega)]; exact h42, fun c hc => ?_, fun i hi => ?_⟩
    · rw [a4 25 (by decide) (by decide), a4 26 (by decide) (by decide), a4 27 (by decide) (by decide), a4 29 (by decide) (by decide), a4 30 (by decide) (by decide), a4 31 (by decide) (by decide), a3 25 (by decide), a3 26 (by decide), a3 27 (by decide), a3 29 (by decide), a3 30 (by decide), a3 31 (by decide)]
      exact ⟨(fc c hc).1, (fc c hc).2, t4 c hc⟩
    · rw [a4 32 (by decide) (by decide), ← hy3, wA_s, fU_lt (by omega), y64, (pz i hi).2]
      exact (pz i hi).1
  obtain ⟨y5, e5, q5, F5⟩ := m_h140 (X := X) (b := b) (w0 := w0) (S := S) hs hg hiv hf4 (fun j hj => by rw [a4 63 (by decide) (by decide), a3 63 (by decide), F1.2.2 63 (by decide) (by decide) (by decide)]; exact pS j hj)
  obtain ⟨y6, e6, V6, q6, F6⟩ := m_rows (X := X) (b := b) (w0 := w0) hs hg hb hZ hiv (hf4.z F5) (V4.z F5) q5
  obtain ⟨y7, e7, q7, F7⟩ := m_putQ (X := X) (b := b) (w0 := w0) q6 255
  obtain ⟨y8, e8, q8, F8⟩ := m_putQ (X := X) (b := b) (w0 := w0) q7 217
  have eL : [bt 255, bt 216] ++ hdF g S (if s = 2 then 194 else 192) iv ++ rowsL g Z iv (scrR s) (scrR s).length ++ [bt 255] ++ [bt 217] = filL g S Z iv s := by
    unfold filL
    simp only [List.append_assoc, List.cons_append, List.nil_append]
  rw [eL] at q8
  have G : FYz y4 y8 := F5.trans (F6.trans (F7.k.z.trans F8.k.z))
  refine ⟨y8, ?_, q8, ⟨fun k k5 k6 => ?_, ?_, fun p hp => ?_⟩⟩
  · have e71 : fX15_saveAs_71 X (b + 0) (nI s) (nI iv) 1 (rg_p lM b w0 y2) = fX15_saveAs_378 X (b + 0) (rg_p lM b w0 y6) := by
      unfold fX15_saveAs_71
      refine m_cp75.trans ?_
      rw [hy3]
      unfold fX15_saveAs_106
      exact (show fX15_saveAs_109 X FU (b + 0) (nI s) (nI iv) (nI 0) _ = _ from e4).trans (e5.trans e6)
    unfold fX15_saveAs
    refine ob_v (rg_I rfl rfl) ?_
    rw [h17]
    refine ei_n n10 (ei_n (nI_nlt (b := 0) (by omega) (by omega)) (ei_n (nI_nlt (a := 2) (by omega) (by omega)) (ei_n (nI_nlt (b := 0) (by omega) (by omega)) (ei_t (nI_le (b := 65535) (by omega) (by omega)) (ob_v (rg_C rfl rfl) (ob_v (rg_I rfl rfl) (ob_v (rg_I rfl rfl) (ob_v (rg_I rfl rfl) (ob_v (rg_O rfl) (ob_v (m_shape hg hf) (ob_v (rg_O rfl) ?_)))))))))))
    rw [hf.1, hf.2.1, hf.2.2.1]
    refine ob_v e1 (ei_n n10 (ob_v (rg_C rfl rfl) (ob_v (rg_O rfl) (ob_v (v := (1, rg_p lM b w0 y2)) ?_ (ei_n n10 (e71.trans ?_))))))
    · unfold fX13_restart
      refine ei_n (nI_nlt (b := 0) (by omega) (by omega)) (ei_t (nI_le (b := 65535) (by omega) (by omega)) (ob_v (rg_pI rfl rfl _) ?_))
      rw [hy2]
    · unfold fX15_saveAs_378
      refine ob_v (rg_O rfl) (ob_v e7 (ob_v (rg_O rfl) (ob_v e8 (ob_v (rg_I rfl rfl) ?_))))
      by_cases big : 16384 < (filL g S Z iv s).length
      · rw [if_pos big]
        have o1 : y8.1 0 6 = 1 := by
          rcases q8 with q | q
          · rw [q.2.1, if_pos big]
          · exact q.2.1
        exact ei_n (by rw [o1]; exact n10) rfl
      · rw [if_neg big]
        have q := q8.resolve_right (fun e => big e.1)
        have o1 : y8.1 0 6 = 0 := by rw [q.2.1, if_neg big]
        have n5 := q.1
        rw [Nat.min_eq_right (by omega)] at n5
        refine ei_t o1 (ob_v (rg_I rfl rfl) ?_)
        rw [n5]
        refine ob_v (rg_pI rfl rfl _) ?_
        have lp := rg_lpF (F := fun M (t : Int32 × rg_S) => fX15_saveAs_412 X M (b + 0) t.1 (rg_p lM b w0 t.2)) (filL g S Z iv s).length (fun i => (nI i, rg_wA (rg_wI y8 0 3 (nI (filL g S Z iv s).length)) 2 (fU i (fun i => vp_nar .byte (y8.2.2.1 3 i)) (y8.2.2.1 2)))) (r := some (nI (filL g S Z iv s).length, rg_p lM b w0 (rg_wA (rg_wI y8 0 3 (nI (filL g S Z iv s).length)) 2 (fU (filL g S Z iv s).length (fun i => vp_nar .byte (y8.2.2.1 3 i)) (y8.2.2.1 2))))) (by omega) (by
          intro M i hi
          dsimp only
          rw [fX15_saveAs_412.eq_2]
          refine ob_v (rg_I rfl rfl) ?_
          rw [wA_1, wI_n _ _ (by omega), n5]
          refine ei_n (nI_ge (by omega) (by omega)) (ob_v (rg_C rfl rfl) (ob_v (rg_C rfl rfl) (ob_v (rg_A rfl (by decide) _ (by omega) (by decide)) (ob_v (rg_sA _ rfl (by decide) _ _ (by omega) (by decide)) ?_))))
          rw [wA_s, wA_wA, nI_1, wA_n _ _ (by decide), ← fU_s i (fun i => vp_nar .byte (y8.2.2.1 3 i)) (y8.2.2.1 2)]
          rfl) (by
          intro M
          dsimp only
          rw [fX15_saveAs_412.eq_2]
          refine ob_v (rg_I rfl rfl) ?_
          rw [wA_1, wI_n _ _ (by omega), n5]
          refine ei_t (nI_le (Nat.le_refl _) (by omega)) ?_
          unfold fX15_saveAs_441
          refine ob_v (rg_I rfl rfl) ?_
          rw [wA_1, wI_s])
        dsimp only at lp
        rw [fU_0, show rg_wA (rg_wI y8 0 3 (nI (filL g S Z iv s).length)) 2 (y8.2.2.1 2) = rg_wI y8 0 3 (nI (filL g S Z iv s).length) from wA_id rfl] at lp
        exact lp
  · rw [G.1 0 k (by omega) (by omega) (by omega), j4, i3 0 k (by omega), F1.1 0 k (by omega)]
  · rw [G.1 24 42 (by omega) (by omega) (by omega), j4, i3 24 42 (by omega), F1.1 24 42 (by omega)]
  · rw [G.2.2 p (by omega) (by omega) (by omega), a4 p (by omega) (by omega), a3 p (by omega), F1.2.2 p (by omega) (by omega) (by omega)]
theorem o_save (hst : px_st X) (hr : Rel x y) (a1 a2 : Int32) : op2' B b (fun w => fX11_saveAs X w (B + 0) a1 a2) (fun w => fX15_saveAs X w (b + 0) a1 a2) x y := by
  intro w0
  obtain ⟨h1, h2, h3, h4, h4b, h5, h6⟩ := hr
  have hr : Rel x y := ⟨h1, h2, h3, h4, h4b, h5, h6⟩
  obtain ⟨P, hPR, hR4, hp⟩ := h5
  have h5 : r5 x y := ⟨P, hPR, hR4, hp⟩
  rcases hp with ⟨t1, t2⟩ | ⟨t1, t2, g, hp⟩
  · refine ⟨-1, x, ?_, fun w1 => ⟨y, ?_, hr⟩⟩
    · show fX11_saveAs X _ _ _ _ = _
      unfold fX11_saveAs
      exact ob_v (rg_I rfl rfl) (ei_t t1 rfl)
    · show fX15_saveAs X _ _ _ _ = _
      unfold fX15_saveAs
      exact ob_v (rg_I rfl rfl) (ei_t t2 rfl)
  · by_cases c1 : a1 < 0 ∨ 2 < a1 ∨ a2 < 0 ∨ ¬ a2 ≤ 65535
    · refine ⟨-1, x, ?_, fun w1 => ⟨y, ?_, hr⟩⟩
      · show fX11_saveAs X _ _ _ _ = _
        unfold fX11_saveAs
        refine ob_v (rg_I rfl rfl) (ei_n (by rw [t1]; exact n10) ?_)
        by_cases q1 : a1 < 0
        · exact ei_t q1 rfl
        · refine ei_n q1 ?_
          by_cases q2 : 2 < a1
          · exact ei_t q2 rfl
          · refine ei_n q2 ?_
            by_cases q3 : a2 < 0
            · exact ei_t q3 rfl
            · exact ei_n q3 (ei_n (fun e => c1.elim q1 (fun c => c.elim q2 (fun c => c.elim q3 (fun c => c e)))) rfl)
      · show fX15_saveAs X _ _ _ _ = _
        unfold fX15_saveAs
        refine ob_v (rg_I rfl rfl) (ei_n (by rw [t2]; exact n10) ?_)
        by_cases q1 : a1 < 0
        · exact ei_t q1 rfl
        · refine ei_n q1 ?_
          by_cases q2 : 2 < a1
          · exact ei_t q2 rfl
          · refine ei_n q2 ?_
            by_cases q3 : a2 < 0
            · exact ei_t q3 rfl
            · exact ei_n q3 (ei_n (fun e => c1.elim q1 (fun c => c.elim q2 (fun c => c.elim q3 (fun c => c e)))) rfl)
    · have k1 : ¬ a1 < 0 := fun e => c1 (Or.inl e)
      have k2 : ¬ 2 < a1 := fun e => c1 (Or.inr (Or.inl e))
      have k3 : ¬ a2 < 0 := fun e => c1 (Or.inr (Or.inr (Or.inl e)))
      have k4 : a2 ≤ 65535 := Classical.byContradiction (fun e => c1 (Or.inr (Or.inr (Or.inr e))))
      obtain ⟨s, hs, rfl⟩ := nI_of2 (n := 2) (M := 2) (by decide) k1 (Int32.not_lt.mp k2)
      obtain ⟨iv, hiv, rfl⟩ := nI_of2 (n := 65535) (M := 65535) (by decide) k3 k4
      obtain ⟨hg, hb, px, mp', hc, hst'⟩ := hp
      obtain ⟨o0, n0, ho, hR1, hB, hx1, hy1⟩ := h2
      have h2 : r2 x y := ⟨o0, n0, ho, hR1, hB, hx1, hy1⟩
      obtain ⟨o, So, hR2, hne⟩ : ∃ o, (o = 3 ∨ o = 5) ∧ x.2.1 0 2 = o ∧ o ≠ o0 := by
        rcases ho with ⟨e1, e2⟩ | ⟨e1, e2⟩
        · exact ⟨5, Or.inr rfl, e2, by omega⟩
        · exact ⟨3, Or.inl rfl, e2, by omega⟩
      have hP : isP P := by unfold isP; omega
      have hZ : ∀ i, i < 64 * gBs g g.2.2.1 → -1024 ≤ (y.2.2.1 64 i).toInt ∧ (y.2.2.1 64 i).toInt ≤ 1023 := fun i hi => by
        have := (hc i hi).2
        unfold cfOk at this
        split at this <;> omega
      obtain ⟨h61, h62, h63, q7, q8, q10, q42⟩ := h6
      have h6 : r6 x y := ⟨h61, h62, h63, q7, q8, q10, q42⟩
      obtain ⟨x', ex, hO, F⟩ := x_saveF (X := X) (B := B) (w0 := w0) (S := y.2.2.1 63) (Z := fun i => (y.2.2.1 64 i).toInt) hst So hP hg hb hZ hs (by omega) hR2 hR4 px (fun i hi => (hc i hi).1.trans (iI_of _)) (fun i hi => (hst' i hi).1) ⟨q7, q8, q10⟩ (iv := iv)
      have ey := fun w1 => m_saveF (X := X) (b := b) (w0 := w1) (y := y) (S := y.2.2.1 63) (Z := fun i => (y.2.2.1 64 i).toInt) hg hb hZ hs (show iv < 65536 by omega) t2 mp' (fun i hi => ⟨iI_of _, nar_ok (hc i hi).2⟩) (fun i hi => rfl) q42
      have aBf := aB_fil g (y.2.2.1 63) (fun i => (y.2.2.1 64 i).toInt) iv s
      generalize filL g (y.2.2.1 63) (fun i => (y.2.2.1 64 i).toInt) iv s = Lf at *
      have st : ∀ r, fX11_saveAs_52 X (B + 0) (nI s) (nI iv) (X.2.2.2.2.2 (s + 1)) (rg_p lX B w0 x) = r → fX11_saveAs X (rg_p lX B w0 x) (B + 0) (nI s) (nI iv) = r := by
        intro r hr
        unfold fX11_saveAs
        refine ob_v (rg_I rfl rfl) (ei_n (by rw [t1]; exact n10) (ei_n k1 (ei_n k2 (ei_n k3 (ei_t k4 ?_)))))
        rcases (show s = 0 ∨ s = 1 ∨ s = 2 by omega) with rfl | rfl | rfl
        · exact ei_t rfl hr
        · exact ei_n n10 (ei_t rfl hr)
        · exact ei_n (by decide) (ei_n (by decide) hr)
      obtain ⟨f1, f2, f3, f7, f8, f10⟩ := F
      by_cases big : 16384 < Lf.length
      · rw [if_pos big] at ex
        refine ⟨-1, x', st _ ex, fun w1 => ?_⟩
        obtain ⟨y', e', _, g1, g42, g3⟩ := ey w1
        rw [if_pos big] at e'
        refine ⟨y', e', h1.c (f1 1 1 (by omega) (by omega)) (f3 2 (by omega) (by omega)) (g1 1 (by decide) (by decide)) (g3 1 (by omega)), ?_, ?_, h4.c (fun p k hp hk => f1 _ _ (by omega) (by omega)) (fun p hp => f3 _ (by omega) (by omega)) (fun q q1 q2 => g3 q (by omega)), h4b.c (g3 72 (by omega)), h5.c ⟨f2 0 4 (by omega), f2 0 5 (by omega)⟩ ⟨f1 0 3 (by omega) (by omega), g1 17 (by decide) (by decide)⟩ (fun Q k hQ hk => f1 Q k (by omega) (by omega)) (fun Q j hQ j1 j2 => f3 _ (by omega) (by omega)) (fun k k1 k2 => g1 k (by omega) (by omega)) (fun q q1 q2 => g3 q (by omega)), ?_⟩
        · refine ⟨o0, n0, by rw [f2 0 2 (by omega)]; exact ho, by rw [f2 0 1 (by omega)]; exact hR1, ?_, ?_, ?_⟩
          · rw [f3 (o0 + 1) (by omega) (by omega), g3 2 (by omega)]
            exact hB
          · rw [f1 o0 1 (by omega) (by omega)]
            exact hx1
          · rw [g1 3 (by decide) (by decide)]
            exact hy1
        · unfold r3 at *
          rw [f1 0 13 (by omega) (by omega), f1 0 14 (by omega) (by omega), f1 0 15 (by omega) (by omega), f1 0 16 (by omega) (by omega), f1 0 17 (by omega) (by omega), g1 7 (by decide) (by decide), g1 8 (by decide) (by decide), g1 9 (by decide) (by decide), g1 10 (by decide) (by decide), g1 11 (by decide) (by decide)]
          exact h3
        · refine ⟨?_, ?_, ?_, f7, f8, f10, g42.trans q42⟩
          · rw [f3 37 (by omega) (by omega)]
            exact h61
          · rw [g3 69 (by omega), g3 70 (by omega)]
            exact h62
          · rw [g3 71 (by omega)]
            exact h63
      · rw [if_neg big] at ex
        refine ⟨_, _, st _ ex, fun w1 => ?_⟩
        obtain ⟨y', e', q', g1, g42, g3⟩ := ey w1
        rw [if_neg big] at e'
        have qq := q'.resolve_right (fun e => big e.1)
        have g1' : ∀ k, k ≠ 5 → k ≠ 6 → k ≠ 3 → (rg_wA (rg_wI y' 0 3 (nI Lf.length)) 2 (fU Lf.length (fun i => vp_nar .byte (y'.2.2.1 3 i)) (y'.2.2.1 2))).1 0 k = y.1 0 k := fun k a1 a2 a3 => by rw [wA_1, wI_n _ _ (by omega), g1 k a1 a2]
        have g3' : ∀ p, p < 2 ∨ 56 ≤ p → (rg_wA (rg_wI y' 0 3 (nI Lf.length)) 2 (fU Lf.length (fun i => vp_nar .byte (y'.2.2.1 3 i)) (y'.2.2.1 2))).2.2.1 p = y.2.2.1 p := fun p hp => by rw [wA_n _ _ (by omega)]; exact g3 p (by omega)
        have R' : ∀ k, k ≠ 1 → k ≠ 2 → (rg_wR (rg_wR x' 0 1 o) 0 2 (x.2.1 0 1)).2.1 0 k = x.2.1 0 k := fun k a1 a2 => by rw [wR_2, if_neg (by omega), wR_2, if_neg (by omega), f2 0 k (by omega)]
        refine ⟨_, e', h1.c (f1 1 1 (by omega) (by omega)) (f3 2 (by omega) (by omega)) (g1' 1 (by decide) (by decide) (by decide)) (g3' 1 (by omega)), ?_, ?_, h4.c (fun p k hp hk => f1 _ _ (by omega) (by omega)) (fun p hp => f3 _ (by omega) (by omega)) (fun q q1 q2 => g3' q (by omega)), h4b.c (g3' 72 (by omega)), h5.c ⟨R' 4 (by decide) (by decide), R' 5 (by decide) (by decide)⟩ ⟨f1 0 3 (by omega) (by omega), g1' 17 (by decide) (by decide) (by decide)⟩ (fun Q k hQ hk => f1 Q k (by omega) (by omega)) (fun Q j hQ j1 j2 => f3 _ (by omega) (by omega)) (fun k k1 k2 => g1' k (by omega) (by omega) (by omega)) (fun q q1 q2 => g3' q (by omega)), ?_⟩
        · have e1 : (rg_wR (rg_wR x' 0 1 o) 0 2 (x.2.1 0 1)).2.1 0 1 = o := by rw [wR_2, if_neg (by omega), wR_2, if_pos ⟨rfl, rfl⟩]
          have e2 : (rg_wR (rg_wR x' 0 1 o) 0 2 (x.2.1 0 1)).2.1 0 2 = o0 := by rw [wR_2, if_pos ⟨rfl, rfl⟩]; exact hR1
          have n1 := hO.1
          rw [Nat.min_eq_right (by omega)] at n1
          refine ⟨o, Lf.length, by rw [e2]; omega, e1, ⟨by omega, fun i hi => ?_⟩, n1, by rw [wA_1, wI_s]⟩
          have ha := hO.2.2 i hi (by omega)
          have hb' := qq.2.2 i hi (by omega)
          have hv : bt (Lf.getD i 0) = Lf.getD i 0 := aBf _ (by
            rw [List.getD_eq_getElem?_getD, List.getElem?_eq_getElem hi]
            exact List.getElem_mem hi)
          have hn : vp_nar .byte (Lf.getD i 0) = Lf.getD i 0 := by
            rw [← hv]
            exact bt_nar _
          rw [wA_s, fU_lt hi, hb', hn]
          exact ⟨ha, hv⟩
        · unfold r3 at *
          rw [g1' 7 (by decide) (by decide) (by decide), g1' 8 (by decide) (by decide) (by decide), g1' 9 (by decide) (by decide) (by decide), g1' 10 (by decide) (by decide) (by decide), g1' 11 (by decide) (by decide) (by decide)]
          rw [wR_1, wR_1, f1 0 13 (by omega) (by omega), f1 0 14 (by omega) (by omega), f1 0 15 (by omega) (by omega), f1 0 16 (by omega) (by omega), f1 0 17 (by omega) (by omega)]
          exact h3
        · refine ⟨?_, ?_, ?_, f7, f8, f10, ?_⟩
          · rw [wR_3, wR_3, f3 37 (by omega) (by omega)]
            exact h61
          · rw [g3' 69 (by omega), g3' 70 (by omega)]
            exact h62
          · rw [g3' 71 (by omega)]
            exact h63
          · rw [wA_1, wI_n _ _ (by omega)]
            exact g42.trans q42
end
