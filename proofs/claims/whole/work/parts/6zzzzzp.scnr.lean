/-! the second pass: a scan is read, by the reference -/
def gYf (y : rg_S) (g : gG) : Prop := (y.1 24 2 = nI g.2.2.1 ∧ y.1 24 10 = nI (gUA g) ∧ y.1 24 11 = nI (gUD g)) ∧ ∀ i, i < g.2.2.1 → (y.2.2.1 25 i = nI (g.2.2.2.1 i) ∧ y.2.2.1 26 i = nI (g.2.2.2.2 i) ∧ y.2.2.1 27 i = nI (gAc g i) ∧ y.2.2.1 29 i = nI (gOA g i) ∧ y.2.2.1 30 i = nI (gOD g i)) ∧ y.2.2.1 31 i = nI (gBs g i)
/-- what was not sent is nothing -/
def zNo (g : gG) (lt : Nat → Nat) (Q : Nat → Int32) : Prop := ∀ c, c < g.2.2.1 → ∀ T, gBs g c ≤ T → T < gBs g (c + 1) → ∀ k, 1 ≤ k → k < 64 → lt (64 * c + k) = 0 → Q (64 * T + k) = 0
/-- the steps of what was sent -/
def stYn (y : rg_S) (n : Nat) (lt st : Nat → Nat) : Prop := ∀ c, c < n → (lt (64 * c) = 0 ∧ y.2.2.1 57 c = 0) ∨ (lt (64 * c) ≠ 0 ∧ y.2.2.1 57 c = 1 ∧ ∀ k, k < 64 → y.2.2.1 56 (64 * c + k) = nI (st (64 * c + k)))
def inBy (y : rg_S) (D : Nat → Nat) (L : Nat) : Prop := ∀ i, i < L → bt (y.2.2.1 5 i) = y.2.2.1 5 i ∧ (y.2.2.1 5 i = 0 ↔ D i = 0)
/-- what the reading of a scan may change -/
def FYzz (y y' : rg_S) : Prop := (∀ p k, ¬ (p = 0 ∧ k = 8) → ¬ (p = 24 ∧ (k = 16 ∨ 22 ≤ k ∧ k ≤ 27 ∨ k = 29 ∨ k = 38 ∨ 43 ≤ k ∧ k ≤ 46)) → y'.1 p k = y.1 p k) ∧ y'.2.1 = y.2.1 ∧ (∀ a, ¬ (32 ≤ a ∧ a ≤ 41) → a ≠ 44 → a ≠ 56 → a ≠ 57 → y'.2.2.1 a = y.2.2.1 a) ∧ y'.2.2.2 = y.2.2.2
theorem FYzz.trans {y y1 y2 : rg_S} (h : FYzz y y1) (h2 : FYzz y1 y2) : FYzz y y2 := ⟨fun p k a c => (h2.1 p k a c).trans (h.1 p k a c), h2.2.1.trans h.2.1, fun a e1 e2 e3 e4 => (h2.2.2.1 a e1 e2 e3 e4).trans (h.2.2.1 a e1 e2 e3 e4), h2.2.2.2.trans h.2.2.2⟩
theorem FYl.z {y y' : rg_S} (h : FYl y y') : FYzz y y' := ⟨fun p k _ a => h.1 p k (by omega), h.2.1, fun a e _ _ _ => h.2.2.1 a (by omega), h.2.2.2⟩
theorem FYt.z {y y' : rg_S} (h : FYt y y') : FYzz y y' := ⟨fun p k _ _ => by rw [h.1], h.2.1, fun a e _ e3 e4 => h.2.2.1 a (by omega) (by omega) e3 e4, h.2.2.2⟩
theorem FYrd.z {y y' : rg_S} (h : FYrd y y') : FYzz y y' := ⟨fun p k _ a => h.1 p k (by omega), h.2.1, fun a e e2 _ _ => h.2.2.1 a (by omega) (by omega) e2, h.2.2.2⟩
section
variable {X : px_X} {b B : Nat} {w0 w1 : px_W} {y y' : rg_S} {L : Nat} {D : Nat → Nat} {g : gG} {s2 : sgS} {lt0 st0 : Nat → Nat} {Q : Nat → Int32}
theorem gBs_dj {c c' T : Nat} (h1 : gBs g c ≤ T) (h2 : T < gBs g (c + 1)) (h3 : gBs g c' ≤ T) (h4 : T < gBs g (c' + 1)) : c = c' := by
  rcases Nat.lt_trichotomy c c' with q | q | q
  · have := gBs_mono (g := g) (show c + 1 ≤ c' by omega)
    omega
  · exact q
  · have := gBs_mono (g := g) (show c' + 1 ≤ c by omega)
    omega
theorem m_scnd (hg : gOk g) (hb : gBs g g.2.2.1 ≤ 192) (hgo : g = gOf s2 g.2.1) (hA : sgA D L lt0 s2) (h8 : sgN8 lt0 st0 s2) (ok : sgOk s2) (o2 : sgO2 s2) (hL : L ≤ 16384) (k1 : 1 ≤ s2.1 8) (hp : ∀ i, i < L → y.2.2.1 5 i &&& 255 = nI (D i)) (hin : inBy y D L) (hs : fsY y s2) (hR : scR y (30 * (s2.1 8 - 1)) (s2.1 10) (s2.1 11) (s2.1 12) (s2.1 13) (s2.1 14) (s2.1 15) (s2.1 1)) (hM : scM y (30 * (s2.1 8 - 1)) s2.2.2.2.2.2.1 (s2.1 10)) (h6 : y.2.2.1 17 (30 * (s2.1 8 - 1) + 6) = nI (s2.1 16 - s2.1 15)) (hG : gYf y g) (hQ : ∀ i, i < 12288 → y.2.2.1 32 i = Q i) (hQ2 : ∀ i, i < 12288 → cfOk (i % 64) (Q i)) (hN : zNo g lt0 Q) (hS : stYn y (s2.1 6) lt0 st0) : ∃ v y', fX15_scanned X (rg_p lM b w0 y) (b + 0) (b + 4) (nI (30 * (s2.1 8 - 1))) = some (v, rg_p lM b w0 y') ∧ FYzz y y' ∧ y'.1 0 8 = nI (s2.1 8 - 1) ∧ ((9 < s2.1 14 ∧ v = 10) ∨ (s2.1 14 ≤ 9 ∧ ∃ f, sgR D g s2 Q = .inl f ∧ v = nI (10 + f) ∧ 0 < f ∧ f < 100) ∨ (s2.1 14 ≤ 9 ∧ ∃ a, sgR D g s2 Q = .inr a ∧ v = 0 ∧ (∀ i, i < 12288 → y'.2.2.1 32 i = a.2.2.2 i) ∧ (∀ i, i < 12288 → cfOk (i % 64) (a.2.2.2 i)) ∧ zNo g s2.2.2.2.1 a.2.2.2 ∧ stYn y' (s2.1 6) s2.2.2.2.1 s2.2.2.2.2.2.2)) := by
  obtain ⟨⟨nn1, nn4⟩, mok, ⟨fl, l6, b13, hbf, hff, hf1⟩, hTb, ⟨d1, d2, d3, d4, d5⟩, hdo, hlt, k3, k192, k194, _⟩ := hA
  have n4 := ok.2.2.1
  have kc := ok.2.2.2.2.2.1
  have hO := o2.2.2.2.2.2.2.2.1
  have oc := o2.2.2.2.2.2.2.1
  have hgn : g.2.2.1 = s2.1 6 := by rw [hgo]; rfl
  have hgh : ∀ c, c < s2.1 6 → g.2.2.2.1 c = (s2.2.2.2.2.1 c).2.1 := fun c _ => by rw [hgo]; rfl
  have hgv : ∀ c, c < s2.1 6 → g.2.2.2.2 c = (s2.2.2.2.2.1 c).2.2.1 := fun c _ => by rw [hgo]; rfl
  have hm : mOk g (fun i => (s2.2.2.2.2.2.1 i).1) (s2.1 10) := mOk_of hgn hgh hgv nn1 mok
  have k8 : s2.1 8 ≤ 1700 := by omega
  generalize hK : 30 * (s2.1 8 - 1) = K at *
  have hK29 : K + 29 < 61440 := by omega
  generalize hy1 : rg_wI y 0 8 (nI (s2.1 8 - 1)) = y1
  have F1 : FYzz y y1 := by
    rw [← hy1]
    exact ⟨fun p k a _ => wI_n _ _ (by omega), rfl, fun _ _ _ _ _ => rfl, rfl⟩
  have q1 : y1.2 = y.2 := by rw [← hy1]; rfl
  have st : ∀ z, (if nI (s2.1 14) ≤ 9 then fX15_scanned_31 X FU (b + 0) (b + 4) (nI K) 0 0 (rg_p lM b w0 y1) else some (10, rg_p lM b w0 y1)) = z → fX15_scanned X (rg_p lM b w0 y) (b + 0) (b + 4) (nI K) = z := by
    intro z hz
    unfold fX15_scanned
    refine ob_v (rg_I rfl rfl) ?_
    rw [hs.2.2.2.2.2.1, show nI (s2.1 8) - 1 = nI (s2.1 8 - 1) from pk_sub (b := 1) k1, show nI K + 4 = nI (K + 4) from nI_add _ 4]
    refine ob_v (rg_pI rfl rfl _) ?_
    rw [hy1]
    refine ob_v (rg_C rfl rfl) (ob_v (rg_A rfl (by decide) _ (by omega) (by decide)) ?_)
    rw [q1, hR.2.2.2.2.1]
    exact hz
  by_cases b9 : 9 < s2.1 14
  · refine ⟨10, y1, st _ (ei_n (nI_ge (a := 9) b9 (by omega)) rfl), F1, by rw [← hy1, wI_s], Or.inl ⟨b9, rfl⟩⟩
  have b9 : s2.1 14 ≤ 9 := by omega
  have T1 : wsY y1 s2.2.2.1 := by
    unfold wsY
    rw [q1]
    exact hs.2.2.2.2.2.2.2.1
  obtain ⟨y2, e2, F2, r2⟩ := m_lends (X := X) (b := b) (w0 := w0) (A2 := nI K) (A3 := 0) hO 8 0 FU y1 (by omega) (by unfold FU; omega) T1 (fun k hk => absurd hk (Nat.not_lt_zero _))
  have R2 : scR y2 K (s2.1 10) (s2.1 11) (s2.1 12) (s2.1 13) (s2.1 14) (s2.1 15) (s2.1 1) := by
    unfold scR
    rw [F2.2.2.1 17 (by omega), q1]
    exact hR
  have S2 : scM y2 K s2.2.2.2.2.2.1 (s2.1 10) := by
    unfold scM
    rw [F2.2.2.1 17 (by omega), q1]
    exact hM
  have C2 : csY y2 (s2.1 6) s2.2.2.2.2.1 := by
    unfold csY
    rw [F2.2.2.1 7 (by omega), F2.2.2.1 8 (by omega), F2.2.2.1 9 (by omega), F2.2.2.1 10 (by omega), q1]
    exact hs.2.2.2.2.2.2.2.2.2
  have i2 : ∀ p k, ¬ (p = 0 ∧ k = 8) → ¬ (p = 24 ∧ k = 16) → y2.1 p k = y.1 p k := fun p k h1 h2 => by rw [F2.1 p k h2, ← hy1, wI_n _ _ (by omega)]
  obtain ⟨y3, e3, F3, t1, t2, t3⟩ := m_mem (X := X) (b := b) (w0 := w0) nn4 n4 hK29 mok kc (s2.1 10) 0 FU y2 (by omega) (by unfold FU; omega) (by rw [i2 _ _ (by omega) (by omega), ← hgn]; exact hG.1.1) R2 S2 C2
  have a3 : ∀ a, ¬ (34 ≤ a ∧ a ≤ 40) → a ≠ 56 → a ≠ 57 → y3.2.2.1 a = y.2.2.1 a := fun a h1 h2 h3 => by rw [F3.2.2.1 a (by omega) (by omega) h2 h3, F2.2.2.1 a (by omega), q1]
  have i3 : ∀ p k, ¬ (p = 0 ∧ k = 8) → ¬ (p = 24 ∧ k = 16) → y3.1 p k = y.1 p k := fun p k h1 h2 => by rw [F3.1, i2 p k h1 h2]
  have R3 : scR y3 K (s2.1 10) (s2.1 11) (s2.1 12) (s2.1 13) (s2.1 14) (s2.1 15) (s2.1 1) := by
    unfold scR
    rw [a3 17 (by omega) (by omega) (by omega)]
    exact hR
  have hcs : s2.1 11 = 0 ∧ s2.1 12 = 63 ∧ s2.1 13 = 0 ∧ s2.1 14 = 0 ∨ s2.1 11 = 0 ∧ s2.1 12 = 0 ∨ 1 ≤ s2.1 11 ∧ s2.1 10 = 1 := by
    by_cases z : s2.1 11 = 0
    · rcases ok.2.1 with q | q | q
      · exact absurd q k3
      · exact Or.inl (k192 q)
      · exact Or.inr (Or.inl ⟨z, k194 q z⟩)
    · exact Or.inr (Or.inr ⟨by omega, hf1 (by omega)⟩)
  have sc := m_scanR (X := X) (b := b) (w0 := w0) (y := y3) (bf := s2.1 13) hg hm (by rw [i3 _ _ (by omega) (by omega)]; exact hG.1.1) fl l6 b9 hbf hcs
  generalize hmk : mkN (fun i => (s2.2.2.2.2.2.1 i).1) (s2.1 10) = mk at *
  generalize hy4 : rg_wI (ySc y3 mk (s2.1 11, s2.1 12, s2.1 13, s2.1 14)) 24 27 (nI (s2.1 1)) = y4
  have q4 : y4.2 = y3.2 := by rw [← hy4]; rfl
  have i4 : ∀ p k, ¬ (p = 24 ∧ 22 ≤ k ∧ k ≤ 27) → y4.1 p k = y3.1 p k := by
    intro p k h
    rw [← hy4, wI_n _ _ (by omega)]
    unfold ySc
    rw [wI_n _ _ (by omega), wI_n _ _ (by omega), wI_n _ _ (by omega), wI_n _ _ (by omega), wI_n _ _ (by omega)]
  have st2 : ∀ z, fX15_scanned_277 X (b + 0) (b + 4) (nI K) 1 (rg_p lM b w0 y4) = z → fX15_scanned X (rg_p lM b w0 y) (b + 0) (b + 4) (nI K) = z := by
    intro z hz
    refine st _ (ei_t (nI_le (b := 9) b9 (by omega)) (e2.trans ?_))
    unfold fX15_scanned_61
    refine e3.trans ?_
    unfold fX15_scanned_210
    rw [show nI K + 1 = nI (K + 1) from nI_add _ 1, show nI K + 2 = nI (K + 2) from nI_add _ 2, show nI K + 3 = nI (K + 3) from nI_add _ 3, show nI K + 4 = nI (K + 4) from nI_add _ 4, show nI K + 8 = nI (K + 8) from nI_add _ 8]
    refine ob_v (rg_C rfl rfl) (ob_v (rg_C rfl rfl) (ob_v (rg_A rfl (by decide) _ (by omega) (by decide)) (ob_v (rg_C rfl rfl) (ob_v (rg_A rfl (by decide) _ (by omega) (by decide)) (ob_v (rg_C rfl rfl) (ob_v (rg_A rfl (by decide) _ (by omega) (by decide)) (ob_v (rg_C rfl rfl) (ob_v (rg_A rfl (by decide) _ (by omega) (by decide)) (ob_v (rg_O rfl) ?_)))))))))
    rw [R3.2.1, R3.2.2.1, R3.2.2.2.1, R3.2.2.2.2.1]
    refine ob_v sc (ei_n (show ¬ (1 : Int32) = 0 by decide) (ob_v (rg_C rfl rfl) (ob_v (rg_C rfl rfl) (ob_v (rg_A rfl (by decide) _ (by omega) (by decide)) (ob_v (rg_O rfl) ?_)))))
    have r8 : (ySc y3 mk (s2.1 11, s2.1 12, s2.1 13, s2.1 14)).2.2.1 17 (K + 8) = nI (s2.1 1) := R3.2.2.2.2.2.2
    rw [r8]
    refine ob_v (m_restart ok.1) (ei_n (show ¬ (1 : Int32) = 0 by decide) ?_)
    rw [hy4]
    exact hz
  have a4 : ∀ a, ¬ (34 ≤ a ∧ a ≤ 40) → a ≠ 56 → a ≠ 57 → y4.2.2.1 a = y.2.2.1 a := fun a h1 h2 h3 => by rw [q4, a3 a h1 h2 h3]
  have ed := m_dat (X := X) (b := b) (w0 := w0) (y := y4) (K := K) (fr := s2.1 15) (sz := s2.1 16 - s2.1 15) (L := L) (D := D) (s0 := 1) hK29 (by omega) (by rw [a4 17 (by omega) (by omega) (by omega)]; exact hR.2.2.2.2.2.1) (by rw [a4 17 (by omega) (by omega) (by omega)]; exact h6)
  generalize hsz : s2.1 16 - s2.1 15 = sz at *
  generalize hy5 : rg_wA (rg_wI y4 24 29 (nI sz)) 41 (fU sz (fun i => bt (y4.2.2.1 5 (s2.1 15 + i))) (y4.2.2.1 41)) = y5
  rw [hy5] at ed
  have a5 : ∀ a, a ≠ 41 → y5.2.2.1 a = y4.2.2.1 a := fun a h => by rw [← hy5, wA_n _ _ h, wI_2]
  have i5 : ∀ p k, ¬ (p = 24 ∧ k = 29) → y5.1 p k = y4.1 p k := fun p k h => by rw [← hy5, wA_1, wI_n _ _ (by omega)]
  have F5 : FYzz y y5 := by
    refine F1.trans (F2.z.trans (F3.z.trans ⟨fun p k h1 h2 => ?_, ?_, fun a h1 _ _ _ => ?_, ?_⟩))
    · rw [i5 p k (by omega), i4 p k (by omega)]
    · show y5.2.1 = y3.2.1
      rw [← hy5]
      show y4.2.1 = y3.2.1
      rw [q4]
    · rw [a5 a (by omega), q4]
    · show y5.2.2.2 = y3.2.2.2
      rw [← hy5]
      show y4.2.2.2 = y3.2.2.2
      rw [q4]
  have hbs : ∃ bs : Nat → Nat, (∀ c, c < 4 → y5.2.2.1 31 c = nI (bs c)) ∧ ∀ c, c < g.2.2.1 → bs c = gBs g c := by
    refine ⟨fun c => if c < g.2.2.1 then gBs g c else (y5.2.2.1 31 c).toBitVec.toNat, fun c hc => ?_, fun c hc => if_pos hc⟩
    by_cases z : c < g.2.2.1
    · dsimp only
      rw [if_pos z, a5 31 (by decide), a4 31 (by omega) (by omega) (by omega)]
      exact (hG.2 c z).2
    · dsimp only
      rw [if_neg z]
      exact nI_sur _
  obtain ⟨bs, hbs1, hbs2⟩ := hbs
  have mix : ∀ i, i < s2.1 10 → sgTd s2 (s2.2.2.2.2.2.1 i).1 = (s2.2.2.2.2.2.1 i).2.1 ∧ sgTa s2 (s2.2.2.2.2.2.1 i).1 = (s2.2.2.2.2.2.1 i).2.2.1 := by
    intro i hi
    unfold sgTd sgTa
    rw [mIx_i mok hi]
    exact ⟨rfl, rfl⟩
  have rT5 : ∀ k, k < 8 → ∀ W, s2.2.2.1 k = some W → rT y5 k W.1 W.2 W.2.length := by
    intro k hk W hW
    have := r2 k hk W hW
    unfold rT
    rw [a5 37 (by decide), a5 38 (by decide), q4, F3.2.2.1 37 (by decide) (by decide) (by decide) (by decide), F3.2.2.1 38 (by decide) (by decide) (by decide) (by decide)]
    exact this
  have RD : rdY y5 (s2.1 11) (s2.1 12) (s2.1 13) (s2.1 14) bs g (fun i => (s2.2.2.2.2.2.1 i).1) (s2.1 10) (s2.1 1) (sgTd s2) (sgTa s2) (fun c => wOf (s2.2.2.1 (sgTd s2 c))) (fun c => wOf (s2.2.2.1 (4 + sgTa s2 c))) (fun i => D (s2.1 15 + i)) sz Q := by
    refine ⟨⟨⟨?_, ?_, ?_, ?_, fl, l6, by omega, b9, hbs1⟩, hbs2, ⟨?_, ?_, ?_, ?_, ?_, fun c hc => ?_⟩, fun i hi => ?_⟩, ?_, fun i hi => ?_, hdo, fun i hi => ?_, hQ2, ?_⟩
    · rw [i5 _ _ (by omega), ← hy4, wI_n _ _ (by omega)]
      unfold ySc
      rw [wI_n _ _ (by omega), wI_n _ _ (by omega), wI_n _ _ (by omega), wI_s]
    · rw [i5 _ _ (by omega), ← hy4, wI_n _ _ (by omega)]
      unfold ySc
      rw [wI_n _ _ (by omega), wI_n _ _ (by omega), wI_s]
    · rw [i5 _ _ (by omega), ← hy4, wI_n _ _ (by omega)]
      unfold ySc
      rw [wI_n _ _ (by omega), wI_s]
    · rw [i5 _ _ (by omega), ← hy4, wI_n _ _ (by omega)]
      unfold ySc
      rw [wI_s]
    · have e22 : y5.1 24 22 = nI mk := by
        rw [i5 _ _ (by omega), ← hy4, wI_n _ _ (by omega)]
        unfold ySc
        rw [wI_n _ _ (by omega), wI_n _ _ (by omega), wI_n _ _ (by omega), wI_n _ _ (by omega), wI_s]
      rw [e22, ← hmk]
      exact (mkN_r hg hm).1
    · rw [i5 _ _ (by omega), i4 _ _ (by omega), i3 _ _ (by omega) (by omega)]; exact hG.1.2.1
    · rw [i5 _ _ (by omega), i4 _ _ (by omega), i3 _ _ (by omega) (by omega)]; exact hG.1.2.2
    · rw [i5 _ _ (by omega), i4 _ _ (by omega), i3 _ _ (by omega) (by omega)]; exact hG.1.1
    · rw [i5 _ _ (by omega), ← hy4, wI_s]
    · rw [a5 25 (by decide), a5 26 (by decide), a5 27 (by decide), a5 29 (by decide), a5 30 (by decide), a4 25 (by omega) (by omega) (by omega), a4 26 (by omega) (by omega) (by omega), a4 27 (by omega) (by omega) (by omega), a4 29 (by omega) (by omega) (by omega), a4 30 (by omega) (by omega) (by omega)]
      exact (hG.2 c hc).1
    · have mi := mok.1 i hi
      have tt := t1 i (Nat.zero_le _) hi
      show zTy y5 (s2.2.2.2.2.2.1 i).1 (sgTd s2 (s2.2.2.2.2.2.1 i).1) (sgTa s2 (s2.2.2.2.2.2.1 i).1) (s2.1 11) (s2.1 12) (s2.1 13) (wOf (s2.2.2.1 (sgTd s2 (s2.2.2.2.2.2.1 i).1))) (wOf (s2.2.2.1 (4 + sgTa s2 (s2.2.2.2.2.2.1 i).1)))
      rw [(mix i hi).1, (mix i hi).2]
      refine ⟨?_, ?_, mi.2.1, mi.2.2.1, fun f0 b0 => ?_, fun l0 => ?_⟩
      · rw [a5 39 (by decide), q4]; exact tt.1
      · rw [a5 40 (by decide), q4]; exact tt.2
      · obtain ⟨W, hW⟩ := (hTb i hi).1 f0 b0
        rw [hW]
        exact ⟨(hO _ W hW).1, rT5 _ (by omega) W hW⟩
      · obtain ⟨W, hW⟩ := (hTb i hi).2 l0
        rw [hW]
        exact ⟨(hO _ W hW).1, rT5 _ (by omega) W hW⟩
    · rw [← hy5, wA_1, wI_s]
    · have hi' : s2.1 15 + i < L := by omega
      rw [← hy5, wA_s, fU_lt hi, a4 5 (by omega) (by omega) (by omega), (hin _ hi').1]
      exact ⟨hp _ hi', (hin _ hi').2⟩
    · rw [a5 32 (by decide), a4 32 (by omega) (by omega) (by omega)]
      exact hQ i hi
    · intro b0 l0 u i j hu hi hj _ k ka kb
      have tl := uT_lt hg hm hu hi hj
      have mi := mok.1 i hi
      refine hN (s2.2.2.2.2.2.1 i).1 (by omega) _ tl.1 tl.2.1 k (by omega) (by omega) ?_
      rw [hlt i hi k (by omega) (by omega) kb, if_pos b0]
  obtain ⟨y6, e6, F6, o6⟩ := m_read (X := X) (b := b) (w0 := w0) hg hm hb hff ok.1 RD
  have F : FYzz y y6 := F5.trans F6.z
  have i8 : y6.1 0 8 = nI (s2.1 8 - 1) := by
    rw [F6.1 _ _ (by omega), i5 _ _ (by omega), i4 _ _ (by omega), F3.1, F2.1 _ _ (by omega), ← hy1, wI_s]
  have sgr : sgR D g s2 Q = zSc (fun i => D (s2.1 15 + i)) sz (fun c => wOf (s2.2.2.1 (sgTd s2 c))) (fun c => wOf (s2.2.2.1 (4 + sgTa s2 c))) (s2.1 11) (s2.1 12) (s2.1 13) (s2.1 14) g (fun i => (s2.2.2.2.2.2.1 i).1) (s2.1 10) (s2.1 1) Q 0 := by
    unfold sgR
    rw [hsz]
  rcases o6 with ⟨f, z1, z2, z3⟩ | ⟨a, z1, z2, z3⟩
  · rw [z1] at e6
    refine ⟨nI (10 + f), y6, st2 _ (ed.trans ?_), F, i8, Or.inr (Or.inl ⟨b9, f, by rw [sgr, z1], rfl, z2, z3⟩)⟩
    unfold fX15_scanned_342
    refine ob_v (rg_C rfl rfl) (ob_v (rg_O rfl) (ob_v e6 (ei_n (nI_nle z2 (by omega)) ?_)))
    show some (10 + nI f, _) = _
    rw [show (10 : Int32) + nI f = nI (10 + f) from nI_add 10 f]
  · rw [z1] at e6
    refine ⟨0, y6, st2 _ (ed.trans ?_), F, i8, Or.inr (Or.inr ⟨b9, a, by rw [sgr, z1], rfl, z3, z2.2.2, ?_, ?_⟩)⟩
    · unfold fX15_scanned_342
      exact ob_v (rg_C rfl rfl) (ob_v (rg_O rfl) (ob_v e6 (ei_t (by show (0 : Int32) ≤ 0; decide) rfl)))
    · intro c hc T hT1 hT2 k hk1 hk2 hz
      obtain ⟨w1, w2⟩ := h8.1 _ hz
      rw [zSc_b fl (x := 64 * T + k) ?_ z1]
      · exact hN c hc T hT1 hT2 k hk1 hk2 w1
      · intro u i j hu hi hj hh
        have tl := uT_lt hg hm hu hi hj
        have hh : 64 * uT g (s2.1 10) u (s2.2.2.2.2.2.1 i).1 j + s2.1 11 ≤ 64 * T + k ∧ 64 * T + k ≤ 64 * uT g (s2.1 10) u (s2.2.2.2.2.2.1 i).1 j + s2.1 12 := hh
        have te : uT g (s2.1 10) u (s2.2.2.2.2.2.1 i).1 j = T := by
          generalize uT g (s2.1 10) u (s2.2.2.2.2.2.1 i).1 j = U at hh
          omega
        have ce : c = (s2.2.2.2.2.2.1 i).1 := gBs_dj hT1 hT2 (by rw [← te]; exact tl.1) (by rw [← te]; exact tl.2.1)
        exact w2 i hi (by omega)
    · intro c hc
      have q56 : y6.2.2.1 56 = y3.2.2.1 56 := by rw [F6.2.2.1 56 (by decide) (by decide) (by decide), a5 56 (by decide), q4]
      have q57 : y6.2.2.1 57 = y3.2.2.1 57 := by rw [F6.2.2.1 57 (by decide) (by decide) (by decide), a5 57 (by decide), q4]
      have y256 : y2.2.2.1 56 = y.2.2.1 56 := by rw [F2.2.2.1 56 (by omega), q1]
      have y257 : y2.2.2.1 57 = y.2.2.1 57 := by rw [F2.2.2.1 57 (by omega), q1]
      have y212 : y2.2.2.1 12 = y.2.2.1 12 := by rw [F2.2.2.1 12 (by omega), q1]
      rw [q56, q57]
      by_cases mem : ∃ i, i < s2.1 10 ∧ (s2.2.2.2.2.2.1 i).1 = c
      · obtain ⟨i, hi, rfl⟩ := mem
        obtain ⟨w1, w2⟩ := h8.2.2 i hi
        obtain ⟨v1, v2⟩ := t3 i (Nat.zero_le _) hi
        refine Or.inr ⟨w1, v1, fun k hk => ?_⟩
        rw [v2 k hk, w2 k hk, y256, y257, y212]
        have mi := mok.1 i hi
        have okc := kc _ mi.1
        rcases hS _ mi.1 with ⟨p1, p2⟩ | ⟨p1, p2, p3⟩
        · rw [if_pos p2, if_pos p1]
          rcases hs.2.2.2.2.2.2.1 _ okc.2.2.2.1 with ⟨g1, g2⟩ | ⟨_, _, g3⟩
          · exfalso
            -- its table was told
            have pos := (o2.2.2.2.2.2.2.2.2.2 _ w1 0 (by decide)).1
            rw [w2 0 (by decide), if_pos p1, Nat.add_zero, g1] at pos
            omega
          · exact g3 k hk
        · rw [if_neg (by rw [p2]; decide), if_neg p1]
          exact p3 k hk
      · have nm : ∀ j, j < s2.1 10 → (s2.2.2.2.2.2.1 j).1 ≠ c := fun j hj e => mem ⟨j, hj, e⟩
        have w := h8.2.1 c nm
        have v := t2 c (fun j _ hj => nm j hj)
        have w0' := (w 0 (by decide)).1
        rw [Nat.add_zero] at w0'
        rw [w0', v.2.2.1, y257]
        rcases hS c hc with ⟨p1, p2⟩ | ⟨p1, p2, p3⟩
        · exact Or.inl ⟨p1, p2⟩
        · refine Or.inr ⟨p1, p2, fun k hk => ?_⟩
          rw [v.2.2.2 k hk, y256, (w k hk).2]
          exact p3 k hk
end
