/-! openInput whole, by the class -/
section
variable {D : Nat → Nat} {L : Nat}
theorem sgNs_f : ∀ (r : Nat) (s s2 : sgS), sgNs D L r s = .inr (false, s2) → s2.1 7 = 0 ∧ s2.1 3 ≠ 0 ∧ (∀ c, c < s2.1 6 → s2.2.2.2.1 (64 * c) ≠ 0) ∧ s2.1 0 ≤ L := by
  intro r
  induction r with
  | zero => intro s o h; cases h
  | succ r ih =>
    intro s o h
    rw [sgNs_e] at h
    obtain ⟨a, e1, e2⟩ := sgB_i h
    obtain ⟨a', e3, e4⟩ := sgB_i e1
    have e4' : sgCs a'.1 s ∧ a' = a := by
      split at e4
      · exact ⟨by assumption, Sum.inr.inj e4⟩
      · cases e4
    obtain ⟨hcs, rfl⟩ := e4'
    have mp := sgMk_p (u := a'.1) (q := a'.2) e3
    by_cases c17 : a'.1 = 217
    · rw [if_pos c17] at e2
      have := congrArg Prod.snd (Sum.inr.inj e2)
      have : (uG s.1 0 a'.2, s.2) = o := this
      rw [← this]
      rw [c17] at hcs
      rcases hcs with ⟨_, z⟩ | ⟨z0, z⟩
      · omega
      · rcases z with z | z | z | z | z
        · omega
        · omega
        · exact ⟨z0, z.1.2, z.2, mp.2.1⟩
        · omega
        · omega
    · rw [if_neg c17] at e2
      obtain ⟨s2, e5, e6⟩ := sgB_i e2
      by_cases c18 : a'.1 = 218
      · rw [if_pos c18] at e6
        have := congrArg Prod.fst (Sum.inr.inj e6)
        cases this
      · rw [if_neg c18] at e6
        exact ih _ _ e6
theorem sgPs_f (hD : ∀ i, D i < 256) (hL : L ≤ 16384) : ∀ (r : Nat) (s sf : sgS), sgOk s → sgO2 s → sgPs D L r s = .inr sf → sgOk sf ∧ sgO2 sf ∧ sf.1 7 = 0 ∧ sf.1 3 ≠ 0 ∧ (∀ c, c < sf.1 6 → sf.2.2.2.1 (64 * c) ≠ 0) ∧ sf.1 0 ≤ L := by
  intro r
  induction r with
  | zero => intro s sf _ _ h; cases h
  | succ r ih =>
    intro s sf ok o2 h
    unfold sgPs at h
    obtain ⟨o, h1, h2⟩ := sgB_i h
    obtain ⟨j1, j2, j3, j4⟩ := sgNs_k hD hL _ _ _ ok o2 h1
    by_cases z : o.1 = true
    · rw [if_pos z] at h2
      exact ih _ _ j2 j3 h2
    · rw [if_neg z] at h2
      have e := Sum.inr.inj h2
      rw [← e]
      refine ⟨j2, j3, ?_⟩
      refine sgNs_f (D := D) (L + 1) s o.2 ?_
      rw [h1]
      congr 1
      refine Prod.ext ?_ rfl
      cases q : o.1
      · rfl
      · exact absurd q z
theorem sf_g {sf : sgS} (ok : sgOk sf) (o2 : sgO2 sf) (h7 : sf.1 7 = 0) (h3 : sf.1 3 ≠ 0) (hl : ∀ c, c < sf.1 6 → sf.2.2.2.1 (64 * c) ≠ 0) : sf.1 5 ≠ 0 ∧ sf.1 8 ≠ 0 ∧ gOk (gOf sf (sf.1 5)) := by
  obtain ⟨k1, k3, k6, k6b, k7, kc, kq, kl, k8⟩ := ok
  obtain ⟨p1, p2, p3, p4, p5, p6, p7, p8, p9, p10⟩ := o2
  have n1 := k6b h3
  have z8 : sf.1 8 ≠ 0 := fun z => hl 0 (by omega) ((k8.mp z) 0 (by omega))
  have z5 : sf.1 5 ≠ 0 := fun z => by
    have := (p3 h3 z).2
    omega
  have p6 := p6 h3
  refine ⟨z5, z8, ?_⟩
  refine ⟨p6.1.1, p6.1.2, ?_, p6.2, n1, k6, fun c hc => ?_⟩
  · show 1 ≤ sf.1 5
    omega
  · have := kc c hc
    exact ⟨this.2.1, this.2.2.1⟩
end
def FXO (P : Nat) (x x' : rg_S) : Prop := (∀ p k, ¬ (40 ≤ p ∧ p ≤ 104) → p ≠ P → ¬ (p = 0 ∧ (k = 3 ∨ 13 ≤ k ∧ k ≤ 17)) → x'.1 p k = x.1 p k) ∧ (∀ p k, ¬ (40 ≤ p ∧ p ≤ 104) → ¬ (p = 0 ∧ (k = 4 ∨ k = 5)) → x'.2.1 p k = x.2.1 p k) ∧ ∀ a, ¬ (40 ≤ a ∧ a ≤ 104) → ¬ (P < a ∧ a ≤ P + 7) → x'.2.2.1 a = x.2.2.1 a
theorem FXop.O {P : Nat} {x x' : rg_S} (h : FXop P x x') : FXO P x x' := ⟨fun p k a c _ => h.1 p k a c, fun p k a _ => h.2.1 p k a, h.2.2.1⟩
theorem FXO.trans {P : Nat} {x x1 x2 : rg_S} (h : FXO P x x1) (h2 : FXO P x1 x2) : FXO P x x2 := ⟨fun p k a c d => (h2.1 p k a c d).trans (h.1 p k a c d), fun p k a c => (h2.2.1 p k a c).trans (h.2.1 p k a c), fun a e d => (h2.2.2 a e d).trans (h.2.2 a e d)⟩
def opF (x x' : rg_S) (v : Int32) (f : Nat) (pl : Int32) : Prop := v = nI f ∧ x'.1 0 13 = nI f ∧ x'.1 0 14 = pl ∧ (∀ k, k = 3 ∨ 15 ≤ k ∧ k ≤ 17 → x'.1 0 k = x.1 0 k) ∧ x'.2.1 0 4 = x.2.1 0 4 ∧ x'.2.1 0 5 = x.2.1 0 5
section
variable {X : px_X} {b B : Nat} {w0 w1 : px_W} {x x' : rg_S} {P Q L : Nat} {D : Nat → Nat}
theorem xRefuse {f : Nat} {pl : Int32} {x1 : rg_S} (F : FXop P x x1) (hP : isP P) : ∃ x', fX11_refuseInput X (rg_p lX B w0 x1) (B + 0) (nI f) pl = some (nI f, rg_p lX B w0 x') ∧ FXO P x x' ∧ opF x x' (nI f) f pl := by
  have hP' : P = 7 ∨ P = 15 := hP
  refine ⟨rg_wI (rg_wI x1 0 13 (nI f)) 0 14 pl, ?_, F.O.trans ⟨fun p k _ _ h => ?_, fun _ _ _ _ => rfl, fun _ _ _ => rfl⟩, rfl, ?_, wI_s _ _ _ _, fun k hk => ?_, ?_, ?_⟩
  · unfold fX11_refuseInput
    exact ob_v (rg_pI rfl rfl _) (ob_v (rg_pI rfl rfl _) rfl)
  · rw [wI_n _ _ (by omega), wI_n _ _ (by omega)]
  · rw [wI_n _ _ (by omega), wI_s]
  · rw [wI_n _ _ (by omega), wI_n _ _ (by omega), F.1 _ _ (by omega) (by omega)]
  · show x1.2.1 0 4 = x.2.1 0 4
    exact F.2.1 _ _ (by omega)
  · show x1.2.1 0 5 = x.2.1 0 5
    exact F.2.1 _ _ (by omega)
theorem x_open (hP : isP P) (hQ : isP Q) (hPQ : P ≠ Q) (hR : x.2.1 0 4 = Q) (hR' : x.2.1 0 5 = P) (hD : ∀ i, D i < 256) (hL1 : x.1 1 1 = nI L) (hL : L ≤ 16384) (hb : ∀ i, i < L → x.2.2.1 2 i &&& 255 = nI (D i)) (hz : ∀ i, i < L → (x.2.2.1 2 i = 0 ↔ D i = 0)) : ∃ v x', fX11_openInput X (rg_p lX B w0 x) (B + 0) = some (v, rg_p lX B w0 x') ∧ FXO P x x' ∧ ((∃ f, sgB (sgBg D L) (sgPs D L (L + 1)) = .inl f ∧ opF x x' v f.1 (nI f.2)) ∨ (∃ sf, sgB (sgBg D L) (sgPs D L (L + 1)) = .inr sf ∧ ¬ gBs (gOf sf (sf.1 5)) (gOf sf (sf.1 5)).2.2.1 ≤ 192 ∧ opF x x' v 9 (-1)) ∨ (∃ sf f k, sgB (sgBg D L) (sgPs D L (L + 1)) = .inr sf ∧ gBs (gOf sf (sf.1 5)) (gOf sf (sf.1 5)).2.2.1 ≤ 192 ∧ sgRd D L (gOf sf (sf.1 5)) (sf.1 8) sg0 (fun _ => 0) = .inl (f, k) ∧ opF x x' v f (nI k)) ∨ ∃ sf Q', sgB (sgBg D L) (sgPs D L (L + 1)) = .inr sf ∧ gBs (gOf sf (sf.1 5)) (gOf sf (sf.1 5)).2.2.1 ≤ 192 ∧ sgRd D L (gOf sf (sf.1 5)) (sf.1 8) sg0 (fun _ => 0) = .inr Q' ∧ v = 0 ∧ (x'.1 0 13 = 0 ∧ x'.1 0 14 = -1 ∧ x'.1 0 15 = nI (sf.1 8) ∧ x'.1 0 16 = nI (sf.1 2) ∧ x'.1 0 17 = x.1 0 17 + 1) ∧ x'.1 0 3 = 1 ∧ x'.2.1 0 4 = P ∧ x'.2.1 0 5 = Q ∧ xPic x' P (gOf sf (sf.1 5)) ∧ stX x' P sf.2.2.2.1 sf.2.2.2.2.2.2 ∧ ∀ i, i < 12288 → x'.2.2.1 (P + 6) i = Q' i) := by
  have hP' : P = 7 ∨ P = 15 := hP
  have hQ' : Q = 7 ∨ Q = 15 := hQ
  generalize hx1 : rg_wI (rg_wR x 40 1 P) 40 14 0 = x1
  have F1 : FXop P x x1 := by
    rw [← hx1]
    refine ⟨fun p k a _ => wI_n _ _ (by omega), fun p k a => ?_, fun _ _ _ => rfl, rfl⟩
    show (if p = 40 ∧ k = 1 then P else x.2.1 p k) = x.2.1 p k
    rw [if_neg (by omega)]
  have r1 : x1.2.1 40 1 = P := by rw [← hx1]; rfl
  have b1 : ∀ i, i < L → x1.2.2.1 2 i &&& 255 = nI (D i) ∧ D i < 256 := by
    intro i hi
    rw [F1.2.2.1 2 (by omega) (by omega)]
    exact ⟨hb i hi, hD i⟩
  obtain ⟨x2, e2, F2, i14, iP, aP, o2⟩ := x_beg (X := X) (B := B) (w0 := w0) hP r1 (by rw [F1.1 _ _ (by omega) (by omega)]; exact hL1) hL b1
  have start : ∀ z, fX11_openInput_13 X FU (B + 0) 0 (rg_p lX B w0 x2) = z → fX11_openInput X (rg_p lX B w0 x) (B + 0) = z := by
    intro z hz'
    unfold fX11_openInput fX8_begin
    refine ob_v (rg_C rfl rfl) (ob_v (rg_R rfl rfl) (ob_v (rg_O rfl) (ob_v (v := rg_p lX B w0 x2) ?_ hz')))
    rw [hR']
    refine ob_v (rg_pR rfl rfl _) (ob_v (rg_pI rfl rfl _) (ob_v (rg_O rfl) ?_))
    rw [hx1]
    exact ob_v e2 rfl
  have F12 : FXop P x x2 := F1.trans F2.op
  have flt : ∀ (k : Int32) (z : rg_S) (f : sgF), FXop P x z → ftX z f → ∃ x', fX11_openInput_36 X (B + 0) k (rg_p lX B w0 z) = some (nI f.1, rg_p lX B w0 x') ∧ FXO P x x' ∧ opF x x' (nI f.1) f.1 (nI f.2) := by
    intro k z f Fz hf
    obtain ⟨x', e, F, o⟩ := xRefuse (X := X) (B := B) (w0 := w0) (f := f.1) (pl := nI f.2) Fz hP
    refine ⟨x', ?_, F, o⟩
    unfold fX11_openInput_36
    refine ob_v (rg_C rfl rfl) (ob_v (rg_I rfl rfl) (ei_n ?_ (ob_v (rg_C rfl rfl) (ob_v (rg_I rfl rfl) (ob_v (rg_C rfl rfl) (ob_v (rg_I rfl rfl) (ob_v (rg_O rfl) ?_)))))))
    · rw [hf.1]
      exact nI_ne0 (by have := hf.2.2.1; omega) (by have := hf.2.2.2.1; omega)
    · rw [hf.1, hf.2.1]
      exact ob_v e rfl
  rcases o2 with ⟨f, q1, q2⟩ | ⟨q1, q2, q3⟩
  · rw [q1]
    obtain ⟨x', e, F, o⟩ := flt 0 x2 f F12 q2
    refine ⟨nI f.1, x', start _ ?_, F, Or.inl ⟨f, rfl, o⟩⟩
    rw [show FU = 3999999 + 1 from rfl, fX11_openInput_13.eq_2]
    refine ei_n (by decide) (ob_v (rg_C rfl rfl) (ob_v (rg_O rfl) (ob_v (v := (0, rg_p lX B w0 x2)) ?_ (ei_t rfl e))))
    unfold fX8_nextScan
    rw [show FU = 3999999 + 1 from rfl, fX8_nextScan_2.eq_2]
    refine ob_v (rg_I rfl rfl) (ei_n ?_ rfl)
    rw [q2.1]
    exact nI_ne0 (by have := q2.2.2.1; omega) (by have := q2.2.2.2.1; omega)
  rw [q1]
  show ∃ v x', _ ∧ _ ∧ ((∃ f, sgPs D L (L + 1) sg0 = .inl f ∧ _) ∨ (∃ sf, sgPs D L (L + 1) sg0 = .inr sf ∧ _) ∨ (∃ sf f k, sgPs D L (L + 1) sg0 = .inr sf ∧ _) ∨ ∃ sf Q', sgPs D L (L + 1) sg0 = .inr sf ∧ _)
  have h0 : hX x2 P 0 sg0 := ⟨by rw [i14, ← hx1, wI_s]; rfl, fun z => absurd rfl z⟩
  obtain ⟨k, x3, e3, F3, o3⟩ := x_ps (X := X) (B := B) (w0 := w0) (P := P) (D := D) (L := L) (L + 1) FU 0 x2 sg0 (by show L < 2 + (L + 1); omega) (by unfold FU; omega) q2 q3 sg0_ok.1 sg0_ok.2 h0
  have F13 : FXop P x x3 := F12.trans F3.op
  rcases o3 with ⟨f, t1, t2⟩ | ⟨sf, t1, t2, t3, t4, ok, ok2, kp, ⟨z7, z3, zl⟩, ln, t5, t6, t7⟩
  · obtain ⟨x', e, F, o⟩ := flt (nI k) x3 f F13 t2
    exact ⟨nI f.1, x', start _ (e3.trans e), F, Or.inl ⟨f, t1, o⟩⟩
  obtain ⟨s5, s8, hg⟩ := sf_g ok ok2 z7 z3 zl
  have s8b : sf.1 8 < 2000 := by
    have := ok2.2.2.2.2.2.2.1
    have := t3.2.2.2.1
    omega
  have n4 := ok.2.2.1
  have hlH : sf.1 9 ≠ 0 → ln = sf.1 5 := fun z => t7 (fun z' => absurd rfl z') z3 z s5
  have xfr : xFr x3 P (gOf sf (sf.1 5)) := by
    refine ⟨t4.1.2.2.2.2.2.2.2.1 z3, ?_, t4.1.2.2.2.2.2.2.1, fun c hc => (t4.1.2.2.2.2.2.2.2.2.2.2 c hc).2.1, fun c hc => (t4.1.2.2.2.2.2.2.2.2.2.2 c hc).2.2.1⟩
    rw [t5.2 z3, if_neg s5]
    rfl
  have r3 : x3.2.1 0 5 = P := by rw [F13.2.1 _ _ (by omega)]; exact hR'
  generalize hgg : gOf sf (sf.1 5) = g at *
  have hgn : g.2.2.1 = sf.1 6 := by rw [← hgg]; rfl
  have gb := hg.bs (c := g.2.2.1) (Nat.le_refl _)
  have st := x_settle (X := X) (B := B) (w0 := w0) hP hg xfr
  generalize hx4 : xSt x3 P g g.2.2.1 = x4
  rw [hx4] at st
  have p4 : xPic x4 P g := by rw [← hx4]; exact xSt_pic xfr
  have i4 : ∀ p k, p ≠ P → x4.1 p k = x3.1 p k := by
    intro p k h
    rw [← hx4]
    unfold xSt xSt0
    rw [wI_n _ _ (by omega), wA_1, wA_1, wA_1, wI_n _ _ (by omega), wI_n _ _ (by omega)]
  have q4 : x4.2.1 = x3.2.1 := by rw [← hx4]; rfl
  have a4 : ∀ a, a ≠ P + 3 → a ≠ P + 4 → a ≠ P + 5 → x4.2.2.1 a = x3.2.2.1 a := by
    intro a h1 h2 h3
    rw [← hx4]
    unfold xSt xSt0
    rw [wI_2, wA_n _ _ h3, wA_n _ _ h2, wA_n _ _ h1, wI_2, wI_2]
  have j4 : x4.2.2.2 = x3.2.2.2 := by rw [← hx4]; rfl
  have F14 : FXop P x x4 := F13.trans ⟨fun p k _ h => i4 p k h, fun p k _ => by rw [q4], fun a h1 h2 => a4 a (by omega) (by omega) (by omega), j4⟩
  have start2 : ∀ z, (if nI (gBs g g.2.2.1) ≤ 192 then (gR (rg_p lX B w0 x4) (B + P) 2 11).bind (fun v97 => (fJ7_fill_53178 X (rg_p lX B w0 x4) v97 0).bind fun q98 => (gR q98 (B + 0) 11 10).bind fun v99 => (gI q98 v99 8 5).bind fun v100 => (gR q98 (B + 0) 11 10).bind fun v101 => (gO q98 v101 8).bind fun o102 => (fX8_beginAgain X q98 v101).bind fun q103 => fX11_openInput_121 X FU (B + 0) (nI k) v100 0 q103) else (fX11_refuseInput X (rg_p lX B w0 x4) (B + 0) 9 (-1)).bind fun q105 => some (q105.1, q105.2)) = z → fX11_openInput X (rg_p lX B w0 x) (B + 0) = z := by
    intro z hz'
    refine start _ (e3.trans ?_)
    unfold fX11_openInput_36
    refine ob_v (rg_C rfl rfl) (ob_v (rg_I rfl rfl) (ei_t t3.2.1 (ob_v (rg_R rfl rfl) ?_)))
    rw [r3]
    refine ob_v (rg_O hP.o) (ob_v st (ob_v (rg_R rfl rfl) ?_))
    rw [q4, r3]
    refine ob_v (rg_I hP.o rfl) ?_
    rw [p4.2.2.2.1]
    by_cases c : nI (gBs g g.2.2.1) ≤ 192
    · rw [if_pos c] at hz'
      refine ei_t c (ob_v (rg_R rfl rfl) ?_)
      rw [q4, r3]
      exact hz'
    · rw [if_neg c] at hz'
      exact ei_n c (ob_v (rg_O rfl) hz')
  by_cases hb192 : ¬ gBs g g.2.2.1 ≤ 192
  · obtain ⟨x', e, F, o⟩ := xRefuse (X := X) (B := B) (w0 := w0) (f := 9) (pl := -1) F14 hP
    exact ⟨nI 9, x', start2 _ (ei_n (nI_ge (a := 192) (by omega) (by omega)) (ob_v e rfl)), F, Or.inr (Or.inl ⟨sf, t1, by rw [hgg]; exact hb192, o⟩)⟩
  have hb192 := Classical.not_not.mp hb192
  generalize hx5 : rg_wA x4 (P + 6) (fun i => if i < 12288 then 0 else x4.2.2.1 (P + 6) i) = x5
  have i5 : x5.1 = x4.1 := by rw [← hx5]; rfl
  have q5 : x5.2.1 = x4.2.1 := by rw [← hx5]; rfl
  have a5 : ∀ a, a ≠ P + 6 → x5.2.2.1 a = x4.2.2.1 a := fun a h => by rw [← hx5, wA_n _ _ h]
  have F15 : FXop P x x5 := F14.trans ⟨fun p k _ _ => by rw [i5], fun p k _ => by rw [q5], fun a _ h2 => a5 a (by omega), by rw [← hx5]; rfl⟩
  have r5 : x5.2.1 40 1 = P := by rw [q5, q4]; exact t4.1.2.1
  have b5 : ∀ i, i < L → x5.2.2.1 2 i &&& 255 = nI (D i) ∧ D i < 256 := by
    intro i hi
    rw [F15.2.2.1 2 (by omega) (by omega)]
    exact ⟨hb i hi, hD i⟩
  obtain ⟨x6, e6, F6, i614, i6P, a6P, o6⟩ := x_beg (X := X) (B := B) (w0 := w0) hP r5 (by rw [F15.1 _ _ (by omega) (by omega)]; exact hL1) hL b5
  have F16 : FXop P x x6 := F15.trans F6.op
  have v405 : x5.1 40 5 = nI (sf.1 2) := by rw [i5, i4 _ _ (by omega)]; exact t4.1.2.2.2.1
  have start3 : ∀ z, fX11_openInput_121 X FU (B + 0) (nI (sf.1 8)) (nI (sf.1 2)) (nI 0) (rg_p lX B w0 x6) = z → fX11_openInput X (rg_p lX B w0 x) (B + 0) = z := by
    intro z hz'
    refine start2 _ (ei_t (nI_le (b := 192) hb192 (by omega)) (ob_v (rg_C hP.o rfl) (ob_v (rg_fill hP.a6 (by decide) 0) ?_)))
    rw [hx5]
    refine ob_v (rg_C rfl rfl) (ob_v (rg_I rfl rfl) ?_)
    rw [v405]
    refine ob_v (rg_C rfl rfl) (ob_v (rg_O rfl) (ob_v e6 ?_))
    rw [t2]
    exact hz'
  rcases o6 with ⟨f, w1, _⟩ | ⟨_, w2, w3⟩
  · rw [q1] at w1; cases w1
  have G6 : xGeo x6 P g := by
    obtain ⟨_, g1, g2, g3, g4⟩ := p4
    unfold xGeo
    rw [i6P 3 (by omega), i6P 4 (by omega), i6P 5 (by omega), i5, a6P (P + 3) (by omega), a6P (P + 4) (by omega), a6P (P + 5) (by omega), a5 _ (by omega), a5 _ (by omega), a5 _ (by omega)]
    exact ⟨g1, g2, g3, g4⟩
  have h6 : hX x6 P ln sg0 := ⟨by rw [i614, i5, i4 _ _ (by omega)]; exact t5.1, fun z => absurd rfl z⟩
  have rd := x_rd (X := X) (B := B) (w0 := w0) (P := P) (sf := sf) (H := sf.1 5) (A2 := nI (sf.1 2)) (D := D) (L := L) hD (by rw [hgg]; exact hg) (by rw [hgg]; exact hb192) rfl s5 (by omega) (sf.1 8) FU (L + 1) ln x6 sg0 (fun _ => 0) hlH (by show 0 + sf.1 8 = sf.1 8; omega) (by unfold FU; omega) t1 (fun z => absurd rfl z) (by rw [F16.2.1 _ _ (by omega)]; exact hR') w2 (by rw [F16.2.2.1 2 (by omega) (by omega)]; exact hz) w3 sg0_ok.1 sg0_ok.2 h6 (by rw [hgg]; exact G6) (fun i hi => by rw [a6P (P + 6) (by omega), ← hx5, wA_s, if_pos hi]) (fun i _ => by
    unfold cfOk
    rw [show (0 : Int32).toInt = 0 from rfl]
    split <;> omega)
  rw [hgg] at rd
  obtain ⟨x7, F7, o7⟩ := rd
  have F17 : FXop P x x7 := F16.trans F7
  rcases o7 with ⟨f, k', u1, u2, u3, u4⟩ | ⟨Q', u1, u2, u3, u4, u5, u6⟩
  · obtain ⟨x', e, F, o⟩ := xRefuse (X := X) (B := B) (w0 := w0) (f := f) (pl := nI k') F17 hP
    refine ⟨nI f, x', start3 _ ((u4 : _ = _).trans ?_), F, Or.inr (Or.inr (Or.inl ⟨sf, f, k', t1, by rw [hgg]; exact hb192, by rw [hgg]; exact u1, o⟩))⟩
    unfold fX11_openInput_195
    exact ob_v (rg_O rfl) (ob_v e rfl)
  · have pic7 := u3 (by show 0 + sf.1 8 ≠ 0; omega)
    generalize hx8 : rg_wI (rg_wI (rg_wI (rg_wI (rg_wI x7 0 13 0) 0 14 (-1)) 0 15 (nI (sf.1 8))) 0 16 (nI (sf.1 2))) 0 17 (x.1 0 17 + 1) = x8
    have i8 : ∀ p k, ¬ (p = 0 ∧ 13 ≤ k ∧ k ≤ 17) → x8.1 p k = x7.1 p k := by
      intro p k h
      rw [← hx8, wI_n _ _ (by omega), wI_n _ _ (by omega), wI_n _ _ (by omega), wI_n _ _ (by omega), wI_n _ _ (by omega)]
    have q8 : x8.2 = x7.2 := by rw [← hx8]; rfl
    have r84 : x8.2.1 0 4 = Q := by rw [q8, F17.2.1 _ _ (by omega)]; exact hR
    have r85 : x8.2.1 0 5 = P := by rw [q8, F17.2.1 _ _ (by omega)]; exact hR'
    have td := x_takeDraft (X := X) (B := B) (w0 := w0) r84 r85
    have i9 : ∀ p k, ¬ (p = 0 ∧ k = 3) → (xTD x8 P Q).1 p k = x8.1 p k := fun p k h => wI_n _ _ (by omega)
    refine ⟨0, xTD x8 P Q, start3 _ ((u2 : _ = _).trans ?_), ?_, Or.inr (Or.inr (Or.inr ⟨sf, Q', t1, by rw [hgg]; exact hb192, by rw [hgg]; exact u1, rfl, ⟨?_, ?_, ?_, ?_, ?_⟩, wI_s _ _ _ _, rfl, rfl, ?_, ?_, ?_⟩))⟩
    · unfold fX11_openInput_209
      refine ob_v (rg_pI rfl rfl _) (ob_v (rg_pI rfl rfl _) (ob_v (rg_pI rfl rfl _) (ob_v (rg_pI rfl rfl _) (ob_v (rg_I rfl rfl) ?_))))
      rw [wI_n _ _ (by omega), wI_n _ _ (by omega), wI_n _ _ (by omega), wI_n _ _ (by omega), F17.1 _ _ (by omega) (by omega)]
      refine ob_v (rg_pI rfl rfl _) ?_
      rw [hx8]
      exact ob_v (rg_O rfl) (ob_v td rfl)
    · refine F17.O.trans ⟨fun p k _ _ h => ?_, fun p k _ h => ?_, fun a _ _ => ?_⟩
      · rw [i9 p k (by omega), i8 p k (by omega)]
      · show (if p = 0 ∧ k = 5 then Q else if p = 0 ∧ k = 4 then P else x8.2.1 p k) = x7.2.1 p k
        rw [if_neg (by omega), if_neg (by omega), q8]
      · show x8.2.2.1 a = x7.2.2.1 a
        rw [q8]
    · rw [i9 _ _ (by omega), ← hx8, wI_n _ _ (by omega), wI_n _ _ (by omega), wI_n _ _ (by omega), wI_n _ _ (by omega), wI_s]
    · rw [i9 _ _ (by omega), ← hx8, wI_n _ _ (by omega), wI_n _ _ (by omega), wI_n _ _ (by omega), wI_s]
    · rw [i9 _ _ (by omega), ← hx8, wI_n _ _ (by omega), wI_n _ _ (by omega), wI_s]
    · rw [i9 _ _ (by omega), ← hx8, wI_n _ _ (by omega), wI_s]
    · rw [i9 _ _ (by omega), ← hx8, wI_s]
    · rw [hgg]
      refine xPic.c (x := x7) pic7 (fun k hk => ?_) (fun j _ _ => ?_)
      · rw [i9 _ _ (by omega), i8 _ _ (by omega)]
      · show x8.2.2.1 (P + j) = x7.2.2.1 (P + j)
        rw [q8]
    · unfold stX
      show ∀ j, j < 256 → _ → x8.2.2.1 (P + 7) j = _
      rw [q8]
      exact u4
    · show ∀ i, i < 12288 → x8.2.2.1 (P + 6) i = Q' i
      rw [q8]
      exact u5
end
