/-! A PICTURE's contents on both sides; the class' becomeTransposed -/
def XP (x : rg_S) (Q P : Nat) (g : gG) (F S : Nat → Int32) : Prop := isP Q ∧ isP P ∧ P ≠ Q ∧ x.2.1 0 4 = Q ∧ x.2.1 0 5 = P ∧ x.1 0 3 = 1 ∧ gOk g ∧ gBs g g.2.2.1 ≤ 192 ∧ xPic x Q g ∧ (∀ i, i < 64 * gBs g g.2.2.1 → x.2.2.1 (Q + 6) i = F i) ∧ ∀ i, i < 64 * g.2.2.1 → x.2.2.1 (Q + 7) i = S i
def YP (y : rg_S) (g : gG) (F S : Nat → Int32) : Prop := y.1 0 17 = 1 ∧ gOk g ∧ gBs g g.2.2.1 ≤ 192 ∧ mPic y g ∧ (∀ i, i < 64 * gBs g g.2.2.1 → y.2.2.1 64 i = F i ∧ cfOk (i % 64) (F i)) ∧ ∀ i, i < 64 * g.2.2.1 → y.2.2.1 63 i = S i ∧ ∃ k, 1 ≤ k ∧ k ≤ 255 ∧ S i = nI k
/-- nothing changed but the pictures -/
def FX (x x' : rg_S) : Prop := (∀ o k, o < 7 ∨ 24 ≤ o ∧ o < 32 ∨ o = 195 → o ≠ 0 ∨ k ≠ 3 → x'.1 o k = x.1 o k) ∧ (∀ k, k ≠ 4 → k ≠ 5 → x'.2.1 0 k = x.2.1 0 k) ∧ ∀ o, o < 7 ∨ 24 ≤ o ∧ o < 32 ∨ o = 37 → x'.2.2.1 o = x.2.2.1 o
def FY (y y' : rg_S) : Prop := (∀ o k, o = 0 ∧ k < 17 ∨ o = 24 → y'.1 o k = y.1 o k) ∧ ∀ o, o < 3 ∨ 69 ≤ o ∧ o < 75 → y'.2.2.1 o = y.2.2.1 o
theorem FX.rfl {x : rg_S} : FX x x := ⟨fun _ _ _ _ => Eq.refl _, fun _ _ _ => Eq.refl _, fun _ _ => Eq.refl _⟩
theorem FY.rfl {y : rg_S} : FY y y := ⟨fun _ _ _ => Eq.refl _, fun _ _ => Eq.refl _⟩
theorem FX.trans {x x1 x2 : rg_S} (h : FX x x1) (h2 : FX x1 x2) : FX x x2 := ⟨fun o k a c => (h2.1 o k a c).trans (h.1 o k a c), fun k a c => (h2.2.1 k a c).trans (h.2.1 k a c), fun o a => (h2.2.2 o a).trans (h.2.2 o a)⟩
theorem FY.trans {y y1 y2 : rg_S} (h : FY y y1) (h2 : FY y1 y2) : FY y y2 := ⟨fun o k a => (h2.1 o k a).trans (h.1 o k a), fun o a => (h2.2 o a).trans (h.2 o a)⟩
theorem Rel.pic {x y x' y' : rg_S} {P Q : Nat} {g : gG} {F S : Nat → Int32} (h : Rel x y) (fx : FX x x') (fy : FY y y') (hx : XP x' Q P g F S) (hy : YP y' g F S) : Rel x' y' := by
  obtain ⟨h1, h2, h3, h4, h4b, h5, h6⟩ := h
  obtain ⟨f1, f2, f3⟩ := fx
  obtain ⟨e1', e2⟩ := fy
  have e1 : ∀ k, k < 17 → y'.1 0 k = y.1 0 k := fun k hk => e1' 0 k (Or.inl ⟨rfl, hk⟩)
  obtain ⟨hQ, hP, hPQ, hR, hR', ht, hg, hb, px, pc, ps⟩ := hx
  obtain ⟨ht', _, _, py, qc, qs⟩ := hy
  have hP' : P = 7 ∨ P = 15 := hP
  have hQ' : Q = 7 ∨ Q = 15 := hQ
  refine ⟨h1.c (f1 1 1 (by omega) (by omega)) (f3 2 (by omega)) (e1 1 (by decide)) (e2 1 (by omega)), h2.c ⟨f2 1 (by decide) (by decide), f2 2 (by decide) (by decide)⟩ (fun o ho => f1 o 1 (by omega) (by omega)) (fun o ho => f3 _ (by omega)) (e1 3 (by decide)) (e2 2 (by omega)), ?_, h4.c (fun p k hp hk => f1 _ k (by omega) (by omega)) (fun p hp => f3 _ (by omega)) (fun o o1 o2 => e2 o (by omega)), h4b.c (e2 72 (by omega)), ?_, h6.c (f3 37 (by omega)) (fun o o1 o2 => e2 o (by omega)) (fun k => f1 195 k (by omega) (by omega)) (e1' 24 42 (by omega))⟩
  · unfold r3
    rw [f1 0 13 (by omega) (by omega), f1 0 14 (by omega) (by omega), f1 0 15 (by omega) (by omega), f1 0 16 (by omega) (by omega), f1 0 17 (by omega) (by omega), e1 7 (by decide), e1 8 (by decide), e1 9 (by decide), e1 10 (by decide), e1 11 (by decide)]
    exact h3
  · refine ⟨Q, by omega, hR, Or.inr ⟨ht, ht', g, hg, hb, px, py, fun i hi => ?_, fun i hi => ?_⟩⟩
    · rw [pc i hi, (qc i hi).1]
      exact ⟨rfl, (qc i hi).2⟩
    · rw [ps i hi, (qs i hi).1]
      exact ⟨rfl, (qs i hi).2⟩
theorem Rel.XP {x y : rg_S} (h : Rel x y) (ht : x.1 0 3 = 1) : ∃ P Q g F S, XP x Q P g F S ∧ YP y g F S := by
  obtain ⟨Q, hP1, hR, h5⟩ := h.2.2.2.2.2.1
  rcases h5 with ⟨t1, t2⟩ | ⟨t1, t2, g, pg, pb, px, py, pc, ps⟩
  · exact absurd (ht.symm.trans t1) (by decide)
  · refine ⟨x.2.1 0 5, Q, g, y.2.2.1 64, y.2.2.1 63, ⟨by unfold isP; omega, by unfold isP; omega, by omega, hR, rfl, t1, pg, pb, px, fun i hi => (pc i hi).1, fun i hi => (ps i hi).1⟩, t2, pg, pb, py, fun i hi => ⟨rfl, (pc i hi).2⟩, fun i hi => ⟨rfl, (ps i hi).2⟩⟩
def gTr (g : gG) : gG := (g.2.1, g.1, g.2.2.1, g.2.2.2.2, g.2.2.2.1)
theorem gTr_ok {g : gG} (h : gOk g) : gOk (gTr g) := ⟨h.2.2.1, h.2.2.2.1, h.1, h.2.1, h.2.2.2.2.1, h.2.2.2.2.2.1, fun c hc => ⟨(h.2.2.2.2.2.2 c hc).2, (h.2.2.2.2.2.2 c hc).1⟩⟩
theorem gTr_ac (g : gG) (c : Nat) : gAc (gTr g) c = gDn g c := rfl
theorem gTr_dn (g : gG) (c : Nat) : gDn (gTr g) c = gAc g c := rfl
theorem gTr_bs (g : gG) : ∀ c, gBs (gTr g) c = gBs g c := by
  intro c
  induction c with
  | zero => rfl
  | succ c ih =>
    rw [show gBs (gTr g) (c + 1) = gBs (gTr g) c + gAc (gTr g) c * gDn (gTr g) c from rfl, show gBs g (c + 1) = gBs g c + gAc g c * gDn g c from rfl, ih, gTr_ac, gTr_dn, Nat.mul_comm]
/-- transposed coefficients and steps -/
def trB (g : gG) (c q : Nat) : Nat := gBs g c + (q % gDn g c) * gAc g c + q / gDn g c
def trV (g : gG) (F : Nat → Int32) : Nat → Int32 := flV (gTr g) (fun c q k => F (64 * trB g c q + tz k))
def trS (S : Nat → Int32) : Nat → Int32 := fun i => S (64 * (i / 64) + tz (i % 64))
theorem tr_in {g : gG} {c q : Nat} (hc : c < g.2.2.1) (hq : q < gDn g c * gAc g c) : q / gDn g c < gAc g c ∧ q % gDn g c < gDn g c ∧ trB g c q < gBs g g.2.2.1 := by
  have a0 : 0 < gDn g c := by
    rcases Nat.eq_zero_or_pos (gDn g c) with e | e
    · rw [e, Nat.zero_mul] at hq; omega
    · exact e
  have m1 := Nat.mod_lt q a0
  have m2 : q / gDn g c < gAc g c := Nat.div_lt_of_lt_mul hq
  have := gB_in (g := g) hc m2 m1
  exact ⟨m2, m1, by unfold trB; omega⟩
section
variable {X : px_X} {b B : Nat} {w0 w1 w : px_W} {x y : rg_S} {P Q : Nat} {g g' : gG} {F S : Nat → Int32}
/-- the draft's frame, transposed: c components done, of the next k steps -/
def xT0 (x : rg_S) (P Q : Nat) : rg_S := rg_wI (rg_wI (rg_wI x P 0 (x.1 Q 1)) P 1 (x.1 Q 0)) P 2 (x.1 Q 2)
def xT1 (x : rg_S) (P Q c s : Nat) : rg_S := rg_wA (rg_wA (rg_wA (xT0 x P Q) (P + 1) (fU c (x.2.2.1 (Q + 2)) (x.2.2.1 (P + 1)))) (P + 2) (fU c (x.2.2.1 (Q + 1)) (x.2.2.1 (P + 2)))) (P + 7) (fU s (trS (x.2.2.1 (Q + 7))) (x.2.2.1 (P + 7)))
theorem xT1_A (c s o : Nat) : (xT1 x P Q c s).2.2.1 o = if o = P + 7 then fU s (trS (x.2.2.1 (Q + 7))) (x.2.2.1 (P + 7)) else if o = P + 2 then fU c (x.2.2.1 (Q + 1)) (x.2.2.1 (P + 2)) else if o = P + 1 then fU c (x.2.2.1 (Q + 2)) (x.2.2.1 (P + 1)) else x.2.2.1 o := rfl
theorem xT1_I (c s o k : Nat) : (xT1 x P Q c s).1 o k = if o = P ∧ k = 2 then x.1 Q 2 else if o = P ∧ k = 1 then x.1 Q 0 else if o = P ∧ k = 0 then x.1 Q 1 else x.1 o k := rfl
theorem xT1_2 (c s : Nat) : (xT1 x P Q c s).1 P 2 = x.1 Q 2 := by
  rw [xT1_I]
  exact if_pos ⟨rfl, rfl⟩
theorem x_tr_s (hs : px_st X) (hP : isP P) (hQ : isP Q) (hPQ : P ≠ Q) {c M : Nat} (hc : c < 4) : fX2_becomeTransposed_60 X (fX2_becomeTransposed_26 X M) FU (B + P) (B + Q) (nI c) 0 (rg_p lX B w0 (xT1 x P Q (c + 1) (64 * c))) = fX2_becomeTransposed_26 X M (B + P) (B + Q) (nI (c + 1)) (rg_p lX B w0 (xT1 x P Q (c + 1) (64 * (c + 1)))) := by
  have hP' : P = 7 ∨ P = 15 := hP
  have hQ' : Q = 7 ∨ Q = 15 := hQ
  refine rg_lpF (F := fun u (q : Int32 × px_W) => fX2_becomeTransposed_60 X (fX2_becomeTransposed_26 X M) u (B + P) (B + Q) (nI c) q.1 q.2) 64 (fun k => (nI k, rg_p lX B w0 (xT1 x P Q (c + 1) (64 * c + k)))) (by omega) ?_ ?_
  · intro u k hk
    dsimp only
    have ht := tz_lt hk
    rw [fX2_becomeTransposed_60.eq_2]
    refine ei_n (nI_ge (b := 64) hk (by omega)) (ob_v (rg_C hP.o rfl) (ob_v (rg_C hQ.o rfl) (ob_v (s_tra hs hk) ?_)))
    rw [n64, n64]
    refine ob_v (rg_A hQ.a7 (by decide) _ (by omega) (by decide)) (ob_v (rg_sA _ hP.a7 (by decide) _ _ (by omega) (by decide)) ?_)
    have e1 : (xT1 x P Q (c + 1) (64 * c + k)).2.2.1 (Q + 7) (64 * c + tz k) = trS (x.2.2.1 (Q + 7)) (64 * c + k) := by
      rw [xT1_A, if_neg (by omega), if_neg (by omega), if_neg (by omega)]
      unfold trS
      rw [show (64 * c + k) / 64 = c by omega, show (64 * c + k) % 64 = k by omega]
    rw [e1, xT1_A, if_pos rfl, id, fU_s, nI_1]
    congr 2
    unfold xT1
    rw [wA_wA]
    rfl
  · intro u
    dsimp only
    rw [fX2_becomeTransposed_60.eq_2]
    refine ei_t (by decide) ?_
    rw [fX2_becomeTransposed_98, nI_1]
    rfl
theorem x_tr_f (hs : px_st X) (hP : isP P) (hQ : isP Q) (hPQ : P ≠ Q) {n : Nat} (hn : n ≤ 4) (h2 : x.1 Q 2 = nI n) : fX2_becomeTransposed X (rg_p lX B w0 x) (B + P) (B + Q) = fX2_becomeTransposed_104 X (B + P) (B + Q) (rg_p lX B w0 (xT1 x P Q n (64 * n))) := by
  have hP' : P = 7 ∨ P = 15 := hP
  have hQ' : Q = 7 ∨ Q = 15 := hQ
  unfold fX2_becomeTransposed
  refine ob_v (rg_I hQ.o rfl) (ob_v (rg_pI hP.o rfl _) (ob_v (rg_I hQ.o rfl) (ob_v (rg_pI hP.o rfl _) (ob_v (rg_I hQ.o rfl) (ob_v (rg_pI hP.o rfl _) ?_)))))
  rw [wI_n _ _ (by omega), wI_n _ _ (by omega), wI_n _ _ (by omega)]
  have e := rg_lpF (F := fun u (q : Int32 × px_W) => fX2_becomeTransposed_26 X u (B + P) (B + Q) q.1 q.2) n (fun c => (nI c, rg_p lX B w0 (xT1 x P Q c (64 * c)))) (r := fX2_becomeTransposed_104 X (B + P) (B + Q) (rg_p lX B w0 (xT1 x P Q n (64 * n)))) (by omega) ?_ ?_
  · refine Eq.trans ?_ e
    dsimp only
    have e0 : xT1 x P Q 0 (64 * 0) = xT0 x P Q := by
      have e : ∀ o, rg_wA (xT0 x P Q) o (x.2.2.1 o) = xT0 x P Q := fun o => wA_id rfl
      unfold xT1
      rw [Nat.mul_zero, fU_0, fU_0, fU_0, e, e, e]
    rw [e0, nI_0]
    rfl
  · intro u c hc
    dsimp only
    rw [fX2_becomeTransposed_26.eq_2]
    refine ob_v (rg_I hP.o rfl) ?_
    rw [xT1_2, h2, if_neg (nI_ge hc (by omega))]
    refine ob_v (rg_C hP.o rfl) (ob_v (rg_C hQ.o rfl) (ob_v (rg_A hQ.a2 (by decide) c (by omega) (by decide)) (ob_v (rg_sA _ hP.a1 (by decide) c _ (by omega) (by decide)) ?_)))
    refine ob_v (rg_C hP.o rfl) (ob_v (rg_C hQ.o rfl) (ob_v (rg_A hQ.a1 (by decide) c (by omega) (by decide)) (ob_v (rg_sA _ hP.a2 (by decide) c _ (by omega) (by decide)) ?_)))
    rw [← x_tr_s hs hP hQ hPQ (by omega)]
    congr 2
    have a1 : (xT1 x P Q c (64 * c)).2.2.1 (Q + 2) = x.2.2.1 (Q + 2) := by rw [xT1_A, if_neg (by omega), if_neg (by omega), if_neg (by omega)]
    have a2 : (xT1 x P Q c (64 * c)).2.2.1 (Q + 1) = x.2.2.1 (Q + 1) := by rw [xT1_A, if_neg (by omega), if_neg (by omega), if_neg (by omega)]
    have a3 : (xT1 x P Q c (64 * c)).2.2.1 (P + 1) = fU c (x.2.2.1 (Q + 2)) (x.2.2.1 (P + 1)) := by rw [xT1_A, if_neg (by omega), if_neg (by omega), if_pos rfl]
    have a4 : (xT1 x P Q c (64 * c)).2.2.1 (P + 2) = fU c (x.2.2.1 (Q + 1)) (x.2.2.1 (P + 2)) := by rw [xT1_A, if_neg (by omega), if_pos rfl]
    rw [wA_n _ _ (show Q + 1 ≠ P + 1 by omega), wA_n _ _ (show P + 2 ≠ P + 1 by omega), a1, a2, a3, a4, id, id, fU_s, fU_s]
    refine S_ext rfl rfl (fun o => ?_) rfl
    rw [wA_3, wA_3, xT1_A, xT1_A]
    by_cases e7 : o = P + 7
    · rw [if_pos e7, if_pos e7, if_neg (by omega), if_neg (by omega)]
    by_cases e2 : o = P + 2
    · rw [if_pos e2, if_neg e7, if_pos e2]
    by_cases e1 : o = P + 1
    · rw [if_neg e2, if_pos e1, if_neg e7, if_neg e2, if_pos e1]
    rw [if_neg e2, if_neg e1, if_neg e7, if_neg e2, if_neg e1, if_neg e7, if_neg e2, if_neg e1]
  · intro u
    dsimp only
    rw [fX2_becomeTransposed_26.eq_2]
    refine ob_v (rg_I hP.o rfl) ?_
    rw [xT1_2, h2, if_pos (nI_le (Nat.le_refl _) (by omega))]
/-- the blocks -/
theorem x_tr_k (hs : px_st X) (hP : isP P) (hQ : isP Q) (hPQ : P ≠ Q) {V Z : Nat → Int32} {c q T Fb M N : Nat} (hT : T < 192) (hF : Fb < 192) (hV : ∀ k, k < 64 → V (64 * T + k) = x.2.2.1 (Q + 6) (64 * Fb + tz k)) :
    fX2_becomeTransposed_189 X (fX2_becomeTransposed_110 X M) (fX2_becomeTransposed_120 X (fX2_becomeTransposed_110 X M) N) FU (B + P) (B + Q) (nI c) (nI q) (nI (64 * Fb)) (nI (64 * T)) 0 (rg_p lX B w0 (rg_wA x (P + 6) (fU (64 * T) V Z))) = fX2_becomeTransposed_120 X (fX2_becomeTransposed_110 X M) N (B + P) (B + Q) (nI c) (nI (q + 1)) (rg_p lX B w0 (rg_wA x (P + 6) (fU (64 * (T + 1)) V Z))) := by
  have hP' : P = 7 ∨ P = 15 := hP
  have hQ' : Q = 7 ∨ Q = 15 := hQ
  refine rg_lpF (F := fun u (t : Int32 × px_W) => fX2_becomeTransposed_189 X (fX2_becomeTransposed_110 X M) (fX2_becomeTransposed_120 X (fX2_becomeTransposed_110 X M) N) u (B + P) (B + Q) (nI c) (nI q) (nI (64 * Fb)) (nI (64 * T)) t.1 t.2) 64 (fun k => (nI k, rg_p lX B w0 (rg_wA x (P + 6) (fU (64 * T + k) V Z)))) (by omega) ?_ ?_
  · intro u k hk
    dsimp only
    have ht := tz_lt hk
    rw [fX2_becomeTransposed_189.eq_2]
    refine ei_n (nI_ge (b := 64) hk (by omega)) (ob_v (rg_C hP.o rfl) (ob_v (rg_C hQ.o rfl) (ob_v (s_tra hs hk) ?_)))
    rw [nI_add, nI_add]
    refine ob_v (rg_A hQ.a6 (by decide) _ (by omega) (by decide)) (ob_v (rg_sA _ hP.a6 (by decide) _ _ (by omega) (by decide)) ?_)
    rw [wA_wA, wA_s, wA_n _ _ (by omega), ← hV k hk, id, fU_s, nI_1]
    rfl
  · intro u
    dsimp only
    rw [fX2_becomeTransposed_189.eq_2]
    refine ei_t (by decide) ?_
    rw [fX2_becomeTransposed_226, nI_1]
    rfl
theorem x_tr_q (hs : px_st X) (hP : isP P) (hQ : isP Q) (hPQ : P ≠ Q) (hg : gOk g) (hb : gBs g g.2.2.1 ≤ 192) (hx : xPic x P (gTr g)) (hx' : xPic x Q g) {Z : Nat → Int32} {c M : Nat} (hc : c < g.2.2.1) :
    fX2_becomeTransposed_120 X (fX2_becomeTransposed_110 X M) FU (B + P) (B + Q) (nI c) 0 (rg_p lX B w0 (rg_wA x (P + 6) (fU (64 * gBs g c) (trV g (x.2.2.1 (Q + 6))) Z))) = fX2_becomeTransposed_110 X M (B + P) (B + Q) (nI (c + 1)) (rg_p lX B w0 (rg_wA x (P + 6) (fU (64 * gBs g (c + 1)) (trV g (x.2.2.1 (Q + 6))) Z))) := by
  have hP' : P = 7 ∨ P = 15 := hP
  have hQ' : Q = 7 ∨ Q = 15 := hQ
  have hc4 := hg.2.2.2.2.2.1
  have had := hg.ad hc
  have hac := hg.ac hc
  have hdn := hg.dn hc
  have mono := gBs_mono (g := g) (c := c + 1) (d := g.2.2.1) hc
  have es : gBs g (c + 1) = gBs g c + gAc g c * gDn g c := rfl
  have ecm : gDn g c * gAc g c = gAc g c * gDn g c := Nat.mul_comm _ _
  refine rg_lpF (F := fun u (t : Int32 × px_W) => fX2_becomeTransposed_120 X (fX2_becomeTransposed_110 X M) u (B + P) (B + Q) (nI c) t.1 t.2) (gDn g c * gAc g c) (fun q => (nI q, rg_p lX B w0 (rg_wA x (P + 6) (fU (64 * (gBs g c + q)) (trV g (x.2.2.1 (Q + 6))) Z)))) (by omega) ?_ ?_
  · intro u q hq
    dsimp only
    have hin := tr_in hc hq
    have px := hx.wA (o := P + 6) (f := fU (64 * (gBs g c + q)) (trV g (x.2.2.1 (Q + 6))) Z) (fun j _ _ => by omega)
    have qx := hx'.wA (o := P + 6) (f := fU (64 * (gBs g c + q)) (trV g (x.2.2.1 (Q + 6))) Z) (fun j _ _ => by omega)
    obtain ⟨p3, p4, p5⟩ := px.2.2.2.2 c hc
    obtain ⟨q3, q4, q5⟩ := qx.2.2.2.2 c hc
    rw [gTr_ac] at p3
    rw [gTr_dn] at p4
    rw [gTr_bs] at p5
    rw [fX2_becomeTransposed_120.eq_2]
    refine ob_v (rg_C hP.o rfl) (ob_v (rg_A hP.a3 (by decide) c (by omega) (by decide)) (ob_v (rg_C hP.o rfl) (ob_v (rg_A hP.a4 (by decide) c (by omega) (by decide)) ?_)))
    rw [p3, p4, pk_mul, if_neg (nI_ge hq (by omega))]
    refine ob_v (rg_C hQ.o rfl) (ob_v (rg_A hQ.a5 (by decide) c (by omega) (by decide)) (ob_v (rg_C hP.o rfl) (ob_v (rg_A hP.a3 (by decide) c (by omega) (by decide)) ?_)))
    rw [q5, p3]
    refine ob_v (rI_n (by omega) (by omega) (by omega)) (ob_v (rg_C hQ.o rfl) (ob_v (rg_A hQ.a3 (by decide) c (by omega) (by decide)) (ob_v (rg_C hP.o rfl) (ob_v (rg_A hP.a3 (by decide) c (by omega) (by decide)) ?_))))
    rw [q3, p3]
    refine ob_v (dI_n (by omega) (by omega) (by omega)) (ob_v (rg_C hP.o rfl) (ob_v (rg_A hP.a5 (by decide) c (by omega) (by decide)) ?_))
    rw [p5, pk_mul, nI_add, nI_add, nI_add, show (64 : Int32) * nI (gBs g c + q % gDn g c * gAc g c + q / gDn g c) = nI (64 * trB g c q) from pk_mul 64 _, show (64 : Int32) * nI (gBs g c + q) = nI (64 * (gBs g c + q)) from pk_mul 64 _]
    refine x_tr_k hs hP hQ hPQ (by omega) (by omega) (fun k hk => ?_)
    unfold trV
    rw [← gTr_bs, flV_at (by omega) (by rw [gTr_ac, gTr_dn]; exact hq) hk]
  · intro u
    dsimp only
    have px := hx.wA (o := P + 6) (f := fU (64 * (gBs g c + gDn g c * gAc g c)) (trV g (x.2.2.1 (Q + 6))) Z) (fun j _ _ => by omega)
    obtain ⟨p3, p4, p5⟩ := px.2.2.2.2 c hc
    rw [gTr_ac] at p3
    rw [gTr_dn] at p4
    rw [fX2_becomeTransposed_120.eq_2]
    refine ob_v (rg_C hP.o rfl) (ob_v (rg_A hP.a3 (by decide) c (by omega) (by decide)) (ob_v (rg_C hP.o rfl) (ob_v (rg_A hP.a4 (by decide) c (by omega) (by decide)) ?_)))
    rw [p3, p4, pk_mul, if_pos (nI_le (Nat.le_refl _) (by omega)), fX2_becomeTransposed_232, nI_1, ecm]
    rfl
theorem x_tr_c (hs : px_st X) (hP : isP P) (hQ : isP Q) (hPQ : P ≠ Q) (hg : gOk g) (hb : gBs g g.2.2.1 ≤ 192) (hx : xPic x P (gTr g)) (hx' : xPic x Q g) :
    fX2_becomeTransposed_110 X FU (B + P) (B + Q) 0 (rg_p lX B w0 x) = some (rg_p lX B w0 (rg_wA x (P + 6) (fU (64 * gBs g g.2.2.1) (trV g (x.2.2.1 (Q + 6))) (x.2.2.1 (P + 6))))) := by
  have hP' : P = 7 ∨ P = 15 := hP
  have hc4 := hg.2.2.2.2.2.1
  have e := rg_lpF (F := fun u (t : Int32 × px_W) => fX2_becomeTransposed_110 X u (B + P) (B + Q) t.1 t.2) g.2.2.1 (fun c => (nI c, rg_p lX B w0 (rg_wA x (P + 6) (fU (64 * gBs g c) (trV g (x.2.2.1 (Q + 6))) (x.2.2.1 (P + 6)))))) (r := some (rg_p lX B w0 (rg_wA x (P + 6) (fU (64 * gBs g g.2.2.1) (trV g (x.2.2.1 (Q + 6))) (x.2.2.1 (P + 6)))))) (by omega) ?_ ?_
  · refine Eq.trans ?_ e
    dsimp only
    rw [show gBs g 0 = 0 from rfl, Nat.mul_zero, fU_0, wA_id rfl, nI_0]
  · intro u c hc
    dsimp only
    rw [fX2_becomeTransposed_110.eq_2]
    refine ob_v (rg_I hP.o rfl) ?_
    rw [wA_1, hx.1.2.2.1, show (gTr g).2.2.1 = g.2.2.1 from rfl, if_neg (nI_ge hc (by omega))]
    exact x_tr_q hs hP hQ hPQ hg hb hx hx' hc
  · intro u
    dsimp only
    rw [fX2_becomeTransposed_110.eq_2]
    refine ob_v (rg_I hP.o rfl) ?_
    rw [wA_1, hx.1.2.2.1, show (gTr g).2.2.1 = g.2.2.1 from rfl, if_pos (nI_le (Nat.le_refl _) (by omega))]
/-- becomeTransposed and takeDraft -/
theorem x_transp (hs : px_st X) (h : XP x Q P g F S) : ∃ x1 x', (∀ w0, fX2_becomeTransposed X (rg_p lX B w0 x) (B + P) (B + Q) = some (rg_p lX B w0 x1)) ∧ (∀ w0, fX11_takeDraft X (rg_p lX B w0 x1) (B + 0) = some (rg_p lX B w0 x')) ∧ XP x' P Q (gTr g) (trV g F) (trS S) ∧ FX x x' := by
  obtain ⟨hQ, hP, hPQ, hR, hR', ht, hg, hb, px, pc, ps⟩ := h
  have hP' : P = 7 ∨ P = 15 := hP
  have hQ' : Q = 7 ∨ Q = 15 := hQ
  have hc4 := hg.2.2.2.2.2.1
  have px0 := px
  obtain ⟨⟨q1, q2, q3, q4, q5⟩, q6, q7, q8, q9⟩ := px
  have fr : xFr (xT1 x P Q g.2.2.1 (64 * g.2.2.1)) P (gTr g) := by
    refine ⟨?_, ?_, ?_, ?_, ?_⟩
    · rw [xT1_I, if_neg (by omega), if_neg (by omega), if_pos ⟨rfl, rfl⟩]; exact q2
    · rw [xT1_I, if_neg (by omega), if_pos ⟨rfl, rfl⟩]; exact q1
    · rw [xT1_I, if_pos ⟨rfl, rfl⟩]; exact q3
    · intro c hc
      rw [xT1_A, if_neg (by omega), if_neg (by omega), if_pos rfl, fU_lt (show c < g.2.2.1 from hc)]
      exact q5 c hc
    · intro c hc
      rw [xT1_A, if_neg (by omega), if_pos rfl, fU_lt (show c < g.2.2.1 from hc)]
      exact q4 c hc
  -- the settled draft
  have I1 : ∀ o k, o ≠ P → (xSt (xT1 x P Q g.2.2.1 (64 * g.2.2.1)) P (gTr g) g.2.2.1).1 o k = x.1 o k := by
    intro o k ho
    rw [xS_I, if_neg (by omega), xS0_n _ _ _ (Or.inl ho), xT1_I, if_neg (by omega), if_neg (by omega), if_neg (by omega)]
  have A1 : ∀ o, o ≤ P ∨ P + 8 ≤ o ∨ o = P + 6 → (xSt (xT1 x P Q g.2.2.1 (64 * g.2.2.1)) P (gTr g) g.2.2.1).2.2.1 o = x.2.2.1 o := by
    intro o ho
    rw [xS_A, if_neg (by omega), if_neg (by omega), if_neg (by omega), xT1_A, if_neg (by omega), if_neg (by omega), if_neg (by omega)]
  have pP : xPic (xSt (xT1 x P Q g.2.2.1 (64 * g.2.2.1)) P (gTr g) g.2.2.1) P (gTr g) := xSt_pic fr
  have pQ : xPic (xSt (xT1 x P Q g.2.2.1 (64 * g.2.2.1)) P (gTr g) g.2.2.1) Q g := px0.c (fun k _ => I1 Q k (fun e => hPQ e.symm)) (fun j _ _ => A1 (Q + j) (by omega))
  refine ⟨rg_wA (xSt (xT1 x P Q g.2.2.1 (64 * g.2.2.1)) P (gTr g) g.2.2.1) (P + 6) (fU (64 * gBs g g.2.2.1) (trV g (x.2.2.1 (Q + 6))) (x.2.2.1 (P + 6))), _, fun w0 => ?_, fun w0 => x_takeDraft (P := P) (Q := Q) hR hR', ?_, ?_⟩
  · rw [x_tr_f hs hP hQ hPQ hc4 q3]
    unfold fX2_becomeTransposed_104
    refine ob_v (rg_O hP.o) (ob_v (x_settle hP (gTr_ok hg) fr) ?_)
    have e := x_tr_c (X := X) (B := B) (w0 := w0) hs hP hQ hPQ hg hb pP pQ
    rw [A1 (Q + 6) (by omega), A1 (P + 6) (by omega)] at e
    exact e
  · refine ⟨hP, hQ, fun e => hPQ e.symm, rfl, rfl, rfl, gTr_ok hg, by rw [gTr_bs]; exact hb, ?_, ?_, ?_⟩
    · exact (pP.wA (fun j j1 j2 => by omega)).c (fun k _ => wI_n _ _ (by omega)) (fun j _ _ => rfl)
    · intro i hi
      show (rg_wA _ (P + 6) _).2.2.1 (P + 6) i = _
      rw [gTr_bs] at hi
      have hi' : i < 64 * gBs g g.2.2.1 := hi
      rw [wA_s, fU_lt hi']
      obtain ⟨c, q, k, hc, hq, hk, rfl⟩ := fl_in (g := gTr g) (n := g.2.2.1) (i := i) (by rw [gTr_bs]; exact hi')
      have hin := tr_in (g := g) hc (by rw [gTr_ac, gTr_dn] at hq; exact hq)
      have := tz_lt hk
      unfold trV
      rw [flV_at (by omega) hq hk, flV_at (by omega) hq hk]
      exact pc _ (by omega)
    · intro i hi
      have hi' : i < 64 * g.2.2.1 := hi
      show (rg_wA _ (P + 6) _).2.2.1 (P + 7) i = _
      rw [wA_n _ _ (by omega), xS_A, if_neg (by omega), if_neg (by omega), if_neg (by omega), xT1_A, if_pos rfl, fU_lt hi']
      have := tz_lt (k := i % 64) (by omega)
      unfold trS
      exact ps _ (by omega)
  · refine ⟨fun o k ho hk => ?_, fun k k4 k5 => ?_, fun o ho => ?_⟩
    · refine (wI_n _ _ (by omega)).trans ?_
      exact I1 o k (by omega)
    · show (if (0 : Nat) = 0 ∧ k = 5 then Q else if (0 : Nat) = 0 ∧ k = 4 then P else x.2.1 0 k) = x.2.1 0 k
      rw [if_neg (by omega), if_neg (by omega)]
    · show (rg_wA _ (P + 6) _).2.2.1 o = _
      rw [wA_n _ _ (by omega)]
      exact A1 o (by omega)
end
