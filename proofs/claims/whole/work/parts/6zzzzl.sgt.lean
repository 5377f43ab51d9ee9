/-! a segment, by the class -/
def fpX (x : rg_S) (D : Nat → Nat) (L p : Nat) : Prop := x.1 40 8 = nI p ∧ x.1 40 6 = 0 ∧ x.1 1 1 = nI L ∧ (L ≤ 16384 ∧ p ≤ L) ∧ ∀ i, i < L → x.2.2.1 2 i &&& 255 = nI (D i) ∧ D i < 256
def hX (x : rg_S) (P ln : Nat) (s : sgS) : Prop := x.1 40 14 = nI ln ∧ (s.1 3 ≠ 0 → x.1 P 1 = nI (if s.1 5 = 0 then ln else s.1 5))
section
variable {X : px_X} {b B : Nat} {w0 w1 : px_W} {x x' : rg_S} {c : sgC} {p P L ln : Nat} {s : sgS} {D : Nat → Nat}
theorem kX.px (h : kX x c p) : fpX x c.1 c.2.1 p := ⟨h.1, h.2.2.2.1, h.2.2.2.2.1, ⟨h.2.2.2.2.2.1.1, h.2.2.2.2.2.1.2.2.2⟩, h.2.2.2.2.2.2⟩
theorem fsX.q {q' : Nat → Nat} {v : Nat → Nat} (h : fsX x P s) (F : FXa 52 x x') (hq : qX x' q') (ev : ∀ k, 1 ≤ k → k ≤ 9 → v k = s.1 k) : fsX x' P (v, q', s.2.2) := by
  obtain ⟨⟨h1, h2, h3, h4, h5, h6, h7, h8, h9, h10, h11⟩, h12, h13, h14⟩ := h
  have hP' := h1
  unfold isP at hP'
  refine ⟨⟨h1, by rw [F.2.1]; exact h2, ?_, ?_, ?_, ?_, ?_, ?_, hq, ?_, ?_⟩, ?_, ?_, ?_⟩
  · show x'.1 40 4 = nI (v 1)
    rw [F.1 _ _ (by omega), ev 1 (by omega) (by omega)]; exact h3
  · show x'.1 40 5 = nI (v 2)
    rw [F.1 _ _ (by omega), ev 2 (by omega) (by omega)]; exact h4
  · show x'.1 40 11 = nI (v 3)
    rw [F.1 _ _ (by omega), ev 3 (by omega) (by omega)]; exact h5
  · show x'.1 40 12 = if v 9 = 0 then 0 else 1
    rw [F.1 _ _ (by omega), ev 9 (by omega) (by omega)]; exact h6
  · show x'.1 P 2 = nI (v 6)
    rw [F.1 _ _ (by omega), ev 6 (by omega) (by omega)]; exact h7
  · show v 3 ≠ 0 → x'.1 P 0 = nI (v 4)
    rw [F.1 _ _ (by omega), ev 3 (by omega) (by omega), ev 4 (by omega) (by omega)]; exact h8
  · intro t ht
    rcases h10 t ht with ⟨g1, g2⟩ | ⟨W, g1, g2, g3, g4⟩
    · exact Or.inl ⟨g1, by rw [F.1 _ _ (by omega)]; exact g2⟩
    · refine Or.inr ⟨W, g1, g2, g3, ?_⟩
      unfold wX
      rw [F.1 _ _ (by omega), F.1 _ _ (by omega), F.2.2.1 (55 + 5 * t + 1) (by omega), F.2.2.1 (55 + 5 * t + 2) (by omega), F.2.2.1 (55 + 5 * t + 3) (by omega), F.2.2.1 (55 + 5 * t + 4) (by omega)]
      exact g4
  · show csX x' P (v 6) _
    unfold csX
    rw [F.2.2.1 50 (by omega), F.2.2.1 51 (by omega), F.2.2.1 (P + 1) (by omega), F.2.2.1 (P + 2) (by omega), ev 6 (by omega) (by omega)]
    exact h11
  · show x'.1 40 13 = if v 7 = 0 then 0 else 1
    rw [F.1 _ _ (by omega), ev 7 (by omega) (by omega)]; exact h12
  · unfold laX
    rw [F.2.2.1 53 (by omega)]
    exact h13
  · unfold stX
    rw [F.2.2.1 (P + 7) (by omega)]
    exact h14
theorem fsX.w {T' : sgW} {v : Nat → Nat} (h : fsX x P s) (F : FXws x x') (hT : wsX x' T') (ev : ∀ k, 1 ≤ k → k ≤ 9 → v k = s.1 k) : fsX x' P (v, s.2.1, T', s.2.2.2) := by
  obtain ⟨⟨h1, h2, h3, h4, h5, h6, h7, h8, h9, h10, h11⟩, h12, h13, h14⟩ := h
  have hP' := h1
  unfold isP at hP'
  refine ⟨⟨h1, by rw [F.2.1]; exact h2, ?_, ?_, ?_, ?_, ?_, ?_, ?_, hT, ?_⟩, ?_, ?_, ?_⟩
  · show x'.1 40 4 = nI (v 1)
    rw [F.1 _ _ (by omega) (by omega), ev 1 (by omega) (by omega)]; exact h3
  · show x'.1 40 5 = nI (v 2)
    rw [F.1 _ _ (by omega) (by omega), ev 2 (by omega) (by omega)]; exact h4
  · show x'.1 40 11 = nI (v 3)
    rw [F.1 _ _ (by omega) (by omega), ev 3 (by omega) (by omega)]; exact h5
  · show x'.1 40 12 = if v 9 = 0 then 0 else 1
    rw [F.1 _ _ (by omega) (by omega), ev 9 (by omega) (by omega)]; exact h6
  · show x'.1 P 2 = nI (v 6)
    rw [F.1 _ _ (by omega) (by omega), ev 6 (by omega) (by omega)]; exact h7
  · show v 3 ≠ 0 → x'.1 P 0 = nI (v 4)
    rw [F.1 _ _ (by omega) (by omega), ev 3 (by omega) (by omega), ev 4 (by omega) (by omega)]; exact h8
  · unfold qX
    rw [F.2.2.1 52 (by omega)]
    exact h9
  · show csX x' P (v 6) _
    unfold csX
    rw [F.2.2.1 50 (by omega), F.2.2.1 51 (by omega), F.2.2.1 (P + 1) (by omega), F.2.2.1 (P + 2) (by omega), ev 6 (by omega) (by omega)]
    exact h11
  · show x'.1 40 13 = if v 7 = 0 then 0 else 1
    rw [F.1 _ _ (by omega) (by omega), ev 7 (by omega) (by omega)]; exact h12
  · unfold laX
    rw [F.2.2.1 53 (by omega)]
    exact h13
  · unfold stX
    rw [F.2.2.1 (P + 7) (by omega)]
    exact h14
/-- numbers alone have changed -/
theorem fsX.i {v : Nat → Nat} (h : fsX x P s) (e2 : x'.2 = x.2) (ew : ∀ t k, t < 8 → x'.1 (55 + 5 * t) k = x.1 (55 + 5 * t) k) (h4 : x'.1 40 4 = nI (v 1)) (h5 : x'.1 40 5 = nI (v 2)) (h11 : x'.1 40 11 = x.1 40 11) (h12 : x'.1 40 12 = x.1 40 12) (h13 : x'.1 40 13 = if v 7 = 0 then 0 else 1) (hP2 : x'.1 P 2 = x.1 P 2) (hP0 : x'.1 P 0 = x.1 P 0) (ev : ∀ k, k = 3 ∨ k = 4 ∨ k = 6 ∨ k = 9 → v k = s.1 k) : fsX x' P (v, s.2) := by
  obtain ⟨⟨g1, g2, g3, g4, g5, g6, g7, g8, g9, g10, g11⟩, g12, g13, g14⟩ := h
  refine ⟨⟨g1, by rw [e2]; exact g2, h4, h5, ?_, ?_, ?_, ?_, ?_, ?_, ?_⟩, h13, ?_, ?_⟩
  · show x'.1 40 11 = nI (v 3)
    rw [h11, ev 3 (by omega)]; exact g5
  · show x'.1 40 12 = if v 9 = 0 then 0 else 1
    rw [h12, ev 9 (by omega)]; exact g6
  · show x'.1 P 2 = nI (v 6)
    rw [hP2, ev 6 (by omega)]; exact g7
  · show v 3 ≠ 0 → x'.1 P 0 = nI (v 4)
    rw [hP0, ev 3 (by omega), ev 4 (by omega)]; exact g8
  · unfold qX
    rw [e2]
    exact g9
  · intro t ht
    rcases g10 t ht with ⟨q1, q2⟩ | ⟨W, q1, q2, q3, q4⟩
    · exact Or.inl ⟨q1, by rw [ew t 4 ht]; exact q2⟩
    · refine Or.inr ⟨W, q1, q2, q3, ?_⟩
      unfold wX
      rw [ew t 4 ht, ew t 5 ht, e2]
      exact q4
  · show csX x' P (v 6) _
    unfold csX
    rw [e2, ev 6 (by omega)]
    exact g11
  · unfold laX
    rw [e2]
    exact g13
  · unfold stX
    rw [e2]
    exact g14
theorem x_sg {code : Nat} (hc : code < 256) (hp : fpX x D L (s.1 0)) (p2 : 2 ≤ s.1 0) (hs : fsX x P s) (ok : sgOk s) (hcs : sgCs code s) (hh : hX x P ln s) : ∃ v x', fX8_readSegment X (rg_p lX B w0 x) (B + 40) (nI code) = some (v, rg_p lX B w0 x') ∧ FXsg P x x' ∧ ((∃ f, sgSg D L code s = .inl f ∧ v = 0 ∧ ftX x' f) ∨ ∃ s2, sgSg D L code s = .inr s2 ∧ v = 1 ∧ fpX x' D L (s2.1 0) ∧ fsX x' P s2 ∧ hX x' P (if code = 220 then s2.1 5 else ln) s2 ∧ (code = 218 → scX x' s2)) := by
  rw [sgSg_e]
  generalize hpm : s.1 0 = p at *
  have hP := hs.1.1
  have hP' := hP
  unfold isP at hP'
  obtain ⟨a8, a6, a11, ⟨aL, ap⟩, aD⟩ := hp
  generalize hx1 : rg_wI x 40 9 (nI p) = x1
  have a8' : x1.1 40 8 = nI p := by rw [← hx1, wI_n _ _ (by omega)]; exact a8
  have aL' : x1.1 1 1 = nI L := by rw [← hx1, wI_n _ _ (by omega)]; exact a11
  have S1 : FXsg P x x1 := by rw [← hx1]; exact FXsg.wI (by omega)
  have q1 : x1.2 = x.2 := by rw [← hx1]; rfl
  have start : ∀ z, (if nI (p + 1) < nI L then (gR (rg_p lX B w0 x1) (B + 40) 8 0).bind fun v47 => (gI (rg_p lX B w0 x1) (B + 40) 8 8).bind fun v48 => (gO (rg_p lX B w0 x1) v47 1).bind fun o49 => (fX1_at X (rg_p lX B w0 x1) v47 v48).bind fun q50 => (gR q50.2 (B + 40) 8 0).bind fun v51 => (gI q50.2 (B + 40) 8 8).bind fun v52 => (gO q50.2 v51 1).bind fun o53 => (fX1_at X q50.2 v51 (v52 + 1)).bind fun q54 => if 2 ≤ ((256 * q50.1) + q54.1) then (gI q54.2 (B + 40) 8 8).bind fun v56 => (pV q54.2 (B + 40) 8 10 (.int (v56 + ((256 * q50.1) + q54.1)))).bind fun w57 => (gI w57 (B + 40) 8 8).bind fun v58 => (pV w57 (B + 40) 8 8 (.int (v58 + 2))).bind fun w59 => (gI w59 (B + 40) 8 5).bind fun v60 => (pV w59 (B + 40) 8 5 (.int (v60 + 1))).bind fun w61 => if nI code = 192 then (gO w61 (B + 40) 8).bind fun o63 => (fX8_readFrame X w61 (B + 40) (nI code)).bind fun q64 => zR q64.1 q64.2 else if nI code = 194 then (gO w61 (B + 40) 8).bind fun o66 => (fX8_readFrame X w61 (B + 40) (nI code)).bind fun q67 => zR q67.1 q67.2 else if nI code = 196 then (gO w61 (B + 40) 8).bind fun o69 => (fX8_readWordTables X w61 (B + 40)).bind fun q70 => zR q70.1 q70.2 else if nI code = 218 then (gO w61 (B + 40) 8).bind fun o72 => (fX8_readScan X w61 (B + 40)).bind fun q73 => zR q73.1 q73.2 else if nI code = 219 then (gO w61 (B + 40) 8).bind fun o75 => (fX8_readQuantisers X w61 (B + 40)).bind fun q76 => zR q76.1 q76.2 else if nI code = 220 then (gO w61 (B + 40) 8).bind fun o78 => (fX8_readLines X w61 (B + 40)).bind fun q79 => zR q79.1 q79.2 else if nI code = 221 then (gO w61 (B + 40) 8).bind fun o81 => (fX8_readInterval X w61 (B + 40)).bind fun q82 => zR q82.1 q82.2 else (gO w61 (B + 40) 8).bind fun o83 => (fX8_passOver X w61 (B + 40)).bind fun q84 => zR q84.1 q84.2 else (gI q54.2 (B + 40) 8 9).bind fun v85 => (gO q54.2 (B + 40) 8).bind fun o86 => (fX8_fail X q54.2 (B + 40) 5 v85).bind fun q87 => some (0, q87.2) else (gR (rg_p lX B w0 x1) (B + 40) 8 0).bind fun v88 => (gI (rg_p lX B w0 x1) v88 1 1).bind fun v89 => (gO (rg_p lX B w0 x1) (B + 40) 8).bind fun o90 => (fX8_fail X (rg_p lX B w0 x1) (B + 40) 1 v89).bind fun q91 => some (0, q91.2)) = z → fX8_readSegment X (rg_p lX B w0 x) (B + 40) (nI code) = z := by
    intro z hz
    unfold fX8_readSegment
    refine ob_v (rg_I rfl rfl) ?_
    rw [a8]
    refine ob_v (rg_pI rfl rfl _) ?_
    rw [hx1]
    refine ob_v (rg_I rfl rfl) (ob_v (rg_C rfl rfl) (ob_v (rg_I rfl rfl) ?_))
    rw [a8', aL', nI_1]
    exact hz
  by_cases d1 : L ≤ p + 1
  · rw [if_pos d1]
    obtain ⟨x2, e2, F2, f1, f2⟩ := x_fail (X := X) (B := B) (w0 := w0) (x := x1) (f := 1) (q := L)
    refine ⟨0, x2, start _ (ei_n (nI_nlt d1 (by omega)) (ob_v (rg_C rfl rfl) (ob_v (rg_I rfl rfl) (ob_v (rg_O rfl) ?_)))), S1.trans F2.sg, Or.inl ⟨_, rfl, rfl, ftX.i f1 f2 (by decide) (by decide) (by omega)⟩⟩
    rw [aL']
    exact ob_v e2 rfl
  rw [if_neg d1]
  have D1 := aD p (by omega)
  have D2 := aD (p + 1) (by omega)
  generalize hn : 256 * D p + D (p + 1) = n at *
  generalize hx2 : rg_wI (rg_wI (rg_wI x1 40 10 (nI (p + n))) 40 8 (nI (p + 2))) 40 5 (nI (s.1 2 + 1)) = x2
  have start2 : ∀ z, (if (2 : Int32) ≤ nI n then (if nI code = 192 then (gO (rg_p lX B w0 x2) (B + 40) 8).bind fun o63 => (fX8_readFrame X (rg_p lX B w0 x2) (B + 40) (nI code)).bind fun q64 => zR q64.1 q64.2 else if nI code = 194 then (gO (rg_p lX B w0 x2) (B + 40) 8).bind fun o66 => (fX8_readFrame X (rg_p lX B w0 x2) (B + 40) (nI code)).bind fun q67 => zR q67.1 q67.2 else if nI code = 196 then (gO (rg_p lX B w0 x2) (B + 40) 8).bind fun o69 => (fX8_readWordTables X (rg_p lX B w0 x2) (B + 40)).bind fun q70 => zR q70.1 q70.2 else if nI code = 218 then (gO (rg_p lX B w0 x2) (B + 40) 8).bind fun o72 => (fX8_readScan X (rg_p lX B w0 x2) (B + 40)).bind fun q73 => zR q73.1 q73.2 else if nI code = 219 then (gO (rg_p lX B w0 x2) (B + 40) 8).bind fun o75 => (fX8_readQuantisers X (rg_p lX B w0 x2) (B + 40)).bind fun q76 => zR q76.1 q76.2 else if nI code = 220 then (gO (rg_p lX B w0 x2) (B + 40) 8).bind fun o78 => (fX8_readLines X (rg_p lX B w0 x2) (B + 40)).bind fun q79 => zR q79.1 q79.2 else if nI code = 221 then (gO (rg_p lX B w0 x2) (B + 40) 8).bind fun o81 => (fX8_readInterval X (rg_p lX B w0 x2) (B + 40)).bind fun q82 => zR q82.1 q82.2 else (gO (rg_p lX B w0 x2) (B + 40) 8).bind fun o83 => (fX8_passOver X (rg_p lX B w0 x2) (B + 40)).bind fun q84 => zR q84.1 q84.2) else (gI (rg_p lX B w0 x1) (B + 40) 8 9).bind fun v85 => (gO (rg_p lX B w0 x1) (B + 40) 8).bind fun o86 => (fX8_fail X (rg_p lX B w0 x1) (B + 40) 5 v85).bind fun q87 => some (0, q87.2)) = z → fX8_readSegment X (rg_p lX B w0 x) (B + 40) (nI code) = z := by
    intro z hz
    refine start _ (ei_t (nI_lt (by omega) (by omega)) (ob_v (rg_C rfl rfl) (ob_v (rg_I rfl rfl) (ob_v (rg_O rfl) ?_))))
    rw [a8']
    refine ob_v (x_at (o := 1) (n := L) (k := p) (Or.inl rfl) aL' aL (by omega)) (ob_v (rg_C rfl rfl) (ob_v (rg_I rfl rfl) (ob_v (rg_O rfl) ?_)))
    rw [a8', nI_1]
    refine ob_v (x_at (o := 1) (n := L) (k := p + 1) (Or.inl rfl) aL' aL (by omega)) ?_
    dsimp only
    rw [q1, D1.1, D2.1, show (256 : Int32) * nI (D p) + nI (D (p + 1)) = nI n from by rw [show (256 : Int32) = nI 256 from rfl, pk_mul, nI_add, hn]]
    by_cases d2 : (2 : Int32) ≤ nI n
    · rw [if_pos d2] at hz
      refine ei_t d2 (ob_v (rg_I rfl rfl) ?_)
      rw [a8', nI_add]
      refine ob_v (rg_pI rfl rfl _) (ob_v (rg_I rfl rfl) ?_)
      rw [wI_n _ _ (by omega), a8', show nI p + 2 = nI (p + 2) from nI_add p 2]
      refine ob_v (rg_pI rfl rfl _) (ob_v (rg_I rfl rfl) ?_)
      rw [wI_n _ _ (by omega), wI_n _ _ (by omega), show x1.1 40 5 = nI (s.1 2) by rw [← hx1, wI_n _ _ (by omega)]; exact hs.1.2.2.2.1, nI_1]
      refine ob_v (rg_pI rfl rfl _) ?_
      rw [hx2]
      exact hz
    · rw [if_neg d2] at hz
      exact ei_n d2 hz
  by_cases d2 : n < 2
  · rw [if_pos d2]
    obtain ⟨x3, e3, F3, f1, f2⟩ := x_fail (X := X) (B := B) (w0 := w0) (x := x1) (f := 5) (q := p)
    refine ⟨0, x3, start2 _ (ei_n (nI_ge (b := 2) d2 (by omega)) (ob_v (rg_I rfl rfl) (ob_v (rg_O rfl) ?_))), S1.trans F3.sg, Or.inl ⟨_, rfl, rfl, ftX.i f1 f2 (by decide) (by decide) (by omega)⟩⟩
    rw [show x1.1 40 9 = nI p by rw [← hx1, wI_s]]
    exact ob_v e3 rfl
  rw [if_neg d2]
  generalize hcc : ((D, L, p + n, p) : sgC) = c
  generalize hs1 : ((uG s.1 2 (s.1 2 + 1), s.2) : sgS) = s1
  have n7 : n < 65536 := by omega
  have k2 : kX x2 c (p + 2) := by
    rw [← hcc]
    refine ⟨by rw [← hx2, wI_n _ _ (by omega), wI_s], ?_, by rw [← hx2, wI_n _ _ (by omega), wI_n _ _ (by omega), wI_s], ?_, ?_, ⟨aL, by show p + n < 100000; omega, by show p ≤ 16384; omega, by show p + 2 ≤ L; omega⟩, ?_⟩
    · rw [← hx2, wI_n _ _ (by omega), wI_n _ _ (by omega), wI_n _ _ (by omega), ← hx1, wI_s]
    · rw [← hx2, wI_n _ _ (by omega), wI_n _ _ (by omega), wI_n _ _ (by omega), ← hx1, wI_n _ _ (by omega)]; exact a6
    · rw [← hx2, wI_n _ _ (by omega), wI_n _ _ (by omega), wI_n _ _ (by omega)]; exact aL'
    · rw [← hx2, wI_2, wI_2, wI_2, q1]; exact aD
  have q2 : x2.2 = x.2 := by rw [← hx2, wI_2, wI_2, wI_2, q1]
  have i2 : ∀ o k, ¬ (o = 40 ∧ (k = 5 ∨ 8 ≤ k ∧ k ≤ 10)) → x2.1 o k = x.1 o k := by
    intro o k h
    rw [← hx2, wI_n _ _ (by omega), wI_n _ _ (by omega), wI_n _ _ (by omega), ← hx1, wI_n _ _ (by omega)]
  have w1 : s1.2 = s.2 := by rw [← hs1]
  have v1 : ∀ k, k ≠ 2 → s1.1 k = s.1 k := by
    intro k h
    rw [← hs1]
    exact uG_n _ _ h
  have v2 : s1.1 2 = s.1 2 + 1 := by rw [← hs1]; rfl
  have S2 : FXsg P x x2 := by
    rw [← hx2]
    exact S1.trans ((FXsg.wI (by omega)).trans ((FXsg.wI (by omega)).trans (FXsg.wI (by omega))))
  have f2 : fsX x2 P s1 := by
    have := hs.i (x' := x2) (v := s1.1) q2 (fun t k _ => i2 _ _ (by omega)) (by rw [i2 _ _ (by omega), v1 1 (by decide)]; exact hs.1.2.2.1) (by rw [← hx2, wI_s, v2]) (i2 _ _ (by omega)) (i2 _ _ (by omega)) (by rw [i2 _ _ (by omega), v1 7 (by decide)]; exact hs.2.1) (i2 _ _ (by omega)) (i2 _ _ (by omega)) (fun k h => v1 k (by omega))
    rw [← w1] at this
    exact this
  have h2 : hX x2 P ln s1 := ⟨by rw [i2 _ _ (by omega)]; exact hh.1, by rw [i2 _ _ (by omega), v1 3 (by decide), v1 5 (by decide)]; exact hh.2⟩
  have start3 : ∀ z, (if nI code = 192 then (gO (rg_p lX B w0 x2) (B + 40) 8).bind fun o63 => (fX8_readFrame X (rg_p lX B w0 x2) (B + 40) (nI code)).bind fun q64 => zR q64.1 q64.2 else if nI code = 194 then (gO (rg_p lX B w0 x2) (B + 40) 8).bind fun o66 => (fX8_readFrame X (rg_p lX B w0 x2) (B + 40) (nI code)).bind fun q67 => zR q67.1 q67.2 else if nI code = 196 then (gO (rg_p lX B w0 x2) (B + 40) 8).bind fun o69 => (fX8_readWordTables X (rg_p lX B w0 x2) (B + 40)).bind fun q70 => zR q70.1 q70.2 else if nI code = 218 then (gO (rg_p lX B w0 x2) (B + 40) 8).bind fun o72 => (fX8_readScan X (rg_p lX B w0 x2) (B + 40)).bind fun q73 => zR q73.1 q73.2 else if nI code = 219 then (gO (rg_p lX B w0 x2) (B + 40) 8).bind fun o75 => (fX8_readQuantisers X (rg_p lX B w0 x2) (B + 40)).bind fun q76 => zR q76.1 q76.2 else if nI code = 220 then (gO (rg_p lX B w0 x2) (B + 40) 8).bind fun o78 => (fX8_readLines X (rg_p lX B w0 x2) (B + 40)).bind fun q79 => zR q79.1 q79.2 else if nI code = 221 then (gO (rg_p lX B w0 x2) (B + 40) 8).bind fun o81 => (fX8_readInterval X (rg_p lX B w0 x2) (B + 40)).bind fun q82 => zR q82.1 q82.2 else (gO (rg_p lX B w0 x2) (B + 40) 8).bind fun o83 => (fX8_passOver X (rg_p lX B w0 x2) (B + 40)).bind fun q84 => zR q84.1 q84.2) = z → fX8_readSegment X (rg_p lX B w0 x) (B + 40) (nI code) = z := fun z hz => start2 _ (ei_t (nI_le (a := 2) (by omega) (by omega)) hz)
  have ne : ∀ k, k < 256 → code ≠ k → ¬ nI code = nI k := fun k hk e z => e ((nI_eq (by omega) (by omega)).mp z)
  have cD : c.1 = D ∧ c.2.1 = L := by rw [← hcc]; exact ⟨rfl, rfl⟩
  unfold sgBy
  by_cases c219 : code = 219
  · rw [if_pos c219]
    obtain ⟨v, x3, e3, F3, o3⟩ := x_qs (X := X) (B := B) (w0 := w0) (c := c) 16384 (p + 2) FU 0 s1.2.1 x2 (by rw [cD.2]; omega) (by omega) (Or.inl rfl) (by unfold FU; omega) k2 f2.1.2.2.2.2.2.2.2.2.1
    have st : ∀ z, zR v (rg_p lX B w0 x3) = z → fX8_readSegment X (rg_p lX B w0 x) (B + 40) (nI code) = z := by
      intro z hz
      refine start3 _ (ei_n (ne 192 (by decide) (by omega)) (ei_n (ne 194 (by decide) (by omega)) (ei_n (ne 196 (by decide) (by omega)) (ei_n (ne 218 (by decide) (by omega)) (ei_t (by rw [c219]; rfl) (ob_v (rg_O rfl) (ob_v (v := (v, rg_p lX B w0 x3)) ?_ hz)))))))
      unfold fX8_readQuantisers
      exact e3
    rcases o3 with ⟨f, r1, r2, r3⟩ | ⟨p', q', r1, r2, r3, r4⟩
    · rw [r1]
      rw [r2] at st
      exact ⟨0, x3, st _ rfl, S2.trans (F3.sg (by omega)), Or.inl ⟨f, rfl, rfl, r3⟩⟩
    · rw [r1]
      rw [r2] at st
      refine ⟨1, x3, st _ rfl, S2.trans (F3.sg (by omega)), Or.inr ⟨_, rfl, rfl, ?_, f2.q F3 r4 (fun k a b => uG_n _ _ (by omega)), ?_, fun z => by omega⟩⟩
      · have := r3.px
        rw [cD.1, cD.2] at this
        exact this
      · rw [if_neg (by omega)]
        exact ⟨by rw [F3.1 _ _ (by omega)]; exact h2.1, by rw [F3.1 _ _ (by omega)]; exact h2.2⟩
  rw [if_neg c219]
  by_cases c196 : code = 196
  · rw [if_pos c196]
    obtain ⟨v, x3, e3, F3, o3⟩ := x_ws (X := X) (B := B) (w0 := w0) (c := c) 16384 (p + 2) FU 0 s1.2.2.1 x2 (by rw [cD.2]; omega) (by omega) (Or.inl rfl) (by unfold FU; omega) k2 f2.1.2.2.2.2.2.2.2.2.2.1
    have st : ∀ z, zR v (rg_p lX B w0 x3) = z → fX8_readSegment X (rg_p lX B w0 x) (B + 40) (nI code) = z := by
      intro z hz
      refine start3 _ (ei_n (ne 192 (by decide) (by omega)) (ei_n (ne 194 (by decide) (by omega)) (ei_t (by rw [c196]; rfl) (ob_v (rg_O rfl) (ob_v (v := (v, rg_p lX B w0 x3)) ?_ hz)))))
      unfold fX8_readWordTables
      exact e3
    rcases o3 with ⟨f, r1, r2, r3⟩ | ⟨p', T', r1, r2, r3, r4⟩
    · rw [r1]
      rw [r2] at st
      exact ⟨0, x3, st _ rfl, S2.trans F3.sg, Or.inl ⟨f, rfl, rfl, r3⟩⟩
    · rw [r1]
      rw [r2] at st
      refine ⟨1, x3, st _ rfl, S2.trans F3.sg, Or.inr ⟨_, rfl, rfl, ?_, f2.w F3 r4 (fun k a b => uG_n _ _ (by omega)), ?_, fun z => by omega⟩⟩
      · have := r3.px
        rw [cD.1, cD.2] at this
        exact this
      · rw [if_neg (by omega)]
        exact ⟨by rw [F3.1 _ _ (by omega) (by omega)]; exact h2.1, by rw [F3.1 _ _ (by omega) (by omega)]; exact h2.2⟩
  rw [if_neg c196]
  by_cases c221 : code = 221
  · rw [if_pos c221]
    obtain ⟨v, x3, e3, F3, o3⟩ := x_ivl (X := X) (B := B) (w0 := w0) k2
    have S3 : FXsg P x2 x3 := ⟨fun q k a _ => F3.1 q k (by omega), by rw [F3.2], fun _ _ _ _ _ => by rw [F3.2], by rw [F3.2]⟩
    have st : ∀ z, zR v (rg_p lX B w0 x3) = z → fX8_readSegment X (rg_p lX B w0 x) (B + 40) (nI code) = z := by
      intro z hz
      exact start3 _ (ei_n (ne 192 (by decide) (by omega)) (ei_n (ne 194 (by decide) (by omega)) (ei_n (ne 196 (by decide) (by omega)) (ei_n (ne 218 (by decide) (by omega)) (ei_n (ne 219 (by decide) (by omega)) (ei_n (ne 220 (by decide) (by omega)) (ei_t (by rw [c221]; rfl) (ob_v (rg_O rfl) (ob_v e3 hz)))))))))
    have eB : (sgB (sgU c 0 65535 (p + 2)) fun v => sgE c v.2 (uG (uG s1.1 0 v.2) 1 v.1, s1.2)) = sgB (sgB (sgU c 0 65535 (p + 2)) fun v => sgE c v.2 v) fun v => .inr (uG (uG s1.1 0 v.2) 1 v.1, s1.2) := by
      rw [sgB_B]
      congr 1
      funext v
      unfold sgE
      split <;> rfl
    rw [eB]
    rcases o3 with ⟨f, r1, r2, r3⟩ | ⟨u, p', r1, r2, r3, r4, r5⟩
    · rw [r1]
      rw [r2] at st
      exact ⟨0, x3, st _ rfl, S2.trans S3, Or.inl ⟨f, rfl, rfl, r3⟩⟩
    · rw [r1]
      rw [r2] at st
      refine ⟨1, x3, st _ rfl, S2.trans S3, Or.inr ⟨_, rfl, rfl, ?_, f2.i F3.2 (fun t k _ => F3.1 _ _ (by omega)) r4 ?_ (F3.1 _ _ (by omega)) (F3.1 _ _ (by omega)) ?_ (F3.1 _ _ (by omega)) (F3.1 _ _ (by omega)) (fun k hk => (uG_n _ _ (by omega)).trans (uG_n _ _ (by omega))), ?_, fun z => by omega⟩⟩
      · have := r5.px
        rw [cD.1, cD.2] at this
        exact this
      · rw [F3.1 _ _ (by omega)]
        exact f2.1.2.2.2.1
      · rw [F3.1 _ _ (by omega)]
        exact f2.2.1
      · rw [if_neg (by omega)]
        exact ⟨by rw [F3.1 _ _ (by omega)]; exact h2.1, by rw [F3.1 _ _ (by omega)]; exact h2.2⟩
  rw [if_neg c221]
  by_cases cfr : code = 192 ∨ code = 194
  · rw [if_pos cfr]
    obtain ⟨v, x3, e3, F3, o3⟩ := x_fr (X := X) (B := B) (w0 := w0) (code := code) hP (by rw [q2]; exact hs.1.2.1) k2
    have st : ∀ z, zR v (rg_p lX B w0 x3) = z → fX8_readSegment X (rg_p lX B w0 x) (B + 40) (nI code) = z := by
      intro z hz
      rcases cfr with c1 | c1
      · exact start3 _ (ei_t (by rw [c1]; rfl) (ob_v (rg_O rfl) (ob_v e3 hz)))
      · exact start3 _ (ei_n (ne 192 (by decide) (by omega)) (ei_t (by rw [c1]; rfl) (ob_v (rg_O rfl) (ob_v e3 hz))))
    rcases o3 with ⟨f, r1, r2, r3⟩ | ⟨h', w', n', p', cs', r1, r2, r3, r4, r5, r6, r7, r8, r9, r10, r11, r12, r13, r14⟩
    · rw [r1]
      rw [r2] at st
      exact ⟨0, x3, st _ rfl, S2.trans F3.sg, Or.inl ⟨f, rfl, rfl, r3⟩⟩
    · rw [r1]
      rw [r2] at st
      have a : ∀ k, k ≠ 50 → k ≠ 51 → k ≠ P + 1 → k ≠ P + 2 → x3.2.2.1 k = x2.2.2.1 k := F3.2.2.1
      refine ⟨1, x3, st _ rfl, S2.trans F3.sg, Or.inr ⟨_, rfl, rfl, ?_, ⟨⟨hP, by rw [F3.2.1]; exact f2.1.2.1, ?_, ?_, r6, ?_, r10, fun _ => r8, ?_, ?_, r4⟩, ?_, ?_, ?_⟩, ?_, fun z => by omega⟩⟩
      · have := r3.px
        rw [cD.1, cD.2] at this
        exact this
      · show x3.1 40 4 = nI (s1.1 1)
        rw [F3.1 _ _ (by omega) (by omega)]; exact f2.1.2.2.1
      · show x3.1 40 5 = nI (s1.1 2)
        rw [F3.1 _ _ (by omega) (by omega)]; exact f2.1.2.2.2.1
      · rw [r7]
        show _ = if (if h' = 0 then 1 else 0) = 0 then (0 : Int32) else 1
        by_cases z : h' = 0
        · rw [if_pos z, if_pos z]; rfl
        · rw [if_neg z, if_neg z]; rfl
      · show qX x3 s1.2.1
        unfold qX
        rw [a 52 (by omega) (by omega) (by omega) (by omega)]
        exact f2.1.2.2.2.2.2.2.2.2.1
      · intro t ht
        rcases f2.1.2.2.2.2.2.2.2.2.2.1 t ht with ⟨g1, g2⟩ | ⟨W, g1, g2, g3, g4⟩
        · exact Or.inl ⟨g1, by rw [F3.1 _ _ (by omega) (by omega)]; exact g2⟩
        · refine Or.inr ⟨W, g1, g2, g3, ?_⟩
          unfold wX
          rw [F3.1 _ _ (by omega) (by omega), F3.1 _ _ (by omega) (by omega), a (55 + 5 * t + 1) (by omega) (by omega) (by omega) (by omega), a (55 + 5 * t + 2) (by omega) (by omega) (by omega) (by omega), a (55 + 5 * t + 3) (by omega) (by omega) (by omega) (by omega), a (55 + 5 * t + 4) (by omega) (by omega) (by omega) (by omega)]
          exact g4
      · show x3.1 40 13 = if s1.1 7 = 0 then 0 else 1
        rw [F3.1 _ _ (by omega) (by omega)]; exact f2.2.1
      · show laX x3 s1.2.2.2.1
        unfold laX
        rw [a 53 (by omega) (by omega) (by omega) (by omega)]
        exact f2.2.2.1
      · show stX x3 P s1.2.2.2.1 s1.2.2.2.2.2.2
        unfold stX
        rw [a (P + 7) (by omega) (by omega) (by omega) (by omega)]
        exact f2.2.2.2
      · rw [if_neg (by omega)]
        refine ⟨by rw [F3.1 _ _ (by omega) (by omega)]; exact h2.1, fun _ => ?_⟩
        rw [r9]
        show (if h' = 0 then x2.1 40 14 else nI h') = nI (if h' = 0 then ln else h')
        by_cases z : h' = 0
        · rw [if_pos z, if_pos z]; exact h2.1
        · rw [if_neg z, if_neg z]
  rw [if_neg cfr]
  by_cases c218 : code = 218
  · rw [if_pos c218]
    have kn : s.1 3 ≠ 0 := by
      unfold sgCs at hcs
      rcases hcs with ⟨_, z⟩ | ⟨z0, z⟩
      · omega
      · rcases z with z | z | z | z | z
        · omega
        · exact z.2
        all_goals omega
    have ok1 : sgOk s1 := by
      unfold sgOk
      rw [v1 1 (by decide), v1 3 (by decide), v1 6 (by decide), v1 7 (by decide), v1 8 (by decide), w1]
      exact ok
    obtain ⟨v, x3, e3, F3, i3, j3, o3⟩ := x_scan (X := X) (B := B) (w0 := w0) f2 ok1 (by rw [v1 3 (by decide)]; exact kn) (by omega) k2
    have st : ∀ z, zR v (rg_p lX B w0 x3) = z → fX8_readSegment X (rg_p lX B w0 x) (B + 40) (nI code) = z := by
      intro z hz
      exact start3 _ (ei_n (ne 192 (by decide) (by omega)) (ei_n (ne 194 (by decide) (by omega)) (ei_n (ne 196 (by decide) (by omega)) (ei_t (by rw [c218]; rfl) (ob_v (rg_O rfl) (ob_v e3 hz))))))
    rcases o3 with ⟨f, r1, r2, r3⟩ | ⟨s3, r1, r2, r3, r4, r5⟩
    · rw [r1]
      rw [r2] at st
      exact ⟨0, x3, st _ rfl, S2.trans F3, Or.inl ⟨f, rfl, rfl, r3⟩⟩
    · rw [r1]
      rw [r2] at st
      obtain ⟨s2', e1, e2⟩ := sgB_i r1
      obtain ⟨ed, e3', e4⟩ := sgB_i e2
      have E := Sum.inr.inj e4
      obtain ⟨nn, mb, fi, la, bf, bb, p1', p2', p3', _, _, _, _, _, _, f7⟩ := sgSc_i e1
      have t3 : s3.1 3 = s1.1 3 := by rw [← E, f7]; rfl
      have t5 : s3.1 5 = s1.1 5 := by rw [← E, f7]; rfl
      refine ⟨1, x3, st _ rfl, S2.trans F3, Or.inr ⟨s3, rfl, rfl, ?_, r4, ?_, fun _ => r5⟩⟩
      · have := r3.px
        rw [cD.1, cD.2] at this
        exact this
      · rw [if_neg (by omega)]
        exact ⟨by rw [i3 14 (by omega) (by omega)]; exact h2.1, by rw [t3, t5, j3]; exact h2.2⟩
  rw [if_neg c218]
  by_cases c220 : code = 220
  · rw [if_pos c220]
    obtain ⟨v, x3, e3, F3, o3⟩ := x_lns (X := X) (B := B) (w0 := w0) hP (by rw [q2]; exact hs.1.2.1) k2
    have S3 : FXsg P x2 x3 := ⟨fun q k a d => F3.1 q k (by omega) (by omega), by rw [F3.2], fun _ _ _ _ _ => by rw [F3.2], by rw [F3.2]⟩
    have st : ∀ z, zR v (rg_p lX B w0 x3) = z → fX8_readSegment X (rg_p lX B w0 x) (B + 40) (nI code) = z := by
      intro z hz
      exact start3 _ (ei_n (ne 192 (by decide) (by omega)) (ei_n (ne 194 (by decide) (by omega)) (ei_n (ne 196 (by decide) (by omega)) (ei_n (ne 218 (by decide) (by omega)) (ei_n (ne 219 (by decide) (by omega)) (ei_t (by rw [c220]; rfl) (ob_v (rg_O rfl) (ob_v e3 hz))))))))
    have eB : (sgB (sgU c 1 64 (p + 2)) fun v => sgE c v.2 (uG (uG (uG s1.1 0 v.2) 5 v.1) 7 0, s1.2)) = sgB (sgB (sgU c 1 64 (p + 2)) fun v => sgE c v.2 v) fun v => .inr (uG (uG (uG s1.1 0 v.2) 5 v.1) 7 0, s1.2) := by
      rw [sgB_B]
      congr 1
      funext v
      unfold sgE
      split <;> rfl
    rw [eB]
    rcases o3 with ⟨f, r1, r2, r3⟩ | ⟨u, p', r1, r2, r3, r4, r5, r6, r7⟩
    · rw [r1]
      rw [r2] at st
      exact ⟨0, x3, st _ rfl, S2.trans S3, Or.inl ⟨f, rfl, rfl, r3⟩⟩
    · rw [r1]
      rw [r2] at st
      refine ⟨1, x3, st _ rfl, S2.trans S3, Or.inr ⟨_, rfl, rfl, ?_, f2.i F3.2 (fun t k _ => F3.1 _ _ (by omega) (by omega)) ?_ ?_ (F3.1 _ _ (by omega) (by omega)) (F3.1 _ _ (by omega) (by omega)) r6 (F3.1 _ _ (by omega) (by omega)) (F3.1 _ _ (by omega) (by omega)) (fun k hk => (uG_n _ _ (by omega)).trans ((uG_n _ _ (by omega)).trans (uG_n _ _ (by omega)))), ?_, fun z => by omega⟩⟩
      · have := r7.px
        rw [cD.1, cD.2] at this
        exact this
      · rw [F3.1 _ _ (by omega) (by omega)]
        exact f2.1.2.2.1
      · rw [F3.1 _ _ (by omega) (by omega)]
        exact f2.1.2.2.2.1
      · rw [if_pos c220]
        refine ⟨r4, fun _ => ?_⟩
        rw [r5]
        show nI u = nI (if u = 0 then u else u)
        rw [if_neg (by omega)]
  rw [if_neg c220]
  obtain ⟨v, x3, e3, F3, o3⟩ := x_anyc (X := X) (B := B) (w0 := w0) k2
  have st : ∀ z, zR v (rg_p lX B w0 x3) = z → fX8_readSegment X (rg_p lX B w0 x) (B + 40) (nI code) = z := by
    intro z hz
    exact start3 _ (ei_n (ne 192 (by decide) (by omega)) (ei_n (ne 194 (by decide) (by omega)) (ei_n (ne 196 (by decide) (by omega)) (ei_n (ne 218 (by decide) (by omega)) (ei_n (ne 219 (by decide) (by omega)) (ei_n (ne 220 (by decide) (by omega)) (ei_n (ne 221 (by decide) (by omega)) (ob_v (rg_O rfl) (ob_v e3 hz)))))))))
  rcases o3 with ⟨r1, r2, r3⟩ | ⟨r1, r2, r3⟩
  · rw [if_pos r1]
    rw [r2] at st
    exact ⟨0, x3, st _ rfl, S2.trans F3.sg, Or.inl ⟨_, rfl, rfl, r3⟩⟩
  · rw [if_neg (by omega)]
    rw [r2] at st
    refine ⟨1, x3, st _ rfl, S2.trans F3.sg, Or.inr ⟨_, rfl, rfl, ?_, f2.i F3.2 (fun t k _ => F3.1 _ _ (by omega)) ?_ ?_ (F3.1 _ _ (by omega)) (F3.1 _ _ (by omega)) ?_ (F3.1 _ _ (by omega)) (F3.1 _ _ (by omega)) (fun k hk => uG_n _ _ (by omega)), ?_, fun z => absurd z c218⟩⟩
    · have := r3.px
      rw [cD.1, cD.2] at this
      exact this
    · rw [F3.1 _ _ (by omega)]
      exact f2.1.2.2.1
    · rw [F3.1 _ _ (by omega)]
      exact f2.1.2.2.2.1
    · rw [F3.1 _ _ (by omega)]
      exact f2.2.1
    · rw [if_neg c220]
      exact ⟨by rw [F3.1 _ _ (by omega)]; exact h2.1, by rw [F3.1 _ _ (by omega)]; exact h2.2⟩
end
