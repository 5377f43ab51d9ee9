/-! a pass begins, and the first pass, by the class -/
def sg0 : sgS := (fun k => if k = 0 then 2 else 0, fun _ => 0, fun _ => none, fun _ => 0, fun _ => (0, 0, 0, 0), fun _ => (0, 0, 0, 0), fun _ => 0)
def sgBg (D : Nat → Nat) (L : Nat) : sgF ⊕ sgS := if L = 0 then .inl (1, 0) else if D 0 ≠ 255 then .inl (2, 0) else if L = 1 then .inl (1, 1) else if D 1 ≠ 216 then .inl (2, 0) else .inr sg0
theorem sg0_ok : sgOk sg0 ∧ sgO2 sg0 := by
  refine ⟨⟨by decide, Or.inl rfl, by decide, fun h => absurd rfl h, fun _ => ⟨rfl, rfl, rfl⟩, fun i hi => absurd hi (Nat.not_lt_zero _), fun _ => Nat.zero_le _, fun _ => Nat.zero_le _, ⟨fun _ k _ => rfl, fun _ => rfl⟩⟩, ?_⟩
  exact ⟨fun _ _ => rfl, fun _ _ _ _ _ => rfl, fun h => absurd rfl h, fun h => absurd rfl h, fun h => absurd rfl h, fun h => absurd rfl h, ⟨by decide, by decide⟩, (fun t W h => by cases h), fun _ _ _ h => absurd rfl h, fun _ h => absurd rfl h⟩
def sgPs (D : Nat → Nat) (L : Nat) : Nat → sgS → sgF ⊕ sgS
  | 0, _ => .inl (1, L)
  | r + 1, s => sgB (sgNs D L (L + 1) s) fun o => if o.1 = true then sgPs D L r o.2 else .inr o.2
section
variable {X : px_X} {b B : Nat} {w0 w1 : px_W} {x x' : rg_S} {p P L ln : Nat} {s : sgS} {D : Nat → Nat}
theorem x_beg (hP : isP P) (hr : x.2.1 40 1 = P) (hL : x.1 1 1 = nI L) (L6 : L ≤ 16384) (hD : ∀ i, i < L → x.2.2.1 2 i &&& 255 = nI (D i) ∧ D i < 256) : ∃ x', fX8_beginAgain X (rg_p lX B w0 x) (B + 40) = some (rg_p lX B w0 x') ∧ FXsg P x x' ∧ x'.1 40 14 = x.1 40 14 ∧ (∀ k, k ≠ 2 → x'.1 P k = x.1 P k) ∧ (∀ a, a < 40 → x'.2.2.1 a = x.2.2.1 a) ∧ ((∃ f, sgBg D L = .inl f ∧ ftX x' f) ∨ (sgBg D L = .inr sg0 ∧ fpX x' D L 2 ∧ fsX x' P sg0)) := by
  have hP' := hP
  unfold isP at hP'
  have words : ∀ (r t M : Nat) (y : rg_S), t + r = 8 → r < M → (∀ k, k < t → y.1 (55 + 5 * k) 4 = 0) → ∃ y', fX8_beginAgain_61 X M (B + 40) (nI t) (rg_p lX B w0 y) = fX8_beginAgain_83 X (B + 40) (rg_p lX B w0 y') ∧ (∀ o k, ¬ (55 ≤ o ∧ o ≤ 94) → y'.1 o k = y.1 o k) ∧ y'.2 = y.2 ∧ ∀ k, k < 8 → y'.1 (55 + 5 * k) 4 = 0 := by
    intro r
    induction r with
    | zero =>
      intro t M y ht hM hk
      obtain ⟨M, rfl⟩ : ∃ M', M = M' + 1 := ⟨M - 1, by omega⟩
      refine ⟨y, ?_, fun _ _ _ => rfl, rfl, fun k h => hk k (by omega)⟩
      rw [fX8_beginAgain_61.eq_2]
      exact ei_t (nI_le (a := 8) (by omega) (by omega)) rfl
    | succ r ih =>
      intro t M y ht hM hk
      obtain ⟨M, rfl⟩ : ∃ M', M = M' + 1 := ⟨M - 1, by omega⟩
      obtain ⟨y', e, f1, f2, f3⟩ := ih (t + 1) M (rg_wI y (55 + 5 * t) 4 0) (by omega) (by omega) (by
        intro k h
        by_cases z : k = t
        · rw [z, wI_s]
        · rw [wI_n _ _ (by omega)]
          exact hk k (by omega))
      refine ⟨y', ?_, fun o k h => by rw [f1 o k h, wI_n _ _ (by omega)], f2, f3⟩
      rw [fX8_beginAgain_61.eq_2]
      refine ei_n (nI_ge (b := 8) (by omega) (by omega)) (ob_v (rg_C rfl rfl) (ob_v (x_wtb t (by omega)) (ob_v (rg_pI (wd_o (by omega)) rfl _) ?_)))
      rw [nI_1]
      exact e
  generalize hx1 : rg_wI (rg_wI (rg_wI (rg_wI (rg_wI (rg_wI (rg_wI (rg_wI x 40 4 0) 40 5 0) 40 6 0) 40 7 (-1)) 40 11 0) 40 12 0) 40 13 0) P 2 0 = x1
  have a1 : x1.2 = x.2 := by rw [← hx1]; rfl
  have i1 : ∀ o k, ¬ (o = 40 ∧ 4 ≤ k ∧ k ≤ 13) → ¬ (o = P ∧ k = 2) → x1.1 o k = x.1 o k := by
    intro o k h1 h2
    rw [← hx1, wI_n _ _ (by omega), wI_n _ _ (by omega), wI_n _ _ (by omega), wI_n _ _ (by omega), wI_n _ _ (by omega), wI_n _ _ (by omega), wI_n _ _ (by omega), wI_n _ _ (by omega)]
  generalize hx2 : (rg_wA (rg_wA x1 52 fun i => if i < 256 then 0 else x1.2.2.1 52 i) 53 fun i => if i < 256 then (-1) else x1.2.2.1 53 i) = x2
  have i2 : x2.1 = x1.1 := by rw [← hx2]; rfl
  have r2 : x2.2.1 = x.2.1 := by rw [← hx2, wA_2, wA_2, a1]
  have a2 : ∀ a, a ≠ 52 → a ≠ 53 → x2.2.2.1 a = x.2.2.1 a := by
    intro a h1 h2
    rw [← hx2, wA_n _ _ h2, wA_n _ _ h1, a1]
  have j2 : x2.2.2.2 = x.2.2.2 := by rw [← hx2]; show x1.2.2.2 = _; rw [a1]
  obtain ⟨x3, e3, f1, f2, f3⟩ := words 8 0 FU x2 (by omega) (by unfold FU; omega) (fun k h => absurd h (Nat.not_lt_zero _))
  generalize hx4 : rg_wI x3 40 8 2 = x4
  have start : ∀ z, fX8_beginAgain_83 X (B + 40) (rg_p lX B w0 x3) = z → fX8_beginAgain X (rg_p lX B w0 x) (B + 40) = z := by
    intro z hz
    unfold fX8_beginAgain
    refine ob_v (rg_pI rfl rfl _) (ob_v (rg_pI rfl rfl _) (ob_v (rg_pI rfl rfl _) (ob_v (rg_pI rfl rfl _) (ob_v (rg_pI rfl rfl _) (ob_v (rg_pZ rfl rfl _ (Or.inl rfl)) (ob_v (rg_pZ rfl rfl _ (Or.inl rfl)) (ob_v (gP (by exact hr)) (ob_v (rg_pI hP.o rfl _) ?_))))))))
    rw [hx1]
    refine ob_v (rg_C rfl rfl) (ob_v (rg_fill rfl (by decide) 0) (ob_v (rg_C rfl rfl) (ob_v (rg_fill rfl (by decide) (-1)) ?_)))
    rw [wA_n _ _ (show 53 ≠ 52 by decide), hx2]
    exact e3.trans hz
  have i4 : ∀ o k, ¬ (o = 40 ∧ 4 ≤ k ∧ k ≤ 13) → ¬ (o = P ∧ k = 2) → ¬ (55 ≤ o ∧ o ≤ 94) → x4.1 o k = x.1 o k := by
    intro o k h1 h2 h3
    rw [← hx4, wI_n _ _ (by omega), f1 o k h3, i2, i1 o k h1 h2]
  have q4 : x4.2 = x2.2 := by rw [← hx4, wI_2, f2]
  have S4 : FXsg P x x4 := ⟨fun o k h1 h2 => i4 o k (by omega) (by omega) (by omega), by rw [q4, r2], fun a h _ _ _ => by rw [q4, a2 a (by omega) (by omega)], by rw [q4, j2]⟩
  have L4 : x4.1 1 1 = nI L := by rw [i4 1 1 (by omega) (by omega) (by omega)]; exact hL
  have D4 : ∀ i, i < L → x4.2.2.1 2 i &&& 255 = nI (D i) ∧ D i < 256 := by
    rw [q4, a2 2 (by decide) (by decide)]
    exact hD
  have v6 : x4.1 40 6 = 0 := by rw [← hx4, wI_n _ _ (by omega), f1 40 6 (by omega), i2, ← hx1, wI_n _ _ (by omega), wI_n _ _ (by omega), wI_n _ _ (by omega), wI_n _ _ (by omega), wI_n _ _ (by omega), wI_s]
  have start2 : ∀ z, (if nI L = 0 then (gO (rg_p lX B w0 x4) (B + 40) 8).bind fun o57 => (fX8_fail X (rg_p lX B w0 x4) (B + 40) 1 0).bind fun q58 => some q58.2 else (gR (rg_p lX B w0 x4) (B + 40) 8 0).bind fun v40 => (gO (rg_p lX B w0 x4) v40 1).bind fun o41 => (fX1_at X (rg_p lX B w0 x4) v40 0).bind fun q42 => if q42.1 = 255 then (gR q42.2 (B + 40) 8 0).bind fun v44 => (gI q42.2 v44 1 1).bind fun v45 => if v45 = 1 then (gO q42.2 (B + 40) 8).bind fun o53 => (fX8_fail X q42.2 (B + 40) 1 1).bind fun q54 => some q54.2 else (gR q42.2 (B + 40) 8 0).bind fun v47 => (gO q42.2 v47 1).bind fun o48 => (fX1_at X q42.2 v47 1).bind fun q49 => if q49.1 = 216 then some q49.2 else (gO q49.2 (B + 40) 8).bind fun o51 => (fX8_fail X q49.2 (B + 40) 2 0).bind fun q52 => some q52.2 else (gO q42.2 (B + 40) 8).bind fun o55 => (fX8_fail X q42.2 (B + 40) 2 0).bind fun q56 => some q56.2) = z → fX8_beginAgain X (rg_p lX B w0 x) (B + 40) = z := by
    intro z hz
    refine start _ ?_
    unfold fX8_beginAgain_83
    refine ob_v (rg_pI rfl rfl _) ?_
    rw [hx4]
    refine ob_v (rg_C rfl rfl) (ob_v (rg_I rfl rfl) ?_)
    rw [L4]
    exact hz
  have others : ∀ z : rg_S, FXp x4 z → FXsg P x z ∧ z.1 40 14 = x.1 40 14 ∧ (∀ k, k ≠ 2 → z.1 P k = x.1 P k) ∧ (∀ a, a < 40 → z.2.2.1 a = x.2.2.1 a) := by
    intro z F
    refine ⟨S4.trans F.sg, by rw [F.1 _ _ (by omega), i4 _ _ (by omega) (by omega) (by omega)], fun k hk => by rw [F.1 _ _ (by omega), i4 _ _ (by omega) (by omega) (by omega)], fun a ha => by rw [F.2, q4, a2 a (by omega) (by omega)]⟩
  have bad : ∀ f q : Nat, 1 ≤ f → f ≤ 8 → q ≤ 20000 → ∃ x', fX8_fail X (rg_p lX B w0 x4) (B + 40) (nI f) (nI q) = some (-1, rg_p lX B w0 x') ∧ (FXsg P x x' ∧ x'.1 40 14 = x.1 40 14 ∧ (∀ k, k ≠ 2 → x'.1 P k = x.1 P k) ∧ (∀ a, a < 40 → x'.2.2.1 a = x.2.2.1 a)) ∧ ftX x' (f, q) := by
    intro f q h1 h2 h3
    obtain ⟨x5, e5, F5, g1, g2⟩ := x_fail (X := X) (B := B) (w0 := w0) (x := x4) (f := f) (q := q)
    exact ⟨x5, e5, others x5 F5, ftX.i g1 g2 h1 h2 h3⟩
  unfold sgBg
  by_cases l0 : L = 0
  · rw [if_pos l0]
    obtain ⟨x5, e5, ⟨g1, g2, g3, g4⟩, g5⟩ := bad 1 0 (by decide) (by decide) (by decide)
    exact ⟨x5, start2 _ (ei_t (by rw [l0]; rfl) (ob_v (rg_O rfl) (ob_v e5 rfl))), g1, g2, g3, g4, Or.inl ⟨_, rfl, g5⟩⟩
  rw [if_neg l0]
  have t0 : ¬ nI L = 0 := nI_ne0 (by omega) (by omega)
  have at0 := x_at (X := X) (B := B) (w0 := w0) (x := x4) (o := 1) (n := L) (k := 0) (Or.inl rfl) L4 L6 (by omega)
  have D0 := D4 0 (by omega)
  rw [show (1 : Nat) + 1 = 2 from rfl, D0.1] at at0
  by_cases d0 : D 0 ≠ 255
  · rw [if_pos d0]
    obtain ⟨x5, e5, ⟨g1, g2, g3, g4⟩, g5⟩ := bad 2 0 (by decide) (by decide) (by decide)
    exact ⟨x5, start2 _ (ei_n t0 (ob_v (rg_C rfl rfl) (ob_v (rg_O rfl) (ob_v at0 (ei_n (fun e => d0 ((nI_eq (b := 255) (by omega) (by omega)).mp e)) (ob_v (rg_O rfl) (ob_v e5 rfl))))))), g1, g2, g3, g4, Or.inl ⟨_, rfl, g5⟩⟩
  rw [if_neg d0]
  have d0 := Classical.not_not.mp d0
  have t1 : nI (D 0) = 255 := by rw [d0]; rfl
  have start3 : ∀ z, (if nI L = 1 then (gO (rg_p lX B w0 x4) (B + 40) 8).bind fun o53 => (fX8_fail X (rg_p lX B w0 x4) (B + 40) 1 1).bind fun q54 => some q54.2 else (gR (rg_p lX B w0 x4) (B + 40) 8 0).bind fun v47 => (gO (rg_p lX B w0 x4) v47 1).bind fun o48 => (fX1_at X (rg_p lX B w0 x4) v47 1).bind fun q49 => if q49.1 = 216 then some q49.2 else (gO q49.2 (B + 40) 8).bind fun o51 => (fX8_fail X q49.2 (B + 40) 2 0).bind fun q52 => some q52.2) = z → fX8_beginAgain X (rg_p lX B w0 x) (B + 40) = z := by
    intro z hz
    refine start2 _ (ei_n t0 (ob_v (rg_C rfl rfl) (ob_v (rg_O rfl) (ob_v at0 (ei_t t1 (ob_v (rg_C rfl rfl) (ob_v (rg_I rfl rfl) ?_)))))))
    dsimp only
    rw [L4]
    exact hz
  by_cases l1 : L = 1
  · rw [if_pos l1]
    obtain ⟨x5, e5, ⟨g1, g2, g3, g4⟩, g5⟩ := bad 1 1 (by decide) (by decide) (by decide)
    exact ⟨x5, start3 _ (ei_t (by rw [l1]; rfl) (ob_v (rg_O rfl) (ob_v e5 rfl))), g1, g2, g3, g4, Or.inl ⟨_, rfl, g5⟩⟩
  rw [if_neg l1]
  have t2 : ¬ nI L = 1 := fun e => l1 ((nI_eq (b := 1) (by omega) (by omega)).mp e)
  have at1 := x_at (X := X) (B := B) (w0 := w0) (x := x4) (o := 1) (n := L) (k := 1) (Or.inl rfl) L4 L6 (by omega)
  have D1 := D4 1 (by omega)
  rw [show (1 : Nat) + 1 = 2 from rfl, D1.1] at at1
  by_cases d1 : D 1 ≠ 216
  · rw [if_pos d1]
    obtain ⟨x5, e5, ⟨g1, g2, g3, g4⟩, g5⟩ := bad 2 0 (by decide) (by decide) (by decide)
    exact ⟨x5, start3 _ (ei_n t2 (ob_v (rg_C rfl rfl) (ob_v (rg_O rfl) (ob_v at1 (ei_n (fun e => d1 ((nI_eq (b := 216) (by omega) (by omega)).mp e)) (ob_v (rg_O rfl) (ob_v e5 rfl))))))), g1, g2, g3, g4, Or.inl ⟨_, rfl, g5⟩⟩
  rw [if_neg d1]
  have d1 := Classical.not_not.mp d1
  have oth := others x4 FXp.rfl
  refine ⟨x4, start3 _ (ei_n t2 (ob_v (rg_C rfl rfl) (ob_v (rg_O rfl) (ob_v at1 (ei_t (by show nI (D 1) = 216; rw [d1]; rfl) rfl))))), oth.1, oth.2.1, oth.2.2.1, oth.2.2.2, Or.inr ⟨rfl, ⟨by rw [← hx4, wI_s]; rfl, v6, L4, ⟨L6, by omega⟩, D4⟩, ⟨⟨hP, by rw [q4, r2]; exact hr, ?_, ?_, ?_, ?_, ?_, fun h => absurd rfl h, ?_, ?_, fun i hi => absurd hi (Nat.not_lt_zero _)⟩, ?_, ?_, fun j _ h => absurd rfl h⟩⟩⟩
  · rw [← hx4, wI_n _ _ (by omega), f1 _ _ (by omega), i2, ← hx1, wI_n _ _ (by omega), wI_n _ _ (by omega), wI_n _ _ (by omega), wI_n _ _ (by omega), wI_n _ _ (by omega), wI_n _ _ (by omega), wI_n _ _ (by omega), wI_s]; rfl
  · rw [← hx4, wI_n _ _ (by omega), f1 _ _ (by omega), i2, ← hx1, wI_n _ _ (by omega), wI_n _ _ (by omega), wI_n _ _ (by omega), wI_n _ _ (by omega), wI_n _ _ (by omega), wI_n _ _ (by omega), wI_s]; rfl
  · rw [← hx4, wI_n _ _ (by omega), f1 _ _ (by omega), i2, ← hx1, wI_n _ _ (by omega), wI_n _ _ (by omega), wI_n _ _ (by omega), wI_s]; rfl
  · rw [← hx4, wI_n _ _ (by omega), f1 _ _ (by omega), i2, ← hx1, wI_n _ _ (by omega), wI_n _ _ (by omega), wI_s]; rfl
  · rw [← hx4, wI_n _ _ (by omega), f1 _ _ (by omega), i2, ← hx1, wI_s]; rfl
  · intro i hi
    rw [q4, ← hx2, wA_n _ _ (show 52 ≠ 53 by decide), wA_s, if_pos hi]
    rfl
  · intro t ht
    refine Or.inl ⟨rfl, ?_⟩
    rw [← hx4, wI_n _ _ (by omega)]
    exact f3 t ht
  · rw [← hx4, wI_n _ _ (by omega), f1 _ _ (by omega), i2, ← hx1, wI_n _ _ (by omega), wI_s]; rfl
  · intro i hi
    rw [q4, ← hx2, wA_s, if_pos hi]
    exact ⟨rfl, Nat.zero_le _⟩
/-- all scans of the first pass -/
theorem x_ps : ∀ (r M ln : Nat) (x : rg_S) (s : sgS), L < s.1 0 + r → r < M → fpX x D L (s.1 0) → fsX x P s → sgOk s → sgO2 s → hX x P ln s → ∃ k x', fX11_openInput_13 X M (B + 0) (nI (s.1 8)) (rg_p lX B w0 x) = fX11_openInput_36 X (B + 0) (nI k) (rg_p lX B w0 x') ∧ FXsg P x x' ∧ ((∃ f, sgPs D L r s = .inl f ∧ ftX x' f) ∨ ∃ s2, sgPs D L r s = .inr s2 ∧ k = s2.1 8 ∧ fpX x' D L (s2.1 0) ∧ fsX x' P s2 ∧ sgOk s2 ∧ sgO2 s2 ∧ sgKp s s2 ∧ (s2.1 7 = 0 ∧ s2.1 3 ≠ 0 ∧ ∀ c, c < s2.1 6 → s2.2.2.2.1 (64 * c) ≠ 0) ∧ ∃ ln', hX x' P ln' s2 ∧ (ln' = ln ∨ ln' = s2.1 5 ∧ s2.1 5 ≠ 0 ∧ s2.1 3 ≠ 0) ∧ (l9 s ln → l9 s2 ln')) := by
  intro r
  induction r with
  | zero =>
    intro M ln x s hr _ hp _ _ _ _
    have := hp.2.2.2.1.2
    omega
  | succ r ih =>
    intro M ln x s hr hM hp hs ok o2 hh
    obtain ⟨M, rfl⟩ : ∃ M', M = M' + 1 := ⟨M - 1, by omega⟩
    have hL := hp.2.2.2.1
    have oc := o2.2.2.2.2.2.2.1
    obtain ⟨v, x1, e1, S1, o1⟩ := x_ns (X := X) (B := B) (w0 := w0) (P := P) (D := D) (L := L) (L + 1) 0 FU ln x s (by omega) (by omega) (by unfold FU; omega) hp hs ok o2 hh
    have start : ∀ z, (if v = 0 then fX11_openInput_36 X (B + 0) (nI (s.1 8)) (rg_p lX B w0 x1) else fX11_openInput_13 X M (B + 0) (nI (s.1 8 + 1)) (rg_p lX B w0 x1)) = z → fX11_openInput_13 X (M + 1) (B + 0) (nI (s.1 8)) (rg_p lX B w0 x) = z := by
      intro z hz
      rw [fX11_openInput_13.eq_2]
      refine ei_n (nI_ge (b := 16384) (by omega) (by omega)) (ob_v (rg_C rfl rfl) (ob_v (rg_O rfl) (ob_v (v := (v, rg_p lX B w0 x1)) ?_ ?_)))
      · unfold fX8_nextScan
        exact e1
      · rw [nI_1]
        exact hz
    unfold sgPs
    rcases o1 with ⟨f, r1, r2, r3⟩ | ⟨o, r1, r2, r3⟩
    · rw [r1]
      exact ⟨s.1 8, x1, start _ (ei_t r2 rfl), S1, Or.inl ⟨f, rfl, r3⟩⟩
    obtain ⟨n1, n2, n3, n4, n5, n6, n7, n8, n9, ln', n10, n11, n12⟩ := r3
    rw [r1]
    show ∃ k x', _ ∧ _ ∧ ((∃ f, (if o.1 = true then sgPs D L r o.2 else .inr o.2) = .inl f ∧ _) ∨ ∃ s2, (if o.1 = true then sgPs D L r o.2 else .inr o.2) = .inr s2 ∧ _)
    by_cases z : o.1 = true
    · rw [if_pos z] at n9 r2 ⊢
      obtain ⟨k, x2, e2, S2, o2'⟩ := ih M ln' x1 o.2 (by omega) (by omega) n1 n2 n3 n4 n10
      rw [n9] at e2
      refine ⟨k, x2, start _ (ei_n (by rw [r2]; decide) e2), S1.trans S2, ?_⟩
      rcases o2' with o2' | ⟨s2, w1, w2, w3, w4, w5, w6, w7, w8, ln2, w9, w10, w11⟩
      · exact Or.inl o2'
      · refine Or.inr ⟨s2, w1, w2, w3, w4, w5, w6, n5.trans w7, w8, ln2, w9, ?_, fun z => w11 (n12 z)⟩
        rcases w10 with y | y
        · rcases n11 with u | ⟨u1, u2, u3⟩
          · exact Or.inl (y.trans u)
          · obtain ⟨g1, _, _, _, _, g6⟩ := w7 u3
            exact Or.inr ⟨by rw [y, u1, g6 u2], by rw [g6 u2]; exact u2, by rw [g1]; exact u3⟩
        · exact Or.inr y
    · rw [if_neg z] at n9 r2 ⊢
      have zf : o.1 = false := by
        cases h : o.1
        · rfl
        · exact absurd h z
      exact ⟨s.1 8, x1, start _ (ei_t r2 rfl), S1, Or.inr ⟨o.2, rfl, by omega, n1, n2, n3, n4, n5, n8 zf, ln', n10, n11, n12⟩⟩
end
