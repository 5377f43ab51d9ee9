/-! what was sent is noted, and the end of the data is found, by the class -/
def FXn (P : Nat) (x x' : rg_S) : Prop := x'.1 = x.1 ∧ x'.2.1 = x.2.1 ∧ (∀ a, a ≠ 53 → a ≠ P + 7 → x'.2.2.1 a = x.2.2.1 a) ∧ x'.2.2.2 = x.2.2.2
theorem FXn.rfl {P : Nat} {x : rg_S} : FXn P x x := ⟨Eq.refl _, Eq.refl _, fun _ _ _ => Eq.refl _, Eq.refl _⟩
theorem FXn.trans {P : Nat} {x x1 x2 : rg_S} (h : FXn P x x1) (h2 : FXn P x1 x2) : FXn P x x2 := ⟨h2.1.trans h.1, h2.2.1.trans h.2.1, fun a e d => (h2.2.2.1 a e d).trans (h.2.2.1 a e d), h2.2.2.2.trans h.2.2.2⟩
theorem FXn.wA {P a : Nat} {x : rg_S} {f : Nat → Int32} (h : a = 53 ∨ a = P + 7) : FXn P x (rg_wA x a f) := ⟨Eq.refl _, Eq.refl _, fun _ _ _ => wA_n _ _ (by omega), Eq.refl _⟩
def stX (x : rg_S) (P : Nat) (lt st : Nat → Nat) : Prop := ∀ j, j < 256 → lt (64 * (j / 64)) ≠ 0 → x.2.2.1 (P + 7) j = nI (st j)
section
variable {X : px_X} {b B : Nat} {w0 w1 : px_W} {x x' : rg_S} {c : sgC} {p P n nn : Nat} {cs mb : sg4} {lt st q : Nat → Nat} {T : sgW}
theorem x_note {cc fi la bb tq : Nat} (hP : isP P) (hr : x.2.1 40 1 = P) (c4 : cc < 4) (t4 : tq < 4) (fl : fi ≤ la) (l6 : la ≤ 63) (hb : bb ≤ 13) (h1 : x.1 41 1 = nI fi) (h2 : x.1 41 2 = nI la) (h4 : x.1 41 4 = nI bb) (h51 : x.2.2.1 51 cc = nI tq) (hq : qX x q) (hl : laX x lt) (hs : stX x P lt st) : ∃ x', fX8_noteAsSent X (rg_p lX B w0 x) (B + 40) (nI cc) = some (rg_p lX B w0 x') ∧ FXn P x x' ∧ laX x' (fun j => if 64 * cc + fi ≤ j ∧ j ≤ 64 * cc + la then bb + 1 else lt j) ∧ stX x' P (fun j => if 64 * cc + fi ≤ j ∧ j ≤ 64 * cc + la then bb + 1 else lt j) (fun j => if lt (64 * cc) = 0 ∧ 64 * cc ≤ j ∧ j < 64 * cc + 64 then q (64 * tq + (j - 64 * cc)) else st j) := by
  have hP' := hP
  unfold isP at hP'
  have l0 := hl (64 * cc) (by omega)
  -- the steps
  have one : ∃ x1, FXn P x x1 ∧ x1.2.2.1 53 = x.2.2.1 53 ∧ (∀ j, j < 256 → x1.2.2.1 (P + 7) j = if lt (64 * cc) = 0 ∧ 64 * cc ≤ j ∧ j < 64 * cc + 64 then nI (q (64 * tq + (j - 64 * cc))) else x.2.2.1 (P + 7) j) ∧ fX8_noteAsSent X (rg_p lX B w0 x) (B + 40) (nI cc) = fX8_noteAsSent_42 X (B + 40) (nI cc) (rg_p lX B w0 x1) := by
    have start : ∀ z, (if ltI (lt (64 * cc)) = -1 then (gR (rg_p lX B w0 x) (B + 40) 8 17).bind fun v29 => (gR (rg_p lX B w0 x) (B + 40) 8 16).bind fun v30 => (aN (rg_p lX B w0 x) 0 v30 (nI cc)).bind fun v31 => (gR (rg_p lX B w0 x) (B + 40) 8 1).bind fun v32 => (gR (rg_p lX B w0 x) v32 2 12).bind fun v33 => (cpy (fun _ => true) (rg_p lX B w0 x) 0 v29 (64 * v31) v33 (nI (64 * cc)) 64).bind fun w34 => fX8_noteAsSent_42 X (B + 40) (nI cc) w34 else fX8_noteAsSent_42 X (B + 40) (nI cc) (rg_p lX B w0 x)) = z → fX8_noteAsSent X (rg_p lX B w0 x) (B + 40) (nI cc) = z := by
      intro z hz
      unfold fX8_noteAsSent
      refine ob_v (rg_C rfl rfl) ?_
      rw [show (64 : Int32) * nI cc = nI (64 * cc) from by rw [show (64 : Int32) = nI 64 from rfl, pk_mul]]
      refine ob_v (rg_A rfl (by decide) _ (by omega) (by decide)) ?_
      rw [l0.1]
      exact hz
    by_cases z : lt (64 * cc) = 0
    · refine ⟨rg_wA x (P + 7) (va_cpy (x.2.2.1 52) (x.2.2.1 (P + 7)) (64 * tq) (64 * cc) 64), FXn.wA (Or.inr rfl), wA_n _ _ (by omega), ?_, ?_⟩
      · intro j hj
        rw [wA_s]
        by_cases d : 64 * cc ≤ j ∧ j < 64 * cc + 64
        · rw [if_pos ⟨z, d⟩, pk_cpy_in d.1 d.2]
          exact hq _ (by omega)
        · rw [if_neg (fun e => d e.2), pk_cpy_out (by omega)]
      · refine start _ (ei_t (by rw [z]; rfl) (ob_v (rg_C rfl rfl) (ob_v (rg_C rfl rfl) (ob_v (rg_A rfl (by decide) _ c4 (by decide)) (ob_v (gP hr) (ob_v (rg_C hP.o rfl) ?_))))))
        rw [h51, show (64 : Int32) * nI tq = nI (64 * tq) from by rw [show (64 : Int32) = nI 64 from rfl, pk_mul]]
        exact ob_v (rg_cpy (m := 64) rfl hP.a7 (by decide) (by omega) (by omega) (by decide) (by decide) (fun _ _ => rfl)) rfl
    · refine ⟨x, FXn.rfl, rfl, fun j hj => ?_, start _ (ei_n (fun e => z ((ltI_eq (b := 0) (by omega) (by omega)).mp e)) rfl)⟩
      rw [if_neg (fun e => z e.1)]
  obtain ⟨x1, F1, e53, e7, e1⟩ := one
  have i1 : x1.1 = x.1 := F1.1
  -- the bits
  have lp := rg_lp (F := fun M (s : Int32 × rg_S) => fX8_noteAsSent_50 X M (B + 40) (nI cc) s.1 (rg_p lX B w0 s.2)) (n := la + 1 - fi) (fun i => (nI (fi + i), rg_wA x1 53 (fun j => if 64 * cc + fi ≤ j ∧ j < 64 * cc + fi + i then nI bb else x1.2.2.1 53 j))) (r := some (rg_p lX B w0 (rg_wA x1 53 (fun j => if 64 * cc + fi ≤ j ∧ j < 64 * cc + fi + (la + 1 - fi) then nI bb else x1.2.2.1 53 j)))) ?_ ?_ (la + 1 - fi) FU 0 (by omega) (by unfold FU; omega)
  · refine ⟨rg_wA x1 53 (fun j => if 64 * cc + fi ≤ j ∧ j < 64 * cc + fi + (la + 1 - fi) then nI bb else x1.2.2.1 53 j), e1.trans ?_, F1.trans (FXn.wA (Or.inl rfl)), ?_, ?_⟩
    · unfold fX8_noteAsSent_42
      refine ob_v (rg_C rfl rfl) (ob_v (rg_I rfl rfl) ?_)
      rw [i1, h1]
      have e0 : rg_wA x1 53 (fun j => if 64 * cc + fi ≤ j ∧ j < 64 * cc + fi + 0 then nI bb else x1.2.2.1 53 j) = x1 := wA_id (by funext j; rw [if_neg (by omega)])
      have lp : fX8_noteAsSent_50 X FU (B + 40) (nI cc) (nI (fi + 0)) (rg_p lX B w0 (rg_wA x1 53 (fun j => if 64 * cc + fi ≤ j ∧ j < 64 * cc + fi + 0 then nI bb else x1.2.2.1 53 j))) = _ := lp
      rw [e0] at lp
      exact lp
    · intro i hi
      rw [wA_s]
      show (if 64 * cc + fi ≤ i ∧ i < 64 * cc + fi + (la + 1 - fi) then nI bb else x1.2.2.1 53 i) = ltI (if 64 * cc + fi ≤ i ∧ i ≤ 64 * cc + la then bb + 1 else lt i) ∧ (if 64 * cc + fi ≤ i ∧ i ≤ 64 * cc + la then bb + 1 else lt i) ≤ 20
      by_cases d : 64 * cc + fi ≤ i ∧ i ≤ 64 * cc + la
      · rw [if_pos (by omega), if_pos d]
        exact ⟨rfl, by omega⟩
      · rw [if_neg (by omega), if_neg d, e53]
        exact hl i hi
    · intro j hj hne
      rw [wA_n _ _ (by omega), e7 j hj]
      have hne : (if 64 * cc + fi ≤ 64 * (j / 64) ∧ 64 * (j / 64) ≤ 64 * cc + la then bb + 1 else lt (64 * (j / 64))) ≠ 0 := hne
      show _ = nI (if lt (64 * cc) = 0 ∧ 64 * cc ≤ j ∧ j < 64 * cc + 64 then q (64 * tq + (j - 64 * cc)) else st j)
      by_cases d : lt (64 * cc) = 0 ∧ 64 * cc ≤ j ∧ j < 64 * cc + 64
      · rw [if_pos d, if_pos d]
      · rw [if_neg d, if_neg d]
        refine hs j hj ?_
        by_cases e : j / 64 = cc
        · rw [e]
          exact fun z => d ⟨z, by omega, by omega⟩
        · rw [if_neg (by omega)] at hne
          exact hne
  · intro M i hi
    dsimp only
    rw [fX8_noteAsSent_50.eq_2]
    refine ob_v (rg_C rfl rfl) (ob_v (rg_I rfl rfl) ?_)
    rw [wA_1, i1, h2]
    refine ei_n (nI_nlt (by omega) (by omega)) (ob_v (rg_C rfl rfl) (ob_v (rg_C rfl rfl) (ob_v (rg_I rfl rfl) ?_)))
    rw [wA_1, i1, h4, show (64 : Int32) * nI cc + nI (fi + i) = nI (64 * cc + (fi + i)) from by rw [show (64 : Int32) = nI 64 from rfl, pk_mul, nI_add]]
    refine ob_v (rg_sA id rfl (by decide) _ _ (by omega) (by decide)) ?_
    rw [wA_s, wA_wA, nI_1, show fi + i + 1 = fi + (i + 1) by omega]
    congr 3
    funext j
    by_cases e : j = 64 * cc + (fi + i)
    · rw [e, pk_us, if_pos (by omega)]
      rfl
    · rw [pk_un e]
      by_cases d : 64 * cc + fi ≤ j ∧ j < 64 * cc + fi + i
      · rw [if_pos d, if_pos (by omega)]
      · rw [if_neg d, if_neg (by omega)]
  · intro M
    dsimp only
    rw [fX8_noteAsSent_50.eq_2]
    refine ob_v (rg_C rfl rfl) (ob_v (rg_I rfl rfl) ?_)
    rw [wA_1, i1, h2]
    exact ei_t (nI_lt (by omega) (by omega)) rfl
theorem x_notes {fi la bb : Nat} {s : sgS} (hP : isP P) (n4 : n ≤ 4) (nn4 : nn ≤ 4) (fl : fi ≤ la) (l6 : la ≤ 63) (hb : bb ≤ 13) (hmo : mmOk n s.2.2.2.2.1 mb nn) (ok : csOk n s.2.2.2.2.1) : ∀ (r i M : Nat) (x : rg_S), i + r = nn → r < M → x.2.1 40 1 = P → x.1 41 0 = nI nn → x.1 41 1 = nI fi → x.1 41 2 = nI la → x.1 41 4 = nI bb → mmX x nn mb → csX x P n s.2.2.2.2.1 → qX x s.2.1 → laX x (sgNo s fi la bb mb i).1 → stX x P (sgNo s fi la bb mb i).1 (sgNo s fi la bb mb i).2 → ∃ x', fX8_readScan_132 X M (B + 40) (nI i) (rg_p lX B w0 x) = fX8_readScan_162 X (B + 40) (rg_p lX B w0 x') ∧ FXn P x x' ∧ laX x' (sgNo s fi la bb mb nn).1 ∧ stX x' P (sgNo s fi la bb mb nn).1 (sgNo s fi la bb mb nn).2 := by
  have hP' := hP
  unfold isP at hP'
  intro r
  induction r with
  | zero =>
    intro i M x hi hM hr h0 h1 h2 h4 hm hc hq hl hs
    obtain rfl : i = nn := by omega
    obtain ⟨M, rfl⟩ : ∃ M', M = M' + 1 := ⟨M - 1, by omega⟩
    refine ⟨x, ?_, FXn.rfl, hl, hs⟩
    rw [fX8_readScan_132.eq_2]
    refine ob_v (rg_C rfl rfl) (ob_v (rg_I rfl rfl) ?_)
    rw [h0]
    exact ei_t (nI_le (Nat.le_refl _) (by omega)) rfl
  | succ r ih =>
    intro i M x hi hM hr h0 h1 h2 h4 hm hc hq hl hs
    obtain ⟨M, rfl⟩ : ∃ M', M = M' + 1 := ⟨M - 1, by omega⟩
    have mo := hmo.1 i (by omega)
    have okc := ok _ mo.1
    obtain ⟨x1, e1, F1, l1, s1⟩ := x_note (X := X) (B := B) (w0 := w0) (cc := (mb i).1) (fi := fi) (la := la) (bb := bb) (tq := (s.2.2.2.2.1 (mb i).1).2.2.2) hP hr (by omega) okc.2.2.2.1 fl l6 hb h1 h2 h4 (hc _ mo.1).2.2.2 hq hl hs
    obtain ⟨x2, e2, F2, l2, s2⟩ := ih (i + 1) M x1 (by omega) (by omega) (by rw [F1.2.1]; exact hr) (by rw [F1.1]; exact h0) (by rw [F1.1]; exact h1) (by rw [F1.1]; exact h2) (by rw [F1.1]; exact h4) (by
      unfold mmX
      rw [F1.2.2.1 42 (by omega) (by omega), F1.2.2.1 43 (by omega) (by omega), F1.2.2.1 44 (by omega) (by omega), F1.2.2.1 45 (by omega) (by omega)]
      exact hm) (by
      unfold csX
      rw [F1.2.2.1 50 (by omega) (by omega), F1.2.2.1 51 (by omega) (by omega), F1.2.2.1 (P + 1) (by omega) (by omega), F1.2.2.1 (P + 2) (by omega) (by omega)]
      exact hc) (by
      unfold qX
      rw [F1.2.2.1 52 (by omega) (by omega)]
      exact hq) l1 s1
    refine ⟨x2, ?_, F1.trans F2, l2, s2⟩
    rw [fX8_readScan_132.eq_2]
    refine ob_v (rg_C rfl rfl) (ob_v (rg_I rfl rfl) ?_)
    rw [h0]
    refine ei_n (nI_ge (by omega) (by omega)) (ob_v (rg_C rfl rfl) (ob_v (rg_C rfl rfl) (ob_v (rg_A rfl (by decide) _ (by omega) (by decide)) (ob_v (rg_O rfl) ?_))))
    rw [(hm i (by omega)).1, nI_1]
    exact ob_v e1 e2
def FXd (x x' : rg_S) : Prop := (∀ p k, ¬ (p = 40 ∧ 6 ≤ k ∧ k ≤ 8) → ¬ (p = 41 ∧ (k = 9 ∨ k = 10)) → x'.1 p k = x.1 p k) ∧ x'.2 = x.2
theorem FXd.trans {x x1 x2 : rg_S} (h : FXd x x1) (h2 : FXd x1 x2) : FXd x x2 := ⟨fun p k a b => (h2.1 p k a b).trans (h.1 p k a b), h2.2.trans h.2⟩
theorem FXp.d {x x' : rg_S} (h : FXp x x') : FXd x x' := ⟨fun p k a _ => h.1 p k a, h.2⟩
/-- the end of the data -/
theorem x_dt {iv : Nat} (hiv : iv < 65536) : ∀ (r p t M : Nat) (x : rg_S), c.2.1 < p + r → r < M → x.1 40 4 = nI iv → kX x c p → ∃ v x', fX8_findEndOfData_15 X M (B + 40) (nI (208 + t % 8)) (rg_p lX B w0 x) = some (v, rg_p lX B w0 x') ∧ FXd x x' ∧ x'.1 41 9 = x.1 41 9 ∧ ((∃ f, sgDt c.1 c.2.1 iv r p t = .inl f ∧ v = 0 ∧ ftX x' f) ∨ ∃ e, sgDt c.1 c.2.1 iv r p t = .inr e ∧ v = 1 ∧ x'.1 41 10 = nI e ∧ kX x' c e) := by
  intro r
  induction r with
  | zero =>
    intro p t M x hr _ _ h
    have := h.2.2.2.2.2.1.2.2.2
    omega
  | succ r ih =>
    intro p t M x hr hM h4 h
    obtain ⟨M, rfl⟩ : ∃ M', M = M' + 1 := ⟨M - 1, by omega⟩
    have hh := h
    obtain ⟨h1, h2, h3, h6, h5, ⟨h7, h7b, h7d, h7c⟩, h9⟩ := h
    unfold sgDt
    by_cases d1 : c.2.1 ≤ p + 1
    · rw [if_pos d1]
      obtain ⟨x2, e2, F2, f1, f2⟩ := x_fail (X := X) (B := B) (w0 := w0) (x := x) (f := 1) (q := c.2.1)
      refine ⟨0, x2, ?_, F2.d, F2.1 41 9 (by omega), Or.inl ⟨_, rfl, rfl, ftX.i f1 f2 (by decide) (by decide) (by omega)⟩⟩
      rw [fX8_findEndOfData_15.eq_2]
      refine ob_v (rg_I rfl rfl) (ob_v (rg_C rfl rfl) (ob_v (rg_I rfl rfl) ?_))
      rw [h1, h5, nI_1]
      refine ei_t (nI_le d1 (by omega)) ?_
      unfold fX8_findEndOfData_150
      refine ob_v (rg_C rfl rfl) (ob_v (rg_I rfl rfl) (ob_v (rg_O rfl) ?_))
      rw [h5]
      exact ob_v e2 rfl
    rw [if_neg d1]
    have D1 := h9 p (by omega)
    have D2 := h9 (p + 1) (by omega)
    have start : ∀ z, (if nI (c.1 p) = 255 then (if nI (c.1 (p + 1)) = 0 then (gI (rg_p lX B w0 x) (B + 40) 8 8).bind fun v56 => (pV (rg_p lX B w0 x) (B + 40) 8 8 (.int (v56 + 2))).bind fun w57 => fX8_findEndOfData_147 X (fX8_findEndOfData_15 X M) (B + 40) (nI (208 + t % 8)) w57 else (gI (rg_p lX B w0 x) (B + 40) 8 4).bind fun v52 => if v52 ≤ 0 then fX8_findEndOfData_134 X (B + 40) (rg_p lX B w0 x) else if nI (c.1 (p + 1)) = nI (208 + t % 8) then (if nI (208 + t % 8) = 215 then fX8_findEndOfData_120 X (fX8_findEndOfData_15 X M) (B + 40) 208 (rg_p lX B w0 x) else fX8_findEndOfData_120 X (fX8_findEndOfData_15 X M) (B + 40) (nI (208 + t % 8) + 1) (rg_p lX B w0 x)) else fX8_findEndOfData_134 X (B + 40) (rg_p lX B w0 x)) else (gI (rg_p lX B w0 x) (B + 40) 8 8).bind fun v58 => (pV (rg_p lX B w0 x) (B + 40) 8 8 (.int (v58 + 1))).bind fun w59 => fX8_findEndOfData_147 X (fX8_findEndOfData_15 X M) (B + 40) (nI (208 + t % 8)) w59) = z → fX8_findEndOfData_15 X (M + 1) (B + 40) (nI (208 + t % 8)) (rg_p lX B w0 x) = z := by
      intro z hz
      rw [fX8_findEndOfData_15.eq_2]
      refine ob_v (rg_I rfl rfl) (ob_v (rg_C rfl rfl) (ob_v (rg_I rfl rfl) ?_))
      rw [h1, h5, nI_1]
      refine ei_n (nI_ge (by omega) (by omega)) (ob_v (rg_C rfl rfl) (ob_v (rg_I rfl rfl) (ob_v (rg_O rfl) ?_)))
      rw [h1, nI_1]
      refine ob_v (x_at (o := 1) (n := c.2.1) (k := p + 1) (Or.inl rfl) h5 h7 (by omega)) (ob_v (rg_C rfl rfl) (ob_v (rg_I rfl rfl) (ob_v (rg_O rfl) ?_)))
      rw [h1]
      refine ob_v (x_at (o := 1) (n := c.2.1) (k := p) (Or.inl rfl) h5 h7 (by omega)) ?_
      dsimp only
      rw [D1.1, D2.1]
      exact hz
    -- one step on
    have step : ∀ (k t' : Nat) (a : Int32), a = nI (208 + t' % 8) → 1 ≤ k → p + k ≤ c.2.1 → ∃ v x', fX8_findEndOfData_15 X M (B + 40) a (rg_p lX B w0 (rg_wI x 40 8 (nI (p + k)))) = some (v, rg_p lX B w0 x') ∧ FXd x x' ∧ x'.1 41 9 = x.1 41 9 ∧ ((∃ f, sgDt c.1 c.2.1 iv r (p + k) t' = .inl f ∧ v = 0 ∧ ftX x' f) ∨ ∃ e, sgDt c.1 c.2.1 iv r (p + k) t' = .inr e ∧ v = 1 ∧ x'.1 41 10 = nI e ∧ kX x' c e) := by
      intro k t' a ea hk1 hk2
      have F : FXp x (rg_wI x 40 8 (nI (p + k))) := FXp.wI (by omega)
      obtain ⟨v, x2, e2, F2, g2, o2⟩ := ih (p + k) t' M (rg_wI x 40 8 (nI (p + k))) (by omega) (by omega) (by rw [wI_n _ _ (by omega)]; exact h4) (hh.k F (by rw [wI_n _ _ (by omega)]; exact h6) (wI_s _ _ _ _) hk2)
      rw [ea]
      exact ⟨v, x2, e2, F.d.trans F2, g2.trans (wI_n _ _ (by omega)), o2⟩
    by_cases d2 : c.1 p ≠ 255
    · rw [if_pos d2]
      obtain ⟨v, x2, e2, o2⟩ := step 1 t _ rfl (by omega) (by omega)
      refine ⟨v, x2, start _ (ei_n (fun e => d2 ((nI_eq (b := 255) (by omega) (by omega)).mp e)) (ob_v (rg_I rfl rfl) ?_)), o2⟩
      rw [h1, nI_1]
      exact ob_v (rg_pI rfl rfl _) e2
    have d2 := Classical.not_not.mp d2
    rw [if_neg (fun e => e d2)]
    have t1 : nI (c.1 p) = 255 := by rw [d2]; rfl
    by_cases d3 : c.1 (p + 1) = 0
    · rw [if_pos d3]
      obtain ⟨v, x2, e2, o2⟩ := step 2 t _ rfl (by omega) (by omega)
      refine ⟨v, x2, start _ (ei_t t1 (ei_t (by rw [d3]; rfl) (ob_v (rg_I rfl rfl) ?_))), o2⟩
      rw [h1, show nI p + 2 = nI (p + 2) from nI_add p 2]
      exact ob_v (rg_pI rfl rfl _) e2
    rw [if_neg d3]
    have t3 : ¬ nI (c.1 (p + 1)) = 0 := nI_ne0 (by omega) (by omega)
    have stop : fX8_findEndOfData_134 X (B + 40) (rg_p lX B w0 x) = some (1, rg_p lX B w0 (rg_wI x 41 10 (nI p))) := by
      unfold fX8_findEndOfData_134
      refine ob_v (rg_C rfl rfl) (ob_v (rg_I rfl rfl) ?_)
      rw [h1]
      exact ob_v (rg_pI rfl rfl _) rfl
    have stop2 : FXd x (rg_wI x 41 10 (nI p)) ∧ (rg_wI x 41 10 (nI p)).1 41 9 = x.1 41 9 ∧ (rg_wI x 41 10 (nI p)).1 41 10 = nI p ∧ kX (rg_wI x 41 10 (nI p)) c p := by
      refine ⟨⟨fun q k _ b => wI_n _ _ (by omega), rfl⟩, wI_n _ _ (by omega), wI_s _ _ _ _, ?_⟩
      exact ⟨by rw [wI_n _ _ (by omega)]; exact h1, by rw [wI_n _ _ (by omega)]; exact h2, by rw [wI_n _ _ (by omega)]; exact h3, by rw [wI_n _ _ (by omega)]; exact h6, by rw [wI_n _ _ (by omega)]; exact h5, ⟨h7, h7b, h7d, h7c⟩, h9⟩
    by_cases d4 : 0 < iv ∧ c.1 (p + 1) = 208 + t % 8
    · rw [if_pos d4]
      have a215 : ∃ a, (if nI (208 + t % 8) = 215 then fX8_findEndOfData_120 X (fX8_findEndOfData_15 X M) (B + 40) 208 (rg_p lX B w0 x) else fX8_findEndOfData_120 X (fX8_findEndOfData_15 X M) (B + 40) (nI (208 + t % 8) + 1) (rg_p lX B w0 x)) = fX8_findEndOfData_15 X M (B + 40) a (rg_p lX B w0 (rg_wI x 40 8 (nI (p + 2)))) ∧ a = nI (208 + (t + 1) % 8) := by
        have e120 : ∀ a, fX8_findEndOfData_120 X (fX8_findEndOfData_15 X M) (B + 40) a (rg_p lX B w0 x) = fX8_findEndOfData_15 X M (B + 40) a (rg_p lX B w0 (rg_wI x 40 8 (nI (p + 2)))) := by
          intro a
          unfold fX8_findEndOfData_120
          refine ob_v (rg_I rfl rfl) ?_
          rw [h1, show nI p + 2 = nI (p + 2) from nI_add p 2]
          exact ob_v (rg_pI rfl rfl _) rfl
        by_cases z : t % 8 = 7
        · refine ⟨208, ?_, ?_⟩
          · rw [if_pos (by rw [z]; rfl)]
            exact e120 208
          · rw [show (t + 1) % 8 = 0 by omega]
            rfl
        · refine ⟨nI (208 + t % 8) + 1, ?_, ?_⟩
          · rw [if_neg (fun e => z (by have := (nI_eq (b := 215) (by omega) (by omega)).mp e; omega))]
            exact e120 _
          · rw [nI_1, show 208 + t % 8 + 1 = 208 + (t + 1) % 8 by omega]
      obtain ⟨a, ea, ha⟩ := a215
      obtain ⟨v, x2, e2, o2⟩ := step 2 (t + 1) a ha (by omega) (by omega)
      refine ⟨v, x2, start _ (ei_t t1 (ei_n t3 (ob_v (rg_I rfl rfl) ?_))), o2⟩
      rw [h4]
      exact ei_n (nI_nle d4.1 (by omega)) (ei_t (by rw [d4.2]) (ea.trans e2))
    · rw [if_neg d4]
      refine ⟨1, _, start _ (ei_t t1 (ei_n t3 (ob_v (rg_I rfl rfl) ?_))), stop2.1, stop2.2.1, Or.inr ⟨p, rfl, rfl, stop2.2.2.1, stop2.2.2.2⟩⟩
      rw [h4]
      by_cases i0 : 0 < iv
      · exact ei_n (nI_nle i0 (by omega)) (ei_n (fun e => d4 ⟨i0, (nI_eq (by omega) (by omega)).mp e⟩) stop)
      · exact ei_t (by rw [show iv = 0 by omega]; decide) stop
end
