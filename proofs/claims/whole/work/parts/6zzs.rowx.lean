/-! the rows of a script: scans together or one by one; the class -/
def tgS (g : gG) : Nat → Nat
  | 0 => 0
  | c + 1 => tgS g c + g.2.2.2.1 c * g.2.2.2.2 c
def eachL (g : gG) (Z : Nat → Int) (iv : Nat) (p : scP) : Nat → List Int32
  | 0 => []
  | c + 1 => eachL g Z iv p c ++ scL (aAll g c 1 p Z iv).1 p c 1
def rowL (g : gG) (Z : Nat → Int) (iv : Nat) (r : Nat × scP) : List Int32 := if r.1 = 0 ∧ tgS g g.2.2.1 ≤ 10 then scL (aAll g 0 g.2.2.1 r.2 Z iv).1 r.2 0 g.2.2.1 else eachL g Z iv r.2 g.2.2.1
def rwD : Nat × scP := (0, 0, 0, 0, 0)
def rowsL (g : gG) (Z : Nat → Int) (iv : Nat) (R : List (Nat × scP)) : Nat → List Int32
  | 0 => []
  | i + 1 => rowsL g Z iv R i ++ rowL g Z iv (R.getD i rwD)
def rOk (R : List (Nat × scP)) : Prop := R.length ≤ 6 ∧ ∀ i, i < R.length → (R.getD i rwD).1 ≤ 1 ∧ pOk (R.getD i rwD).2 ∧ (∀ m, (R.getD i rwD).1 = 0 ∨ m = 1 → pM (R.getD i rwD).2 m)
def lOk (l : List Int32) (R : List (Nat × scP)) : Prop := l.length = 5 * R.length ∧ ∀ i, i < R.length → l.getD (5 * i) 0 = nI (R.getD i rwD).1 ∧ l.getD (5 * i + 1) 0 = nI (R.getD i rwD).2.1 ∧ l.getD (5 * i + 2) 0 = nI (R.getD i rwD).2.2.1 ∧ l.getD (5 * i + 3) 0 = nI (R.getD i rwD).2.2.2.1 ∧ l.getD (5 * i + 4) 0 = nI (R.getD i rwD).2.2.2.2
theorem aLX_st {X : px_X} (h : px_st X) (k : Nat) {l : List Int32} (hk : px_sc[k]? = some l) : aLX X (X.2.2.2.2.2 k) = some (nI l.length) := by
  obtain ⟨f, h1, h2⟩ := h k l hk
  simp only [aLX, h1]
  rfl
theorem scO_tg {g : gG} {m : Nat} (m1 : m ≠ 1) : ∀ c, c ≤ m → scO g 0 m c = tgS g c
  | 0, _ => rfl
  | c + 1, hc => by
    rw [scO.eq_2, tgS.eq_2, scO_tg m1 c (by omega)]
    unfold scB
    rw [if_pos (by omega), if_neg m1]
theorem tg_ok {g : gG} (hg : gOk g) (h : tgS g g.2.2.1 ≤ 10) : scOk g 0 g.2.2.1 ∧ scO g 0 g.2.2.1 g.2.2.1 ≤ 10 := by
  have h1 := hg.2.2.2.2.1
  by_cases m1 : g.2.2.1 = 1
  · have hs : scOk g 0 g.2.2.1 := Or.inl ⟨m1, by omega⟩
    refine ⟨hs, ?_⟩
    rw [m1] at hs ⊢
    rw [sO_1 hs, if_pos (by decide)]
    decide
  · refine ⟨Or.inr ⟨m1, rfl, rfl⟩, ?_⟩
    rw [scO_tg m1 _ (Nat.le_refl _)]
    exact h
theorem one_ok {g : gG} {c : Nat} (hc : c < g.2.2.1) : scOk g c 1 ∧ scO g c 1 g.2.2.1 ≤ 10 := by
  have hs : scOk g c 1 := Or.inl ⟨rfl, hc⟩
  refine ⟨hs, ?_⟩
  rw [sO_1 hs, if_pos hc]
  decide
/-- what scans leave alone in the class -/
def FXu (o : Nat) (x x' : rg_S) : Prop := (∀ p k, p ≤ 105 → ¬ (p = o ∧ (k = 1 ∨ k = 2)) → x'.1 p k = x.1 p k) ∧ x'.2.1 = x.2.1 ∧ ∀ p, p < 105 → p ≠ o + 1 → x'.2.2.1 p = x.2.2.1 p
theorem FXu.rfl {o : Nat} {x : rg_S} : FXu o x x := ⟨fun _ _ _ _ => Eq.refl _, Eq.refl _, fun _ _ _ => Eq.refl _⟩
theorem FXu.trans {o : Nat} {x x1 x2 : rg_S} (h : FXu o x x1) (h2 : FXu o x1 x2) : FXu o x x2 := ⟨fun p k a c => (h2.1 p k a c).trans (h.1 p k a c), h2.2.1.trans h.2.1, fun p a c => (h2.2.2 p a c).trans (h.2.2 p a c)⟩
theorem FXs.u {o : Nat} {x x' : rg_S} (h : FXs o x x') : FXu o x x' := ⟨fun p k hp hk => h.1 p k (by omega) hk, h.2.1, h.2.2⟩
theorem xSv.fu {x x' : rg_S} {o P iv : Nat} {g : gG} {Z : Nat → Int} (So : o = 3 ∨ o = 5) (hP : isP P) (h : xSv x o P iv g Z) (F : FXu o x x') (q : x'.1 195 7 = 0 ∧ x'.1 195 8 = 0 ∧ x'.1 195 10 = 0) : xSv x' o P iv g Z := by
  unfold isP at hP
  obtain ⟨h1, h2, h3, h4, h5, h6, h7, h8⟩ := h
  unfold xSv xPic xFr at *
  rw [F.2.1, F.1 105 2 (by omega) (by omega), F.1 P 0 (by omega) (by omega), F.1 P 1 (by omega) (by omega), F.1 P 2 (by omega) (by omega), F.1 P 3 (by omega) (by omega), F.1 P 4 (by omega) (by omega), F.1 P 5 (by omega) (by omega), F.2.2 (P + 1) (by omega) (by omega), F.2.2 (P + 2) (by omega) (by omega), F.2.2 (P + 3) (by omega) (by omega), F.2.2 (P + 4) (by omega) (by omega), F.2.2 (P + 5) (by omega) (by omega), F.2.2 (P + 6) (by omega) (by omega)]
  exact ⟨h1, h2, h3, h4, h5, q, h7, h8⟩
section
variable {X : px_X} {b B : Nat} {w0 w1 : px_W} {x x' : rg_S} {o P iv : Nat} {p : scP} {L : List Int32} {g : gG} {Z : Nat → Int} {R : List (Nat × scP)} {l : List Int32}
theorem x_each (So : o = 3 ∨ o = 5) (hP : isP P) (hg : gOk g) (hb : gBs g g.2.2.1 ≤ 192) (hZ : ∀ i, i < 64 * gBs g g.2.2.1 → -1024 ≤ Z i ∧ Z i ≤ 1023) (hp : pOk p) (hiv : iv < 65536) {k93 : Nat → Nat → Int32 → px_W → Option (Int32 × px_W)} {a3 : Nat} {a4 : Int32} : ∀ (k M c : Nat) (x : rg_S), c + k = g.2.2.1 → k < M → x.2.1 0 4 = P → xSv x o P iv g Z → bdX x p → xO x o (L ++ eachL g Z iv p c) → ∃ x', fX11_saveAs_171 X k93 M (B + 0) a3 a4 (nI c) (rg_p lX B w0 x) = fX11_saveAs_199 X k93 (B + 0) a3 a4 (rg_p lX B w0 x') ∧ xSv x' o P iv g Z ∧ xO x' o (L ++ eachL g Z iv p g.2.2.1) ∧ FXu o x x' := by
  have h4 := hg.2.2.2.2.2.1
  have gP : ∀ x2 : rg_S, x2.2.1 0 4 = P → gR (rg_p lX B w0 x2) (B + 0) 11 4 = some (B + P) := fun x2 e => by rw [← e]; exact rg_R rfl rfl
  intro k
  induction k with
  | zero =>
    intro M c x hc hM hR V D h
    obtain rfl : c = g.2.2.1 := by omega
    obtain ⟨M, rfl⟩ : ∃ M', M = M' + 1 := ⟨M - 1, by omega⟩
    refine ⟨x, ?_, V, h, FXu.rfl⟩
    rw [fX11_saveAs_171.eq_2]
    refine ob_v (gP x hR) (ob_v (rg_I hP.o rfl) ?_)
    rw [V.2.2.2.2.2.2.1.1.2.2.1]
    exact ei_t (nI_le (Nat.le_refl _) (by omega)) rfl
  | succ k ih =>
    intro M c x hc hM hR V D h
    obtain ⟨M, rfl⟩ : ∃ M', M = M' + 1 := ⟨M - 1, by omega⟩
    obtain ⟨s1, s2⟩ := one_ok (g := g) (c := c) (by omega)
    obtain ⟨x1, e1, h1, F1, q1, q2, q3⟩ := x_tellScan (X := X) (B := B) (w0 := w0) (c0 := c) (m := 1) So hP hg hb s1 s2 hZ hp hiv V D h
    have V1 := V.fu So hP F1.u ⟨q1, q2, q3⟩
    rw [List.append_assoc, ← eachL.eq_2] at h1
    obtain ⟨x2, e2, V2, h2, F2⟩ := ih M (c + 1) x1 (by omega) (by omega) (by rw [F1.2.1]; exact hR) V1 (by
      unfold bdX at *
      rw [F1.1 106 1 (by omega) (by omega), F1.1 106 2 (by omega) (by omega), F1.1 106 3 (by omega) (by omega), F1.1 106 4 (by omega) (by omega)]
      exact D) h1
    refine ⟨x2, ?_, V2, h2, F1.u.trans F2⟩
    rw [fX11_saveAs_171.eq_2]
    refine ob_v (gP x hR) (ob_v (rg_I hP.o rfl) ?_)
    rw [V.2.2.2.2.2.2.1.1.2.2.1]
    refine ei_n (nI_ge (by omega) (by omega)) (ob_v (rg_C rfl rfl) (ob_v (rg_O rfl) (ob_v e1 ?_)))
    rw [nI_1]
    exact e2
theorem x_tog (hP : isP P) (hg : gOk g) (hR : x.2.1 105 1 = P) (h : xPic x P g) : fX4_canBeTogether X (rg_p lX B w0 x) (B + 105) = some (if 10 < tgS g g.2.2.1 then 0 else 1, rg_p lX B w0 x) := by
  have h4 := hg.2.2.2.2.2.1
  have gP : gR (rg_p lX B w0 x) (B + 105) 4 1 = some (B + P) := by rw [← hR]; exact rg_R rfl rfl
  have tb' : ∀ c, c ≤ g.2.2.1 → tgS g c ≤ 4 * c := by
    intro c
    induction c with
    | zero => intro _; exact Nat.le_refl _
    | succ c ih =>
      intro hc
      have f := hg.2.2.2.2.2.2 c (by omega)
      have : g.2.2.2.1 c * g.2.2.2.2 c ≤ 2 * 2 := Nat.mul_le_mul f.1.2 f.2.2
      have := ih (by omega)
      rw [tgS.eq_2]
      omega
  have lp : ∀ (k M c : Nat), c + k = g.2.2.1 → k < M → fX4_canBeTogether_4 X M (B + 105) (nI (tgS g c)) (nI c) (rg_p lX B w0 x) = some (if 10 < tgS g g.2.2.1 then 0 else 1, rg_p lX B w0 x) := by
    intro k
    induction k with
    | zero =>
      intro M c hc hM
      obtain rfl : c = g.2.2.1 := by omega
      obtain ⟨M, rfl⟩ : ∃ M', M = M' + 1 := ⟨M - 1, by omega⟩
      have := tb' g.2.2.1 (Nat.le_refl _)
      rw [fX4_canBeTogether_4.eq_2]
      refine ob_v gP (ob_v (rg_I hP.o rfl) ?_)
      rw [h.1.2.2.1]
      refine ei_t (nI_le (Nat.le_refl _) (by omega)) ?_
      unfold fX4_canBeTogether_43
      by_cases q : 10 < tgS g g.2.2.1
      · rw [if_pos q]
        exact ei_t (nI_lt (a := 10) q (by omega)) rfl
      · rw [if_neg q]
        exact ei_n (nI_nlt (a := 10) (by omega) (by omega)) rfl
    | succ k ih =>
      intro M c hc hM
      obtain ⟨M, rfl⟩ : ∃ M', M = M' + 1 := ⟨M - 1, by omega⟩
      rw [fX4_canBeTogether_4.eq_2]
      refine ob_v gP (ob_v (rg_I hP.o rfl) ?_)
      rw [h.1.2.2.1]
      refine ei_n (nI_ge (by omega) (by omega)) (ob_v gP (ob_v (rg_C hP.o rfl) (ob_v (rg_A hP.a1 (by decide) _ (by omega) (by decide)) (ob_v gP (ob_v (rg_C hP.o rfl) (ob_v (rg_A hP.a2 (by decide) _ (by omega) (by decide)) ?_))))))
      rw [h.1.2.2.2.1 c (by omega), h.1.2.2.2.2 c (by omega), pk_mul, nI_add, nI_1]
      exact ih M (c + 1) (by omega) (by omega)
  unfold fX4_canBeTogether
  exact lp g.2.2.1 FU 0 (by omega) (by unfold FU; omega)
theorem x_rows (hst : px_st X) (So : o = 3 ∨ o = 5) (hP : isP P) (hg : gOk g) (hb : gBs g g.2.2.1 ≤ 192) (hZ : ∀ i, i < 64 * gBs g g.2.2.1 → -1024 ≤ Z i ∧ Z i ≤ 1023) (hiv : iv < 65536) {kk : Nat} (hk : px_sc[kk]? = some l) (hR : rOk R) (hl : lOk l R) : ∀ (k M i : Nat) (x : rg_S), i + k = R.length → k < M → x.2.1 0 4 = P → xSv x o P iv g Z → xO x o (L ++ rowsL g Z iv R i) → ∃ x', fX11_saveAs_93 X M (B + 0) (X.2.2.2.2.2 kk) (nI (5 * i)) (rg_p lX B w0 x) = fX11_saveAs_205 X (B + 0) (rg_p lX B w0 x') ∧ xSv x' o P iv g Z ∧ xO x' o (L ++ rowsL g Z iv R R.length) ∧ FXu o x x' := by
  have h4 := hg.2.2.2.2.2.1
  have hl1 := hl.1
  have hR1 := hR.1
  have gP : ∀ x2 : rg_S, x2.2.1 0 4 = P → gR (rg_p lX B w0 x2) (B + 0) 11 4 = some (B + P) := fun x2 e => by rw [← e]; exact rg_R rfl rfl
  have n5 : ∀ n, nI n + 5 = nI (n + 5) := fun n => nI_add n 5
  intro k
  induction k with
  | zero =>
    intro M i x hi hM hR0 V h
    obtain rfl : i = R.length := by omega
    obtain ⟨M, rfl⟩ : ∃ M', M = M' + 1 := ⟨M - 1, by omega⟩
    refine ⟨x, ?_, V, h, FXu.rfl⟩
    rw [fX11_saveAs_93.eq_2]
    refine ob_v (aLX_st hst kk hk) ?_
    rw [n5, hl1]
    exact ei_t (nI_lt (by omega) (by omega)) rfl
  | succ k ih =>
    intro M i x hi hM hR0 V h
    obtain ⟨M, rfl⟩ : ∃ M', M = M' + 1 := ⟨M - 1, by omega⟩
    obtain ⟨r1, r2, r3⟩ := hR.2 i (by omega)
    obtain ⟨l0, l1, l2, l3, l4⟩ := hl.2 i (by omega)
    generalize hr : R.getD i rwD = r at *
    obtain ⟨fl, p⟩ := r
    generalize hx1 : rg_wI (rg_wI (rg_wI (rg_wI x 106 1 (nI p.1)) 106 2 (nI p.2.1)) 106 3 (nI p.2.2.1)) 106 4 (nI p.2.2.2) = x1
    have F1 : FXu o x x1 := by
      rw [← hx1]
      exact ⟨fun q k hq _ => by rw [wI_n _ _ (by omega), wI_n _ _ (by omega), wI_n _ _ (by omega), wI_n _ _ (by omega)], rfl, fun _ _ _ => rfl⟩
    have i195 : ∀ k, x1.1 195 k = x.1 195 k := fun k => by rw [← hx1, wI_n _ _ (by omega), wI_n _ _ (by omega), wI_n _ _ (by omega), wI_n _ _ (by omega)]
    have V1 : xSv x1 o P iv g Z := V.fu So hP F1 (by rw [i195, i195, i195]; exact V.2.2.2.2.2.1)
    have D1 : bdX x1 p := by
      rw [← hx1]
      exact ⟨by rw [wI_n _ _ (by omega), wI_n _ _ (by omega), wI_n _ _ (by omega), wI_s], by rw [wI_n _ _ (by omega), wI_n _ _ (by omega), wI_s], by rw [wI_n _ _ (by omega), wI_s], by rw [wI_s]⟩
    have O1 : xO x1 o (L ++ rowsL g Z iv R i) := by
      unfold xO
      rw [show x1.2.2.1 = x.2.2.1 by rw [← hx1]; rfl, show x1.1 o 1 = x.1 o 1 by rw [← hx1, wI_n _ _ (by omega), wI_n _ _ (by omega), wI_n _ _ (by omega), wI_n _ _ (by omega)], show x1.1 o 2 = x.1 o 2 by rw [← hx1, wI_n _ _ (by omega), wI_n _ _ (by omega), wI_n _ _ (by omega), wI_n _ _ (by omega)]]
      exact h
    have hR1' : x1.2.1 0 4 = P := by rw [F1.2.1]; exact hR0
    obtain ⟨x2, e2, V2, h2, F2⟩ : ∃ x2, (if nI fl = 0 then (gR (rg_p lX B w0 x1) (B + 0) 11 12).bind fun v72 => (gO (rg_p lX B w0 x1) v72 4).bind fun o73 => (fX4_canBeTogether X (rg_p lX B w0 x1) v72).bind fun q74 => if q74.1 = 0 then fX11_saveAs_168 X (fX11_saveAs_93 X M) (B + 0) (X.2.2.2.2.2 kk) (nI (5 * i)) q74.2 else (gR q74.2 (B + 0) 11 12).bind fun v76 => (gR q74.2 (B + 0) 11 4).bind fun v77 => (gI q74.2 v77 2 2).bind fun v78 => (gO q74.2 v76 4).bind fun o79 => (fX4_tellScan X q74.2 v76 0 v78).bind fun q80 => fX11_saveAs_199 X (fX11_saveAs_93 X M) (B + 0) (X.2.2.2.2.2 kk) (nI (5 * i)) q80 else fX11_saveAs_168 X (fX11_saveAs_93 X M) (B + 0) (X.2.2.2.2.2 kk) (nI (5 * i)) (rg_p lX B w0 x1)) = fX11_saveAs_93 X M (B + 0) (X.2.2.2.2.2 kk) (nI (5 * (i + 1))) (rg_p lX B w0 x2) ∧ xSv x2 o P iv g Z ∧ xO x2 o (L ++ rowsL g Z iv R (i + 1)) ∧ FXu o x1 x2 := by
      rw [rowsL.eq_2, hr]
      have e199 : ∀ x2, fX11_saveAs_199 X (fX11_saveAs_93 X M) (B + 0) (X.2.2.2.2.2 kk) (nI (5 * i)) (rg_p lX B w0 x2) = fX11_saveAs_93 X M (B + 0) (X.2.2.2.2.2 kk) (nI (5 * (i + 1))) (rg_p lX B w0 x2) := fun x2 => by
        unfold fX11_saveAs_199
        rw [n5, show 5 * i + 5 = 5 * (i + 1) by omega]
      have each : ¬ (fl = 0 ∧ tgS g g.2.2.1 ≤ 10) → ∃ x2, fX11_saveAs_168 X (fX11_saveAs_93 X M) (B + 0) (X.2.2.2.2.2 kk) (nI (5 * i)) (rg_p lX B w0 x1) = fX11_saveAs_93 X M (B + 0) (X.2.2.2.2.2 kk) (nI (5 * (i + 1))) (rg_p lX B w0 x2) ∧ xSv x2 o P iv g Z ∧ xO x2 o (L ++ (rowsL g Z iv R i ++ rowL g Z iv (fl, p))) ∧ FXu o x1 x2 := by
        intro nq
        obtain ⟨x2, e2, V2, h2, F2⟩ := x_each (X := X) (B := B) (w0 := w0) (L := L ++ rowsL g Z iv R i) (k93 := fX11_saveAs_93 X M) (a3 := X.2.2.2.2.2 kk) (a4 := nI (5 * i)) So hP hg hb hZ r2 hiv g.2.2.1 FU 0 x1 (by omega) (by unfold FU; omega) hR1' V1 D1 (by show xO x1 o (_ ++ []); rw [List.append_nil]; exact O1)
        refine ⟨x2, ?_, V2, ?_, F2⟩
        · unfold fX11_saveAs_168
          exact (show fX11_saveAs_171 X (fX11_saveAs_93 X M) FU (B + 0) (X.2.2.2.2.2 kk) (nI (5 * i)) (nI 0) _ = _ from e2).trans (e199 x2)
        · unfold rowL
          rw [if_neg nq, ← List.append_assoc]
          exact h2
      by_cases f0 : fl = 0
      · have et := x_tog (X := X) (B := B) (w0 := w0) hP hg V1.2.1 V1.2.2.2.2.2.2.1
        by_cases tg : 10 < tgS g g.2.2.1
        · rw [if_pos tg] at et
          obtain ⟨x2, e2, V2, h2, F2⟩ := each (by omega)
          exact ⟨x2, ei_t (by rw [f0]; rfl) (ob_v (rg_C rfl rfl) (ob_v (rg_O rfl) (ob_v et (ei_t rfl e2)))), V2, h2, F2⟩
        · rw [if_neg tg] at et
          obtain ⟨s1, s2⟩ := tg_ok hg (by omega)
          obtain ⟨x2, e2, h2, F2, q1, q2, q3⟩ := x_tellScan (X := X) (B := B) (w0 := w0) (c0 := 0) (m := g.2.2.1) So hP hg hb s1 s2 hZ r2 hiv V1 D1 O1
          refine ⟨x2, ei_t (by rw [f0]; rfl) (ob_v (rg_C rfl rfl) (ob_v (rg_O rfl) (ob_v et (ei_n n10 (ob_v (rg_C rfl rfl) (ob_v (gP x1 hR1') (ob_v (rg_I hP.o rfl) (ob_v (rg_O rfl) ?_)))))))), V1.fu So hP F2.u ⟨q1, q2, q3⟩, ?_, F2.u⟩
          · rw [V1.2.2.2.2.2.2.1.1.2.2.1]
            exact ob_v e2 (e199 x2)
          · unfold rowL
            rw [if_pos ⟨f0, by omega⟩, ← List.append_assoc]
            exact h2
      · obtain ⟨x2, e2, V2, h2, F2⟩ := each (by omega)
        exact ⟨x2, ei_n (nI_ne0 (by omega) (by omega)) e2, V2, h2, F2⟩
    obtain ⟨x3, e3, V3, h3, F3⟩ := ih M (i + 1) x2 (by omega) (by omega) (by rw [F2.2.1]; exact hR1') V2 h2
    refine ⟨x3, ?_, V3, h3, F1.trans (F2.trans F3)⟩
    rw [fX11_saveAs_93.eq_2]
    refine ob_v (aLX_st hst kk hk) ?_
    have ax : ∀ j, j < 5 → aX X (X.2.2.2.2.2 kk) (nI (5 * i + j)) = some (l.getD (5 * i + j) 0) := fun j hj => aX_st hst kk hk _ (by omega) (by omega)
    have a0 := ax 0 (by decide)
    rw [Nat.add_zero] at a0
    rw [n5, hl1]
    refine ei_n (nI_nlt (by omega) (by omega)) (ob_v (rg_C rfl rfl) ?_)
    rw [show nI (5 * i) + 1 = nI (5 * i + 1) from nI_add _ 1, show nI (5 * i) + 2 = nI (5 * i + 2) from nI_add _ 2, show nI (5 * i) + 3 = nI (5 * i + 3) from nI_add _ 3, show nI (5 * i) + 4 = nI (5 * i + 4) from nI_add _ 4]
    refine ob_v (ax 1 (by decide)) (ob_v (ax 2 (by decide)) (ob_v (ax 3 (by decide)) (ob_v (ax 4 (by decide)) (ob_v (rg_O rfl) ?_))))
    rw [l1, l2, l3, l4]
    refine ob_v (v := rg_p lX B w0 x1) ?_ (ob_v a0 ?_)
    · unfold fX4_setBand
      refine ob_v (rg_C rfl rfl) (ob_v (rg_pI rfl rfl _) (ob_v (rg_C rfl rfl) (ob_v (rg_pI rfl rfl _) (ob_v (rg_C rfl rfl) (ob_v (rg_pI rfl rfl _) (ob_v (rg_C rfl rfl) (ob_v (rg_pI rfl rfl _) ?_)))))))
      rw [hx1]
    · rw [l0]
      exact e2.trans e3
end
