/-! what comes ahead of the scans, on both sides -/
def stL (S : Nat → Int32) : Nat → List Int32
  | 0 => []
  | c + 1 => stL S c ++ ([bt (nI c)] ++ mp (fun k => bt (S (64 * c + k))) 64)
def coL (g : gG) : Nat → List Int32
  | 0 => []
  | c + 1 => coL g c ++ [bt (nI (c + 1)), bt (nI (16 * g.2.2.2.1 c + g.2.2.2.2 c)), bt (nI c)]
def ivL (iv : Nat) : List Int32 := if 0 < iv then sg 221 2 ++ tw iv else []
def hdF (g : gG) (S : Nat → Int32) (kind iv : Nat) : List Int32 := sg 219 (65 * g.2.2.1) ++ stL S g.2.2.1 ++ sg kind (6 + 3 * g.2.2.1) ++ [bt (nI 8)] ++ tw g.2.1 ++ tw g.1 ++ [bt (nI g.2.2.1)] ++ coL g g.2.2.1 ++ ivL iv
section
variable {X : px_X} {b B : Nat} {w0 w1 : px_W} {x x' y y' : rg_S} {o P iv kind : Nat} {L : List Int32} {g : gG} {S : Nat → Int32}
theorem x_tp40 (So : o = 3 ∨ o = 5) (hP : isP P) {c : Nat} (hc : c < 4) {k19 : Nat → Int32 → Int32 → px_W → Option (px_W)} {a1 : Int32} : ∀ (k M i : Nat) (x : rg_S) (L : List Int32), i + k = 64 → k < M → x.2.1 105 0 = o → x.2.1 105 1 = P → (∀ j, j < 64 → x.2.2.1 (P + 7) (64 * c + j) = S (64 * c + j)) → xO x o (L ++ mp (fun k => bt (S (64 * c + k))) i) → ∃ x', fX4_tellPicture_40 X k19 M (B + 105) a1 (nI c) (nI i) (rg_p lX B w0 x) = k19 (B + 105) a1 (nI (c + 1)) (rg_p lX B w0 x') ∧ xO x' o (L ++ mp (fun k => bt (S (64 * c + k))) 64) ∧ FXo o x x' := by
  have hby : isBy o := Or.inr So
  have hP' := hP
  unfold isP at hP'
  have gP : ∀ x2 : rg_S, x2.2.1 105 1 = P → gR (rg_p lX B w0 x2) (B + 105) 4 1 = some (B + P) := fun x2 e => by rw [← e]; exact rg_R rfl rfl
  intro k
  induction k with
  | zero =>
    intro M i x L hi hM r0 r1 hF h
    obtain rfl : i = 64 := by omega
    obtain ⟨M, rfl⟩ : ∃ M', M = M' + 1 := ⟨M - 1, by omega⟩
    refine ⟨x, ?_, h, FXo.rfl⟩
    rw [fX4_tellPicture_40.eq_2]
    refine ei_t (by decide) ?_
    unfold fX4_tellPicture_73
    rw [nI_1]
  | succ k ih =>
    intro M i x L hi hM r0 r1 hF h
    obtain ⟨M, rfl⟩ : ∃ M', M = M' + 1 := ⟨M - 1, by omega⟩
    obtain ⟨x1, e1, h1, F1⟩ := x_oadd (X := X) (B := B) (w0 := w0) hby h (S (64 * c + i))
    rw [List.append_assoc, ← mp_s (fun k => bt (S (64 * c + k))) i] at h1
    obtain ⟨x2, e2, h2, F2⟩ := ih M (i + 1) x1 L (by omega) (by omega) (by rw [F1.2.1]; exact r0) (by rw [F1.2.1]; exact r1) (fun j hj => by rw [F1.2.2.1 _ (by omega)]; exact hF j hj) h1
    refine ⟨x2, ?_, h2, FXo.trans F1 F2⟩
    rw [fX4_tellPicture_40.eq_2]
    refine ei_n (nI_ge (b := 64) (by omega) (by omega)) (ob_v (gOut r0) (ob_v (gP x r1) (ob_v (rg_C hP.o rfl) ?_)))
    rw [n64]
    refine ob_v (rg_A hP.a7 (by decide) _ (by omega) (by decide)) (ob_v (rg_O hby.o) ?_)
    rw [hF i (by omega)]
    refine ob_v e1 ?_
    rw [nI_1]
    exact e2
theorem x_tp19 (So : o = 3 ∨ o = 5) (hP : isP P) (hg : gOk g) {a1 : Int32} : ∀ (k M c : Nat) (x : rg_S) (L : List Int32), c + k = g.2.2.1 → k < M → x.2.1 105 0 = o → x.2.1 105 1 = P → x.1 P 2 = nI g.2.2.1 → (∀ j, j < 64 * g.2.2.1 → x.2.2.1 (P + 7) j = S j) → xO x o (L ++ stL S c) → ∃ x', fX4_tellPicture_19 X M (B + 105) a1 (nI c) (rg_p lX B w0 x) = fX4_tellPicture_79 X (B + 105) a1 (rg_p lX B w0 x') ∧ xO x' o (L ++ stL S g.2.2.1) ∧ FXo o x x' := by
  have h4 := hg.2.2.2.2.2.1
  have hby : isBy o := Or.inr So
  have hP' := hP
  unfold isP at hP'
  have gP : ∀ x2 : rg_S, x2.2.1 105 1 = P → gR (rg_p lX B w0 x2) (B + 105) 4 1 = some (B + P) := fun x2 e => by rw [← e]; exact rg_R rfl rfl
  intro k
  induction k with
  | zero =>
    intro M c x L hc hM r0 r1 p2 hF h
    obtain rfl : c = g.2.2.1 := by omega
    obtain ⟨M, rfl⟩ : ∃ M', M = M' + 1 := ⟨M - 1, by omega⟩
    refine ⟨x, ?_, h, FXo.rfl⟩
    rw [fX4_tellPicture_19.eq_2]
    refine ob_v (gP x r1) (ob_v (rg_I hP.o rfl) ?_)
    rw [p2]
    exact ei_t (nI_le (Nat.le_refl _) (by omega)) rfl
  | succ k ih =>
    intro M c x L hc hM r0 r1 p2 hF h
    obtain ⟨M, rfl⟩ : ∃ M', M = M' + 1 := ⟨M - 1, by omega⟩
    obtain ⟨x1, e1, h1, F1⟩ := x_oadd (X := X) (B := B) (w0 := w0) hby h (nI c)
    have F1' : FXo o x x1 := F1
    obtain ⟨x2, e2, h2, F2⟩ := x_tp40 (X := X) (B := B) (w0 := w0) (S := S) (k19 := fX4_tellPicture_19 X M) (a1 := a1) So hP (c := c) (by omega) 64 FU 0 x1 (L ++ stL S c ++ [bt (nI c)]) rfl (by unfold FU; omega) (by rw [F1.2.1]; exact r0) (by rw [F1.2.1]; exact r1) (fun j hj => by rw [F1.2.2.1 _ (by omega)]; exact hF _ (by omega)) (by rw [mp_0, List.append_nil]; exact h1)
    rw [List.append_assoc, List.append_assoc, ← stL.eq_2] at h2
    obtain ⟨x3, e3, h3, F3⟩ := ih M (c + 1) x2 L (by omega) (by omega) (by rw [F2.2.1, F1.2.1]; exact r0) (by rw [F2.2.1, F1.2.1]; exact r1) (by rw [F2.1 _ _ (by omega), F1.1 _ _ (by omega)]; exact p2) (fun j hj => by rw [F2.2.2.1 _ (by omega), F1.2.2.1 _ (by omega)]; exact hF j hj) h2
    refine ⟨x3, ?_, h3, F1'.trans (F2.trans F3)⟩
    rw [fX4_tellPicture_19.eq_2]
    refine ob_v (gP x r1) (ob_v (rg_I hP.o rfl) ?_)
    rw [p2]
    refine ei_n (nI_ge (by omega) (by omega)) (ob_v (gOut r0) (ob_v (rg_O hby.o) (ob_v e1 ?_)))
    exact (show fX4_tellPicture_40 X (fX4_tellPicture_19 X M) FU (B + 105) a1 (nI c) (nI 0) _ = _ from e2).trans e3
theorem x_tp149 (So : o = 3 ∨ o = 5) (hP : isP P) (hg : gOk g) : ∀ (k M c : Nat) (x : rg_S) (L : List Int32), c + k = g.2.2.1 → k < M → x.2.1 105 0 = o → x.2.1 105 1 = P → xFr x P g → xO x o (L ++ coL g c) → ∃ x', fX4_tellPicture_149 X M (B + 105) (nI c) (rg_p lX B w0 x) = fX4_tellPicture_213 X (B + 105) (rg_p lX B w0 x') ∧ xO x' o (L ++ coL g g.2.2.1) ∧ FXo o x x' := by
  have h4 := hg.2.2.2.2.2.1
  have hby : isBy o := Or.inr So
  have hP' := hP
  unfold isP at hP'
  have gP : ∀ x2 : rg_S, x2.2.1 105 1 = P → gR (rg_p lX B w0 x2) (B + 105) 4 1 = some (B + P) := fun x2 e => by rw [← e]; exact rg_R rfl rfl
  intro k
  induction k with
  | zero =>
    intro M c x L hc hM r0 r1 pf h
    obtain rfl : c = g.2.2.1 := by omega
    obtain ⟨M, rfl⟩ : ∃ M', M = M' + 1 := ⟨M - 1, by omega⟩
    refine ⟨x, ?_, h, FXo.rfl⟩
    rw [fX4_tellPicture_149.eq_2]
    refine ob_v (gP x r1) (ob_v (rg_I hP.o rfl) ?_)
    rw [pf.2.2.1]
    exact ei_t (nI_le (Nat.le_refl _) (by omega)) rfl
  | succ k ih =>
    intro M c x L hc hM r0 r1 pf h
    obtain ⟨M, rfl⟩ : ∃ M', M = M' + 1 := ⟨M - 1, by omega⟩
    obtain ⟨x1, e1, h1, F1⟩ := x_oadd (X := X) (B := B) (w0 := w0) hby h (nI (c + 1))
    obtain ⟨x2, e2, h2, F2⟩ := x_oadd (X := X) (B := B) (w0 := w0) hby h1 (nI (16 * g.2.2.2.1 c + g.2.2.2.2 c))
    obtain ⟨x3, e3, h3, F3⟩ := x_oadd (X := X) (B := B) (w0 := w0) hby h2 (nI c)
    have F1' : FXo o x x1 := F1
    have F2' : FXo o x1 x2 := F2
    have F3' : FXo o x2 x3 := F3
    have F13 := F1'.trans (F2'.trans F3')
    have h3' : xO x3 o (L ++ coL g (c + 1)) := by
      rw [coL.eq_2]
      simp only [List.append_assoc, List.cons_append, List.nil_append] at h3 ⊢
      exact h3
    have pf3 : ∀ x2, FXo o x x2 → xFr x2 P g := by
      intro x2 F
      unfold xFr at *
      rw [F.1 P 0 (by omega), F.1 P 1 (by omega), F.1 P 2 (by omega), F.2.2.1 (P + 1) (by omega), F.2.2.1 (P + 2) (by omega)]
      exact pf
    obtain ⟨x4, e4, h4', F4⟩ := ih M (c + 1) x3 L (by omega) (by omega) (by rw [F13.2.1]; exact r0) (by rw [F13.2.1]; exact r1) (pf3 x3 F13) h3'
    refine ⟨x4, ?_, h4', F13.trans F4⟩
    have p1 := pf3 x1 F1'
    rw [fX4_tellPicture_149.eq_2]
    refine ob_v (gP x r1) (ob_v (rg_I hP.o rfl) ?_)
    rw [pf.2.2.1, nI_1]
    refine ei_n (nI_ge (by omega) (by omega)) (ob_v (gOut r0) (ob_v (rg_O hby.o) (ob_v e1 (ob_v (gOut (by rw [F1.2.1]; exact r0)) (ob_v (gP x1 (by rw [F1.2.1]; exact r1)) (ob_v (rg_C hP.o rfl) (ob_v (rg_A hP.a1 (by decide) _ (by omega) (by decide)) (ob_v (gP x1 (by rw [F1.2.1]; exact r1)) (ob_v (rg_C hP.o rfl) (ob_v (rg_A hP.a2 (by decide) _ (by omega) (by decide)) (ob_v (rg_O hby.o) ?_)))))))))))
    rw [p1.2.2.2.1 c (by omega), p1.2.2.2.2 c (by omega), show (16 : Int32) = nI 16 from rfl, pk_mul, nI_add]
    exact ob_v e2 (ob_v (gOut (by rw [F2.2.1, F1.2.1]; exact r0)) (ob_v (rg_O hby.o) (ob_v e3 e4)))
theorem x_tellPic (So : o = 3 ∨ o = 5) (hP : isP P) (hg : gOk g) (hiv : iv < 65536) (r0 : x.2.1 105 0 = o) (r1 : x.2.1 105 1 = P) (i2 : x.1 105 2 = nI iv) (pf : xFr x P g) (hS : ∀ j, j < 64 * g.2.2.1 → x.2.2.1 (P + 7) j = S j) (h : xO x o L) : ∃ x', fX4_tellPicture X (rg_p lX B w0 x) (B + 105) (nI kind) = some (rg_p lX B w0 x') ∧ xO x' o (L ++ hdF g S kind iv) ∧ FXo o x x' := by
  have h4 := hg.2.2.2.2.2.1
  have w2 := hg.2.1
  have v2 := hg.2.2.2.1
  have hby : isBy o := Or.inr So
  have hP' := hP
  unfold isP at hP'
  have gP : ∀ x2 : rg_S, x2.2.1 105 1 = P → gR (rg_p lX B w0 x2) (B + 105) 4 1 = some (B + P) := fun x2 e => by rw [← e]; exact rg_R rfl rfl
  have pfs : ∀ x2, FXo o x x2 → xFr x2 P g := by
    intro x2 F
    unfold xFr at *
    rw [F.1 P 0 (by omega), F.1 P 1 (by omega), F.1 P 2 (by omega), F.2.2.1 (P + 1) (by omega), F.2.2.1 (P + 2) (by omega)]
    exact pf
  obtain ⟨x1, e1, h1, F1⟩ := x_seg (X := X) (B := B) (w0 := w0) (code := 219) (n := 65 * g.2.2.1) So r0 h (by omega)
  obtain ⟨x2, e2, h2, F2⟩ := x_tp19 (X := X) (B := B) (w0 := w0) (S := S) (a1 := nI kind) So hP hg g.2.2.1 FU 0 x1 (L ++ sg 219 (65 * g.2.2.1)) (by omega) (by unfold FU; omega) (by rw [F1.2.1]; exact r0) (by rw [F1.2.1]; exact r1) (pfs x1 F1).2.2.1 (fun j hj => by rw [F1.2.2.1 _ (by omega)]; exact hS j hj) (by show xO x1 o (_ ++ []); rw [List.append_nil]; exact h1)
  have G2 := F1.trans F2
  obtain ⟨x3, e3, h3, F3⟩ := x_seg (X := X) (B := B) (w0 := w0) (code := kind) (n := 6 + 3 * g.2.2.1) So (by rw [G2.2.1]; exact r0) h2 (by omega)
  have G3 := G2.trans F3
  obtain ⟨x4, e4, h4', F4⟩ := x_oadd (X := X) (B := B) (w0 := w0) hby h3 (nI 8)
  have G4 : FXo o x x4 := G3.trans F4
  obtain ⟨x5, e5, h5, F5⟩ := x_two (X := X) (B := B) (w0 := w0) So h4' (n := g.2.1) (by omega)
  have G5 := G4.trans F5
  obtain ⟨x6, e6, h6, F6⟩ := x_two (X := X) (B := B) (w0 := w0) So h5 (n := g.1) (by omega)
  have G6 := G5.trans F6
  obtain ⟨x7, e7, h7, F7⟩ := x_oadd (X := X) (B := B) (w0 := w0) hby h6 (nI g.2.2.1)
  have G7 : FXo o x x7 := G6.trans F7
  obtain ⟨x8, e8, h8, F8⟩ := x_tp149 (X := X) (B := B) (w0 := w0) So hP hg g.2.2.1 FU 0 x7 _ (by omega) (by unfold FU; omega) (by rw [G7.2.1]; exact r0) (by rw [G7.2.1]; exact r1) (pfs x7 G7) (by show xO x7 o (_ ++ []); rw [List.append_nil]; exact h7)
  have G8 := G7.trans F8
  obtain ⟨x9, e9, h9, F9⟩ : ∃ x9, fX4_tellPicture_213 X (B + 105) (rg_p lX B w0 x8) = some (rg_p lX B w0 x9) ∧ xO x9 o (L ++ sg 219 (65 * g.2.2.1) ++ stL S g.2.2.1 ++ sg kind (6 + 3 * g.2.2.1) ++ [bt (nI 8)] ++ tw g.2.1 ++ tw g.1 ++ [bt (nI g.2.2.1)] ++ coL g g.2.2.1 ++ ivL iv) ∧ FXo o x8 x9 := by
    have i8 : x8.1 105 2 = nI iv := by rw [G8.1 105 2 (by omega)]; exact i2
    unfold fX4_tellPicture_213 ivL
    by_cases z : 0 < iv
    · rw [if_pos z]
      obtain ⟨xa, ea, ha, Fa⟩ := x_seg (X := X) (B := B) (w0 := w0) (code := 221) (n := 2) So (by rw [G8.2.1]; exact r0) h8 (by decide)
      obtain ⟨xb, eb', hb', Fb⟩ := x_two (X := X) (B := B) (w0 := w0) So ha (n := iv) (by omega)
      refine ⟨xb, ob_v (rg_I rfl rfl) ?_, ?_, Fa.trans Fb⟩
      · rw [i8]
        refine ei_n (nI_nle z (by omega)) (ob_v (rg_O rfl) (ob_v ea (ob_v (gOut (by rw [Fa.2.1, G8.2.1]; exact r0)) (ob_v (rg_I rfl rfl) (ob_v (rg_O hby.o) ?_)))))
        rw [Fa.1 105 2 (by omega), i8]
        exact ob_v eb' rfl
      · rw [List.append_assoc] at hb'
        exact hb'
    · rw [if_neg z, List.append_nil]
      refine ⟨x8, ob_v (rg_I rfl rfl) (ei_t ?_ rfl), h8, FXo.rfl⟩
      rw [i8, show iv = 0 by omega]
      decide
  refine ⟨x9, ?_, ?_, G8.trans F9⟩
  · unfold fX4_tellPicture
    refine ob_v (gP x r1) (ob_v (rg_I hP.o rfl) (ob_v (rg_O rfl) ?_))
    rw [pf.2.2.1, show (65 : Int32) * nI g.2.2.1 = nI (65 * g.2.2.1) from pk_mul 65 _]
    refine ob_v e1 ?_
    refine (show fX4_tellPicture_19 X FU (B + 105) (nI kind) (nI 0) _ = _ from e2).trans ?_
    unfold fX4_tellPicture_79
    refine ob_v (gP x2 (by rw [G2.2.1]; exact r1)) (ob_v (rg_I hP.o rfl) (ob_v (rg_O rfl) ?_))
    rw [(pfs x2 G2).2.2.1, show (6 : Int32) + 3 * nI g.2.2.1 = nI (6 + 3 * g.2.2.1) by rw [show (3 : Int32) = nI 3 from rfl, pk_mul]; exact nI_add 6 _]
    refine ob_v e3 (ob_v (gOut (by rw [G3.2.1]; exact r0)) (ob_v (rg_O hby.o) (ob_v e4 (ob_v (gOut (by rw [G4.2.1]; exact r0)) (ob_v (gP x4 (by rw [G4.2.1]; exact r1)) (ob_v (rg_I hP.o rfl) (ob_v (rg_O hby.o) ?_)))))))
    rw [(pfs x4 G4).2.1]
    refine ob_v e5 (ob_v (gOut (by rw [G5.2.1]; exact r0)) (ob_v (gP x5 (by rw [G5.2.1]; exact r1)) (ob_v (rg_I hP.o rfl) (ob_v (rg_O hby.o) ?_))))
    rw [(pfs x5 G5).1]
    refine ob_v e6 (ob_v (gOut (by rw [G6.2.1]; exact r0)) (ob_v (gP x6 (by rw [G6.2.1]; exact r1)) (ob_v (rg_I hP.o rfl) (ob_v (rg_O hby.o) ?_))))
    rw [(pfs x6 G6).2.2.1]
    refine ob_v e7 ?_
    exact (show fX4_tellPicture_149 X FU (B + 105) (nI 0) _ = _ from e8).trans e9
  · have : L ++ sg 219 (65 * g.2.2.1) ++ stL S g.2.2.1 ++ sg kind (6 + 3 * g.2.2.1) ++ [bt (nI 8)] ++ tw g.2.1 ++ tw g.1 ++ [bt (nI g.2.2.1)] ++ coL g g.2.2.1 ++ ivL iv = L ++ hdF g S kind iv := by
      unfold hdF
      simp only [List.append_assoc]
    rw [← this]
    exact h9
end
