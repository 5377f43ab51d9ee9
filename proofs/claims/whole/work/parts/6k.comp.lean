/-! a component shown, on both sides -/
theorem geoS : ∀ (W : Fin 65) (s : Fin 4) (hm h : Fin 3), 1 ≤ W.val → 1 ≤ h.val → h.val ≤ hm.val → gUp (W.val * 2 ^ s.val) 8 ≤ 32 → 2 ^ s.val * (gUp W.val (8 * hm.val) * h.val) ≤ 32 ∧ 1 ≤ gUp (gUp (W.val * h.val) hm.val * 2 ^ s.val) 8 ∧ gUp (gUp (W.val * h.val) hm.val * 2 ^ s.val) 8 ≤ 2 ^ s.val * (gUp W.val (8 * hm.val) * h.val) ∧ (h.val < hm.val → 2 * gUp (gUp (W.val * h.val) hm.val * 2 ^ s.val) 8 ≤ 32 ∧ gUp (W.val * 2 ^ s.val) 8 ≤ 2 * gUp (gUp (W.val * h.val) hm.val * 2 ^ s.val) 8) ∧ (h.val = hm.val → gUp (gUp (W.val * h.val) hm.val * 2 ^ s.val) 8 = gUp (W.val * 2 ^ s.val) 8) ∧ 1 ≤ gUp (W.val * 2 ^ s.val) 8 := by decide +kernel
/-- the samples of a component's blocks -/
def bkI (g : gG) (F S : Nat → Int32) (n c : Nat) : Nat → Nat → Int32 := fun X Y => bk2 n (bkG F S c (gBs g c + (Y / n) * gAc g c + X / n)) (X % n) (Y % n)
def shW (g : gG) (n c : Nat) : Nat := gUp (gUp (g.1 * g.2.2.2.1 c) (gH g) * n) 8
def shH (g : gG) (n c : Nat) : Nat := gUp (gUp (g.2.1 * g.2.2.2.2 c) (gV_ g) * n) 8
def sh1W (g : gG) (n c : Nat) : Nat := if g.2.2.2.1 c < gH g then 2 * shW g n c else shW g n c
def sh1I (g : gG) (F S : Nat → Int32) (t : Int32) (n c : Nat) : Nat → Nat → Int32 := if g.2.2.2.1 c < gH g then gwA t (shW g n c) (bkI g F S n c) else bkI g F S n c
def sh2H (g : gG) (n c : Nat) : Nat := if g.2.2.2.2 c < gV_ g then 2 * shH g n c else shH g n c
def sh2I (g : gG) (F S : Nat → Int32) (t : Int32) (n c : Nat) : Nat → Nat → Int32 := if g.2.2.2.2 c < gV_ g then gwD t (shH g n c) (sh1I g F S t n c) else sh1I g F S t n c
theorem gUp_eq8 {a d : Nat} : gUp a d = (a + d - 1) / d := rfl
/-- the sizes -/
theorem sh_sz {g : gG} {n s c : Nat} (hg : gOk g) (hn : n = 2 ^ s) (hs : s < 4) (hc : c < g.2.2.1) (hw : gUp (g.1 * n) 8 ≤ 32) (hh : gUp (g.2.1 * n) 8 ≤ 32) : (n * gAc g c ≤ 32 ∧ 1 ≤ shW g n c ∧ shW g n c ≤ n * gAc g c ∧ (g.2.2.2.1 c < gH g → 2 * shW g n c ≤ 32) ∧ sh1W g n c ≤ 32 ∧ 1 ≤ gUp (g.1 * n) 8 ∧ gUp (g.1 * n) 8 ≤ sh1W g n c) ∧ (n * gDn g c ≤ 32 ∧ 1 ≤ shH g n c ∧ shH g n c ≤ n * gDn g c ∧ (g.2.2.2.2 c < gV_ g → 2 * shH g n c ≤ 32) ∧ sh2H g n c ≤ 32 ∧ 1 ≤ gUp (g.2.1 * n) 8 ∧ gUp (g.2.1 * n) 8 ≤ sh2H g n c) := by
  have g1 := hg.1
  have g2 := hg.2.1
  have g3 := hg.2.2.1
  have g4 := hg.2.2.2.1
  have hgh := hg.h
  have hgv := hg.v
  have fc := hg.2.2.2.2.2.2 c hc
  have mh : g.2.2.2.1 c ≤ gH g := gMx_ge hc
  have mv : g.2.2.2.2 c ≤ gV_ g := gMx_ge hc
  subst hn
  have a := geoS ⟨g.1, by omega⟩ ⟨s, hs⟩ ⟨gH g, by omega⟩ ⟨g.2.2.2.1 c, by omega⟩ g1 fc.1.1 mh hw
  have d := geoS ⟨g.2.1, by omega⟩ ⟨s, hs⟩ ⟨gV_ g, by omega⟩ ⟨g.2.2.2.2 c, by omega⟩ g3 fc.2.1 mv hh
  dsimp only at a d
  obtain ⟨a1, a2, a3, a4, a5, a6⟩ := a
  obtain ⟨d1, d2, d3, d4, d5, d6⟩ := d
  refine ⟨⟨a1, a2, a3, fun e => (a4 e).1, ?_, a6, ?_⟩, ⟨d1, d2, d3, fun e => (d4 e).1, ?_, d6, ?_⟩⟩
  · unfold sh1W
    split
    · rename_i e; exact (a4 e).1
    · exact Nat.le_trans a3 a1
  · unfold sh1W
    split
    · rename_i e; exact (a4 e).2
    · rename_i e; exact Nat.le_of_eq (a5 (by omega)).symm
  · unfold sh2H
    split
    · rename_i e; exact (d4 e).1
    · exact Nat.le_trans d3 d1
  · unfold sh2H
    split
    · rename_i e; exact (d4 e).2
    · rename_i e; exact Nat.le_of_eq (d5 (by omega)).symm
theorem aI.cong {y : rg_S} {w h : Nat} {I I' : Nat → Nat → Int32} (hA : aI y w h I) (e : ∀ i j, i < w → j < h → I i j = I' i j) : aI y w h I' := by
  obtain ⟨p1, p2, p3, p4, p5, p6, p7⟩ := hA
  exact ⟨p1, p2, p3, p4, p5, p6, fun i j hi hj => (p7 i j hi hj).trans (e i j hi hj)⟩
theorem FS.pic {x x' : rg_S} {Q : Nat} {g : gG} (h : FS x x') (hQ : isP Q) (hx : xPic x Q g) : xPic x' Q g := by
  have hQ' : Q = 7 ∨ Q = 15 := hQ
  exact hx.c (fun k _ => h.1 Q k (by omega) (by omega)) (fun j j1 j2 => h.2.2 _ (by omega) (by omega))
theorem FA.pic {y y' : rg_S} {g : gG} (h : FA y y') (hy : mPic y g) : mPic y' g := by
  unfold mPic mFr at *
  rw [h.1 0 18 (by omega), h.1 0 19 (by omega), h.1 0 20 (by omega), h.1 0 26 (by omega), h.1 0 27 (by omega), h.1 0 28 (by omega), h.1 0 29 (by omega), h.2.2 58 (by omega) (by omega), h.2.2 59 (by omega) (by omega), h.2.2 60 (by omega) (by omega), h.2.2 61 (by omega) (by omega), h.2.2 62 (by omega) (by omega)]
  exact hy
/-- blocks of n by n cover the component -/
theorem blk {n ac X Y i j : Nat} (hn : 0 < n) (hX : X / n < ac) (hi : i < ac) : (Y / n) * ac + X / n < j * ac + (i + 1) ↔ (Y / n) * ac + X / n < j * ac + i ∨ (i * n ≤ X ∧ X < i * n + n ∧ j * n ≤ Y ∧ Y < j * n + n) := by
  have ex : (i * n ≤ X ∧ X < i * n + n) ↔ X / n = i := by
    rw [Nat.div_eq_iff hn]
    constructor
    · rintro ⟨h1, h2⟩; omega
    · rintro ⟨h1, h2⟩; omega
  have ey : (j * n ≤ Y ∧ Y < j * n + n) ↔ Y / n = j := by
    rw [Nat.div_eq_iff hn]
    constructor
    · rintro ⟨h1, h2⟩; omega
    · rintro ⟨h1, h2⟩; omega
  constructor
  · intro h
    by_cases e : (Y / n) * ac + X / n = j * ac + i
    · right
      have e1 := (pl_iff (W := ac) (X := X / n) (Y := Y / n) (t := ac * (Y / n) + X / n) hX).mp rfl
      have e2 := (pl_iff (W := ac) (X := i) (Y := j) (t := ac * j + i) hi).mp rfl
      rw [Nat.mul_comm, Nat.mul_comm j] at e
      rw [e] at e1
      have a1 := e1.2.symm.trans e2.2
      have a2 := e1.1.symm.trans e2.1
      have b1 := ex.mpr a1
      have b2 := ey.mpr a2
      exact ⟨b1.1, b1.2, b2.1, b2.2⟩
    · left; omega
  · rintro (h | ⟨h1, h2, h3, h4⟩)
    · omega
    · rw [ex.mp ⟨h1, h2⟩, ey.mp ⟨h3, h4⟩]; omega
theorem bkI_at {g : gG} {F S : Nat → Int32} {n c i j X Y : Nat} (hn : 0 < n) (h1 : i * n ≤ X) (h2 : X < i * n + n) (h3 : j * n ≤ Y) (h4 : Y < j * n + n) : bkI g F S n c X Y = bk2 n (bkG F S c (gBs g c + j * gAc g c + i)) (X - i * n) (Y - j * n) := by
  have ex : X / n = i := (Nat.div_eq_iff hn).mpr ⟨by omega, by omega⟩
  have ey : Y / n = j := (Nat.div_eq_iff hn).mpr ⟨by omega, by omega⟩
  unfold bkI
  rw [ex, ey]
  have mx : X % n = X - i * n := by
    have := Nat.div_add_mod X n
    rw [ex, Nat.mul_comm] at this
    omega
  have my : Y % n = Y - j * n := by
    have := Nat.div_add_mod Y n
    rw [ey, Nat.mul_comm] at this
    omega
  rw [mx, my]
section
variable {X : px_X} {b B : Nat} {w0 w1 : px_W} {x y : rg_S} {P Q n s c : Nat} {g : gG} {F S : Nat → Int32} {t : Int32}
theorem x_backE {i j : Nat} (hst : px_st X) (hQ : isP Q) (hg : gOk g) (hb : gBs g g.2.2.1 ≤ 192) (hx : xPic x Q g) (hn : n = 2 ^ s) (hs : s < 4) (ht : ∀ u t, u < 2 ^ s → t < 2 ^ s → x.2.2.1 37 (64 * s + 8 * u + t) = wvN (2 ^ s) u t) (hc : c < g.2.2.1) (hi : i < gAc g c) (hj : j < gDn g c) (h3 : (i + 1) * n ≤ 32) (h4 : (j + 1) * n ≤ 32) :
    ∃ x', fX9_back X (rg_p lX B w0 x) (B + 36) (B + Q) (nI c) (nI i) (nI j) (nI n) (B + 32) = some (rg_p lX B w0 x') ∧ x'.1 = x.1 ∧ x'.2.1 = x.2.1 ∧ (∀ o, o ≠ 33 → x'.2.2.1 o = x.2.2.1 o) ∧ x'.2.2.1 33 = fB 32 (i * n) (j * n) n n 0 (bk2 n (bkG (x.2.2.1 (Q + 6)) (x.2.2.1 (Q + 7)) c (gBs g c + j * gAc g c + i))) (x.2.2.1 33) := ⟨_, x_back hst hQ hg hb hx hn hs ht hc hi hj h3 h4, rfl, rfl, fun o ho => wA_n _ _ ho, wA_s _ _ _⟩
/-- the class' blocks, q of them done -/
def xB (x x' : rg_S) (Q : Nat) (g : gG) (n c q : Nat) : Prop := FS x x' ∧ (∀ k, x'.1 32 k = x.1 32 k) ∧ ∀ Xx Yy, Xx < gAc g c * n → Yy < gDn g c * n → (Yy / n) * gAc g c + Xx / n < q → x'.2.2.1 33 (32 * Yy + Xx) = bkI g (x.2.2.1 (Q + 6)) (x.2.2.1 (Q + 7)) n c Xx Yy
theorem x_sc_row (hst : px_st X) (hQ : isP Q) (hR : x.2.1 0 4 = Q) (hg : gOk g) (hb : gBs g g.2.2.1 ≤ 192) (hx : xPic x Q g) (hn : n = 2 ^ s) (hs : s < 4) (ht : ∀ u t, u < 2 ^ s → t < 2 ^ s → x.2.2.1 37 (64 * s + 8 * u + t) = wvN (2 ^ s) u t) (hc : c < g.2.2.1) (ha : n * gAc g c ≤ 32) (hd : n * gDn g c ≤ 32) {M j : Nat} (hj : j < gDn g c) {x1 : rg_S} (h1 : xB x x1 Q g n c (j * gAc g c)) :
    ∃ x2, fX11_showComponent_20 X (fX11_showComponent_3 X M) FU (B + 0) (nI c) (nI n) t (nI j) 0 (rg_p lX B w0 x1) = fX11_showComponent_3 X M (B + 0) (nI c) (nI n) t (nI (j + 1)) (rg_p lX B w0 x2) ∧ xB x x2 Q g n c ((j + 1) * gAc g c) := by
  have hQ' : Q = 7 ∨ Q = 15 := hQ
  have hc4 := hg.2.2.2.2.2.1
  have hac := hg.ac hc
  have n1 : 0 < n := by rw [hn]; exact Nat.two_pow_pos s
  have gq : ∀ x1, FS x x1 → gR (rg_p lX B w0 x1) (B + 0) 11 4 = some (B + Q) := fun x1 h => by rw [← hR, ← h.2.1]; exact rg_R rfl rfl
  obtain ⟨q, e, hq⟩ := rg_lpE (F := fun u (p : Int32 × rg_S) => fX11_showComponent_20 X (fX11_showComponent_3 X M) u (B + 0) (nI c) (nI n) t (nI j) p.1 (rg_p lX B w0 p.2)) (E := fun p => fX11_showComponent_3 X M (B + 0) (nI c) (nI n) t (nI (j + 1)) (rg_p lX B w0 p.2)) (n := gAc g c) (fun i p => p.1 = nI i ∧ xB x p.2 Q g n c (j * gAc g c + i)) (by
    rintro m i ⟨i', x1⟩ hi ⟨e1, hF, h32, hB⟩
    dsimp only at e1 hF h32 hB ⊢
    subst e1
    have px := hF.pic hQ hx
    have hmul : (i + 1) * n ≤ 32 := Nat.le_trans (by rw [Nat.mul_comm]; exact Nat.mul_le_mul (Nat.le_refl n) hi) ha
    have hmul2 : (j + 1) * n ≤ 32 := Nat.le_trans (by rw [Nat.mul_comm]; exact Nat.mul_le_mul (Nat.le_refl n) hj) hd
    obtain ⟨x', eb, i1, i2, i3, i33⟩ := x_backE (X := X) (B := B) (w0 := w0) (x := x1) hst hQ hg hb px hn hs (by rw [hF.2.2 37 (by decide) (by decide)]; exact ht) hc hi hj hmul hmul2
    refine ⟨(nI (i + 1), x'), ?_, rfl, ?_⟩
    · rw [fX11_showComponent_20.eq_2]
      refine ob_v (gq x1 hF) (ob_v (rg_C hQ.o rfl) (ob_v (rg_A hQ.a3 (by decide) c (by omega) (by decide)) ?_))
      rw [(px.2.2.2.2 c hc).1]
      refine ei_n (nI_ge hi (by omega)) (ob_v (rg_C rfl rfl) (ob_v (gq x1 hF) (ob_v (rg_C rfl rfl) (ob_v (rg_O rfl) (ob_v eb ?_)))))
      rw [nI_1]
    · refine ⟨hF.trans ⟨fun o k _ _ => by rw [i1], i2, fun o o1 o2 => i3 o o1⟩, fun k => (by rw [← h32 k, i1]), ?_⟩
      intro Xx Yy hX hY hlt
      dsimp only
      have hXd : Xx / n < gAc g c := Nat.div_lt_of_lt_mul (by rw [Nat.mul_comm]; exact hX)
      have hX32 : Xx < 32 := Nat.lt_of_lt_of_le hX (by rw [Nat.mul_comm]; exact ha)
      rw [i33, fB_at hX32]
      have f6 : x1.2.2.1 (Q + 6) = x.2.2.1 (Q + 6) := hF.2.2 _ (by omega) (by omega)
      have f7 : x1.2.2.1 (Q + 7) = x.2.2.1 (Q + 7) := hF.2.2 _ (by omega) (by omega)
      by_cases hin : i * n ≤ Xx ∧ Xx < i * n + n ∧ j * n ≤ Yy ∧ Yy < j * n + n
      · rw [if_pos hin, f6, f7, bkI_at n1 hin.1 hin.2.1 hin.2.2.1 hin.2.2.2]
      · rw [if_neg hin]
        rcases (blk n1 hXd hi).mp hlt with h | h
        · exact hB Xx Yy hX hY h
        · exact absurd h hin) (by
    rintro m ⟨i', x1⟩ ⟨e1, hF, h32, hB⟩
    dsimp only at e1 hF h32 hB ⊢
    subst e1
    have px := hF.pic hQ hx
    rw [fX11_showComponent_20.eq_2]
    refine ob_v (gq x1 hF) (ob_v (rg_C hQ.o rfl) (ob_v (rg_A hQ.a3 (by decide) c (by omega) (by decide)) ?_))
    rw [(px.2.2.2.2 c hc).1]
    refine ei_t (nI_le (Nat.le_refl _) (by omega)) ?_
    rw [fX11_showComponent_61, nI_1]) (gAc g c) FU 0 (0, x1) (by omega) (by unfold FU; omega) ⟨rfl, h1⟩
  refine ⟨q.2, e, ?_⟩
  rw [Nat.add_mul, Nat.one_mul]
  exact hq.2
theorem x_sc_blocks (hst : px_st X) (hQ : isP Q) (hR : x.2.1 0 4 = Q) (hg : gOk g) (hb : gBs g g.2.2.1 ≤ 192) (hx : xPic x Q g) (hn : n = 2 ^ s) (hs : s < 4) (ht : ∀ u t, u < 2 ^ s → t < 2 ^ s → x.2.2.1 37 (64 * s + 8 * u + t) = wvN (2 ^ s) u t) (hc : c < g.2.2.1) (ha : n * gAc g c ≤ 32) (hd : n * gDn g c ≤ 32) :
    ∃ x2, fX11_showComponent X (rg_p lX B w0 x) (B + 0) (nI c) (nI n) t = fX11_showComponent_67 X (B + 0) (nI c) (nI n) t (rg_p lX B w0 x2) ∧ xB x x2 Q g n c (gDn g c * gAc g c) := by
  have hc4 := hg.2.2.2.2.2.1
  have hdn := hg.dn hc
  have gq : ∀ x1, FS x x1 → gR (rg_p lX B w0 x1) (B + 0) 11 4 = some (B + Q) := fun x1 h => by rw [← hR, ← h.2.1]; exact rg_R rfl rfl
  unfold fX11_showComponent
  obtain ⟨q, e, hq⟩ := rg_lpE (F := fun u (p : Int32 × rg_S) => fX11_showComponent_3 X u (B + 0) (nI c) (nI n) t p.1 (rg_p lX B w0 p.2)) (E := fun p => fX11_showComponent_67 X (B + 0) (nI c) (nI n) t (rg_p lX B w0 p.2)) (n := gDn g c) (fun j p => p.1 = nI j ∧ xB x p.2 Q g n c (j * gAc g c)) (by
    rintro m j ⟨j', x1⟩ hj ⟨e1, hB⟩
    dsimp only at e1 hB ⊢
    subst e1
    have hF := hB.1
    have px := hF.pic hQ hx
    obtain ⟨x2, e2, h2⟩ := x_sc_row (X := X) (B := B) (w0 := w0) (t := t) (M := m) hst hQ hR hg hb hx hn hs ht hc ha hd hj hB
    refine ⟨(nI (j + 1), x2), ?_, rfl, h2⟩
    rw [fX11_showComponent_3.eq_2]
    refine ob_v (gq x1 hF) (ob_v (rg_C hQ.o rfl) (ob_v (rg_A hQ.a4 (by decide) c (by omega) (by decide)) ?_))
    rw [(px.2.2.2.2 c hc).2.1]
    exact ei_n (nI_ge hj (by omega)) e2) (by
    rintro m ⟨j', x1⟩ ⟨e1, hB⟩
    dsimp only at e1 hB ⊢
    subst e1
    have hF := hB.1
    have px := hF.pic hQ hx
    rw [fX11_showComponent_3.eq_2]
    refine ob_v (gq x1 hF) (ob_v (rg_C hQ.o rfl) (ob_v (rg_A hQ.a4 (by decide) c (by omega) (by decide)) ?_))
    rw [(px.2.2.2.2 c hc).2.1]
    exact ei_t (nI_le (Nat.le_refl _) (by omega)) rfl) (gDn g c) FU 0 (0, x) (by omega) (by unfold FU; omega) ⟨rfl, FS.rfl, fun _ => rfl, fun Xx Yy _ _ h => absurd h (by rw [Nat.zero_mul]; exact Nat.not_lt_zero _)⟩
  exact ⟨q.2, e, hq.2⟩
end
