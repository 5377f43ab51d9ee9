/-! a whole scan told by the class: tellScan -/
def kC (c0 m : Nat) : kS := (1, fun _ _ => 0, fun _ _ => 0, [], fun t => c0 ≤ t % 4 ∧ t % 4 < c0 + m)
def kW (E : List ev) (c0 m : Nat) : kS := (0, cwF E, clF E, E, fun t => c0 ≤ t % 4 ∧ t % 4 < c0 + m)
theorem kC_0 {c0 m : Nat} : ¬ (kC c0 m).md = 0 := fun e => absurd (show (1 : Nat) = 0 from e) (by decide)
theorem kW_1 {E : List ev} {c0 m : Nat} : ¬ (kW E c0 m).md = 1 := fun e => absurd (show (0 : Nat) = 1 from e) (by decide)
section
variable {X : px_X} {b B : Nat} {w0 w1 : px_W} {x x' x0 y : rg_S} {o n c0 m P iv N : Nat} {p : scP} {L : List Int32} {g : gG} {Z : Nat → Int}
theorem xPic.fs (So : o = 3 ∨ o = 5) (hP : isP P) (h : xPic x P g) (F : FXs o x x') : xPic x' P g := by
  unfold isP at hP
  unfold xPic xFr at *
  rw [F.1 P 0 (by omega) (by omega), F.1 P 1 (by omega) (by omega), F.1 P 2 (by omega) (by omega), F.1 P 3 (by omega) (by omega), F.1 P 4 (by omega) (by omega), F.1 P 5 (by omega) (by omega), F.2.2 (P + 1) (by omega) (by omega), F.2.2 (P + 2) (by omega) (by omega), F.2.2 (P + 3) (by omega) (by omega), F.2.2 (P + 4) (by omega) (by omega), F.2.2 (P + 5) (by omega) (by omega)]
  exact h
/-- what tellScan finds -/
def xSv (x : rg_S) (o P iv : Nat) (g : gG) (Z : Nat → Int) : Prop := x.2.1 105 0 = o ∧ x.2.1 105 1 = P ∧ x.1 105 2 = nI iv ∧ x.2.1 195 0 = o ∧ x.2.1 195 1 = P ∧ (x.1 195 7 = 0 ∧ x.1 195 8 = 0 ∧ x.1 195 10 = 0) ∧ xPic x P g ∧ ∀ i, i < 64 * gBs g g.2.2.1 → x.2.2.1 (P + 6) i = iI (Z i)
def bdX (x : rg_S) (p : scP) : Prop := x.1 106 1 = nI p.1 ∧ x.1 106 2 = nI p.2.1 ∧ x.1 106 3 = nI p.2.2.1 ∧ x.1 106 4 = nI p.2.2.2
def pOk (p : scP) : Prop := p.1 ≤ p.2.1 ∧ p.2.1 ≤ 63 ∧ p.2.2.1 ≤ 2 ∧ p.2.2.2 ≤ 2 ∧ (p.1 = 0 → 0 < p.2.1 → p.2.2.1 = 0)
theorem x_tellScan (So : o = 3 ∨ o = 5) (hP : isP P) (hg : gOk g) (hb : gBs g g.2.2.1 ≤ 192) (hs : scOk g c0 m) (h10 : scO g c0 m g.2.2.1 ≤ 10) (hZ : ∀ i, i < 64 * gBs g g.2.2.1 → -1024 ≤ Z i ∧ Z i ≤ 1023) (hp : pOk p) (hiv : iv < 65536) (V : xSv x o P iv g Z) (D : bdX x p) (h : xO x o L) : ∃ x', fX4_tellScan X (rg_p lX B w0 x) (B + 105) (nI c0) (nI m) = some (rg_p lX B w0 x') ∧ xO x' o (L ++ scL (aAll g c0 m p Z iv).1 p c0 m) ∧ FXs o x x' ∧ x'.1 195 7 = 0 ∧ x'.1 195 8 = 0 ∧ x'.1 195 10 = 0 := by
  obtain ⟨r0, r1, i2, w0', w1', ⟨q7, q8, q10⟩, px, pz⟩ := V
  obtain ⟨d1, d2, d3, d4⟩ := D
  obtain ⟨p1, p2, p3, p4, pf⟩ := hp
  have hcm := hs.cm hg
  have h4 := hg.2.2.2.2.2.1
  have hP' := hP
  unfold isP at hP'
  have lE := ln_all (iv := iv) p2 hg hs hZ pf
  have gE := aG_all (iv := iv) p2 p1 hg hs hZ pf
  have zE := all_0 (iv := iv) p2 p1 hg hs hZ pf
  -- members
  generalize hxa : rg_wI x 106 0 (nI m) = xa
  have Fa : FXs o x xa := by
    rw [← hxa]
    exact ⟨fun p k hp _ => wI_n _ _ (by omega), rfl, fun _ _ _ => rfl⟩
  obtain ⟨xb, eb', hb'⟩ := x_m10 (X := X) (B := B) (w0 := w0) (c0 := c0) (m := m) (x0 := xa) (by omega) m FU 0 xa (by omega) (by unfold FU; omega) ⟨fun _ _ => rfl, rfl, fun _ _ _ => rfl, fun j hj => absurd hj (Nat.not_lt_zero _), fun j s hj => absurd hj (Nat.not_lt_zero _)⟩
  obtain ⟨bi, br, ba, b107, bz⟩ := hb'
  have Fb : FXs o x xb := Fa.trans ⟨fun p k _ _ => bi p k, br, fun p hp _ => ba p (by omega) (fun t _ => by omega)⟩
  -- layout
  obtain ⟨xc, ec, uc, Fc⟩ := x_layOut (X := X) (B := B) (w0 := w0) (x := xb) hP hg hs h10 ⟨px.fs So hP Fb, by rw [bi, ← hxa, wI_s], b107⟩
  have Fbc : FXs o x xc := Fb.trans Fc.s
  have c195 : ∀ k, xc.1 195 k = x.1 195 k := fun k => by rw [Fc.1 _ _ (by omega), bi, ← hxa, wI_n _ _ (by omega)]
  have cO : xO xc o L := by
    unfold xO
    rw [Fc.1 _ _ (by omega), Fc.1 _ _ (by omega), Fc.2.2 _ (by omega), bi, bi, ba _ (by omega) (fun t _ => by omega), ← hxa, wI_n _ _ (by omega), wI_n _ _ (by omega)]
    exact h
  -- static facts about any later state
  have pXs : ∀ x2, FXs o x x2 → pX x2 P p.1 p.2.1 p.2.2.1 p.2.2.2 (64 * gBs g g.2.2.1) Z := by
    intro x2 F
    refine ⟨hP, by rw [F.2.1]; exact w1', by rw [F.1 106 1 (by omega) (by omega)]; exact d1, by rw [F.1 106 2 (by omega) (by omega)]; exact d2, by rw [F.1 106 3 (by omega) (by omega)]; exact d3, by rw [F.1 106 4 (by omega) (by omega)]; exact d4, p1, p2, p3, p4, by omega, fun i hi => ⟨?_, hZ i hi⟩⟩
    rw [F.2.2 _ (by omega) (by omega)]
    exact pz i hi
  have uXs : ∀ x2, FXs o x x2 → (∀ k, k = 0 ∨ k = 11 ∨ k = 12 ∨ k = 13 → x2.1 106 k = xc.1 106 k) → (∀ q, q = 107 ∨ q = 111 ∨ q = 112 ∨ q = 113 → x2.2.2.1 q = xc.2.2.1 q) → uX x2 P g c0 m := by
    intro x2 F e1 e2
    obtain ⟨u1, u2, u3, u4, u5, u6, u7⟩ := uc
    refine ⟨px.fs So hP F, by rw [e1 0 (by omega)]; exact u2, by rw [e1 11 (by omega)]; exact u3, by rw [e1 12 (by omega)]; exact u4, by rw [e1 13 (by omega)]; exact u5, by rw [e2 107 (by omega)]; exact u6, ?_⟩
    rw [e2 111 (by omega), e2 112 (by omega), e2 113 (by omega)]
    exact u7
  -- counting
  have hUU : ∀ c, c0 ≤ c → c < c0 + m → (c0 ≤ c % 4 ∧ c % 4 < c0 + m) ∧ (c0 ≤ (4 + c) % 4 ∧ (4 + c) % 4 < c0 + m) := by
    intro c k1 k2
    rw [show c % 4 = c from Nat.mod_eq_of_lt (by omega), show (4 + c) % 4 = c by omega]
    omega
  have Fd : FXs o x (xBeg xc 1) := Fbc.trans xBeg_s
  have beg : ∀ x2 md, ∀ k, k = 0 ∨ k = 11 ∨ k = 12 ∨ k = 13 → (xBeg x2 md).1 106 k = x2.1 106 k := by
    intro x2 md k hk
    unfold xBeg
    rw [wA_1, wI_n _ _ (by omega), wI_n _ _ (by omega), wI_n _ _ (by omega)]
  have begA : ∀ x2 md, ∀ q, q ≠ 198 → (xBeg x2 md).2.2.1 q = x2.2.2.1 q := by
    intro x2 md q hq
    unfold xBeg
    rw [wA_n _ _ hq]
    rfl
  have beg4 : ∀ x2 md, (xBeg x2 md).1 195 4 = nI md := by
    intro x2 md
    unfold xBeg
    rw [wA_1, wI_n _ _ (by omega), wI_n _ _ (by omega), wI_s]
  obtain ⟨xd, ed, kd⟩ := x_write (X := X) (B := B) (w0 := w0) (x := xc) (K := kC c0 m) (o := o) (L0 := L) (P := P) (p := p) (g := g) (Z := Z) (c0 := c0) (m := m) (iv := iv) ⟨Or.inr rfl, So, beg4 xc 1, by show xc.2.1 195 0 = o; rw [Fc.2.1, br, ← hxa]; exact w0', fun e => absurd e kC_0⟩ (pXs _ Fd) (uXs _ Fd (beg xc 1) (fun q hq => begA xc 1 q (by omega))) hg hs h10 pf hUU hZ hiv cO (by rw [c195]; exact q7) (by rw [c195]; exact q8) (by rw [c195]; exact q10) (fun _ t s hU ht hs' => by
      rw [Fc.2.2 _ (by omega)]
      have hU : c0 ≤ t % 4 ∧ t % 4 < c0 + m := hU
      rcases (show t < 4 ∨ 4 ≤ t by omega) with l | l
      · rw [Nat.mod_eq_of_lt l] at hU
        have := (bz (t - c0) s (by omega) hs').1
        rw [show c0 + (t - c0) = t by omega] at this
        exact this
      · rw [show t % 4 = t - 4 by omega] at hU
        have := (bz (t - 4 - c0) s (by omega) hs').2
        rw [show 4 + c0 + (t - 4 - c0) = t by omega] at this
        exact this) (fun e => absurd e kC_0)
  obtain ⟨kF, kE, kCt, k7, k8, k10, _⟩ := kd
  rw [zE.1] at k7
  rw [zE.2.1] at k8
  rw [zE.2.2] at k10
  have dO : xO xd o L := by
    have := kE.1
    rw [show (kC c0 m).md = 1 from rfl, emit_1] at this
    exact this
  have Fde : FXs o x xd := Fd.trans (kF.s So)
  -- tables
  obtain ⟨xe1, xe, ee, heO, hst, Fe1, Fe2⟩ := x_tables (X := X) (B := B) (w0 := w0) (x := xd) (E := (aAll g c0 m p Z iv).1) (p := p) (c0 := c0) (m := m) So (by omega) lE ⟨by omega, p2, p3⟩ (by rw [Fde.1 106 1 (by omega) (by omega)]; exact d1) (by rw [Fde.1 106 2 (by omega) (by omega)]; exact d2) (by rw [Fde.1 106 3 (by omega) (by omega)]; exact d3) (by rw [Fde.2.1]; exact r0) dO (fun j s hj hs' => ⟨kCt rfl (c0 + j) s (hUU (c0 + j) (by omega) (by omega)).1 (by omega) hs', by
      have := kCt rfl (4 + c0 + j) s (by have := (hUU (c0 + j) (by omega) (by omega)).2; rw [← Nat.add_assoc] at this; exact this) (by omega) hs'
      exact this⟩)
  have Fe : FXs o x xe := Fde.trans (Fe1.s.trans (Fe2.s So))
  -- the scan's head
  obtain ⟨xf, ef, hfO, Ff⟩ := x_seg (X := X) (B := B) (w0 := w0) (code := 218) (n := 4 + 2 * m) So (by rw [Fe.2.1]; exact r0) heO (by omega)
  have hby : isBy o := Or.inr So
  obtain ⟨xg, eg, hgO, Fg⟩ := x_oadd (X := X) (B := B) (w0 := w0) hby hfO (nI m)
  have Fg' : FXo o xf xg := Fg
  obtain ⟨xh, eh, hhO, Fh⟩ := x_c108 (X := X) (B := B) (w0 := w0) (c0 := c0) (m := m) So (by omega) m FU 0 xg _ (by omega) (by unfold FU; omega) (by rw [Fg.2.1, Ff.2.1, Fe.2.1]; exact r0) (by show xO xg o (_ ++ []); rw [List.append_nil]; exact hgO)
  obtain ⟨xi, ei, hiO, Fi⟩ := x_oadd (X := X) (B := B) (w0 := w0) hby hhO (nI p.1)
  obtain ⟨xj, ej, hjO, Fj⟩ := x_oadd (X := X) (B := B) (w0 := w0) hby hiO (nI p.2.1)
  obtain ⟨xk, ek, hkO, Fk⟩ := x_oadd (X := X) (B := B) (w0 := w0) hby hjO (nI (16 * p.2.2.1 + p.2.2.2))
  have Fi' : FXo o xh xi := Fi
  have Fj' : FXo o xi xj := Fj
  have Fk' : FXo o xj xk := Fk
  have Foo : FXo o xe xk := Ff.trans (Fg'.trans (Fh.trans (Fi'.trans (Fj'.trans Fk'))))
  have FsI : FXs o x xi := Fe.trans (FXo.s So (Ff.trans (Fg'.trans (Fh.trans Fi'))))
  have FsH : FXs o x xh := Fe.trans (FXo.s So (Ff.trans (Fg'.trans Fh)))
  have FsJ : FXs o x xj := FsI.trans (FXo.s So Fj')
  have FsK : FXs o x xk := FsJ.trans (FXo.s So Fk')
  have hkL : xO xk o (L ++ (wdS (aAll g c0 m p Z iv).1 p c0 m ++ hdL p c0 m)) := by
    have : L ++ wdS (aAll g c0 m p Z iv).1 p c0 m ++ sg 218 (4 + 2 * m) ++ [bt (nI m)] ++ cmL c0 m ++ [bt (nI p.1)] ++ [bt (nI p.2.1)] ++ [bt (nI (16 * p.2.2.1 + p.2.2.2))] = L ++ (wdS (aAll g c0 m p Z iv).1 p c0 m ++ hdL p c0 m) := by
      unfold hdL
      simp only [List.append_assoc, List.cons_append, List.nil_append]
    rw [this] at hkO
    exact hkO
  -- writing
  have kk : ∀ k, xk.1 195 k = xd.1 195 k := fun k => by rw [Foo.1 195 k (by omega), Fe2.1 195 k (by omega), Fe1.1 195 k (by omega)]
  have kq : ∀ k, k = 0 ∨ k = 11 ∨ k = 12 ∨ k = 13 → (xBeg xk 0).1 106 k = xc.1 106 k := fun k hk => by
    rw [beg xk 0 k hk, Foo.1 106 k (by omega), Fe2.1 106 k (by omega), Fe1.1 106 k (by omega), kF.1 106 k (by omega) (by omega), beg xc _ k hk]
  have kA : ∀ q, q = 107 ∨ q = 111 ∨ q = 112 ∨ q = 113 → (xBeg xk 0).2.2.1 q = xc.2.2.1 q := fun q hq => by
    rw [begA xk 0 q (by omega), Foo.2.2.1 q (by omega), Fe2.2.2.1 q (by omega), Fe1.2.2.1 q (by omega), kF.2.2.1 q (by omega) (by omega) (by omega) (by omega) (fun t _ => by omega), begA xc _ q (by omega)]
  have FsB : FXs o x (xBeg xk 0) := FsK.trans xBeg_s
  have hst' := stl_o So Foo hst
  obtain ⟨xl, el, kl⟩ := x_write (X := X) (B := B) (w0 := w0) (x := xk) (K := kW (aAll g c0 m p Z iv).1 c0 m) (o := o) (L0 := L ++ (wdS (aAll g c0 m p Z iv).1 p c0 m ++ hdL p c0 m)) (P := P) (p := p) (g := g) (Z := Z) (c0 := c0) (m := m) (iv := iv) ⟨Or.inl rfl, So, beg4 xk 0, by show xk.2.1 195 0 = o; rw [FsK.2.1]; exact w0', fun _ t s ht => by
      obtain ⟨tq, ts⟩ := gE.1 t s ht
      have cp := cnt_0.mpr ht
      have t8 : t < 8 := by
        rcases tq with ⟨_, _, _, t4⟩ | ⟨_, _, t3⟩ <;> omega
      have hx : xT xk (115 + 10 * t) (fF (aAll g c0 m p Z iv).1 t) := by
        rcases tq with ⟨t1, t2, t3, t4⟩ | ⟨t1, t2, t3⟩
        · have := hst'.1 ⟨t1, t2⟩ (t - c0) (by omega)
          rw [show c0 + (t - c0) = t by omega] at this
          exact this
        · have := hst'.2 t1 (t - (4 + c0)) (by omega)
          rw [show 4 + c0 + (t - (4 + c0)) = t by omega] at this
          exact this
      obtain ⟨_, _, _, Z2, Z3, a2, a3⟩ := hx
      have has := bO_has (fF_256 (aAll g c0 m p Z iv).1 t) ts (by rw [fF_lt ts]; exact cp)
      have e2 := aW_in (g := gW (bC (fF (aAll g c0 m p Z iv).1 t))) (o := 0) (o' := 0) (Z := Z2) (Z' := fun _ => 0) has
      have e3 := aW_in (g := gL (bC (fF (aAll g c0 m p Z iv).1 t)) 16) (o := 0) (o' := 0) (Z := Z3) (Z' := fun _ => 0) has
      rw [Nat.zero_add] at e2 e3
      refine ⟨?_, ?_, (clF_b ts cp).2⟩
      · rw [begA xk _ (115 + 10 * t + 2) (by omega), a2, e2]
        exact nI_sur _
      · rw [begA xk _ (115 + 10 * t + 3) (by omega), a3, e3]
        exact nI_sur _⟩ (pXs _ FsB) (uXs _ FsB kq kA) hg hs h10 pf hUU hZ hiv hkL (by rw [kk]; exact k7) (by rw [kk]; exact k8) (by rw [kk]; exact k10) (fun e => absurd e kW_1) (fun _ v hv => hv)
  obtain ⟨lF, lO, _, l7, l8, l10, _⟩ := kl
  rw [zE.1] at l7
  rw [zE.2.1] at l8
  rw [zE.2.2] at l10
  refine ⟨xl, ?_, ?_, FsB.trans (lF.s So), l7, l8, l10⟩
  · unfold fX4_tellScan
    refine ob_v (rg_C rfl rfl) (ob_v (rg_pI rfl rfl _) ?_)
    rw [hxa]
    refine (show fX4_tellScan_10 X FU (B + 105) (nI c0) (nI m) (nI 0) _ = _ from eb').trans ?_
    unfold fX4_tellScan_57
    have gP : ∀ x2 : rg_S, x2.2.1 105 1 = P → gR (rg_p lX B w0 x2) (B + 105) 4 1 = some (B + P) := fun x2 e => by rw [← e]; exact rg_R rfl rfl
    refine ob_v (rg_C rfl rfl) (ob_v (gP xb (by rw [Fb.2.1]; exact r1)) (ob_v (rg_O rfl) (ob_v ec (ob_v (rg_C rfl rfl) (ob_v (rg_I rfl rfl) (ob_v (rg_O rfl) ?_))))))
    rw [Fbc.1 105 2 (by omega) (by omega), i2]
    refine ob_v ed (ob_v (rg_O rfl) (ob_v ee (ob_v (rg_O rfl) ?_)))
    rw [show (4 : Int32) + 2 * nI m = nI (4 + 2 * m) by rw [show (2 : Int32) = nI 2 from rfl, pk_mul]; exact nI_add 4 _]
    refine ob_v ef (ob_v (gOut (by rw [Ff.2.1, Fe.2.1]; exact r0)) (ob_v (rg_O hby.o) (ob_v eg (eh.trans ?_))))
    unfold fX4_tellScan_142
    refine ob_v (gOut (by rw [FsH.2.1]; exact r0)) (ob_v (rg_C rfl rfl) (ob_v (rg_I rfl rfl) (ob_v (rg_O hby.o) ?_)))
    rw [FsH.1 106 1 (by omega) (by omega), d1]
    refine ob_v ei (ob_v (gOut (by rw [FsI.2.1]; exact r0)) (ob_v (rg_C rfl rfl) (ob_v (rg_I rfl rfl) (ob_v (rg_O hby.o) ?_))))
    rw [FsI.1 106 2 (by omega) (by omega), d2]
    refine ob_v ej (ob_v (gOut (by rw [FsJ.2.1]; exact r0)) (ob_v (rg_C rfl rfl) (ob_v (rg_I rfl rfl) (ob_v (rg_C rfl rfl) (ob_v (rg_I rfl rfl) (ob_v (rg_O hby.o) ?_))))))
    rw [FsJ.1 106 3 (by omega) (by omega), d3, FsJ.1 106 4 (by omega) (by omega), d4, show (16 : Int32) = nI 16 from rfl, pk_mul, nI_add]
    refine ob_v ek (ob_v (rg_C rfl rfl) (ob_v (rg_I rfl rfl) (ob_v (rg_O rfl) ?_)))
    rw [FsK.1 105 2 (by omega) (by omega), i2]
    exact ob_v el rfl
  · have e := lO.1
    rw [show (kW (aAll g c0 m p Z iv).1 c0 m).md = 0 from rfl] at e
    have ep := emit_pre (L ++ (wdS (aAll g c0 m p Z iv).1 p c0 m ++ hdL p c0 m)) (cwF (aAll g c0 m p Z iv).1) (clF (aAll g c0 m p Z iv).1) (aAll g c0 m p Z iv).1 ([], 0, 0)
    have e0 : preL (L ++ (wdS (aAll g c0 m p Z iv).1 p c0 m ++ hdL p c0 m)) ([], 0, 0) = (L ++ (wdS (aAll g c0 m p Z iv).1 p c0 m ++ hdL p c0 m), 0, 0) := by
      unfold preL
      rw [List.append_nil]
    rw [e0] at ep
    have e1 : xO xl o (emit 0 (cwF (aAll g c0 m p Z iv).1) (clF (aAll g c0 m p Z iv).1) (aAll g c0 m p Z iv).1 (L ++ (wdS (aAll g c0 m p Z iv).1 p c0 m ++ hdL p c0 m), 0, 0)).1 := e
    rw [ep] at e1
    unfold scL
    rw [← List.append_assoc]
    exact e1
end
