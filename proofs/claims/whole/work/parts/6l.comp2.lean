/-! a component shown: the rest -/
section
variable {X : px_X} {b B : Nat} {w0 w1 : px_W} {x y : rg_S} {P Q n s c : Nat} {g : gG} {F S : Nat → Int32} {t : Int32} {I : Nat → Nat → Int32}
theorem x_sAcross (hQ : isP Q) (hg : gOk g) (hx : xPic x Q g) (hc : c < g.2.2.1) : fX2_samplesAcross X (rg_p lX B w0 x) (B + Q) (nI c) = some (nI (gUp (g.1 * g.2.2.2.1 c) (gH g)), rg_p lX B w0 x) := by
  have hc4 := hg.2.2.2.2.2.1
  have hgh := hg.h
  have fc := hg.2.2.2.2.2.2 c hc
  have hm : g.1 * g.2.2.2.1 c ≤ 64 * 2 := Nat.mul_le_mul hg.2.1 fc.1.2
  unfold fX2_samplesAcross
  refine ob_v (rg_I hQ.o rfl) (ob_v (rg_C hQ.o rfl) (ob_v (rg_A hQ.a1 (by decide) c (by omega) (by decide)) (ob_v (rg_I hQ.o rfl) ?_)))
  rw [hx.1.1, hx.1.2.2.2.1 c hc, hx.2.1, pk_mul, x_up (by omega) (by omega), ob_s]
theorem x_sDown (hQ : isP Q) (hg : gOk g) (hx : xPic x Q g) (hc : c < g.2.2.1) : fX2_samplesDown X (rg_p lX B w0 x) (B + Q) (nI c) = some (nI (gUp (g.2.1 * g.2.2.2.2 c) (gV_ g)), rg_p lX B w0 x) := by
  have hc4 := hg.2.2.2.2.2.1
  have hgh := hg.v
  have fc := hg.2.2.2.2.2.2 c hc
  have hm : g.2.1 * g.2.2.2.2 c ≤ 64 * 2 := Nat.mul_le_mul hg.2.2.2.1 fc.2.2
  unfold fX2_samplesDown
  refine ob_v (rg_I hQ.o rfl) (ob_v (rg_C hQ.o rfl) (ob_v (rg_A hQ.a2 (by decide) c (by omega) (by decide)) (ob_v (rg_I hQ.o rfl) ?_)))
  rw [hx.1.2.1, hx.1.2.2.2.2 c hc, hx.2.2.1, pk_mul, x_up (by omega) (by omega), ob_s]
theorem gUp_le2 {a d : Nat} : gUp a d ≤ a + d := Nat.le_trans (Nat.div_le_self _ _) (by omega)
theorem x_sc177 (hQ : isP Q) (hR : x.2.1 0 4 = Q) (hg : gOk g) (hx : xPic x Q g) (hc : c < g.2.2.1) {w h : Nat} (hI : pI x 4 w h I) (hh : g.2.2.2.2 c < gV_ g → 2 * h ≤ 32) : ∃ x', fX11_showComponent_177 X (B + 0) (nI c) t (rg_p lX B w0 x) = some (rg_p lX B w0 x') ∧ pI x' 4 w (if g.2.2.2.2 c < gV_ g then 2 * h else h) (if g.2.2.2.2 c < gV_ g then gwD t h I else I) ∧ FS x x' := by
  have hc4 := hg.2.2.2.2.2.1
  have hgv := hg.v
  have fc := hg.2.2.2.2.2.2 c hc
  have gq : gR (rg_p lX B w0 x) (B + 0) 11 4 = some (B + Q) := by rw [← hR]; exact rg_R rfl rfl
  have st : ∀ r, (if nI (gV_ g) ≤ nI (g.2.2.2.2 c) then some (rg_p lX B w0 x) else (gR (rg_p lX B w0 x) (B + 0) 11 8).bind fun v64 => (gR (rg_p lX B w0 x) (B + 0) 11 7).bind fun v65 => (gO (rg_p lX B w0 x) v64 3).bind fun o66 => (fX3_becomeGrownDown X (rg_p lX B w0 x) v64 v65 t).bind fun q67 => (gR q67 (B + 0) 11 7).bind fun v68 => (gR q67 (B + 0) 11 8).bind fun v69 => (gR q67 (B + 0) 11 8).bind fun v70 => (gI q67 v70 3 0).bind fun v71 => (gR q67 (B + 0) 11 8).bind fun v72 => (gI q67 v72 3 1).bind fun v73 => (gO q67 v68 3).bind fun o74 => (fX3_becomeFirst X q67 v68 v69 v71 v73).bind fun q75 => some q75) = r → fX11_showComponent_177 X (B + 0) (nI c) t (rg_p lX B w0 x) = r := by
    intro r hr
    unfold fX11_showComponent_177
    refine ob_v gq (ob_v (rg_C hQ.o rfl) (ob_v (rg_A hQ.a2 (by decide) c (by omega) (by decide)) (ob_v gq (ob_v (rg_I hQ.o rfl) ?_))))
    rw [hx.1.2.2.2.2 c hc, hx.2.2.1]
    exact hr
  by_cases e : g.2.2.2.2 c < gV_ g
  · rw [if_pos e, if_pos e]
    obtain ⟨x1, e1, p1, f1⟩ := x_grownD (X := X) (B := B) (w0 := w0) (t := t) hI (hh e)
    obtain ⟨x2, e2, p2, i1, i2, i3⟩ := x_first (X := X) (B := B) (w0 := w0) (p := 4) (q := 5) (by decide) (by decide) (by decide) p1 p1.1 (Nat.le_refl _) p1.2.2.1 (Nat.le_refl _)
    refine ⟨x2, st _ ?_, p2, f1.trans ⟨fun o k o1 o2 => i1 o k o1, i2, fun o o1 o2 => i3 o o1⟩⟩
    refine ei_n (nI_ge e (by omega)) (ob_v (rg_C rfl rfl) (ob_v (rg_C rfl rfl) (ob_v (rg_O rfl) (ob_v e1 (ob_v (rg_C rfl rfl) (ob_v (rg_C rfl rfl) (ob_v (rg_C rfl rfl) (ob_v (rg_I rfl rfl) (ob_v (rg_C rfl rfl) (ob_v (rg_I rfl rfl) (ob_v (rg_O rfl) ?_)))))))))))
    rw [show x1.1 34 0 = _ from p1.2.2.2.2.1, show x1.1 34 1 = _ from p1.2.2.2.2.2.1]
    exact ob_v e2 rfl
  · rw [if_neg e, if_neg e]
    exact ⟨x, st _ (ei_t (nI_le (by omega) (by omega)) rfl), hI, FS.rfl⟩
theorem x_showC (hst : px_st X) (hQ : isP Q) (hR : x.2.1 0 4 = Q) (hg : gOk g) (hb : gBs g g.2.2.1 ≤ 192) (hx : xPic x Q g) (hn : n = 2 ^ s) (hs : s < 4) (ht : ∀ u t, u < 2 ^ s → t < 2 ^ s → x.2.2.1 37 (64 * s + 8 * u + t) = wvN (2 ^ s) u t) (hc : c < g.2.2.1) (hw : gUp (g.1 * n) 8 ≤ 32) (hh : gUp (g.2.1 * n) 8 ≤ 32) :
    ∃ x', fX11_showComponent X (rg_p lX B w0 x) (B + 0) (nI c) (nI n) t = some (rg_p lX B w0 x') ∧ pI x' 4 (sh1W g n c) (sh2H g n c) (sh2I g (x.2.2.1 (Q + 6)) (x.2.2.1 (Q + 7)) t n c) ∧ FS x x' := by
  obtain ⟨⟨a1, a2, a3, a4, a5, a6, a7⟩, ⟨d1, d2, d3, d4, d5, d6, d7⟩⟩ := sh_sz hg hn hs hc hw hh
  have hc4 := hg.2.2.2.2.2.1
  have hgh := hg.h
  have fc := hg.2.2.2.2.2.2 c hc
  have hac := hg.ac hc
  have hdn := hg.dn hc
  have n18 : 1 ≤ n ∧ n ≤ 8 := by
    rw [hn]
    rcases (show s = 0 ∨ s = 1 ∨ s = 2 ∨ s = 3 by omega) with rfl | rfl | rfl | rfl <;> decide
  obtain ⟨x1, e1, hB⟩ := x_sc_blocks (X := X) (B := B) (w0 := w0) (t := t) hst hQ hR hg hb hx hn hs ht hc a1 d1
  have px := hB.1.pic hQ hx
  have sw32 : shW g n c ≤ 32 := Nat.le_trans a3 a1
  have sh32 : shH g n c ≤ 32 := Nat.le_trans d3 d1
  -- near's size is set
  have pn : pI (rg_wI (rg_wI x1 32 0 (nI (shW g n c))) 32 1 (nI (shH g n c))) 4 (shW g n c) (shH g n c) (bkI g (x.2.2.1 (Q + 6)) (x.2.2.1 (Q + 7)) n c) := by
    refine ⟨a2, sw32, d2, sh32, rfl, rfl, fun i j hi hj => ?_⟩
    have hX : i < gAc g c * n := by rw [Nat.mul_comm]; omega
    have hY : j < gDn g c * n := by rw [Nat.mul_comm]; omega
    refine hB.2.2 i j hX hY ?_
    have h1 : i / n < gAc g c := Nat.div_lt_of_lt_mul (by rw [Nat.mul_comm]; exact hX)
    have h2 : j / n < gDn g c := Nat.div_lt_of_lt_mul (by rw [Nat.mul_comm]; exact hY)
    have := row_lt (w := gAc g c) (h := gDn g c) h1 h2
    rw [Nat.mul_comm (j / n), Nat.mul_comm (gDn g c)]
    exact this
  have fn : FS x1 (rg_wI (rg_wI x1 32 0 (nI (shW g n c))) 32 1 (nI (shH g n c))) := ⟨fun o k o1 o2 => (wI_n _ _ (by omega)).trans (wI_n _ _ (by omega)), rfl, fun o _ _ => rfl⟩
  have gq : ∀ x2, FS x x2 → gR (rg_p lX B w0 x2) (B + 0) 11 4 = some (B + Q) := fun x2 h => by rw [← hR, ← h.2.1]; exact rg_R rfl rfl
  have f3 := hB.1.trans fn
  have px3 := f3.pic hQ hx
  have up8 : ∀ u v : Nat, gUp (u * n) 8 = v → u * n < 100000 → v ≤ 32 → fX11_up X (rg_p lX B w0 x1) (nI u * nI n) 8 = some (nI v, rg_p lX B w0 x1) := fun u v e h _ => by
    rw [pk_mul, show (8 : Int32) = nI 8 from rfl, x_up (by decide) (by omega), e]
  have hm1 : gUp (g.1 * g.2.2.2.1 c) (gH g) * n ≤ 200 * 8 := Nat.mul_le_mul (by
    have h1 : g.1 * g.2.2.2.1 c ≤ 64 * 2 := Nat.mul_le_mul hg.2.1 fc.1.2
    have := gUp_le2 (a := g.1 * g.2.2.2.1 c) (d := gH g)
    omega) n18.2
  have hm2 : gUp (g.2.1 * g.2.2.2.2 c) (gV_ g) * n ≤ 200 * 8 := Nat.mul_le_mul (by
    have h1 : g.2.1 * g.2.2.2.2 c ≤ 64 * 2 := Nat.mul_le_mul hg.2.2.2.1 fc.2.2
    have := gUp_le2 (a := g.2.1 * g.2.2.2.2 c) (d := gV_ g)
    have := hg.v
    omega) n18.2
  have mn : ∀ v, v ≤ 32 → mmin 32 (nI v) = nI v := fun v hv => by rw [show (32 : Int32) = nI 32 from rfl, mminN (by decide) (by omega), Nat.min_eq_right hv]
  have pxm : xPic (rg_wI x1 32 0 (nI (shW g n c))) Q g := by
    have hQ' : Q = 7 ∨ Q = 15 := hQ
    exact px.c (fun k _ => wI_n _ _ (by omega)) (fun j _ _ => rfl)
  -- the steps up to the first question
  have st : ∀ r, (if nI (gH g) ≤ nI (g.2.2.2.1 c) then fX11_showComponent_177 X (B + 0) (nI c) t (rg_p lX B w0 (rg_wI (rg_wI x1 32 0 (nI (shW g n c))) 32 1 (nI (shH g n c)))) else (gR (rg_p lX B w0 (rg_wI (rg_wI x1 32 0 (nI (shW g n c))) 32 1 (nI (shH g n c)))) (B + 0) 11 8).bind fun v94 => (gR (rg_p lX B w0 (rg_wI (rg_wI x1 32 0 (nI (shW g n c))) 32 1 (nI (shH g n c)))) (B + 0) 11 7).bind fun v95 => (gO (rg_p lX B w0 (rg_wI (rg_wI x1 32 0 (nI (shW g n c))) 32 1 (nI (shH g n c)))) v94 3).bind fun o96 => (fX3_becomeGrownAcross X (rg_p lX B w0 (rg_wI (rg_wI x1 32 0 (nI (shW g n c))) 32 1 (nI (shH g n c)))) v94 v95 t).bind fun q97 => (gR q97 (B + 0) 11 7).bind fun v98 => (gR q97 (B + 0) 11 8).bind fun v99 => (gR q97 (B + 0) 11 8).bind fun v100 => (gI q97 v100 3 0).bind fun v101 => (gR q97 (B + 0) 11 8).bind fun v102 => (gI q97 v102 3 1).bind fun v103 => (gO q97 v98 3).bind fun o104 => (fX3_becomeFirst X q97 v98 v99 v101 v103).bind fun q105 => fX11_showComponent_177 X (B + 0) (nI c) t q105) = r → fX11_showComponent X (rg_p lX B w0 x) (B + 0) (nI c) (nI n) t = r := by
    intro r hr
    rw [e1]
    unfold fX11_showComponent_67
    refine ob_v (rg_C rfl rfl) (ob_v (gq x1 hB.1) (ob_v (rg_O hQ.o) (ob_v (x_sAcross hQ hg px hc) (ob_v (up8 _ (shW g n c) rfl (by omega) sw32) ?_))))
    dsimp only
    rw [mn _ sw32]
    refine ob_v (rg_pI rfl rfl _) (ob_v (rg_C rfl rfl) (ob_v (gq _ (hB.1.trans ⟨fun o k o1 o2 => wI_n _ _ (by omega), rfl, fun o _ _ => rfl⟩)) (ob_v (rg_O hQ.o) (ob_v (x_sDown hQ hg pxm hc) ?_))))
    dsimp only
    rw [pk_mul, show (8 : Int32) = nI 8 from rfl]
    refine ob_v (x_up (by decide) (by omega)) ?_
    dsimp only
    rw [show gUp (gUp (g.2.1 * g.2.2.2.2 c) (gV_ g) * n) 8 = shH g n c from rfl, mn _ sh32]
    refine ob_v (rg_pI rfl rfl _) (ob_v (gq _ f3) (ob_v (rg_C hQ.o rfl) (ob_v (rg_A hQ.a1 (by decide) c (by omega) (by decide)) (ob_v (gq _ f3) (ob_v (rg_I hQ.o rfl) ?_)))))
    rw [px3.1.2.2.2.1 c hc, px3.2.1]
    exact hr
  unfold sh1W sh2H sh2I sh1I
  by_cases e : g.2.2.2.1 c < gH g
  · rw [if_pos e, if_pos e]
    obtain ⟨x4, e4, p4, f4⟩ := x_grownA (X := X) (B := B) (w0 := w0) (t := t) pn (a4 e)
    obtain ⟨x5, e5, p5, i1, i2, i3⟩ := x_first (X := X) (B := B) (w0 := w0) (p := 4) (q := 5) (by decide) (by decide) (by decide) p4 p4.1 (Nat.le_refl _) p4.2.2.1 (Nat.le_refl _)
    have f5 : FS x x5 := (f3.trans f4).trans ⟨fun o k o1 o2 => i1 o k o1, i2, fun o o1 o2 => i3 o o1⟩
    obtain ⟨x6, e6, p6, f6⟩ := x_sc177 (X := X) (B := B) (w0 := w0) (t := t) hQ (by rw [f5.2.1]; exact hR) hg (f5.pic hQ hx) hc p5 d4
    refine ⟨x6, st _ ?_, p6, f5.trans f6⟩
    refine ei_n (nI_ge e (by omega)) (ob_v (rg_C rfl rfl) (ob_v (rg_C rfl rfl) (ob_v (rg_O rfl) (ob_v e4 (ob_v (rg_C rfl rfl) (ob_v (rg_C rfl rfl) (ob_v (rg_C rfl rfl) (ob_v (rg_I rfl rfl) (ob_v (rg_C rfl rfl) (ob_v (rg_I rfl rfl) (ob_v (rg_O rfl) ?_)))))))))))
    rw [show x4.1 34 0 = _ from p4.2.2.2.2.1, show x4.1 34 1 = _ from p4.2.2.2.2.2.1]
    exact ob_v e5 e6
  · rw [if_neg e, if_neg e]
    obtain ⟨x6, e6, p6, f6⟩ := x_sc177 (X := X) (B := B) (w0 := w0) (t := t) hQ (by rw [f3.2.1]; exact hR) hg px3 hc pn d4
    exact ⟨x6, st _ (ei_t (nI_le (by omega) (by omega)) e6), p6, f3.trans f6⟩
end
