/-! cropTo: the shape, and the class' loops -/
theorem gUp_gt {a d k : Nat} (hd : 0 < d) (h : k < gUp a d) : d * k < a := by
  unfold gUp at h
  have h1 := (Nat.le_div_iff_mul_le hd).mp (show k + 1 ≤ (a + d - 1) / d from h)
  rw [Nat.mul_comm, Nat.mul_add, Nat.mul_one] at h1
  omega
theorem gUp_mono {a a' d : Nat} (h : a ≤ a') : gUp a d ≤ gUp a' d := Nat.div_le_div_right (by omega)
theorem gUp_sub {a d k : Nat} (hd : 0 < d) (h : d * k ≤ a) : gUp (a - d * k) d + k = gUp a d := by
  unfold gUp
  have e : a + d - 1 = a - d * k + d - 1 + d * k := by omega
  rw [e, Nat.add_mul_div_left _ _ hd]
def gCr (g : gG) (X Y w h : Nat) : gG := (min (g.1 - 8 * gH g * X) (8 * gH g * w), min (g.2.1 - 8 * gV_ g * Y) (8 * gV_ g * h), g.2.2)
theorem gCr_H (g : gG) (X Y w h : Nat) : gH (gCr g X Y w h) = gH g ∧ gV_ (gCr g X Y w h) = gV_ g := ⟨rfl, rfl⟩
theorem gCr_ok {g : gG} {X Y w h : Nat} (hg : gOk g) (w1 : 1 ≤ w) (h1 : 1 ≤ h) (hX : X + w ≤ gUA g) (hY : Y + h ≤ gUD g) : gOk (gCr g X Y w h) ∧ gUA (gCr g X Y w h) + X ≤ gUA g ∧ gUD (gCr g X Y w h) + Y ≤ gUD g := by
  have hh := hg.h
  have hv := hg.v
  have a1 : 8 * gH g * X < g.1 := gUp_gt (by omega) (show X < gUp g.1 (8 * gH g) from by unfold gUA at hX; omega)
  have a2 : 8 * gV_ g * Y < g.2.1 := gUp_gt (by omega) (show Y < gUp g.2.1 (8 * gV_ g) from by unfold gUD at hY; omega)
  have b1 : 1 ≤ 8 * gH g * w := Nat.mul_pos (by omega) w1
  have b2 : 1 ≤ 8 * gV_ g * h := Nat.mul_pos (by omega) h1
  have g1 := hg.2.1
  have g2 := hg.2.2.2.1
  refine ⟨⟨?_, ?_, ?_, ?_, hg.2.2.2.2⟩, ?_, ?_⟩
  · show 1 ≤ min (g.1 - 8 * gH g * X) (8 * gH g * w); omega
  · show min (g.1 - 8 * gH g * X) (8 * gH g * w) ≤ 64; omega
  · show 1 ≤ min (g.2.1 - 8 * gV_ g * Y) (8 * gV_ g * h); omega
  · show min (g.2.1 - 8 * gV_ g * Y) (8 * gV_ g * h) ≤ 64; omega
  · have e := gUp_sub (a := g.1) (d := 8 * gH g) (k := X) (by omega) (by omega)
    have m : gUA (gCr g X Y w h) ≤ gUp (g.1 - 8 * gH g * X) (8 * gH g) := gUp_mono (Nat.min_le_left _ _)
    unfold gUA at *
    omega
  · have e := gUp_sub (a := g.2.1) (d := 8 * gV_ g) (k := Y) (by omega) (by omega)
    have m : gUD (gCr g X Y w h) ≤ gUp (g.2.1 - 8 * gV_ g * Y) (8 * gV_ g) := gUp_mono (Nat.min_le_left _ _)
    unfold gUD at *
    omega
theorem gBs_le {g g' : gG} (hn : g'.2.2 = g.2.2) (ha : gUA g' ≤ gUA g) (hd : gUD g' ≤ gUD g) : ∀ c, gBs g' c ≤ gBs g c := by
  intro c
  induction c with
  | zero => exact Nat.le_refl 0
  | succ c ih =>
    have e1 : gAc g' c ≤ gAc g c := by unfold gAc; rw [hn]; exact Nat.mul_le_mul ha (Nat.le_refl _)
    have e2 : gDn g' c ≤ gDn g c := by unfold gDn; rw [hn]; exact Nat.mul_le_mul hd (Nat.le_refl _)
    have e3 := Nat.mul_le_mul e1 e2
    rw [show gBs g' (c + 1) = gBs g' c + gAc g' c * gDn g' c from rfl, show gBs g (c + 1) = gBs g c + gAc g c * gDn g c from rfl]
    omega
/-- the block that is taken -/
def crB (g g' : gG) (X Y c q : Nat) : Nat := gBs g c + (Y * g.2.2.2.2 c + q / gAc g' c) * gAc g c + (X * g.2.2.2.1 c + q % gAc g' c)
theorem cr_in {g g' : gG} {X Y c q : Nat} (hn : g'.2.2 = g.2.2) (ha : gUA g' + X ≤ gUA g) (hd : gUD g' + Y ≤ gUD g) (hq : q < gAc g' c * gDn g' c) : X * g.2.2.2.1 c + q % gAc g' c < gAc g c ∧ Y * g.2.2.2.2 c + q / gAc g' c < gDn g c := by
  have a0 : 0 < gAc g' c := by
    rcases Nat.eq_zero_or_pos (gAc g' c) with e | e
    · rw [e, Nat.zero_mul] at hq; omega
    · exact e
  have m1 := Nat.mod_lt q a0
  have m2 : q / gAc g' c < gDn g' c := Nat.div_lt_of_lt_mul hq
  have e1 : (gUA g' + X) * g.2.2.2.1 c ≤ gUA g * g.2.2.2.1 c := Nat.mul_le_mul ha (Nat.le_refl _)
  have e2 : (gUD g' + Y) * g.2.2.2.2 c ≤ gUD g * g.2.2.2.2 c := Nat.mul_le_mul hd (Nat.le_refl _)
  rw [Nat.add_mul] at e1 e2
  have f1 : gAc g' c = gUA g' * g.2.2.2.1 c := by unfold gAc; rw [hn]
  have f2 : gDn g' c = gUD g' * g.2.2.2.2 c := by unfold gDn; rw [hn]
  rw [show gAc g c = gUA g * g.2.2.2.1 c from rfl, show gDn g c = gUD g * g.2.2.2.2 c from rfl]
  omega
/-- the coefficients of the cropped picture, from those of the old -/
def crV (g g' : gG) (X Y : Nat) (f : Nat → Int32) : Nat → Int32 := flV g' (fun c q k => f (64 * crB g g' X Y c q + k))
section
variable {X : px_X} {b B : Nat} {w0 w1 w : px_W} {x y : rg_S} {P Q : Nat} {g g' : gG}
theorem x_crop_i (hs : px_st X) (hP : isP P) (hQ : isP Q) (hPQ : P ≠ Q) (hg : gOk g) (hg' : gOk g') (hb : gBs g g.2.2.1 ≤ 192) (hb' : gBs g' g'.2.2.1 ≤ 192) (hn : g'.2.2 = g.2.2) {Xx Yy : Nat} (ha : gUA g' + Xx ≤ gUA g) (hd : gUD g' + Yy ≤ gUD g) (hx : xPic x P g') (hx' : xPic x Q g) {Z : Nat → Int32} {c j M N : Nat} (hc : c < g.2.2.1) (hj : j < gDn g' c) :
    fX2_becomeCropped_101 X (fX2_becomeCropped_74 X M) (fX2_becomeCropped_86 X (fX2_becomeCropped_74 X M) N) FU (B + P) (B + Q) (nI Xx) (nI Yy) (nI c) (nI j) 0 (rg_p lX B w0 (rg_wA x (P + 6) (fU (64 * (gBs g' c + j * gAc g' c)) (crV g g' Xx Yy (x.2.2.1 (Q + 6))) Z))) = fX2_becomeCropped_86 X (fX2_becomeCropped_74 X M) N (B + P) (B + Q) (nI Xx) (nI Yy) (nI c) (nI (j + 1)) (rg_p lX B w0 (rg_wA x (P + 6) (fU (64 * (gBs g' c + (j + 1) * gAc g' c)) (crV g g' Xx Yy (x.2.2.1 (Q + 6))) Z))) := by
  have hP' : P = 7 ∨ P = 15 := hP
  have hQ' : Q = 7 ∨ Q = 15 := hQ
  have hc' : c < g'.2.2.1 := by rw [hn]; exact hc
  have hc4 := hg.2.2.2.2.2.1
  have hac := hg'.ac hc'
  have hua := hg.ua
  have hud := hg.ud
  have hfac := hg.2.2.2.2.2.2 c hc
  have m1 : Xx * g.2.2.2.1 c ≤ 8 * 2 := Nat.mul_le_mul (by omega) (by omega)
  have m2 : Yy * g.2.2.2.2 c ≤ 8 * 2 := Nat.mul_le_mul (by omega) (by omega)
  refine rg_lpF (F := fun u (q : Int32 × px_W) => fX2_becomeCropped_101 X (fX2_becomeCropped_74 X M) (fX2_becomeCropped_86 X (fX2_becomeCropped_74 X M) N) u (B + P) (B + Q) (nI Xx) (nI Yy) (nI c) (nI j) q.1 q.2) (gAc g' c) (fun i => (nI i, rg_p lX B w0 (rg_wA x (P + 6) (fU (64 * (gBs g' c + j * gAc g' c + i)) (crV g g' Xx Yy (x.2.2.1 (Q + 6))) Z)))) (by omega) ?_ ?_
  · intro u i hi
    dsimp only
    have hrow := row_lt hi hj
    have hin := gB_in hc' hi hj
    have hq : j * gAc g' c + i < gAc g' c * gDn g' c := by rw [Nat.mul_comm j]; exact hrow
    have hci := cr_in (c := c) hn ha hd hq
    have ed : (j * gAc g' c + i) / gAc g' c = j := by rw [Nat.mul_comm, Nat.mul_add_div (by omega), Nat.div_eq_of_lt hi, Nat.add_zero]
    have em : (j * gAc g' c + i) % gAc g' c = i := by rw [Nat.mul_comm, Nat.mul_add_mod, Nat.mod_eq_of_lt hi]
    rw [ed, em] at hci
    have px := hx.wA (o := P + 6) (f := fU (64 * (gBs g' c + j * gAc g' c + i)) (crV g g' Xx Yy (x.2.2.1 (Q + 6))) Z) (fun j _ _ => by omega)
    have qx := hx'.wA (o := P + 6) (f := fU (64 * (gBs g' c + j * gAc g' c + i)) (crV g g' Xx Yy (x.2.2.1 (Q + 6))) Z) (fun j _ _ => by omega)
    rw [fX2_becomeCropped_101.eq_2]
    refine ob_v (rg_C hP.o rfl) (ob_v (rg_A hP.a3 (by decide) c (by omega) (by decide)) ?_)
    rw [(px.2.2.2.2 c hc').1, if_neg (nI_ge hi (by omega))]
    refine ob_v (rg_C hP.o rfl) (ob_v (rg_A hP.a1 (by decide) c (by omega) (by decide)) (ob_v (rg_C hP.o rfl) (ob_v (rg_A hP.a2 (by decide) c (by omega) (by decide)) (ob_v (rg_O hQ.o) ?_))))
    rw [px.1.2.2.2.1 c hc', px.1.2.2.2.2 c hc', pk_mul, pk_mul, nI_add, nI_add, hn]
    refine ob_v (x_block1 hQ hg qx hc hci.1 hci.2) (ob_v (rg_O hP.o) (ob_v (x_block1 hP hg' px hc' hi hj) (ob_v (rg_O hP.o) ?_)))
    have hin2 := gB_in (g := g) hc hci.1 hci.2
    refine ob_v (x_takeB hs hP hQ hPQ (m := 0) (f := 0) (by omega) (by omega) (by decide) (by decide) ?_) ?_
    · intro k hk
      unfold crV
      rw [Nat.add_assoc, flV_at (by omega) hq hk]
      unfold tbv crB
      rw [ed, em, if_pos (by omega)]
    · rw [nI_1]
      rfl
  · intro u
    dsimp only
    have px := hx.wA (o := P + 6) (f := fU (64 * (gBs g' c + j * gAc g' c + gAc g' c)) (crV g g' Xx Yy (x.2.2.1 (Q + 6))) Z) (fun j _ _ => by omega)
    rw [fX2_becomeCropped_101.eq_2]
    refine ob_v (rg_C hP.o rfl) (ob_v (rg_A hP.a3 (by decide) c (by omega) (by decide)) ?_)
    rw [(px.2.2.2.2 c hc').1, if_pos (nI_le (Nat.le_refl _) (by omega)), fX2_becomeCropped_170, nI_1, Nat.add_mul, Nat.one_mul, Nat.add_assoc]
theorem x_crop_j (hs : px_st X) (hP : isP P) (hQ : isP Q) (hPQ : P ≠ Q) (hg : gOk g) (hg' : gOk g') (hb : gBs g g.2.2.1 ≤ 192) (hb' : gBs g' g'.2.2.1 ≤ 192) (hn : g'.2.2 = g.2.2) {Xx Yy : Nat} (ha : gUA g' + Xx ≤ gUA g) (hd : gUD g' + Yy ≤ gUD g) (hx : xPic x P g') (hx' : xPic x Q g) {Z : Nat → Int32} {c M : Nat} (hc : c < g.2.2.1) :
    fX2_becomeCropped_86 X (fX2_becomeCropped_74 X M) FU (B + P) (B + Q) (nI Xx) (nI Yy) (nI c) 0 (rg_p lX B w0 (rg_wA x (P + 6) (fU (64 * gBs g' c) (crV g g' Xx Yy (x.2.2.1 (Q + 6))) Z))) = fX2_becomeCropped_74 X M (B + P) (B + Q) (nI Xx) (nI Yy) (nI (c + 1)) (rg_p lX B w0 (rg_wA x (P + 6) (fU (64 * gBs g' (c + 1)) (crV g g' Xx Yy (x.2.2.1 (Q + 6))) Z))) := by
  have hP' : P = 7 ∨ P = 15 := hP
  have hc' : c < g'.2.2.1 := by rw [hn]; exact hc
  have hc4 := hg.2.2.2.2.2.1
  have hdn := hg'.dn hc'
  have e := rg_lpF (F := fun u (q : Int32 × px_W) => fX2_becomeCropped_86 X (fX2_becomeCropped_74 X M) u (B + P) (B + Q) (nI Xx) (nI Yy) (nI c) q.1 q.2) (gDn g' c) (fun j => (nI j, rg_p lX B w0 (rg_wA x (P + 6) (fU (64 * (gBs g' c + j * gAc g' c)) (crV g g' Xx Yy (x.2.2.1 (Q + 6))) Z)))) (r := fX2_becomeCropped_74 X M (B + P) (B + Q) (nI Xx) (nI Yy) (nI (c + 1)) (rg_p lX B w0 (rg_wA x (P + 6) (fU (64 * gBs g' (c + 1)) (crV g g' Xx Yy (x.2.2.1 (Q + 6))) Z)))) (by omega) ?_ ?_
  · refine Eq.trans ?_ e
    dsimp only
    rw [Nat.zero_mul, nI_0]
    rfl
  · intro u j hj
    dsimp only
    have px := hx.wA (o := P + 6) (f := fU (64 * (gBs g' c + j * gAc g' c)) (crV g g' Xx Yy (x.2.2.1 (Q + 6))) Z) (fun j _ _ => by omega)
    rw [fX2_becomeCropped_86.eq_2]
    refine ob_v (rg_C hP.o rfl) (ob_v (rg_A hP.a4 (by decide) c (by omega) (by decide)) ?_)
    rw [(px.2.2.2.2 c hc').2.1, if_neg (nI_ge hj (by omega))]
    exact x_crop_i hs hP hQ hPQ hg hg' hb hb' hn ha hd hx hx' hc hj
  · intro u
    dsimp only
    have px := hx.wA (o := P + 6) (f := fU (64 * (gBs g' c + gDn g' c * gAc g' c)) (crV g g' Xx Yy (x.2.2.1 (Q + 6))) Z) (fun j _ _ => by omega)
    rw [fX2_becomeCropped_86.eq_2]
    refine ob_v (rg_C hP.o rfl) (ob_v (rg_A hP.a4 (by decide) c (by omega) (by decide)) ?_)
    rw [(px.2.2.2.2 c hc').2.1, if_pos (nI_le (Nat.le_refl _) (by omega)), fX2_becomeCropped_176, nI_1, Nat.mul_comm (gDn g' c)]
    rfl
theorem x_crop_c (hs : px_st X) (hP : isP P) (hQ : isP Q) (hPQ : P ≠ Q) (hg : gOk g) (hg' : gOk g') (hb : gBs g g.2.2.1 ≤ 192) (hb' : gBs g' g'.2.2.1 ≤ 192) (hn : g'.2.2 = g.2.2) {Xx Yy : Nat} (ha : gUA g' + Xx ≤ gUA g) (hd : gUD g' + Yy ≤ gUD g) (hx : xPic x P g') (hx' : xPic x Q g) :
    fX2_becomeCropped_74 X FU (B + P) (B + Q) (nI Xx) (nI Yy) 0 (rg_p lX B w0 x) = some (rg_p lX B w0 (rg_wA x (P + 6) (fU (64 * gBs g' g'.2.2.1) (crV g g' Xx Yy (x.2.2.1 (Q + 6))) (x.2.2.1 (P + 6))))) := by
  have hP' : P = 7 ∨ P = 15 := hP
  have hc4 := hg.2.2.2.2.2.1
  have en : g'.2.2.1 = g.2.2.1 := by rw [hn]
  have e := rg_lpF (F := fun u (q : Int32 × px_W) => fX2_becomeCropped_74 X u (B + P) (B + Q) (nI Xx) (nI Yy) q.1 q.2) g.2.2.1 (fun c => (nI c, rg_p lX B w0 (rg_wA x (P + 6) (fU (64 * gBs g' c) (crV g g' Xx Yy (x.2.2.1 (Q + 6))) (x.2.2.1 (P + 6)))))) (r := some (rg_p lX B w0 (rg_wA x (P + 6) (fU (64 * gBs g' g'.2.2.1) (crV g g' Xx Yy (x.2.2.1 (Q + 6))) (x.2.2.1 (P + 6)))))) (by omega) ?_ ?_
  · refine Eq.trans ?_ e
    dsimp only
    rw [show gBs g' 0 = 0 from rfl, Nat.mul_zero, fU_0, wA_id rfl, nI_0]
  · intro u c hc
    dsimp only
    rw [fX2_becomeCropped_74.eq_2]
    refine ob_v (rg_I hP.o rfl) ?_
    rw [wA_1, hx.1.2.2.1, en, if_neg (nI_ge hc (by omega))]
    exact x_crop_j hs hP hQ hPQ hg hg' hb hb' hn ha hd hx hx' hc
  · intro u
    dsimp only
    rw [fX2_becomeCropped_74.eq_2]
    refine ob_v (rg_I hP.o rfl) ?_
    rw [wA_1, hx.1.2.2.1, en, if_pos (nI_le (Nat.le_refl _) (by omega))]
end
