/-! cropTo: the calls -/
def crOk (g : gG) (a1 a2 a3 a4 : Int32) (X Y w h : Nat) : Prop := a1 = nI X ∧ a2 = nI Y ∧ a3 = nI w ∧ a4 = nI h ∧ 1 ≤ w ∧ 1 ≤ h ∧ X + w ≤ gUA g ∧ Y + h ≤ gUD g
/-- the class' draft, framed -/
def xCr (x : rg_S) (P Q : Nat) (g' : gG) : rg_S := xSt (rg_wI (rg_wI (xTF x P Q) P 0 (nI g'.1)) P 1 (nI g'.2.1)) P g' g'.2.2.1
def yCr (y : rg_S) (g' : gG) : rg_S := ySt (rg_wI (rg_wI (yK y) 0 18 (nI g'.1)) 0 19 (nI g'.2.1)) g' g'.2.2.1
section
variable {X : px_X} {b B : Nat} {w0 w1 w : px_W} {x y : rg_S} {P Q : Nat} {g g' : gG}
theorem xTF_A (o : Nat) : (xTF x P Q).2.2.1 o = if o = P + 7 then va_cpy (x.2.2.1 (Q + 7)) (x.2.2.1 (P + 7)) 0 0 256 else if o = P + 2 then va_cpy (x.2.2.1 (Q + 2)) (x.2.2.1 (P + 2)) 0 0 4 else if o = P + 1 then va_cpy (x.2.2.1 (Q + 1)) (x.2.2.1 (P + 1)) 0 0 4 else x.2.2.1 o := rfl
theorem xTF_I (o k : Nat) : (xTF x P Q).1 o k = if o = P ∧ k = 2 then x.1 Q 2 else x.1 o k := rfl
/-- taking the frame of Q, with another width and height of the same factors -/
theorem xCr_fr (hg : gOk g) (hn : g'.2.2 = g.2.2) (hx : xPic x Q g) : xFr (rg_wI (rg_wI (xTF x P Q) P 0 (nI g'.1)) P 1 (nI g'.2.1)) P g' := by
  have hc4 := hg.2.2.2.2.2.1
  obtain ⟨⟨q1, q2, q3, q4, q5⟩, _⟩ := hx
  refine ⟨?_, ?_, ?_, ?_, ?_⟩
  · rw [wI_n _ _ (by omega), wI_s]
  · rw [wI_s]
  · rw [wI_n _ _ (by omega), wI_n _ _ (by omega), xTF_I, if_pos ⟨rfl, rfl⟩, q3, hn]
  · intro c hc
    rw [hn] at hc
    rw [wI_2, wI_2, xTF_A, if_neg (by omega), if_neg (by omega), if_pos rfl, pk_cpy_in (by omega) (by omega), Nat.sub_zero, Nat.zero_add, q4 c hc, hn]
  · intro c hc
    rw [hn] at hc
    rw [wI_2, wI_2, xTF_A, if_neg (by omega), if_pos rfl, pk_cpy_in (by omega) (by omega), Nat.sub_zero, Nat.zero_add, q5 c hc, hn]
theorem xCr_I {o k : Nat} (ho : o ≠ P) : (xCr x P Q g').1 o k = x.1 o k := by
  unfold xCr
  rw [xS_I, if_neg (by omega), xS0_n _ _ _ (Or.inl ho), wI_n _ _ (by omega), wI_n _ _ (by omega), xTF_I, if_neg (by omega)]
theorem xCr_A {o : Nat} (ho : o ≤ P ∨ P + 8 ≤ o ∨ o = P + 6) : (xCr x P Q g').2.2.1 o = x.2.2.1 o := by
  unfold xCr
  rw [xS_A, if_neg (by omega), if_neg (by omega), if_neg (by omega), wI_2, wI_2, xTF_A, if_neg (by omega), if_neg (by omega), if_neg (by omega)]
theorem xCr_7 : (xCr x P Q g').2.2.1 (P + 7) = va_cpy (x.2.2.1 (Q + 7)) (x.2.2.1 (P + 7)) 0 0 256 := by
  unfold xCr
  rw [xS_A, if_neg (by omega), if_neg (by omega), if_neg (by omega), wI_2, wI_2, xTF_A, if_pos rfl]
theorem xCr_Q (hP : isP P) (hQ : isP Q) (hPQ : P ≠ Q) (hx : xPic x Q g) : xPic (xCr x P Q g') Q g := by
  have hP' : P = 7 ∨ P = 15 := hP
  have hQ' : Q = 7 ∨ Q = 15 := hQ
  exact hx.c (fun k hk => xCr_I (fun e => hPQ e.symm)) (fun j j1 j2 => xCr_A (by omega))
theorem x_becomeCropped (hs : px_st X) (hP : isP P) (hQ : isP Q) (hPQ : P ≠ Q) (hg : gOk g) (hb : gBs g g.2.2.1 ≤ 192) (hx : xPic x Q g) {Xx Yy ww hh : Nat} (w1 : 1 ≤ ww) (h1 : 1 ≤ hh) (hX : Xx + ww ≤ gUA g) (hY : Yy + hh ≤ gUD g) (e' : g' = gCr g Xx Yy ww hh) :
    fX2_becomeCropped X (rg_p lX B w0 x) (B + P) (B + Q) (nI Xx) (nI Yy) (nI ww) (nI hh) = some (rg_p lX B w0 (rg_wA (xCr x P Q g') (P + 6) (fU (64 * gBs g' g'.2.2.1) (crV g g' Xx Yy (x.2.2.1 (Q + 6))) (x.2.2.1 (P + 6))))) := by
  have hP' : P = 7 ∨ P = 15 := hP
  have hQ' : Q = 7 ∨ Q = 15 := hQ
  obtain ⟨ok', ha, hd⟩ := gCr_ok hg w1 h1 hX hY
  rw [← e'] at ok' ha hd
  have hn : g'.2.2 = g.2.2 := by rw [e']; rfl
  have hgh := hg.h
  have hgv := hg.v
  have hua := hg.ua
  have hud := hg.ud
  have g1 := hg.2.1
  have g3 := hg.2.2.2.1
  have a1 : 8 * gH g * Xx < g.1 := gUp_gt (by omega) (show Xx < gUp g.1 (8 * gH g) from by unfold gUA at hX; omega)
  have a2 : 8 * gV_ g * Yy < g.2.1 := gUp_gt (by omega) (show Yy < gUp g.2.1 (8 * gV_ g) from by unfold gUD at hY; omega)
  have b1 : 8 * gH g * ww ≤ 16 * 8 := Nat.mul_le_mul (by omega) (by omega)
  have b2 : 8 * gV_ g * hh ≤ 16 * 8 := Nat.mul_le_mul (by omega) (by omega)
  have n8 : ∀ u v : Nat, nI u * 8 * nI v = nI (8 * v * u) := fun u v => by
    rw [show (8 : Int32) = nI 8 from rfl, pk_mul, pk_mul]
    congr 1
    rw [Nat.mul_comm u 8, Nat.mul_right_comm]
  unfold fX2_becomeCropped
  refine ob_v (rg_O hP.o) (ob_v (x_takeFrame hP hQ hPQ) ?_)
  refine ob_v (rg_I hQ.o rfl) (ob_v (rg_I hQ.o rfl) (ob_v (rg_I hQ.o rfl) ?_))
  have i0 : ∀ k, (xTF x P Q).1 Q k = x.1 Q k := fun k => by rw [xTF_I, if_neg (by omega)]
  rw [i0 0, i0 3, hx.1.1, hx.2.1, n8, n8, pk_sub (by omega), mminN (by omega) (by omega)]
  refine ob_v (rg_pI hP.o rfl _) (ob_v (rg_I hQ.o rfl) (ob_v (rg_I hQ.o rfl) (ob_v (rg_I hQ.o rfl) ?_)))
  rw [wI_n _ _ (by omega), wI_n _ _ (by omega), i0 1, i0 4, hx.1.2.1, hx.2.2.1, n8, n8, pk_sub (by omega), mminN (by omega) (by omega)]
  refine ob_v (rg_pI hP.o rfl _) (ob_v (rg_O hP.o) ?_)
  have ew : min (g.1 - 8 * gH g * Xx) (8 * gH g * ww) = g'.1 := by rw [e']; rfl
  have eh : min (g.2.1 - 8 * gV_ g * Yy) (8 * gV_ g * hh) = g'.2.1 := by rw [e']; rfl
  rw [ew, eh]
  refine ob_v (x_settle hP ok' (xCr_fr hg hn hx)) ?_
  have hb' : gBs g' g'.2.2.1 ≤ 192 := by
    have := gBs_le (g := g) (g' := g') hn (by omega) (by omega) g'.2.2.1
    rw [hn] at this ⊢
    omega
  have px : xPic (xCr x P Q g') P g' := xSt_pic (xCr_fr hg hn hx)
  have e := x_crop_c (X := X) (B := B) (w0 := w0) hs hP hQ hPQ hg ok' hb hb' hn ha hd px (xCr_Q hP hQ hPQ hx)
  rw [xCr_A (by omega), xCr_A (by omega)] at e
  exact e
theorem x_cropN (hP : isP P) (hR : x.2.1 0 4 = P) (hg : gOk g) (hx : xPic x P g) (ht : x.1 0 3 = 1) {a1 a2 a3 a4 : Int32} (hn : ¬ ∃ Xx Yy ww hh, crOk g a1 a2 a3 a4 Xx Yy ww hh) : fX11_cropTo X (rg_p lX B w0 x) (B + 0) a1 a2 a3 a4 = some (0, rg_p lX B w0 x) := by
  have hua := hg.ua
  have hud := hg.ud
  have e1 : (1 : Int32).toInt = 1 := by decide
  have gx : gR (rg_p lX B w0 x) (B + 0) 11 4 = some (B + P) := by rw [← hR]; exact rg_R rfl rfl
  unfold fX11_cropTo
  refine ob_v (rg_I rfl rfl) (ei_n (by rw [ht]; decide) ?_)
  by_cases h1 : a3 < 1
  · exact ei_t h1 rfl
  refine ei_n h1 ?_
  by_cases h2 : a4 < 1
  · exact ei_t h2 rfl
  refine ei_n h2 ?_
  by_cases h3 : a1 < 0
  · exact ei_t h3 rfl
  refine ei_n h3 ?_
  by_cases h4 : 0 ≤ a2
  · refine ei_t h4 (ob_v gx (ob_v (rg_O hP.o) (ob_v (x_unitsA hP hg hx.1.1 hx.2.1) (ob_v gx (ob_v (rg_O hP.o) (ob_v (x_unitsD hP hg hx.1.2.1 hx.2.2.1) ?_))))))
    by_cases h5 : nI (gUA g) ≤ a1
    · exact ei_t h5 rfl
    refine ei_n h5 ?_
    obtain ⟨u, hu, rfl⟩ : ∃ u, u < gUA g ∧ a1 = nI u := (i_place a1 (by omega)).resolve_right (fun e => e.elim h3 h5)
    rw [i_lt, e1] at h1 h2
    have p3 : a3 = nI a3.toInt.toNat := by rw [← iI_nat (by omega)]; exact iI_of a3
    have p4 : a4 = nI a4.toInt.toNat := by rw [← iI_nat (by omega)]; exact iI_of a4
    have i3 := i_hi a3
    have i4 := i_hi a4
    by_cases h6 : nI (gUA g) - nI u < a3
    · exact ei_t h6 rfl
    refine ei_n h6 ?_
    rw [pk_sub (by omega), p3, nI_ltI (by omega) (by omega)] at h6
    by_cases h7 : nI (gUD g) ≤ a2
    · exact ei_t h7 rfl
    refine ei_n h7 ?_
    obtain ⟨v, hv, rfl⟩ : ∃ v, v < gUD g ∧ a2 = nI v := (i_place a2 (by omega)).resolve_right (fun e => e.elim (fun e => absurd h4 (Int32.not_le.mpr e)) h7)
    refine ei_n (fun h8 => ?_) rfl
    dsimp only at h8
    rw [pk_sub (by omega), p4, nI_leI (by omega) (by omega)] at h8
    exact hn ⟨u, v, a3.toInt.toNat, a4.toInt.toNat, rfl, rfl, p3, p4, by omega, by omega, by omega, by omega⟩
  · exact ei_n h4 rfl
theorem x_crop1 (hs : px_st X) (hP : isP P) (hQ : isP Q) (hPQ : P ≠ Q) (hR : x.2.1 0 4 = Q) (hR' : x.2.1 0 5 = P) (ht : x.1 0 3 = 1) (hg : gOk g) (hb : gBs g g.2.2.1 ≤ 192) (hx : xPic x Q g) {Xx Yy ww hh : Nat} {a1 a2 a3 a4 : Int32} (hc : crOk g a1 a2 a3 a4 Xx Yy ww hh) (e' : g' = gCr g Xx Yy ww hh) :
    fX11_cropTo X (rg_p lX B w0 x) (B + 0) a1 a2 a3 a4 = some (1, rg_p lX B w0 (xTD (rg_wA (xCr x P Q g') (P + 6) (fU (64 * gBs g' g'.2.2.1) (crV g g' Xx Yy (x.2.2.1 (Q + 6))) (x.2.2.1 (P + 6)))) P Q)) := by
  obtain ⟨rfl, rfl, rfl, rfl, w1, h1, hX, hY⟩ := hc
  have hua := hg.ua
  have hud := hg.ud
  have gx : ∀ s : rg_S, s.2.1 = x.2.1 → gR (rg_p lX B w0 s) (B + 0) 11 4 = some (B + Q) := fun s es => by rw [← hR, ← es]; exact rg_R rfl rfl
  have gp : gR (rg_p lX B w0 x) (B + 0) 11 5 = some (B + P) := by rw [← hR']; exact rg_R rfl rfl
  unfold fX11_cropTo
  refine ob_v (rg_I rfl rfl) (ei_n (by rw [ht]; decide) (ei_n (nI_nlt (b := 1) w1 (by omega)) (ei_n (nI_nlt (b := 1) h1 (by omega)) (ei_n (nI_pos (by omega)) (ei_t (nI_0le (by omega)) ?_)))))
  refine ob_v (gx x rfl) (ob_v (rg_O hQ.o) (ob_v (x_unitsA hQ hg hx.1.1 hx.2.1) (ob_v (gx x rfl) (ob_v (rg_O hQ.o) (ob_v (x_unitsD hQ hg hx.1.2.1 hx.2.2.1) ?_)))))
  refine ei_n (nI_ge (by omega) (by omega)) (ei_n ?_ (ei_n (nI_ge (by omega) (by omega)) (ei_t ?_ ?_)))
  · dsimp only
    rw [pk_sub (by omega)]
    exact nI_nlt (by omega) (by omega)
  · dsimp only
    rw [pk_sub (by omega)]
    exact nI_le (by omega) (by omega)
  · refine ob_v gp (ob_v (gx x rfl) (ob_v (rg_O hP.o) (ob_v (x_becomeCropped hs hP hQ hPQ hg hb hx w1 h1 hX hY e') (ob_v (rg_O rfl) (ob_v (x_takeDraft (P := P) (Q := Q) ?_ ?_) rfl)))))
    · exact hR
    · exact hR'
end
