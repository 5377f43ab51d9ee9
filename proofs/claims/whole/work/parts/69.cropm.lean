/-! cropTo of the reference -/
theorem nar_ok {k : Nat} {v : Int32} (h : cfOk k v) : vp_nar .short v = v := by
  rw [vp_nar_short]
  exact sh_ok h
section
variable {X : px_X} {b B : Nat} {w0 w1 w : px_W} {x y : rg_S} {P Q : Nat} {g g' : gG}
theorem m_crop_k {V Z : Nat → Int32} {Xx Yy c q F M N : Nat} (hc : c < 4) (e62 : y.2.2.1 62 c = nI (gBs g' c)) (hq : gBs g' c + q < 192) (hF : F < 192) (hV : ∀ k, k < 64 → V (64 * (gBs g' c + q) + k) = vp_nar .short (y.2.2.1 65 (64 * F + k))) :
    fX15_cropTo_260 X (fX15_cropTo_166 X M) (fX15_cropTo_178 X (fX15_cropTo_166 X M) N) FU (b + 0) (nI Xx) (nI Yy) (nI c) (nI q) (nI F) 0 (rg_p lM b w0 (rg_wA y 64 (fU (64 * (gBs g' c + q)) V Z))) = fX15_cropTo_178 X (fX15_cropTo_166 X M) N (b + 0) (nI Xx) (nI Yy) (nI c) (nI (q + 1)) (rg_p lM b w0 (rg_wA y 64 (fU (64 * (gBs g' c + (q + 1))) V Z))) := by
  refine rg_lpF (F := fun u (t : Int32 × px_W) => fX15_cropTo_260 X (fX15_cropTo_166 X M) (fX15_cropTo_178 X (fX15_cropTo_166 X M) N) u (b + 0) (nI Xx) (nI Yy) (nI c) (nI q) (nI F) t.1 t.2) 64 (fun k => (nI k, rg_p lM b w0 (rg_wA y 64 (fU (64 * (gBs g' c + q) + k) V Z)))) (by omega) ?_ ?_
  · intro u k hk
    dsimp only
    rw [fX15_cropTo_260.eq_2]
    refine ei_n (nI_ge (b := 64) hk (by omega)) (ob_v (rg_C rfl rfl) (ob_v (rg_C rfl rfl) (ob_v (rg_A rfl (by decide) c (by omega) (by decide)) (ob_v (rg_C rfl rfl) ?_))))
    rw [wA_n _ _ (by decide), e62, n64, nI_add, n64]
    refine ob_v (rg_A rfl (by decide) _ (by omega) (by decide)) (ob_v (rg_sA _ rfl (by decide) _ _ (by omega) (by decide)) ?_)
    rw [wA_wA, wA_s, wA_n _ _ (by decide), ← hV k hk, fU_s, nI_1]
    rfl
  · intro u
    dsimp only
    rw [fX15_cropTo_260.eq_2]
    refine ei_t (by decide) ?_
    rw [fX15_cropTo_307, nI_1]
    rfl
theorem m_crop_q {V Z : Nat → Int32} {Xx Yy c M : Nat} (hg : gOk g) (hg' : gOk g') (hn : g'.2.2 = g.2.2) (hb : gBs g g.2.2.1 ≤ 192) (hb' : gBs g' g'.2.2.1 ≤ 192) (ha : gUA g' + Xx ≤ gUA g) (hd : gUD g' + Yy ≤ gUD g) (hy : mPic y g') (hc : c < g.2.2.1) (e66 : y.2.2.1 66 c = nI (gAc g c)) (e67 : y.2.2.1 67 c = nI (gBs g c)) (hV : ∀ q k, q < gAc g' c * gDn g' c → k < 64 → V (64 * (gBs g' c + q) + k) = vp_nar .short (y.2.2.1 65 (64 * crB g g' Xx Yy c q + k))) :
    fX15_cropTo_178 X (fX15_cropTo_166 X M) FU (b + 0) (nI Xx) (nI Yy) (nI c) 0 (rg_p lM b w0 (rg_wA y 64 (fU (64 * gBs g' c) V Z))) = fX15_cropTo_166 X M (b + 0) (nI Xx) (nI Yy) (nI (c + 1)) (rg_p lM b w0 (rg_wA y 64 (fU (64 * gBs g' (c + 1)) V Z))) := by
  have hc' : c < g'.2.2.1 := by rw [hn]; exact hc
  have hc4 := hg.2.2.2.2.2.1
  have had := hg'.ad hc'
  have hac := hg'.ac hc'
  have hua := hg.ua
  have hud := hg.ud
  have hfac := hg.2.2.2.2.2.2 c hc
  have m1 : Xx * g.2.2.2.1 c ≤ 8 * 2 := Nat.mul_le_mul (by omega) (by omega)
  have m2 : Yy * g.2.2.2.2 c ≤ 8 * 2 := Nat.mul_le_mul (by omega) (by omega)
  obtain ⟨e60, e61, e62⟩ := hy.2.2.2.2.2 c hc'
  have e58 := hy.1.2.2.2.1 c hc'
  have e59 := hy.1.2.2.2.2 c hc'
  have mono := gBs_mono (g := g') (c := c + 1) (d := g'.2.2.1) hc'
  have es : gBs g' (c + 1) = gBs g' c + gAc g' c * gDn g' c := rfl
  refine rg_lpF (F := fun u (t : Int32 × px_W) => fX15_cropTo_178 X (fX15_cropTo_166 X M) u (b + 0) (nI Xx) (nI Yy) (nI c) t.1 t.2) (gAc g' c * gDn g' c) (fun q => (nI q, rg_p lM b w0 (rg_wA y 64 (fU (64 * (gBs g' c + q)) V Z)))) (by omega) ?_ ?_
  · intro u q hq
    dsimp only
    have hci := cr_in (c := c) hn ha hd hq
    have hin2 := gB_in (g := g) hc hci.1 hci.2
    rw [fX15_cropTo_178.eq_2]
    refine ob_v (rg_C rfl rfl) (ob_v (rg_A rfl (by decide) c (by omega) (by decide)) (ob_v (rg_C rfl rfl) (ob_v (rg_A rfl (by decide) c (by omega) (by decide)) ?_)))
    rw [wA_n _ _ (by decide), wA_n _ _ (by decide), e60, e61, pk_mul, if_neg (nI_ge hq (by omega))]
    refine ob_v (rg_C rfl rfl) (ob_v (rg_A rfl (by decide) c (by omega) (by decide)) (ob_v (rg_C rfl rfl) (ob_v (rg_A rfl (by decide) c (by omega) (by decide)) ?_)))
    rw [wA_n _ _ (by decide), wA_n _ _ (by decide), e67, e60]
    refine ob_v (dI_n (by omega) (by omega) (by omega)) (ob_v (rg_C rfl rfl) (ob_v (rg_A rfl (by decide) c (by omega) (by decide)) (ob_v (rg_C rfl rfl) (ob_v (rg_A rfl (by decide) c (by omega) (by decide)) (ob_v (rg_C rfl rfl) (ob_v (rg_A rfl (by decide) c (by omega) (by decide)) ?_))))))
    rw [wA_n _ _ (by decide), wA_n _ _ (by decide), wA_n _ _ (by decide), e59, e66, e60]
    refine ob_v (rI_n (by omega) (by omega) (by omega)) (ob_v (rg_C rfl rfl) (ob_v (rg_A rfl (by decide) c (by omega) (by decide)) ?_))
    rw [wA_n _ _ (by decide), e58, pk_mul, nI_add, pk_mul, nI_add, nI_add, pk_mul, nI_add]
    have eB : gBs g c + (q / gAc g' c + Yy * g'.2.2.2.2 c) * gAc g c + q % gAc g' c + Xx * g'.2.2.2.1 c = crB g g' Xx Yy c q := by
      unfold crB
      rw [hn, Nat.add_comm (q / gAc g' c)]
      omega
    rw [eB]
    refine m_crop_k (by omega) e62 (by omega) ?_ (fun k hk => hV q k hq hk)
    unfold crB
    omega
  · intro u
    dsimp only
    rw [fX15_cropTo_178.eq_2]
    refine ob_v (rg_C rfl rfl) (ob_v (rg_A rfl (by decide) c (by omega) (by decide)) (ob_v (rg_C rfl rfl) (ob_v (rg_A rfl (by decide) c (by omega) (by decide)) ?_)))
    rw [wA_n _ _ (by decide), wA_n _ _ (by decide), e60, e61, pk_mul, if_pos (nI_le (Nat.le_refl _) (by omega)), fX15_cropTo_313, nI_1]
    rfl
theorem m_crop_c {V Z : Nat → Int32} {Xx Yy : Nat} (hg : gOk g) (hg' : gOk g') (hn : g'.2.2 = g.2.2) (hb : gBs g g.2.2.1 ≤ 192) (hb' : gBs g' g'.2.2.1 ≤ 192) (ha : gUA g' + Xx ≤ gUA g) (hd : gUD g' + Yy ≤ gUD g) (hy : mPic y g') (e66 : ∀ c, c < g.2.2.1 → y.2.2.1 66 c = nI (gAc g c)) (e67 : ∀ c, c < g.2.2.1 → y.2.2.1 67 c = nI (gBs g c)) (hZ : y.2.2.1 64 = Z) (hV : ∀ c q k, c < g.2.2.1 → q < gAc g' c * gDn g' c → k < 64 → V (64 * (gBs g' c + q) + k) = vp_nar .short (y.2.2.1 65 (64 * crB g g' Xx Yy c q + k))) :
    fX15_cropTo_166 X FU (b + 0) (nI Xx) (nI Yy) 0 (rg_p lM b w0 y) = some (1, rg_p lM b w0 (rg_wA y 64 (fU (64 * gBs g' g'.2.2.1) V Z))) := by
  have hc4 := hg.2.2.2.2.2.1
  have en : g'.2.2.1 = g.2.2.1 := by rw [hn]
  have e := rg_lpF (F := fun u (t : Int32 × px_W) => fX15_cropTo_166 X u (b + 0) (nI Xx) (nI Yy) t.1 t.2) g.2.2.1 (fun c => (nI c, rg_p lM b w0 (rg_wA y 64 (fU (64 * gBs g' c) V Z)))) (r := some (1, rg_p lM b w0 (rg_wA y 64 (fU (64 * gBs g' g'.2.2.1) V Z)))) (by omega) ?_ ?_
  · refine Eq.trans ?_ e
    dsimp only
    rw [show gBs g' 0 = 0 from rfl, Nat.mul_zero, fU_0, wA_id hZ, nI_0]
  · intro u c hc
    dsimp only
    rw [fX15_cropTo_166.eq_2]
    refine ob_v (rg_I rfl rfl) ?_
    rw [wA_1, hy.1.2.2.1, en, if_neg (nI_ge hc (by omega))]
    exact m_crop_q hg hg' hn hb hb' ha hd hy hc (e66 c hc) (e67 c hc) (fun q k => hV c q k hc)
  · intro u
    dsimp only
    rw [fX15_cropTo_166.eq_2]
    refine ob_v (rg_I rfl rfl) ?_
    rw [wA_1, hy.1.2.2.1, en, if_pos (nI_le (Nat.le_refl _) (by omega))]
theorem yCr_fr (hn : g'.2.2 = g.2.2) (hy : mPic y g) : mFr (rg_wI (rg_wI (yK y) 0 18 (nI g'.1)) 0 19 (nI g'.2.1)) g' := by
  obtain ⟨⟨q1, q2, q3, q4, q5⟩, _⟩ := hy
  refine ⟨rfl, rfl, ?_, ?_, ?_⟩
  · show y.1 0 20 = _
    rw [q3, hn]
  · intro c hc
    rw [hn] at hc
    show y.2.2.1 58 c = _
    rw [q4 c hc, hn]
  · intro c hc
    rw [hn] at hc
    show y.2.2.1 59 c = _
    rw [q5 c hc, hn]
theorem m_crop1 (ht : y.1 0 17 = 1) (hg : gOk g) (hb : gBs g g.2.2.1 ≤ 192) (hy : mPic y g) (hcf : ∀ i, i < 64 * gBs g g.2.2.1 → cfOk (i % 64) (y.2.2.1 64 i)) {Xx Yy ww hh : Nat} {a1 a2 a3 a4 : Int32} (hc : crOk g a1 a2 a3 a4 Xx Yy ww hh) (e' : g' = gCr g Xx Yy ww hh) :
    fX15_cropTo X (rg_p lM b w0 y) (b + 0) a1 a2 a3 a4 = some (1, rg_p lM b w0 (rg_wA (yCr y g') 64 (fU (64 * gBs g' g'.2.2.1) (crV g g' Xx Yy (y.2.2.1 64)) (fU 12288 (fun _ => 0) (y.2.2.1 64))))) := by
  obtain ⟨rfl, rfl, rfl, rfl, w1, h1, hX, hY⟩ := hc
  obtain ⟨ok', ha, hd⟩ := gCr_ok hg w1 h1 hX hY
  rw [← e'] at ok' ha hd
  have hn : g'.2.2 = g.2.2 := by rw [e']; rfl
  have hgh := hg.h
  have hgv := hg.v
  have hua := hg.ua
  have hud := hg.ud
  have g1 := hg.2.1
  have g3 := hg.2.2.2.1
  have hc4 := hg.2.2.2.2.2.1
  have a1 : 8 * gH g * Xx < g.1 := gUp_gt (by omega) (show Xx < gUp g.1 (8 * gH g) from by unfold gUA at hX; omega)
  have a2 : 8 * gV_ g * Yy < g.2.1 := gUp_gt (by omega) (show Yy < gUp g.2.1 (8 * gV_ g) from by unfold gUD at hY; omega)
  have b1 : 8 * gH g * ww ≤ 16 * 8 := Nat.mul_le_mul (by omega) (by omega)
  have b2 : 8 * gV_ g * hh ≤ 16 * 8 := Nat.mul_le_mul (by omega) (by omega)
  have n8 : ∀ u v : Nat, (8 : Int32) * nI u * nI v = nI (8 * u * v) := fun u v => by rw [show (8 : Int32) = nI 8 from rfl, pk_mul, pk_mul]
  have lg : ∀ u v t : Nat, u < 100 → v < 100 → t < 100 → ((nI u).toInt64 + (nI v).toInt64 ≤ (nI t).toInt64 ↔ u + v ≤ t) := fun u v t hu hv ht => by
    rw [nI_l (by omega), nI_l (by omega), nI_l (by omega), lN_add, lN_le (by omega) (by omega)]
  have hb' : gBs g' g'.2.2.1 ≤ 192 := by
    have := gBs_le (g := g) (g' := g') hn (by omega) (by omega) g'.2.2.1
    rw [hn] at this ⊢
    omega
  have fin : fX15_cropTo_156 X (b + 0) (nI Xx) (nI Yy) (nI g'.2.1) (b + 0) (rg_p lM b w0 (rg_wI (yK y) 0 18 (nI g'.1))) = some (1, rg_p lM b w0 (rg_wA (yCr y g') 64 (fU (64 * gBs g' g'.2.2.1) (crV g g' Xx Yy (y.2.2.1 64)) (fU 12288 (fun _ => 0) (y.2.2.1 64))))) := by
    unfold fX15_cropTo_156
    refine ob_v (rg_pI rfl rfl _) (ob_v (rg_O rfl) (ob_v (m_layOut ok' (yCr_fr hn hy)) ?_))
    have A : ∀ o, o < 60 ∨ 62 < o → (yCr y g').2.2.1 o = (yK y).2.2.1 o := fun o ho => by
      unfold yCr
      rw [yS_A, if_neg (by omega), if_neg (by omega), if_neg (by omega), wI_2, wI_2]
    refine m_crop_c (y := yCr y g') hg ok' hn hb hb' ha hd (ySt_pic (yCr_fr hn hy)) ?_ ?_ ?_ ?_
    · intro c hc
      rw [A 66 (by omega)]
      show fU 4 (y.2.2.1 60) (y.2.2.1 66) c = _
      rw [fU_lt (by omega), (hy.2.2.2.2.2 c hc).1]
    · intro c hc
      rw [A 67 (by omega)]
      show fU 4 (y.2.2.1 62) (y.2.2.1 67) c = _
      rw [fU_lt (by omega), (hy.2.2.2.2.2 c hc).2.2]
    · rw [A 64 (by omega)]
      rfl
    · intro c q k hc hq hk
      have hci := cr_in (c := c) hn ha hd hq
      have hin2 := gB_in (g := g) hc hci.1 hci.2
      have hlt : crB g g' Xx Yy c q < gBs g g.2.2.1 := by unfold crB; omega
      unfold crV
      rw [flV_at (by omega) hq hk, A 65 (by omega)]
      show _ = vp_nar .short (fU 12288 (kN (y.2.2.1 64)) (y.2.2.1 65) (64 * crB g g' Xx Yy c q + k))
      rw [fU_lt (by omega)]
      have cf := hcf (64 * crB g g' Xx Yy c q + k) (by omega)
      unfold kN
      rw [nar_ok cf, nar_ok cf]
  have ew : min (g.1 - 8 * gH g * Xx) (8 * gH g * ww) = g'.1 := by rw [e']; rfl
  have eh : min (g.2.1 - 8 * gV_ g * Yy) (8 * gV_ g * hh) = g'.2.1 := by rw [e']; rfl
  have fin2 : fX15_cropTo_122 X (b + 0) (nI Xx) (nI Yy) (nI hh) (nI (g.2.1 - 8 * gV_ g * Yy)) (nI g'.1) (b + 0) (rg_p lM b w0 (yK y)) = some (1, rg_p lM b w0 (rg_wA (yCr y g') 64 (fU (64 * gBs g' g'.2.2.1) (crV g g' Xx Yy (y.2.2.1 64)) (fU 12288 (fun _ => 0) (y.2.2.1 64))))) := by
    unfold fX15_cropTo_122
    refine ob_v (rg_pI rfl rfl _) (ob_v (rg_I rfl rfl) ?_)
    rw [show (rg_wI (yK y) 0 18 (nI g'.1)).1 0 27 = nI (gV_ g) from hy.2.2.1, n8]
    by_cases h : 8 * gV_ g * hh ≤ g.2.1 - 8 * gV_ g * Yy
    · refine ei_t (nI_le h (by omega)) (ob_v (rg_I rfl rfl) ?_)
      rw [show (rg_wI (yK y) 0 18 (nI g'.1)).1 0 27 = nI (gV_ g) from hy.2.2.1, n8, show 8 * gV_ g * hh = g'.2.1 by omega]
      exact fin
    · refine ei_n (nI_ge (by omega) (by omega)) ?_
      rw [show g.2.1 - 8 * gV_ g * Yy = g'.2.1 by omega]
      exact fin
  unfold fX15_cropTo
  refine ob_v (rg_I rfl rfl) (ei_n (by rw [ht]; decide) (ei_n (nI_nlt (b := 1) w1 (by omega)) (ei_n (nI_nlt (b := 1) h1 (by omega)) (ei_n (nI_pos (by omega)) (ei_n (nI_pos (by omega)) (ob_v (rg_I rfl rfl) ?_))))))
  rw [hy.2.2.2.1]
  refine ei_n (Int32.not_lt.mpr ((lg_cmp_le _ _).mpr ((lg _ _ _ (by omega) (by omega) (by omega)).mpr hX))) (ob_v (rg_I rfl rfl) ?_)
  rw [hy.2.2.2.2.1]
  refine ei_t ((lg_cmp_le _ _).mpr ((lg _ _ _ (by omega) (by omega) (by omega)).mpr hY)) (ob_v (rg_O rfl) (ob_v m_keep ?_))
  refine ob_v (rg_I rfl rfl) (ob_v (rg_I rfl rfl) (ob_v (rg_I rfl rfl) (ob_v (rg_I rfl rfl) (ob_v (rg_I rfl rfl) ?_))))
  rw [show (yK y).1 0 18 = nI g.1 from hy.1.1, show (yK y).1 0 26 = nI (gH g) from hy.2.1, show (yK y).1 0 19 = nI g.2.1 from hy.1.2.1, show (yK y).1 0 27 = nI (gV_ g) from hy.2.2.1, n8, n8, n8, pk_sub (by omega), pk_sub (by omega)]
  by_cases h : 8 * gH g * ww ≤ g.1 - 8 * gH g * Xx
  · refine ei_t (nI_le h (by omega)) (ob_v (rg_I rfl rfl) ?_)
    rw [show (yK y).1 0 26 = nI (gH g) from hy.2.1, n8, show 8 * gH g * ww = g'.1 by omega]
    exact fin2
  · refine ei_n (nI_ge (by omega) (by omega)) ?_
    rw [show g.1 - 8 * gH g * Xx = g'.1 by omega]
    exact fin2
theorem m_cropN (ht : y.1 0 17 = 1) (hg : gOk g) (hy : mPic y g) {a1 a2 a3 a4 : Int32} (hn : ¬ ∃ Xx Yy ww hh, crOk g a1 a2 a3 a4 Xx Yy ww hh) : fX15_cropTo X (rg_p lM b w0 y) (b + 0) a1 a2 a3 a4 = some (0, rg_p lM b w0 y) := by
  have hua := hg.ua
  have hud := hg.ud
  have e1 : (1 : Int32).toInt = 1 := by decide
  have e0 : (0 : Int32).toInt = 0 := by decide
  unfold fX15_cropTo
  refine ob_v (rg_I rfl rfl) (ei_n (by rw [ht]; decide) ?_)
  by_cases h1 : a3 < 1
  · exact ei_t h1 rfl
  refine ei_n h1 ?_
  by_cases h2 : a4 < 1
  · exact ei_t h2 rfl
  refine ei_n h2 ?_
  by_cases h3 : a1 < 0
  · exact ei_t h3 rfl
  refine ei_n h3 ?_
  by_cases h4 : a2 < 0
  · exact ei_t h4 rfl
  refine ei_n h4 (ob_v (rg_I rfl rfl) ?_)
  rw [i_lt, e1] at h1 h2
  rw [i_lt, e0] at h3 h4
  have p1 : a1 = nI a1.toInt.toNat := by rw [← iI_nat (by omega)]; exact iI_of a1
  have p2 : a2 = nI a2.toInt.toNat := by rw [← iI_nat (by omega)]; exact iI_of a2
  have p3 : a3 = nI a3.toInt.toNat := by rw [← iI_nat (by omega)]; exact iI_of a3
  have p4 : a4 = nI a4.toInt.toNat := by rw [← iI_nat (by omega)]; exact iI_of a4
  have i1 := i_hi a1
  have i2 := i_hi a2
  have i3 := i_hi a3
  have i4 := i_hi a4
  have lg : ∀ (u v : Int32) (t : Nat), t < 100 → (u.toInt64 + v.toInt64 ≤ (nI t).toInt64 ↔ u.toInt + v.toInt ≤ t) := fun u v t ht => by
    have := i_lo u
    have := i_lo v
    have := i_hi u
    have := i_hi v
    rw [l_le, i_l, i_l, i_l, lI_add, lI_t (by omega) (by omega), n_t (by omega), lI_t (by omega) (by omega)]
  rw [hy.2.2.2.1]
  by_cases h5 : a1.toInt + a3.toInt ≤ gUA g
  · refine ei_n (Int32.not_lt.mpr ((lg_cmp_le _ _).mpr ((lg a1 a3 _ (by omega)).mpr h5))) (ob_v (rg_I rfl rfl) ?_)
    rw [hy.2.2.2.2.1]
    refine ei_n (fun e => ?_) rfl
    have h6 := (lg a2 a4 _ (by omega)).mp ((lg_cmp_le _ _).mp e)
    exact hn ⟨_, _, _, _, p1, p2, p3, p4, by omega, by omega, by omega, by omega⟩
  · refine ei_t (Int32.not_le.mp (fun e => h5 ((lg a1 a3 _ (by omega)).mp ((lg_cmp_le _ _).mp e)))) rfl
theorem o_crop (hs : px_st X) (hr : Rel x y) (a1 a2 a3 a4 : Int32) : op2 X B b (fun w => fX11_cropTo X w (B + 0) a1 a2 a3 a4) (fun w => fX15_cropTo X w (b + 0) a1 a2 a3 a4) x y := by
  obtain ⟨Q, hP1, hR, h5⟩ := hr.2.2.2.2.2.1
  have hQ : isP Q := by unfold isP; omega
  rcases h5 with ⟨t1, t2⟩ | ⟨t1, t2, g, hp⟩
  · refine ⟨0, x, y, fun w0 => ?_, fun w0 => ?_, hr⟩
    · dsimp only
      unfold fX11_cropTo
      exact ob_v (rg_I rfl rfl) (ei_t t1 rfl)
    · dsimp only
      unfold fX15_cropTo
      exact ob_v (rg_I rfl rfl) (ei_t t2 rfl)
  · by_cases hn : ∃ Xx Yy ww hh, crOk g a1 a2 a3 a4 Xx Yy ww hh
    · obtain ⟨Xx, Yy, ww, hh, hc⟩ := hn
      obtain ⟨P, hP, hPQ, hR'⟩ : ∃ P, isP P ∧ P ≠ Q ∧ x.2.1 0 5 = P := ⟨x.2.1 0 5, by unfold isP; omega, by omega, rfl⟩
      have hP' : P = 7 ∨ P = 15 := hP
      have hQ' : Q = 7 ∨ Q = 15 := hQ
      obtain ⟨pg, pb, px, py, pc, ps⟩ := hp
      have hc' := hc
      obtain ⟨_, _, _, _, w1, h1, hX, hY⟩ := hc'
      obtain ⟨ok', ha, hd⟩ := gCr_ok pg w1 h1 hX hY
      have hn : (gCr g Xx Yy ww hh).2.2 = g.2.2 := rfl
      have hc4 := pg.2.2.2.2.2.1
      refine ⟨1, _, _, fun w0 => x_crop1 hs hP hQ hPQ hR hR' t1 pg pb px hc rfl, fun w0 => m_crop1 t2 pg pb py (fun i hi => (pc i hi).2) hc rfl, ?_⟩
      refine hr.newpic (g := gCr g Xx Yy ww hh) hP hQ hPQ (fun o k ho => ?_) rfl (fun o ho => ?_) (fun o k hk => ?_) (fun o ho => ?_) t2 ?_
      · rw [wA_1]
        exact xCr_I (by omega)
      · rw [wA_n _ _ (by omega)]
        exact xCr_A (by omega)
      · rw [wA_1]
        unfold yCr
        rw [yS_I, yS1_I, if_neg (by omega), if_neg (by omega), if_neg (by omega), if_neg (by omega), wI_n _ _ (by omega), wI_n _ _ (by omega)]
        rfl
      · rw [wA_n _ _ (by omega)]
        unfold yCr
        rw [yS_A, if_neg (by omega), if_neg (by omega), if_neg (by omega), wI_2, wI_2, yK_A, if_neg (by omega), if_neg (by omega), if_neg (by omega), if_neg (by omega), if_neg (by omega)]
      · have bl := gBs_le (g := g) (g' := gCr g Xx Yy ww hh) hn (by omega) (by omega) g.2.2.1
        refine ⟨ok', by show gBs (gCr g Xx Yy ww hh) g.2.2.1 ≤ 192; omega, (xSt_pic (xCr_fr pg hn px)).wA (fun j j1 j2 => by omega), ?_, ?_, ?_⟩
        · have := ySt_pic (yCr_fr (y := y) (g' := gCr g Xx Yy ww hh) hn py)
          exact this
        · intro i hi
          rw [wA_s, wA_s, fU_lt hi, fU_lt hi]
          obtain ⟨c, q, k, hc, hq, hk, rfl⟩ := fl_in hi
          have hc2 : c < g.2.2.1 := hc
          have hci := cr_in (c := c) hn ha hd hq
          have hin2 := gB_in (g := g) hc2 hci.1 hci.2
          have hlt : crB g (gCr g Xx Yy ww hh) Xx Yy c q < gBs g g.2.2.1 := by unfold crB; omega
          unfold crV
          rw [flV_at (by omega) hq hk, flV_at (by omega) hq hk]
          have := pc (64 * crB g (gCr g Xx Yy ww hh) Xx Yy c q + k) (by omega)
          rw [show (64 * crB g (gCr g Xx Yy ww hh) Xx Yy c q + k) % 64 = k by omega] at this
          rw [show (64 * (gBs (gCr g Xx Yy ww hh) c + q) + k) % 64 = k by omega]
          exact this
        · intro i hi
          have hi' : i < 64 * g.2.2.1 := hi
          have := ps i hi'
          rw [wA_n _ _ (by omega), wA_n _ _ (by decide), xCr_7, pk_cpy_in (by omega) (by omega), Nat.sub_zero, Nat.zero_add]
          exact this
    · exact ⟨0, x, y, fun w0 => x_cropN hQ hR hp.1 hp.2.2.1 t1 hn, fun w0 => m_cropN t2 hp.1 hp.2.2.2.1 hn, hr⟩
end
