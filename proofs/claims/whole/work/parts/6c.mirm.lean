/-! the reference's mirror -/
section
variable {X : px_X} {b B : Nat} {w0 w1 w : px_W} {x y : rg_S} {P Q : Nat} {g g' : gG} {F S : Nat → Int32} {m f : Nat}
theorem neg_ok {k : Nat} {v : Int32} (h : cfOk k v) (hk : k ≠ 0) : cfOk k (-v) := by
  unfold cfOk at *
  rw [if_neg hk] at *
  have e : (-v).toInt = -v.toInt := by
    conv => lhs; rw [iI_of v, iI_neg]
    exact iI_t (by omega) (by omega)
  rw [e]
  omega
theorem zg_0 : zg 0 = 0 := by decide
theorem tbv_ok {k : Nat} {v : Int32} (h : cfOk k v) : cfOk k (tbv m f k v) := by
  unfold tbv
  split
  · exact h
  · rename_i e
    refine neg_ok h (fun k0 => e ?_)
    subst k0
    rw [zg_0]
    omega
/-- mirror(isAcross): isAcross is m, the flip is 1 - m -/
theorem m_mir_k {V Z : Nat → Int32} {c q Fb M N : Nat} (hm : m < 2) (hz : (∀ k, k < 64 → y.2.2.1 69 k = nI (zg k / 8) ∧ y.2.2.1 70 k = nI (zg k % 8))) (hc : c < 4) (e62 : y.2.2.1 62 c = nI (gBs g' c)) (hq : gBs g' c + q < 192) (hF : Fb < 192) (hcf : ∀ k, k < 64 → cfOk k (y.2.2.1 65 (64 * Fb + k))) (hV : ∀ k, k < 64 → V (64 * (gBs g' c + q) + k) = tbv m (1 - m) k (y.2.2.1 65 (64 * Fb + k))) :
    fX15_mirror_188 X (fX15_mirror_80 X M) (fX15_mirror_90 X (fX15_mirror_80 X M) N) FU (b + 0) (nI m) (nI c) (nI q) (nI Fb) 0 (rg_p lM b w0 (rg_wA y 64 (fU (64 * (gBs g' c + q)) V Z))) = fX15_mirror_90 X (fX15_mirror_80 X M) N (b + 0) (nI m) (nI c) (nI (q + 1)) (rg_p lM b w0 (rg_wA y 64 (fU (64 * (gBs g' c + (q + 1))) V Z))) := by
  have fm : ∀ n, n < 2 → (nI n = 0 ↔ n = 0) := fun n hn => nI_eq (b := 0) (by omega) (by omega)
  refine rg_lpF (F := fun u (t : Int32 × px_W) => fX15_mirror_188 X (fX15_mirror_80 X M) (fX15_mirror_90 X (fX15_mirror_80 X M) N) u (b + 0) (nI m) (nI c) (nI q) (nI Fb) t.1 t.2) 64 (fun k => (nI k, rg_p lM b w0 (rg_wA y 64 (fU (64 * (gBs g' c + q) + k) V Z)))) (by omega) ?_ ?_
  · intro u k hk
    dsimp only
    have hzk := zg_lt hk
    have hv := hV k hk
    have hcv := hcf k hk
    have ok := tbv_ok (m := m) (f := 1 - m) hcv
    have f267 : ∀ v, v = V (64 * (gBs g' c + q) + k) → fX15_mirror_267 X (fX15_mirror_80 X M) (fX15_mirror_90 X (fX15_mirror_80 X M) N) (fX15_mirror_188 X (fX15_mirror_80 X M) (fX15_mirror_90 X (fX15_mirror_80 X M) N) u) (b + 0) (nI m) (nI c) (nI q) (nI Fb) (nI k) v ((64 * (nI (gBs g' c) + nI q)) + nI k) (b + 64) (rg_p lM b w0 (rg_wA y 64 (fU (64 * (gBs g' c + q) + k) V Z))) = fX15_mirror_188 X (fX15_mirror_80 X M) (fX15_mirror_90 X (fX15_mirror_80 X M) N) u (b + 0) (nI m) (nI c) (nI q) (nI Fb) (nI (k + 1)) (rg_p lM b w0 (rg_wA y 64 (fU (64 * (gBs g' c + q) + (k + 1)) V Z))) := by
      rintro v rfl
      unfold fX15_mirror_267
      rw [nI_add, n64]
      refine ob_v (rg_sA _ rfl (by decide) _ _ (by omega) (by decide)) ?_
      rw [wA_wA, wA_s, pk_vs, hv, sh_ok ok, ← hv, fU_s, nI_1]
      rfl
    have f216 : ∀ z : Nat, z < 8 → (z % 2 = 1 ↔ (if m = 1 then zg k % 2 = 1 else zg k / 8 % 2 = 1)) → fX15_mirror_216 X (fX15_mirror_80 X M) (fX15_mirror_90 X (fX15_mirror_80 X M) N) (fX15_mirror_188 X (fX15_mirror_80 X M) (fX15_mirror_90 X (fX15_mirror_80 X M) N) u) (b + 0) (nI m) (nI c) (nI q) (nI Fb) (nI k) (nI z) (rg_p lM b w0 (rg_wA y 64 (fU (64 * (gBs g' c + q) + k) V Z))) = fX15_mirror_188 X (fX15_mirror_80 X M) (fX15_mirror_90 X (fX15_mirror_80 X M) N) u (b + 0) (nI m) (nI c) (nI q) (nI Fb) (nI (k + 1)) (rg_p lM b w0 (rg_wA y 64 (fU (64 * (gBs g' c + q) + (k + 1)) V Z))) := by
      intro z z8 hzz
      unfold fX15_mirror_216
      refine ob_v (rI_n (d := 2) (by omega) (by decide) (by decide)) (ob_v (rg_C rfl rfl) ?_)
      rw [n64]
      refine ob_v (rg_A rfl (by decide) _ (by omega) (by decide)) (ob_v (rg_C rfl rfl) (ob_v (rg_C rfl rfl) (ob_v (rg_A rfl (by decide) c (by omega) (by decide)) ?_)))
      rw [wA_n _ _ (by decide), wA_n _ _ (by decide), e62]
      unfold tbv at hv
      by_cases o : z % 2 = 1
      · rw [o]
        refine ei_t rfl (f267 _ ?_)
        rw [hv, if_neg]
        intro e
        have h1 := hzz.mp o
        by_cases m1 : m = 1
        · rw [if_pos m1] at h1
          have := e.mp ⟨m1, h1⟩
          omega
        · rw [if_neg m1] at h1
          have := e.mpr ⟨by omega, h1⟩
          omega
      · rw [show z % 2 = 0 by omega]
        refine ei_n (by decide) (f267 _ ?_)
        rw [hv, if_pos]
        have h1 : ¬ (if m = 1 then zg k % 2 = 1 else zg k / 8 % 2 = 1) := fun e => o (hzz.mpr e)
        by_cases m1 : m = 1
        · rw [if_pos m1] at h1
          constructor
          · intro e; exact absurd e.2 h1
          · intro e; omega
        · rw [if_neg m1] at h1
          constructor
          · intro e; omega
          · intro e; exact absurd e.2 h1
    rw [fX15_mirror_188.eq_2]
    refine ei_n (nI_ge (b := 64) hk (by omega)) ?_
    by_cases m0 : m = 0
    · refine ei_t ((fm m hm).mpr m0) (ob_v (rg_C rfl rfl) (ob_v (rg_A rfl (by decide) k (by omega) (by decide)) ?_))
      rw [wA_n _ _ (by decide), (hz k hk).1]
      exact f216 _ (by omega) (by rw [if_neg (by omega)])
    · refine ei_n (fun e => m0 ((fm m hm).mp e)) (ob_v (rg_C rfl rfl) (ob_v (rg_A rfl (by decide) k (by omega) (by decide)) ?_))
      rw [wA_n _ _ (by decide), (hz k hk).2]
      exact f216 _ (by omega) (by rw [if_pos (by omega)]; omega)
  · intro u
    dsimp only
    rw [fX15_mirror_188.eq_2]
    refine ei_t (by decide) ?_
    rw [fX15_mirror_275, nI_1]
    rfl
theorem m_mir_q {V Z : Nat → Int32} {c M : Nat} (hm : m < 2) (hz : (∀ k, k < 64 → y.2.2.1 69 k = nI (zg k / 8) ∧ y.2.2.1 70 k = nI (zg k % 8))) (hg : gOk g) (hg' : gOk g') (hn : g'.2.2 = g.2.2) (hb : gBs g g.2.2.1 ≤ 192) (hb' : gBs g' g'.2.2.1 ≤ 192) (ha : gUA g' ≤ gUA g) (hd : gUD g' ≤ gUD g) (hy : mPic y g') (hc : c < g.2.2.1) (e66 : y.2.2.1 66 c = nI (gAc g c)) (e67 : y.2.2.1 67 c = nI (gBs g c)) (hcf : ∀ i, i < 64 * gBs g g.2.2.1 → cfOk (i % 64) (y.2.2.1 65 i)) (hV : ∀ q k, q < gAc g' c * gDn g' c → k < 64 → V (64 * (gBs g' c + q) + k) = tbv m (1 - m) k (y.2.2.1 65 (64 * rfB g g' m (1 - m) c q + k))) :
    fX15_mirror_90 X (fX15_mirror_80 X M) FU (b + 0) (nI m) (nI c) 0 (rg_p lM b w0 (rg_wA y 64 (fU (64 * gBs g' c) V Z))) = fX15_mirror_80 X M (b + 0) (nI m) (nI (c + 1)) (rg_p lM b w0 (rg_wA y 64 (fU (64 * gBs g' (c + 1)) V Z))) := by
  have fm : ∀ n, n < 2 → (nI n = 0 ↔ n = 0) := fun n hn => nI_eq (b := 0) (by omega) (by omega)
  have hc' : c < g'.2.2.1 := by rw [hn]; exact hc
  have hc4 := hg.2.2.2.2.2.1
  have had := hg'.ad hc'
  have hac := hg'.ac hc'
  have hdn := hg'.dn hc'
  obtain ⟨e60, e61, e62⟩ := hy.2.2.2.2.2 c hc'
  have mono := gBs_mono (g := g') (c := c + 1) (d := g'.2.2.1) hc'
  have es : gBs g' (c + 1) = gBs g' c + gAc g' c * gDn g' c := rfl
  refine rg_lpF (F := fun u (t : Int32 × px_W) => fX15_mirror_90 X (fX15_mirror_80 X M) u (b + 0) (nI m) (nI c) t.1 t.2) (gAc g' c * gDn g' c) (fun q => (nI q, rg_p lM b w0 (rg_wA y 64 (fU (64 * (gBs g' c + q)) V Z)))) (by omega) ?_ ?_
  · intro u q hq
    dsimp only
    have hci := rf_in (m := m) (f := 1 - m) hn ha hd hc hq
    have m1 := Nat.mod_lt q (show 0 < gAc g' c by omega)
    have m2 : q / gAc g' c < gDn g' c := Nat.div_lt_of_lt_mul hq
    have fin : fX15_mirror_188 X (fX15_mirror_80 X M) (fX15_mirror_90 X (fX15_mirror_80 X M) u) FU (b + 0) (nI m) (nI c) (nI q) (nI (rfB g g' m (1 - m) c q)) 0 (rg_p lM b w0 (rg_wA y 64 (fU (64 * (gBs g' c + q)) V Z))) = fX15_mirror_90 X (fX15_mirror_80 X M) u (b + 0) (nI m) (nI c) (nI (q + 1)) (rg_p lM b w0 (rg_wA y 64 (fU (64 * (gBs g' c + (q + 1))) V Z))) := by
      refine m_mir_k hm hz (by omega) e62 (by omega) (by omega) (fun k hk => ?_) (fun k hk => hV q k hq hk)
      have := hcf (64 * rfB g g' m (1 - m) c q + k) (by omega)
      rw [show (64 * rfB g g' m (1 - m) c q + k) % 64 = k by omega] at this
      exact this
    rw [fX15_mirror_90.eq_2]
    refine ob_v (rg_C rfl rfl) (ob_v (rg_A rfl (by decide) c (by omega) (by decide)) (ob_v (rg_C rfl rfl) (ob_v (rg_A rfl (by decide) c (by omega) (by decide)) ?_)))
    rw [wA_n _ _ (by decide), wA_n _ _ (by decide), e60, e61, pk_mul, if_neg (nI_ge hq (by omega))]
    refine ob_v (rg_C rfl rfl) (ob_v (rg_A rfl (by decide) c (by omega) (by decide)) ?_)
    rw [wA_n _ _ (by decide), e60]
    refine ob_v (rI_n (by omega) (by omega) (by omega)) (ob_v (rg_C rfl rfl) (ob_v (rg_A rfl (by decide) c (by omega) (by decide)) ?_))
    rw [wA_n _ _ (by decide), e60]
    refine ob_v (dI_n (by omega) (by omega) (by omega)) (ob_v (rg_C rfl rfl) (ob_v (rg_A rfl (by decide) c (by omega) (by decide)) ?_))
    rw [wA_n _ _ (by decide), e67]
    by_cases m0 : m = 0
    · refine ei_t ((fm m hm).mpr m0) (ob_v (rg_C rfl rfl) (ob_v (rg_A rfl (by decide) c (by omega) (by decide)) (ob_v (rg_C rfl rfl) (ob_v (rg_A rfl (by decide) c (by omega) (by decide)) ?_))))
      rw [wA_n _ _ (by decide), wA_n _ _ (by decide), e61, e66, fX15_mirror_182, show nI (gDn g' c) - 1 = nI (gDn g' c - 1) from pk_sub (b := 1) (by omega), pk_sub (by generalize q / gAc g' c = z at m2 ⊢; omega), pk_mul, nI_add, nI_add]
      have eB : gBs g c + ((gDn g' c - 1 - q / gAc g' c) * gAc g c + q % gAc g' c) = rfB g g' m (1 - m) c q := by
        unfold rfB
        rw [if_pos (by omega), if_neg (by omega), Nat.add_assoc]
      rw [eB]
      exact fin
    · refine ei_n (fun e => m0 ((fm m hm).mp e)) (ob_v (rg_C rfl rfl) (ob_v (rg_A rfl (by decide) c (by omega) (by decide)) (ob_v (rg_C rfl rfl) (ob_v (rg_A rfl (by decide) c (by omega) (by decide)) ?_))))
      rw [wA_n _ _ (by decide), wA_n _ _ (by decide), e66, e60, fX15_mirror_182, pk_mul, nI_add, show nI (q / gAc g' c * gAc g c + gAc g' c) - 1 = nI (q / gAc g' c * gAc g c + gAc g' c - 1) from pk_sub (b := 1) (by omega), pk_sub (by omega), nI_add]
      have eB : gBs g c + (q / gAc g' c * gAc g c + gAc g' c - 1 - q % gAc g' c) = rfB g g' m (1 - m) c q := by
        unfold rfB
        rw [if_neg (by omega), if_pos (by omega)]
        omega
      rw [eB]
      exact fin
  · intro u
    dsimp only
    rw [fX15_mirror_90.eq_2]
    refine ob_v (rg_C rfl rfl) (ob_v (rg_A rfl (by decide) c (by omega) (by decide)) (ob_v (rg_C rfl rfl) (ob_v (rg_A rfl (by decide) c (by omega) (by decide)) ?_)))
    rw [wA_n _ _ (by decide), wA_n _ _ (by decide), e60, e61, pk_mul, if_pos (nI_le (Nat.le_refl _) (by omega)), fX15_mirror_281, nI_1]
    rfl
theorem m_mir_c {V Z : Nat → Int32} (hm : m < 2) (hz : (∀ k, k < 64 → y.2.2.1 69 k = nI (zg k / 8) ∧ y.2.2.1 70 k = nI (zg k % 8))) (hg : gOk g) (hg' : gOk g') (hn : g'.2.2 = g.2.2) (hb : gBs g g.2.2.1 ≤ 192) (hb' : gBs g' g'.2.2.1 ≤ 192) (ha : gUA g' ≤ gUA g) (hd : gUD g' ≤ gUD g) (hy : mPic y g') (e66 : ∀ c, c < g.2.2.1 → y.2.2.1 66 c = nI (gAc g c)) (e67 : ∀ c, c < g.2.2.1 → y.2.2.1 67 c = nI (gBs g c)) (hZ : y.2.2.1 64 = Z) (hcf : ∀ i, i < 64 * gBs g g.2.2.1 → cfOk (i % 64) (y.2.2.1 65 i)) (hV : ∀ c q k, c < g.2.2.1 → q < gAc g' c * gDn g' c → k < 64 → V (64 * (gBs g' c + q) + k) = tbv m (1 - m) k (y.2.2.1 65 (64 * rfB g g' m (1 - m) c q + k))) :
    fX15_mirror_80 X FU (b + 0) (nI m) 0 (rg_p lM b w0 y) = some (rg_p lM b w0 (rg_wA y 64 (fU (64 * gBs g' g'.2.2.1) V Z))) := by
  have hc4 := hg.2.2.2.2.2.1
  have en : g'.2.2.1 = g.2.2.1 := by rw [hn]
  have e := rg_lpF (F := fun u (t : Int32 × px_W) => fX15_mirror_80 X u (b + 0) (nI m) t.1 t.2) g.2.2.1 (fun c => (nI c, rg_p lM b w0 (rg_wA y 64 (fU (64 * gBs g' c) V Z)))) (r := some (rg_p lM b w0 (rg_wA y 64 (fU (64 * gBs g' g'.2.2.1) V Z)))) (by omega) ?_ ?_
  · refine Eq.trans ?_ e
    dsimp only
    rw [show gBs g' 0 = 0 from rfl, Nat.mul_zero, fU_0, wA_id hZ, nI_0]
  · intro u c hc
    dsimp only
    rw [fX15_mirror_80.eq_2]
    refine ob_v (rg_I rfl rfl) ?_
    rw [wA_1, hy.1.2.2.1, en, if_neg (nI_ge hc (by omega))]
    exact m_mir_q hm hz hg hg' hn hb hb' ha hd hy hc (e66 c hc) (e67 c hc) hcf (fun q k => hV c q k hc)
  · intro u
    dsimp only
    rw [fX15_mirror_80.eq_2]
    refine ob_v (rg_I rfl rfl) ?_
    rw [wA_1, hy.1.2.2.1, en, if_pos (nI_le (Nat.le_refl _) (by omega))]
theorem m_mirror (hz : (∀ k, k < 64 → y.2.2.1 69 k = nI (zg k / 8) ∧ y.2.2.1 70 k = nI (zg k % 8))) (h : YP y g F S) (hr : rfOk g m (1 - m)) : ∃ y', (∀ w0, fX15_mirror X (rg_p lM b w0 y) (b + 0) (nI m) = some (rg_p lM b w0 y')) ∧ YP y' (gRf g m (1 - m)) (rfV g (gRf g m (1 - m)) m (1 - m) F) S ∧ FY y y' := by
  obtain ⟨ht, hg, hb, py, pc, ps⟩ := h
  have hc4 := hg.2.2.2.2.2.1
  have hgh := hg.h
  have hgv := hg.v
  have g1 := hg.2.1
  have g3 := hg.2.2.2.1
  have hm := hr.1
  obtain ⟨ok', ha, hd⟩ := gRf_ok hg hr
  have hn : (gRf g m (1 - m)).2.2 = g.2.2 := rfl
  have bl := gBs_le (g := g) (g' := gRf g m (1 - m)) hn ha hd g.2.2.1
  have hb' : gBs (gRf g m (1 - m)) (gRf g m (1 - m)).2.2.1 ≤ 192 := by show gBs (gRf g m (1 - m)) g.2.2.1 ≤ 192; omega
  have fm : ∀ n, n < 2 → (nI n = 0 ↔ n = 0) := fun n hn => nI_eq (b := 0) (by omega) (by omega)
  have n8 : ∀ u, (8 : Int32) * nI u = nI (8 * u) := fun u => pk_mul 8 u
  have n88 : ∀ u v : Nat, nI u * 8 * nI v = nI (u * (8 * v)) := fun u v => by rw [show (8 : Int32) = nI 8 from rfl, pk_mul, pk_mul, Nat.mul_assoc]
  have A : ∀ o, o < 60 ∨ 62 < o → (yCr y (gRf g m (1 - m))).2.2.1 o = (yK y).2.2.1 o := fun o ho => by
    unfold yCr
    rw [yS_A, if_neg (by omega), if_neg (by omega), if_neg (by omega), wI_2, wI_2]
  have old : ∀ i, i < 64 * gBs g g.2.2.1 → (yCr y (gRf g m (1 - m))).2.2.1 65 i = F i := fun i hi => by
    rw [A 65 (by omega)]
    show fU 12288 (kN (y.2.2.1 64)) (y.2.2.1 65) i = _
    rw [fU_lt (by omega)]
    unfold kN
    have := pc i hi
    rw [this.1, nar_ok this.2]
  refine ⟨rg_wA (yCr y (gRf g m (1 - m))) 64 (fU (64 * gBs (gRf g m (1 - m)) g.2.2.1) (rfV g (gRf g m (1 - m)) m (1 - m) F) (fU 12288 (fun _ => 0) (y.2.2.1 64))), fun w0 => ?_, ⟨ht, ok', hb', ?_, ?_, ?_⟩, ?_, ?_⟩
  · have fin : fX15_mirror_71 X (b + 0) (nI m) (nI (gRf g m (1 - m)).2.1) (b + 0) (rg_p lM b w0 (rg_wI (yK y) 0 18 (nI (gRf g m (1 - m)).1))) = some (rg_p lM b w0 (rg_wA (yCr y (gRf g m (1 - m))) 64 (fU (64 * gBs (gRf g m (1 - m)) g.2.2.1) (rfV g (gRf g m (1 - m)) m (1 - m) F) (fU 12288 (fun _ => 0) (y.2.2.1 64))))) := by
      unfold fX15_mirror_71
      refine ob_v (rg_pI rfl rfl _) (ob_v (rg_O rfl) (ob_v (m_layOut ok' (yCr_fr hn py)) ?_))
      refine m_mir_c (y := yCr y (gRf g m (1 - m))) hm ?_ hg ok' hn hb hb' ha hd (ySt_pic (yCr_fr hn py)) ?_ ?_ ?_ ?_ ?_
      · rw [A 69 (by omega), A 70 (by omega)]
        exact hz
      · intro c hc
        rw [A 66 (by omega)]
        show fU 4 (y.2.2.1 60) (y.2.2.1 66) c = _
        rw [fU_lt (by omega), (py.2.2.2.2.2 c hc).1]
      · intro c hc
        rw [A 67 (by omega)]
        show fU 4 (y.2.2.1 62) (y.2.2.1 67) c = _
        rw [fU_lt (by omega), (py.2.2.2.2.2 c hc).2.2]
      · rw [A 64 (by omega)]
        rfl
      · intro i hi
        rw [old i hi]
        exact (pc i hi).2
      · intro c q k hc hq hk
        have hci := rf_in (m := m) (f := 1 - m) hn ha hd hc hq
        unfold rfV
        rw [flV_at (by omega) hq hk, old _ (by omega)]
    have fin2 : fX15_mirror_36 X (b + 0) (nI m) (nI (gRf g m (1 - m)).1) (b + 0) (rg_p lM b w0 (yK y)) = some (rg_p lM b w0 (rg_wA (yCr y (gRf g m (1 - m))) 64 (fU (64 * gBs (gRf g m (1 - m)) g.2.2.1) (rfV g (gRf g m (1 - m)) m (1 - m) F) (fU 12288 (fun _ => 0) (y.2.2.1 64))))) := by
      have e21 : (gRf g m (1 - m)).2.1 = if 1 - m = 1 then g.2.1 / (8 * gV_ g) * (8 * gV_ g) else g.2.1 := rfl
      have e19 : (rg_wI (yK y) 0 18 (nI (gRf g m (1 - m)).1)).1 0 19 = nI g.2.1 := py.1.2.1
      have e27 : (rg_wI (yK y) 0 18 (nI (gRf g m (1 - m)).1)).1 0 27 = nI (gV_ g) := py.2.2.1
      unfold fX15_mirror_36
      refine ob_v (rg_pI rfl rfl _) ?_
      by_cases m0 : m = 0
      · refine ei_t ((fm m hm).mpr m0) (ob_v (rg_I rfl rfl) (ob_v (rg_I rfl rfl) ?_))
        rw [e19, e27, n8]
        refine ob_v (dI_n (by omega) (by omega) (by omega)) (ob_v (rg_I rfl rfl) ?_)
        rw [e27, n88]
        rw [if_pos (by omega)] at e21
        rw [← e21]
        exact fin
      · refine ei_n (fun e => m0 ((fm m hm).mp e)) (ob_v (rg_I rfl rfl) ?_)
        rw [e19]
        rw [if_neg (by omega)] at e21
        rw [← e21]
        exact fin
    have e1 : (gRf g m (1 - m)).1 = if m = 1 then g.1 / (8 * gH g) * (8 * gH g) else g.1 := rfl
    have e18 : (yK y).1 0 18 = nI g.1 := py.1.1
    have e26 : (yK y).1 0 26 = nI (gH g) := py.2.1
    unfold fX15_mirror
    refine ob_v (rg_O rfl) (ob_v m_keep ?_)
    by_cases m0 : m = 0
    · refine ei_t ((fm m hm).mpr m0) (ob_v (rg_I rfl rfl) ?_)
      rw [e18]
      rw [if_neg (by omega)] at e1
      rw [← e1]
      exact fin2
    · refine ei_n (fun e => m0 ((fm m hm).mp e)) (ob_v (rg_I rfl rfl) (ob_v (rg_I rfl rfl) ?_))
      rw [e18, e26, n8]
      refine ob_v (dI_n (by omega) (by omega) (by omega)) (ob_v (rg_I rfl rfl) ?_)
      rw [e26, n88]
      rw [if_pos (by omega)] at e1
      rw [← e1]
      exact fin2
  · have := ySt_pic (yCr_fr (y := y) (g' := gRf g m (1 - m)) hn py)
    exact this
  · intro i hi
    have hi' : i < 64 * gBs (gRf g m (1 - m)) g.2.2.1 := hi
    rw [wA_s, fU_lt hi']
    refine ⟨rfl, ?_⟩
    obtain ⟨c, q, k, hc, hq, hk, rfl⟩ := fl_in hi'
    have hci := rf_in (m := m) (f := 1 - m) hn ha hd hc hq
    unfold rfV
    rw [flV_at (by omega) hq hk, show (64 * (gBs (gRf g m (1 - m)) c + q) + k) % 64 = k by omega]
    have := (pc (64 * rfB g (gRf g m (1 - m)) m (1 - m) c q + k) (by omega)).2
    rw [show (64 * rfB g (gRf g m (1 - m)) m (1 - m) c q + k) % 64 = k by omega] at this
    exact tbv_ok this
  · intro i hi
    have hi' : i < 64 * g.2.2.1 := hi
    rw [wA_n _ _ (by decide), A 63 (by omega)]
    exact ps i hi'
  · intro o k hk
    rw [wA_1]
    unfold yCr
    rw [yS_I, yS1_I, if_neg (by omega), if_neg (by omega), if_neg (by omega), if_neg (by omega), wI_n _ _ (by omega), wI_n _ _ (by omega)]
    rfl
  · intro o ho
    rw [wA_n _ _ (by omega), A o (by omega), yK_A, if_neg (by omega), if_neg (by omega), if_neg (by omega), if_neg (by omega), if_neg (by omega)]
end
