/-! paintFrom of the reference -/
def FM (y y' : rg_S) : Prop := (∀ o k, o ≠ 0 ∨ k ≠ 44 ∧ k ≠ 45 → y'.1 o k = y.1 o k) ∧ y'.2.1 = y.2.1 ∧ ∀ o, o ≠ 75 → o ≠ 76 → o ≠ 64 → y'.2.2.1 o = y.2.2.1 o
theorem FM.trans {y y1 y2 : rg_S} (h : FM y y1) (h2 : FM y1 y2) : FM y y2 := ⟨fun o k a => (h2.1 o k a).trans (h.1 o k a), h2.2.1.trans h.2.1, fun o a c d => (h2.2.2 o a c d).trans (h.2.2 o a c d)⟩
theorem FA.m {y y' : rg_S} (h : FA y y') : FM y y' := ⟨h.1, h.2.1, fun o a c _ => h.2.2 o a c⟩
theorem FM.pic {y y' : rg_S} {g : gG} (h : FM y y') (hy : mPic y g) : mPic y' g := by
  unfold mPic mFr at *
  rw [h.1 0 18 (by omega), h.1 0 19 (by omega), h.1 0 20 (by omega), h.1 0 26 (by omega), h.1 0 27 (by omega), h.1 0 28 (by omega), h.1 0 29 (by omega), h.2.2 58 (by omega) (by omega) (by omega), h.2.2 59 (by omega) (by omega) (by omega), h.2.2 60 (by omega) (by omega) (by omega), h.2.2 61 (by omega) (by omega) (by omega), h.2.2 62 (by omega) (by omega) (by omega)]
  exact hy
section
variable {X : px_X} {b B : Nat} {w0 w1 w : px_W} {x y : rg_S} {P p c : Nat} {g : gG} {I : Nat → Nat → Nat → Int32} {Z : Nat → Int32}
theorem m_pp59 {w h : Nat} (hg : gOk g) (hy : mPic y g) (hc : c < g.2.2.1) (hw : w = g.1) (hh : h = g.2.1) (hA : aI y w h (I c)) : ∃ y', fX15_paintPlane_59 X (b + 0) (nI c) (rg_p lM b w0 y) = fX15_paintPlane_132 X (b + 0) (nI c) (rg_p lM b w0 y') ∧ aI y' (skW (pA g c) w) (skW (pC g c) h) (skI (pA g c) (pC g c) w h (I c)) ∧ FA y y' := by
  have hc4 := hg.2.2.2.2.2.1
  have hgh := hg.h
  have hgv := hg.v
  have fc := hg.2.2.2.2.2.2 c hc
  have a21 : ∀ {r : Option px_W} {f : Int32 → Option px_W}, f (nI (g.2.2.2.1 c)) = r → (aN (rg_p lM b w0 y) 0 (b + 58) (nI c)).bind f = r := fun h => ob_v (rg_A rfl (by decide) c (by omega) (by decide)) (by rw [hy.1.2.2.2.1 c hc]; exact h)
  have a22 : ∀ {r : Option px_W} {f : Int32 → Option px_W}, f (nI (g.2.2.2.2 c)) = r → (aN (rg_p lM b w0 y) 0 (b + 59) (nI c)).bind f = r := fun h => ob_v (rg_A rfl (by decide) c (by omega) (by decide)) (by rw [hy.1.2.2.2.2 c hc]; exact h)
  have a26 : ∀ {r : Option px_W} {f : Int32 → Option px_W}, f (nI (gH g)) = r → (gI (rg_p lM b w0 y) (b + 0) 15 26).bind f = r := fun h => ob_v (rg_I rfl rfl) (by rw [hy.2.1]; exact h)
  have a27 : ∀ {r : Option px_W} {f : Int32 → Option px_W}, f (nI (gV_ g)) = r → (gI (rg_p lM b w0 y) (b + 0) 15 27).bind f = r := fun h => ob_v (rg_I rfl rfl) (by rw [hy.2.2.1]; exact h)
  unfold pA pC
  unfold fX15_paintPlane_59 fX15_paintPlane_93
  by_cases e1 : g.2.2.2.1 c < gH g
  · rw [if_pos e1]
    by_cases e2 : g.2.2.2.2 c < gV_ g
    · rw [if_pos e2]
      obtain ⟨y', es, A, F⟩ := m_shrink (X := X) (b := b) (w0 := w0) (k := 2) (a := 1) (c := 1) hA (by omega)
      exact ⟨y', ob_v (rg_C rfl rfl) (a21 (a26 (ei_n (nI_ge e1 (by omega)) (ob_v (rg_C rfl rfl) (a22 (a27 (ei_n (nI_ge e2 (by omega)) (ob_v (rg_O rfl) (ob_v es rfl))))))))), A, F⟩
    · rw [if_neg e2]
      obtain ⟨y', es, A, F⟩ := m_shrink (X := X) (b := b) (w0 := w0) (k := 0) (a := 1) (c := 0) hA (by omega)
      exact ⟨y', ob_v (rg_C rfl rfl) (a21 (a26 (ei_n (nI_ge e1 (by omega)) (ob_v (rg_C rfl rfl) (a22 (a27 (ei_t (nI_le (by omega) (by omega)) (ob_v (rg_C rfl rfl) (a21 (a26 (ei_n (nI_ge e1 (by omega)) (ob_v (rg_O rfl) (ob_v es rfl)))))))))))))  , A, F⟩
  · rw [if_neg e1]
    by_cases e2 : g.2.2.2.2 c < gV_ g
    · rw [if_pos e2]
      obtain ⟨y', es, A, F⟩ := m_shrink (X := X) (b := b) (w0 := w0) (k := 1) (a := 0) (c := 1) hA (by omega)
      exact ⟨y', ob_v (rg_C rfl rfl) (a21 (a26 (ei_t (nI_le (by omega) (by omega)) (ob_v (rg_C rfl rfl) (a21 (a26 (ei_t (nI_le (by omega) (by omega)) (ob_v (rg_C rfl rfl) (a22 (a27 (ei_n (nI_ge e2 (by omega)) (ob_v (rg_O rfl) (ob_v es rfl))))))))))))), A, F⟩
    · rw [if_neg e2]
      exact ⟨y, ob_v (rg_C rfl rfl) (a21 (a26 (ei_t (nI_le (by omega) (by omega)) (ob_v (rg_C rfl rfl) (a21 (a26 (ei_t (nI_le (by omega) (by omega)) (ob_v (rg_C rfl rfl) (a22 (a27 (ei_t (nI_le (by omega) (by omega)) rfl))))))))))), hA, FA.rfl⟩
theorem m_paintP {w h : Nat} (hg : gOk g) (hw : w = g.1) (hh : h = g.2.1) (w2 : w ≤ 32) (h2 : h ≤ 32) (hb : gBs g g.2.2.1 ≤ 192) (hy : mPic y g) (hc : c < g.2.2.1) (e73 : y.2.2.1 73 c = nI w) (e74 : y.2.2.1 74 c = nI h) (hI : ∀ i j, i < w → j < h → y.2.2.1 72 (1024 * c + (w * j + i)) = I c i j) (hby : ∀ i j, i < w → j < h → isB8 (I c i j)) (ho : ∀ k, k < 64 → y.2.2.1 71 (zg k) = nI k) (hs : ∀ k, k < 64 → y.2.2.1 63 (64 * c + k) = nI (pS p c k)) (hZ : y.2.2.1 64 = fU (64 * gBs g c) (pnV g I p) Z) :
    ∃ y', fX15_paintPlane X (rg_p lM b w0 y) (b + 0) (nI c) = some (rg_p lM b w0 y') ∧ FM y y' ∧ y'.2.2.1 64 = fU (64 * gBs g (c + 1)) (pnV g I p) Z := by
  have hc4 := hg.2.2.2.2.2.1
  have w1 : 1 ≤ w := by have := hg.1; omega
  have h1 : 1 ≤ h := by have := hg.2.2.1; omega
  have hac := hg.ac hc
  have hdn := hg.dn hc
  have hP := gP_ac hg (by omega) (by omega) hc
  have hm : w * h ≤ 32 * 32 := Nat.mul_le_mul w2 h2
  have hm2 : gAc g c * gDn g c ≤ 4 * 4 := Nat.mul_le_mul hP.1 hP.2
  generalize hy1 : rg_wA (rg_wI (rg_wI y 0 44 (nI w)) 0 45 (nI h)) 75 (fU (w * h) (fun i => y.2.2.1 72 (1024 * c + i)) (y.2.2.1 75)) = y1
  have A1 : aI y1 w h (I c) := by
    rw [← hy1]
    refine ⟨w1, by omega, h1, by omega, ?_, ?_, fun i j hi hj => ?_⟩
    · rw [wA_1, wI_n _ _ (by decide), wI_s]
    · rw [wA_1, wI_s]
    · rw [wA_s, fU_lt (row_lt hi hj)]
      exact hI i j hi hj
  have F1 : FA y y1 := by
    rw [← hy1]
    refine ⟨fun o k hk => ?_, rfl, fun o o1 o2 => ?_⟩
    · rw [wA_1, wI_n _ _ (by omega), wI_n _ _ (by omega)]
    · rw [wA_n _ _ o1, wI_2, wI_2]
  obtain ⟨y2, e2, A2, F2⟩ := m_pp59 (X := X) (b := b) (w0 := w0) hg (F1.m.pic hy) hc hw hh A1
  obtain ⟨y3, e3, A3, F3⟩ := m_fit (X := X) (b := b) (w0 := w0) (w := 8 * gAc g c) (h := 8 * gDn g c) A2 (by omega) (by omega) (by omega) (by omega)
  have F23 := F1.trans (F2.trans F3)
  have py2 := (F1.trans F2).m.pic hy
  have hJ : (fun i j : Nat => skI (pA g c) (pC g c) w h (I c) (clampZ i (skW (pA g c) w)) (clampZ j (skW (pC g c) h))) = pnJ g I c := by
    unfold pnJ
    rw [hw, hh]
  rw [hJ] at A3
  have hbJ : ∀ i j, isB8 (pnJ g I c i j) := fun i j => by
    unfold pnJ
    rw [← hw, ← hh]
    exact skI_b w1 h1 hby (clampZ_lt (skW_in w1 w2).1) (clampZ_lt (skW_in h1 h2).1)
  obtain ⟨q, e4, _, k1, k2, k3, k6⟩ := rg_lpE (F := fun u (t : Int32 × rg_S) => fX15_paintPlane_156 X u (b + 0) (nI c) t.1 (rg_p lM b w0 t.2)) (E := fun t => some (rg_p lM b w0 t.2)) (n := gAc g c * gDn g c) (fun q t => t.1 = nI q ∧ t.2.1 = y3.1 ∧ t.2.2.1 = y3.2.1 ∧ (∀ o, o ≠ 64 → t.2.2.2.1 o = y3.2.2.1 o) ∧ t.2.2.2.1 64 = fU (64 * (gBs g c + q)) (pnV g I p) Z) (by
    rintro m q ⟨q', y4⟩ hq ⟨e1, l1, l2, l3, l6⟩
    dsimp only at e1 l1 l2 l3 l6 ⊢
    subst e1
    have py4 : mPic y4 g := by
      have := F23.m.pic hy
      unfold mPic mFr at *
      rw [l1, l3 58 (by omega), l3 59 (by omega), l3 60 (by omega), l3 61 (by omega), l3 62 (by omega)]
      exact this
    have A4 : aI y4 (8 * gAc g c) (8 * gDn g c) (pnJ g I c) := by
      obtain ⟨a1, a2, a3, a4, a5, a6, a7⟩ := A3
      exact ⟨a1, a2, a3, a4, by rw [l1]; exact a5, by rw [l1]; exact a6, fun i j hi hj => by rw [l3 75 (by omega)]; exact a7 i j hi hj⟩
    have hmod := Nat.mod_lt q (show 0 < gAc g c by omega)
    have hdiv : q / gAc g c < gDn g c := Nat.div_lt_of_lt_mul hq
    have hin : gBs g c + q < gBs g (c + 1) := by
      show gBs g c + q < gBs g c + gAc g c * gDn g c
      omega
    have hmono := gBs_mono (g := g) (c := c + 1) (d := g.2.2.1) (by omega)
    obtain ⟨p60, p61, p62⟩ := py4.2.2.2.2.2 c hc
    obtain ⟨y5, e5, n1, n2, n3, n6⟩ := m_forward (X := X) (b := b) (w0 := w0) (y := y4) (t := q) (e := gBs g c) (c := c) (ii := q % gAc g c) (jj := q / gAc g c) (st := pS p c) A4 (fun i j _ _ => hbJ i j) (by omega) (by omega) (by omega) (by omega) p62 (by rw [l3 71 (by omega), F23.2.2 71 (by omega) (by omega)]; exact ho) (fun k hk => ⟨by rw [l3 63 (by omega), F23.2.2 63 (by omega) (by omega)]; exact hs k hk, pS_in p c k⟩)
    refine ⟨(nI (q + 1), y5), ?_, rfl, n1.trans l1, n2.trans l2, fun o ho => (n3 o ho).trans (l3 o ho), ?_⟩
    · rw [fX15_paintPlane_156.eq_2]
      refine ob_v (rg_C rfl rfl) (ob_v (rg_A rfl (by decide) c (by omega) (by decide)) (ob_v (rg_C rfl rfl) (ob_v (rg_A rfl (by decide) c (by omega) (by decide)) ?_)))
      rw [p60, p61, pk_mul]
      refine ei_n (nI_ge hq (by omega)) (ob_v (rg_C rfl rfl) (ob_v (rg_A rfl (by decide) c (by omega) (by decide)) ?_))
      rw [p60]
      refine ob_v (rI_n (by omega) (by omega) (by omega)) (ob_v (rg_C rfl rfl) (ob_v (rg_A rfl (by decide) c (by omega) (by decide)) ?_))
      rw [p60]
      refine ob_v (dI_n (by omega) (by omega) (by omega)) (ob_v (rg_O rfl) ?_)
      rw [show (8 : Int32) * nI (q % gAc g c) = nI (8 * (q % gAc g c)) from pk_mul 8 _, show (8 : Int32) * nI (q / gAc g c) = nI (8 * (q / gAc g c)) from pk_mul 8 _]
      refine ob_v e5 ?_
      rw [nI_1]
    · dsimp only
      rw [n6, l6, fW_U (fun k hk => ?_), Nat.add_assoc]
      unfold pnV
      rw [flV_at (by omega) hq hk]) (by
    rintro m ⟨q', y4⟩ ⟨e1, l1, l2, l3, l6⟩
    dsimp only at e1 l1 l2 l3 l6 ⊢
    subst e1
    have py4 : mPic y4 g := by
      have := F23.m.pic hy
      unfold mPic mFr at *
      rw [l1, l3 58 (by omega), l3 59 (by omega), l3 60 (by omega), l3 61 (by omega), l3 62 (by omega)]
      exact this
    obtain ⟨p60, p61, p62⟩ := py4.2.2.2.2.2 c hc
    rw [fX15_paintPlane_156.eq_2]
    refine ob_v (rg_C rfl rfl) (ob_v (rg_A rfl (by decide) c (by omega) (by decide)) (ob_v (rg_C rfl rfl) (ob_v (rg_A rfl (by decide) c (by omega) (by decide)) ?_)))
    rw [p60, p61, pk_mul]
    exact ei_t (nI_le (Nat.le_refl _) (by omega)) rfl) (gAc g c * gDn g c) FU 0 (0, y3) (by omega) (by unfold FU; omega) ⟨rfl, rfl, rfl, fun _ _ => rfl, by rw [Nat.add_zero, F23.2.2 64 (by decide) (by decide)]; exact hZ⟩
  refine ⟨q.2, ?_, F23.m.trans ⟨fun o k _ => by rw [k1], k2, fun o _ _ o3 => k3 o o3⟩, k6⟩
  unfold fX15_paintPlane
  refine ob_v (rg_C rfl rfl) (ob_v (rg_A rfl (by decide) c (by omega) (by decide)) (ob_v (rg_pI rfl rfl _) (ob_v (rg_C rfl rfl) (ob_v (rg_A rfl (by decide) c (by omega) (by decide)) (ob_v (rg_pI rfl rfl _) ?_)))))
  rw [wI_2, e73, e74]
  have e := rg_lpF (F := fun u (t : Int32 × px_W) => fX15_paintPlane_22 X u (b + 0) (nI c) t.1 t.2) (w * h) (fun t => (nI t, rg_p lM b w0 (rg_wA (rg_wI (rg_wI y 0 44 (nI w)) 0 45 (nI h)) 75 (fU t (fun i => y.2.2.1 72 (1024 * c + i)) (y.2.2.1 75))))) (r := fX15_paintPlane_59 X (b + 0) (nI c) (rg_p lM b w0 y1)) (by omega) ?_ ?_
  · have e' : fX15_paintPlane_22 X FU (b + 0) (nI c) 0 (rg_p lM b w0 (rg_wI (rg_wI y 0 44 (nI w)) 0 45 (nI h))) = fX15_paintPlane_59 X (b + 0) (nI c) (rg_p lM b w0 y1) := by
      refine Eq.trans ?_ e
      dsimp only
      rw [fU_0, show rg_wA (rg_wI (rg_wI y 0 44 (nI w)) 0 45 (nI h)) 75 (y.2.2.1 75) = rg_wI (rg_wI y 0 44 (nI w)) 0 45 (nI h) from wA_id rfl, nI_0]
    refine e'.trans (e2.trans ?_)
    obtain ⟨p60, p61, p62⟩ := py2.2.2.2.2.2 c hc
    unfold fX15_paintPlane_132
    refine ob_v (rg_C rfl rfl) (ob_v (rg_A rfl (by decide) c (by omega) (by decide)) (ob_v (rg_C rfl rfl) (ob_v (rg_A rfl (by decide) c (by omega) (by decide)) (ob_v (rg_O rfl) ?_))))
    rw [p60, p61, show (8 : Int32) * nI (gAc g c) = nI (8 * gAc g c) from pk_mul 8 _, show (8 : Int32) * nI (gDn g c) = nI (8 * gDn g c) from pk_mul 8 _]
    exact ob_v e3 e4
  · intro m t ht
    dsimp only
    rw [fX15_paintPlane_22.eq_2]
    refine ob_v (rg_I rfl rfl) (ob_v (rg_I rfl rfl) ?_)
    rw [show (rg_wA (rg_wI (rg_wI y 0 44 (nI w)) 0 45 (nI h)) 75 (fU t (fun i => y.2.2.1 72 (1024 * c + i)) (y.2.2.1 75))).1 0 44 = nI w from rfl, show (rg_wA (rg_wI (rg_wI y 0 44 (nI w)) 0 45 (nI h)) 75 (fU t (fun i => y.2.2.1 72 (1024 * c + i)) (y.2.2.1 75))).1 0 45 = nI h from rfl, pk_mul, show (1024 : Int32) * nI c + nI t = nI (1024 * c + t) by rw [show (1024 : Int32) = nI 1024 from rfl, pk_mul, nI_add]]
    refine ei_n (nI_ge ht (by omega)) (ob_v (rg_C rfl rfl) (ob_v (rg_C rfl rfl) (ob_v (rg_A rfl (by decide) _ (by omega) (by decide)) (ob_v (rg_sA _ rfl (by decide) t _ (by omega) (by decide)) ?_))))
    rw [wA_wA, wA_s, wA_n _ _ (by decide), wI_2, wI_2, id, nI_1, ← fU_s]
  · intro m
    dsimp only
    rw [fX15_paintPlane_22.eq_2]
    refine ob_v (rg_I rfl rfl) (ob_v (rg_I rfl rfl) ?_)
    rw [show (rg_wA (rg_wI (rg_wI y 0 44 (nI w)) 0 45 (nI h)) 75 (fU (w * h) (fun i => y.2.2.1 72 (1024 * c + i)) (y.2.2.1 75))).1 0 44 = nI w from rfl, show (rg_wA (rg_wI (rg_wI y 0 44 (nI w)) 0 45 (nI h)) 75 (fU (w * h) (fun i => y.2.2.1 72 (1024 * c + i)) (y.2.2.1 75))).1 0 45 = nI h from rfl, pk_mul, hy1]
    exact ei_t (nI_le (Nat.le_refl _) (by omega)) rfl
end
