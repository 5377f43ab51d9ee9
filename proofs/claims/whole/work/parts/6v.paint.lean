/-! paintFrom: the reference whole, then both sides -/
def yPd (y y3 : rg_S) (p : Nat) (g : gG) (V : Nat → Int32) : Prop := (∀ o k, o = 0 ∧ k < 17 ∨ o = 24 → y3.1 o k = y.1 o k) ∧ (∀ o, o < 3 ∨ 69 ≤ o ∧ o < 75 → y3.2.2.1 o = y.2.2.1 o) ∧ y3.1 0 17 = 1 ∧ mPic y3 g ∧ (∀ i, i < 64 * gBs g g.2.2.1 → y3.2.2.1 64 i = V i) ∧ ∀ c k, c < g.2.2.1 → k < 64 → y3.2.2.1 63 (64 * c + k) = nI (pS p c k)
def yPh (y : rg_S) (s c : Nat) : rg_S := rg_wA (rg_wA y 58 (gF (y.2.2.1 58) (pf s) c)) 59 (gF (y.2.2.1 59) (pv s) c)
theorem yPh_A (y : rg_S) (s c o : Nat) : (yPh y s c).2.2.1 o = if o = 59 then gF (y.2.2.1 59) (pv s) c else if o = 58 then gF (y.2.2.1 58) (pf s) c else y.2.2.1 o := rfl
theorem yPh_0 (y : rg_S) (s : Nat) : yPh y s 0 = y := by
  refine S_ext rfl rfl (fun o => ?_) rfl
  rw [yPh_A, gF_0, gF_0]
  split
  · rename_i e; rw [e]
  · split
    · rename_i e; rw [e]
    · rfl
theorem ei_c {β : Type} {c : Prop} {d : Decidable c} {a b r : Option β} (h1 : c → a = r) (h2 : ¬ c → b = r) : (if c then a else b) = r := by
  by_cases h : c
  · rw [if_pos h]; exact h1 h
  · rw [if_neg h]; exact h2 h
theorem pS_m {p c k v : Nat} (hv : v = (((if c = 0 then 16 else 17) + (if c = 0 then 6 else 10) * (zg k / 8 + zg k % 8)) * p + 50) / 100) : (1 ≤ v → v ≤ 255 → pS p c k = v) ∧ (255 < v → pS p c k = 255) ∧ (v < 1 → pS p c k = 1) := by
  unfold pS
  rw [← hv]
  omega
section
variable {X : px_X} {b B : Nat} {w0 w1 : px_W} {x y : rg_S} {P Q p c w h n s : Nat} {I : Nat → Nat → Nat → Int32} {Z : Nat → Int32} {g : gG}
theorem m_steps {k234 : Nat → Int32 → Int32 → Int32 → px_W → Option (Int32 × px_W)} (hz : ∀ k, k < 64 → y.2.2.1 69 k = nI (zg k / 8) ∧ y.2.2.1 70 k = nI (zg k % 8)) (hc : c < 4) (hp : p ≤ 5000) : fX15_paintFrom_243 X k234 FU (b + 0) (nI n) (nI p) (nI c) 0 (rg_p lM b w0 y) = fX15_paintFrom_347 X k234 (b + 0) (nI n) (nI p) (nI c) (rg_p lM b w0 (rg_wA y 63 (fW c 64 (fun k => nI (pS p c k)) (y.2.2.1 63)))) := by
  have e := rg_lpF (F := fun u (t : Int32 × px_W) => fX15_paintFrom_243 X k234 u (b + 0) (nI n) (nI p) (nI c) t.1 t.2) 64 (fun k => (nI k, rg_p lM b w0 (rg_wA y 63 (fW c k (fun k => nI (pS p c k)) (y.2.2.1 63))))) (r := fX15_paintFrom_347 X k234 (b + 0) (nI n) (nI p) (nI c) (rg_p lM b w0 (rg_wA y 63 (fW c 64 (fun k => nI (pS p c k)) (y.2.2.1 63))))) (by omega) ?_ ?_
  · refine Eq.trans ?_ e
    dsimp only
    rw [fW_0, wA_id rfl, nI_0]
  · intro m k hk
    dsimp only
    have hzk := zg_lt hk
    have f340 : ∀ v, v = nI (pS p c k) → fX15_paintFrom_340 X k234 (fX15_paintFrom_243 X k234 m) (b + 0) (nI n) (nI p) (nI c) (nI k) v (64 * nI c + nI k) (b + 63) (rg_p lM b w0 (rg_wA y 63 (fW c k (fun k => nI (pS p c k)) (y.2.2.1 63)))) = fX15_paintFrom_243 X k234 m (b + 0) (nI n) (nI p) (nI c) (nI (k + 1)) (rg_p lM b w0 (rg_wA y 63 (fW c (k + 1) (fun k => nI (pS p c k)) (y.2.2.1 63)))) := by
      rintro v rfl
      unfold fX15_paintFrom_340
      rw [n64]
      refine ob_v (rg_sA _ rfl (by decide) _ _ (by omega) (by decide)) ?_
      rw [wA_wA, wA_s, id, nI_1, ← fW_s]
    have f274 : ∀ a d : Nat, a = (if c = 0 then 16 else 17) → d = (if c = 0 then 6 else 10) → fX15_paintFrom_274 X k234 (fX15_paintFrom_243 X k234 m) (b + 0) (nI n) (nI p) (nI c) (nI k) (nI d) (nI a) (rg_p lM b w0 (rg_wA y 63 (fW c k (fun k => nI (pS p c k)) (y.2.2.1 63)))) = fX15_paintFrom_243 X k234 m (b + 0) (nI n) (nI p) (nI c) (nI (k + 1)) (rg_p lM b w0 (rg_wA y 63 (fW c (k + 1) (fun k => nI (pS p c k)) (y.2.2.1 63)))) := by
      intro a d ha hd
      have ha2 : a ≤ 17 := by rw [ha]; split <;> decide
      have hd2 : d ≤ 10 := by rw [hd]; split <;> decide
      have hs : zg k / 8 + zg k % 8 ≤ 14 := by omega
      have hm : d * (zg k / 8 + zg k % 8) ≤ 10 * 14 := Nat.mul_le_mul hd2 hs
      have hm2 : (a + d * (zg k / 8 + zg k % 8)) * p ≤ 157 * 5000 := Nat.mul_le_mul (by omega) hp
      have hv := pS_m (p := p) (c := c) (k := k) rfl
      rw [← ha, ← hd] at hv
      unfold fX15_paintFrom_274
      refine ob_v (rg_C rfl rfl) (ob_v (rg_A rfl (by decide) k (by omega) (by decide)) (ob_v (rg_C rfl rfl) (ob_v (rg_A rfl (by decide) k (by omega) (by decide)) ?_)))
      rw [wA_n _ _ (by decide), wA_n _ _ (by decide), (hz k hk).1, (hz k hk).2, nI_add, pk_mul, nI_add, pk_mul, show (50 : Int32) = nI 50 from rfl, nI_add]
      refine ob_v (dI_n (d := 100) (by omega) (by decide) (by decide)) (ob_v (rg_C rfl rfl) ?_)
      have hlt : ((a + d * (zg k / 8 + zg k % 8)) * p + 50) / 100 < 10000 := by omega
      generalize ((a + d * (zg k / 8 + zg k % 8)) * p + 50) / 100 = v at hv hlt
      by_cases v1 : 1 ≤ v
      · refine ei_t (nI_le (a := 1) v1 (by omega)) ?_
        by_cases v2 : v ≤ 255
        · refine ei_t (nI_le (b := 255) v2 (by omega)) (f340 _ ?_)
          rw [hv.1 v1 v2]
        · refine ei_n (nI_ge (a := 255) (by omega) (by omega)) (f340 _ ?_)
          rw [hv.2.1 (by omega)]
          rfl
      · refine ei_n (nI_ge (b := 1) (by omega) (by omega)) (f340 _ ?_)
        rw [hv.2.2 (by omega)]
        rfl
    rw [fX15_paintFrom_243.eq_2]
    refine ei_n (nI_ge (b := 64) hk (by omega)) ?_
    unfold fX15_paintFrom_262
    by_cases c0 : c = 0
    · refine ei_t (by rw [c0]; rfl) (ei_t (by rw [c0]; rfl) (f274 16 6 ?_ ?_))
      · rw [if_pos c0]
      · rw [if_pos c0]
    · refine ei_n (nI_ne0 (by omega) (by omega)) (ei_n (nI_ne0 (by omega) (by omega)) (f274 17 10 ?_ ?_))
      · rw [if_neg c0]
      · rw [if_neg c0]
  · intro m
    dsimp only
    rw [fX15_paintFrom_243.eq_2]
    exact ei_t (by decide) rfl
theorem m_p122 (hgg : g = pG w h n s) (hg : gOk g) (hw : w ≤ 32) (hh : h ≤ 32) (hp : p ≤ 5000) (hs : s < 256) (hsz : ∀ c, c < n → y.2.2.1 73 c = nI w ∧ y.2.2.1 74 c = nI h) (hI : ∀ c i j, c < n → i < w → j < h → y.2.2.1 72 (1024 * c + (w * j + i)) = I c i j) (hby : ∀ c i j, c < n → i < w → j < h → isB8 (I c i j)) (hz : ∀ k, k < 64 → y.2.2.1 69 k = nI (zg k / 8) ∧ y.2.2.1 70 k = nI (zg k % 8)) (ho : ∀ k, k < 64 → y.2.2.1 71 (zg k) = nI k) :
    ∃ y3, fX15_paintFrom_122 X (b + 0) (nI w) (nI h) (nI n) (nI s) (nI p) 1 (rg_p lM b w0 y) = some (1, rg_p lM b w0 y3) ∧ yPd y y3 p g (pnV g I p) := by
  have g1 : g.1 = w := by rw [hgg]; rfl
  have g2 : g.2.1 = h := by rw [hgg]; rfl
  have g3 : g.2.2.1 = n := by rw [hgg]; rfl
  have g4 : g.2.2.2.1 = pf s := by rw [hgg]; rfl
  have g5 : g.2.2.2.2 = pv s := by rw [hgg]; rfl
  have n4 := hg.2.2.2.2.2.1
  rw [g3] at n4
  have hb : gBs g g.2.2.1 ≤ 192 := Nat.le_trans (gP_bs hg (by omega) (by omega) (Nat.le_refl _)) (by omega)
  generalize hy1 : rg_wI (rg_wI (rg_wI (rg_wI y 0 17 1) 0 18 (nI w)) 0 19 (nI h)) 0 20 (nI n) = y1
  have i1 : ∀ o k, o = 0 ∧ k < 17 ∨ o = 24 → y1.1 o k = y.1 o k := fun o k hk => by rw [← hy1, wI_n _ _ (by omega), wI_n _ _ (by omega), wI_n _ _ (by omega), wI_n _ _ (by omega)]
  have i17 : y1.1 0 17 = 1 := by rw [← hy1]; rfl
  have i3 : y1.2.2.1 = y.2.2.1 := by rw [← hy1]; rfl
  have fr : mFr (yPh y1 s n) g := by
    refine ⟨?_, ?_, ?_, ?_, ?_⟩
    · rw [g1, ← hy1]; rfl
    · rw [g2, ← hy1]; rfl
    · rw [g3, ← hy1]; rfl
    · intro c hc
      rw [yPh_A, if_neg (by decide), if_pos rfl, gF_at (by omega), g4]
    · intro c hc
      rw [yPh_A, if_pos rfl, gF_at (by omega), g5]
  have el := m_layOut (X := X) (b := b) (w0 := w0) hg fr
  have py2 := ySt_pic fr
  generalize hy2 : ySt (yPh y1 s n) g g.2.2.1 = y2 at el py2
  have j1 : ∀ o k, o = 0 ∧ k ≤ 17 ∨ o = 24 → y2.1 o k = y1.1 o k := fun o k hk => by
    rw [← hy2, yS_I, yS1_I, if_neg (by omega), if_neg (by omega), if_neg (by omega), if_neg (by omega)]
    rfl
  have j3 : ∀ o, o < 58 ∨ 62 < o → y2.2.2.1 o = y.2.2.1 o := fun o ho => by
    rw [← hy2, yS_A, if_neg (by omega), if_neg (by omega), if_neg (by omega), yPh_A, if_neg (by omega), if_neg (by omega), i3]
  -- the loop of components
  obtain ⟨q, e, _, k1, k2, k3, k6, k7⟩ := rg_lpE (F := fun u (t : Int32 × rg_S) => fX15_paintFrom_234 X u (b + 0) (nI n) (nI p) t.1 (rg_p lM b w0 t.2)) (E := fun t => some (1, rg_p lM b w0 t.2)) (n := n) (fun c t => t.1 = nI c ∧ (∀ o k, o ≠ 0 ∨ k ≠ 44 ∧ k ≠ 45 → t.2.1 o k = y2.1 o k) ∧ t.2.2.1 = y2.2.1 ∧ (∀ o, o ≠ 75 → o ≠ 76 → o ≠ 64 → o ≠ 63 → t.2.2.2.1 o = y2.2.2.1 o) ∧ t.2.2.2.1 64 = fU (64 * gBs g c) (pnV g I p) (fU 12288 (fun _ => 0) (y2.2.2.1 64)) ∧ ∀ c' k, c' < c → k < 64 → t.2.2.2.1 63 (64 * c' + k) = nI (pS p c' k)) (by
    rintro m c ⟨c', y3⟩ hc ⟨e1, l1, l2, l3, l6, l7⟩
    dsimp only at e1 l1 l2 l3 l6 l7 ⊢
    subst e1
    have py3 : mPic (rg_wA y3 63 (fW c 64 (fun k => nI (pS p c k)) (y3.2.2.1 63))) g := by
      have py3 : mPic y3 g := by
        unfold mPic mFr at *
        rw [l1 0 18 (by omega), l1 0 19 (by omega), l1 0 20 (by omega), l1 0 26 (by omega), l1 0 27 (by omega), l1 0 28 (by omega), l1 0 29 (by omega), l3 58 (by omega) (by omega) (by omega) (by omega), l3 59 (by omega) (by omega) (by omega) (by omega), l3 60 (by omega) (by omega) (by omega) (by omega), l3 61 (by omega) (by omega) (by omega) (by omega), l3 62 (by omega) (by omega) (by omega) (by omega)]
        exact py2
      exact py3
    have e3 : ∀ o, 69 ≤ o → o < 75 → y3.2.2.1 o = y.2.2.1 o := fun o o1 o2 => (l3 o (by omega) (by omega) (by omega) (by omega)).trans (j3 o (by omega))
    obtain ⟨y4, e4, F4, h4⟩ := m_paintP (X := X) (b := b) (w0 := w0) (y := rg_wA y3 63 (fW c 64 (fun k => nI (pS p c k)) (y3.2.2.1 63))) (p := p) (c := c) (I := I) (Z := fU 12288 (fun _ => 0) (y2.2.2.1 64)) hg g1.symm g2.symm hw hh hb py3 (by omega) (by rw [wA_n _ _ (by decide), e3 73 (by decide) (by decide)]; exact (hsz c hc).1) (by rw [wA_n _ _ (by decide), e3 74 (by decide) (by decide)]; exact (hsz c hc).2) (fun i j hi hj => by rw [wA_n _ _ (by decide), e3 72 (by decide) (by decide)]; exact hI c i j hc hi hj) (fun i j hi hj => hby c i j hc hi hj) (by rw [wA_n _ _ (by decide), e3 71 (by decide) (by decide)]; exact ho) (fun k hk => by rw [wA_s, fW_in hk]) (by rw [wA_n _ _ (by decide)]; exact l6)
    refine ⟨(nI (c + 1), y4), ?_, rfl, fun o k hk => (F4.1 o k hk).trans (l1 o k hk), F4.2.1.trans l2, fun o o1 o2 o3 o4 => ?_, h4, fun c' k hc' hk => ?_⟩
    · rw [fX15_paintFrom_234.eq_2]
      refine ei_n (nI_ge hc (by omega)) ?_
      rw [m_steps (by rw [e3 69 (by decide) (by decide), e3 70 (by decide) (by decide)]; exact hz) (by omega) hp]
      unfold fX15_paintFrom_347
      refine ob_v (rg_O rfl) (ob_v e4 ?_)
      rw [nI_1]
    · dsimp only
      rw [F4.2.2 o o1 o2 o3, wA_n _ _ o4]
      exact l3 o o1 o2 o3 o4
    · dsimp only
      rw [F4.2.2 63 (by omega) (by omega) (by omega), wA_s]
      by_cases ec : c' = c
      · rw [ec, fW_in hk]
      · rw [fW_out hk ec]
        exact l7 c' k (by omega) hk) (by
    rintro m ⟨c', y3⟩ ⟨e1, l1, l2, l3, l6, l7⟩
    dsimp only at e1 ⊢
    subst e1
    rw [fX15_paintFrom_234.eq_2]
    exact ei_t (nI_le (Nat.le_refl _) (by omega)) rfl) n FU 0 (0, rg_wA y2 64 (fU 12288 (fun _ => 0) (y2.2.2.1 64))) (by omega) (by unfold FU; omega) ⟨rfl, fun _ _ _ => rfl, rfl, fun o _ _ o3 _ => wA_n _ _ o3, by rw [wA_s]; exact (fU_0 _ _).symm, fun c' k hc' => absurd hc' (Nat.not_lt_zero _)⟩
  refine ⟨q.2, ?_, fun o k hk => ((k1 o k (by omega)).trans (j1 o k (by omega))).trans (i1 o k hk), fun o ho => (k3 o (by omega) (by omega) (by omega) (by omega)).trans (j3 o (by omega)), ((k1 0 17 (by omega)).trans (j1 0 17 (by omega))).trans i17, ?_, fun i hi => ?_, fun c k hc hk => k7 c k (by omega) hk⟩
  · have z209 : fX15_paintFrom_209 X FU (b + 0) (nI n) (nI p) 0 (rg_p lM b w0 y2) = some (1, rg_p lM b w0 q.2) := by
      have e9 := rg_lpF (F := fun u (t : Int32 × px_W) => fX15_paintFrom_209 X u (b + 0) (nI n) (nI p) t.1 t.2) 12288 (fun t => (nI t, rg_p lM b w0 (rg_wA y2 64 (fU t (fun _ => 0) (y2.2.2.1 64))))) (r := some (1, rg_p lM b w0 q.2)) (by omega) ?_ ?_
      · refine Eq.trans ?_ e9
        dsimp only
        rw [fU_0, wA_id rfl, nI_0]
      · intro m t ht
        dsimp only
        rw [fX15_paintFrom_209.eq_2]
        refine ei_n (nI_ge (b := 12288) ht (by omega)) (ob_v (rg_C rfl rfl) (ob_v (rg_sA _ rfl (by decide) t _ ht (by decide)) ?_))
        rw [wA_wA, wA_s, nI_1, ← fU_s]
        rfl
      · intro m
        dsimp only
        rw [fX15_paintFrom_209.eq_2]
        exact ei_t (by decide) e
    have z152 : fX15_paintFrom_152 X FU (b + 0) (nI n) (nI s) (nI p) 0 (rg_p lM b w0 y1) = some (1, rg_p lM b w0 q.2) := by
      have e9 := rg_lpF (F := fun u (t : Int32 × px_W) => fX15_paintFrom_152 X u (b + 0) (nI n) (nI s) (nI p) t.1 t.2) n (fun c => (nI c, rg_p lM b w0 (yPh y1 s c))) (r := some (1, rg_p lM b w0 q.2)) (by omega) ?_ ?_
      · refine Eq.trans ?_ e9
        dsimp only
        rw [yPh_0, nI_0]
      · intro m c hc
        dsimp only
        rw [fX15_paintFrom_152.eq_2]
        refine ei_n (nI_ge hc (by omega)) (ob_v (rg_C rfl rfl) (ob_v (rg_sA _ rfl (by decide) c _ (by omega) (by decide)) (ob_v (rg_C rfl rfl) (ob_v (rg_sA _ rfl (by decide) c _ (by omega) (by decide)) ?_))))
        rw [Int32.add_comm 1, Int32.add_comm 1, shp_f hs (by omega), shp_v hs (by omega), nI_1]
        congr 2
        refine S_ext rfl rfl (fun o => ?_) rfl
        rw [wA_3, wA_3, wA_3, yPh_A, yPh_A, yPh_A, yPh_A, if_pos rfl, if_neg (show ¬ 59 = 58 by omega), if_neg (show ¬ 58 = 59 by omega), if_pos rfl, id, id, gF_s, gF_s]
        by_cases o2 : o = 59
        · rw [if_pos o2, if_pos o2]
        · rw [if_neg o2, if_neg o2, if_neg o2]
          by_cases o1 : o = 58
          · rw [if_pos o1, if_pos o1]
          · rw [if_neg o1, if_neg o1, if_neg o1]
      · intro m
        dsimp only
        rw [fX15_paintFrom_152.eq_2]
        refine ei_t (nI_le (Nat.le_refl _) (by omega)) ?_
        unfold fX15_paintFrom_202
        exact ob_v (rg_O rfl) (ob_v el z209)
    unfold fX15_paintFrom_122
    refine ei_n (by decide) (ob_v (rg_pZ rfl rfl _ (Or.inr rfl)) (ob_v (rg_pI rfl rfl _) (ob_v (rg_pI rfl rfl _) (ob_v (rg_pI rfl rfl _) ?_))))
    rw [hy1]
    exact z152
  · unfold mPic mFr at *
    rw [k1 0 18 (by omega), k1 0 19 (by omega), k1 0 20 (by omega), k1 0 26 (by omega), k1 0 27 (by omega), k1 0 28 (by omega), k1 0 29 (by omega), k3 58 (by omega) (by omega) (by omega) (by omega), k3 59 (by omega) (by omega) (by omega) (by omega), k3 60 (by omega) (by omega) (by omega) (by omega), k3 61 (by omega) (by omega) (by omega) (by omega), k3 62 (by omega) (by omega) (by omega) (by omega)]
    exact py2
  · rw [k6, ← g3, fU_lt hi]
theorem m_p70 (a1 a2 a3 a4 a5 : Int32) (w : px_W) : fX15_paintFrom_70 X (b + 0) a1 a2 a3 a4 a5 w = some (0, w) := by
  unfold fX15_paintFrom_70 fX15_paintFrom_71
  rw [show FU = 3999999 + 1 from rfl, fX15_paintFrom_76.eq_2]
  unfold fX15_paintFrom_122
  exact ei_c (fun _ => ei_t rfl rfl) (fun _ => ei_t rfl (ei_t rfl rfl))
/-- the sizes on the reference's side -/
theorem m_p76 {W H : Nat → Nat} {k : Nat} {r : Option (Int32 × px_W)} (e0 : ∀ c, c < 4 → y.2.2.1 73 c = nI (W c) ∧ y.2.2.1 74 c = nI (H c) ∧ W c ≤ 32 ∧ H c ≤ 32) (n4 : n ≤ 4) (hk : k ≤ n) (hm : ∀ c, c < k → W c = w ∧ H c = h) (done : ∀ m, 10 < m → fX15_paintFrom_76 X m (b + 0) (nI w) (nI h) (nI n) (nI s) (nI p) 1 (nI k) (rg_p lM b w0 y) = r) : fX15_paintFrom_76 X FU (b + 0) (nI w) (nI h) (nI n) (nI s) (nI p) 1 0 (rg_p lM b w0 y) = r := by
  have step : ∀ k', k' ≤ k → ∀ m, 20 < m → fX15_paintFrom_76 X (m + k') (b + 0) (nI w) (nI h) (nI n) (nI s) (nI p) 1 (nI (k - k')) (rg_p lM b w0 y) = r := by
    intro k'
    induction k' with
    | zero =>
      intro _ m hm
      exact done m (by omega)
    | succ k' ih =>
      intro hk' m hm2
      have hc : k - (k' + 1) < k := by omega
      obtain ⟨d0, d1, d2, d3⟩ := e0 (k - (k' + 1)) (by omega)
      have hmc := hm _ hc
      rw [show m + (k' + 1) = (m + k') + 1 by omega, fX15_paintFrom_76.eq_2]
      refine ei_n (nI_ge (show k - (k' + 1) < n by omega) (by omega)) (ei_n (by decide) (ob_v (rg_C rfl rfl) (ob_v (rg_A rfl (by decide) _ (by omega) (by decide)) ?_)))
      rw [d0, hmc.1]
      refine ei_t rfl (ob_v (rg_C rfl rfl) (ob_v (rg_A rfl (by decide) _ (by omega) (by decide)) ?_))
      rw [d1, hmc.2]
      refine ei_t rfl ?_
      unfold fX15_paintFrom_114
      rw [nI_1, show k - (k' + 1) + 1 = k - k' by omega]
      exact ih (by omega) m (by omega)
  have := step k (Nat.le_refl _) (FU - k) (by unfold FU; omega)
  rw [Nat.sub_self, show FU - k + k = FU by unfold FU; omega] at this
  exact this
end
