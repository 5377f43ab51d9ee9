/-! paintFrom of the class, whole -/
def pf (s c : Nat) : Nat := s / 4 ^ c % 2 + 1
def pv (s c : Nat) : Nat := s / (2 * 4 ^ c) % 2 + 1
def pG (w h n s : Nat) : gG := (w, h, n, pf s, pv s)
theorem pG_ok {w h n s : Nat} (w1 : 1 ≤ w) (w2 : w ≤ 32) (h1 : 1 ≤ h) (h2 : h ≤ 32) (n1 : 1 ≤ n) (n2 : n ≤ 4) : gOk (pG w h n s) := by
  refine ⟨w1, Nat.le_trans w2 (by decide), h1, Nat.le_trans h2 (by decide), n1, n2, fun c _ => ?_⟩
  show (1 ≤ pf s c ∧ pf s c ≤ 2) ∧ 1 ≤ pv s c ∧ pv s c ≤ 2
  unfold pf pv
  omega
theorem shp : ∀ (s : Fin 256) (c : Fin 4), ((nI s.val >>> ((2 * nI c.val) &&& 31)) &&& 1) + 1 = nI (pf s.val c.val) ∧ ((nI s.val >>> ((2 * nI c.val + 1) &&& 31)) &&& 1) + 1 = nI (pv s.val c.val) := by decide +kernel
theorem shp_f {s c : Nat} (hs : s < 256) (hc : c < 4) : ((nI s >>> ((2 * nI c) &&& 31)) &&& 1) + 1 = nI (pf s c) := (shp ⟨s, hs⟩ ⟨c, hc⟩).1
theorem shp_v {s c : Nat} (hs : s < 256) (hc : c < 4) : ((nI s >>> ((2 * nI c + 1) &&& 31)) &&& 1) + 1 = nI (pv s c) := (shp ⟨s, hs⟩ ⟨c, hc⟩).2
theorem fW_in {T k : Nat} {W Z : Nat → Int32} (hk : k < 64) : fW T 64 W Z (64 * T + k) = W k := by
  unfold fW
  rw [if_pos (by omega), show 64 * T + k - 64 * T = k by omega]
theorem fW_out {T t k : Nat} {W Z : Nat → Int32} (hk : k < 64) (ht : t ≠ T) : fW T 64 W Z (64 * t + k) = Z (64 * t + k) := by
  unfold fW
  rw [if_neg (by omega)]
/-- the draft's factors, of c components -/
def xPh (x : rg_S) (P s c : Nat) : rg_S := rg_wA (rg_wA x (P + 1) (gF (x.2.2.1 (P + 1)) (pf s) c)) (P + 2) (gF (x.2.2.1 (P + 2)) (pv s) c)
section
variable {X : px_X} {b B : Nat} {w0 w1 : px_W} {x y : rg_S} {P Q p c w h n s : Nat} {I : Nat → Nat → Nat → Int32} {Z : Nat → Int32}
theorem xPh_A (o : Nat) : (xPh x P s c).2.2.1 o = if o = P + 2 then gF (x.2.2.1 (P + 2)) (pv s) c else if o = P + 1 then gF (x.2.2.1 (P + 1)) (pf s) c else x.2.2.1 o := rfl
theorem xPh_0 : xPh x P s 0 = x := by
  refine S_ext rfl rfl (fun o => ?_) rfl
  rw [xPh_A, gF_0, gF_0]
  split
  · rename_i e; rw [e]
  · split
    · rename_i e; rw [e]
    · rfl
theorem x_isz {x : rg_S} {c : Nat} {W H : Nat} (hc : c < 4) (e0 : x.1 (24 + 2 * c) 0 = nI W) (e1 : x.1 (24 + 2 * c) 1 = nI H) (hW : W ≤ 32) (hH : H ≤ 32) (hw : w ≤ 32) (hh : h ≤ 32) : fX3_isOfSize X (rg_p lX B w0 x) (B + (24 + 2 * c)) (nI w) (nI h) = some (if W = w ∧ H = h then 1 else 0, rg_p lX B w0 x) := by
  unfold fX3_isOfSize
  refine ob_v (rg_I (pl_o (by omega)) rfl) ?_
  rw [e0]
  by_cases h1 : W = w
  · refine ei_t (by rw [h1]) (ob_v (rg_I (pl_o (by omega)) rfl) ?_)
    rw [e1]
    by_cases h2 : H = h
    · refine ei_t (by rw [h2]) ?_
      rw [if_pos ⟨h1, h2⟩]
    · refine ei_n (fun e => h2 ((nI_eq (by omega) (by omega)).mp e)) ?_
      rw [if_neg (fun e => h2 e.2)]
  · refine ei_n (fun e => h1 ((nI_eq (by omega) (by omega)).mp e)) ?_
    rw [if_neg (fun e => h1 e.1)]
theorem x_p66 {W H : Nat → Nat} {k : Nat} {r : Option (Int32 × px_W)} (hP : isP P) (hR' : x.2.1 0 5 = P) (e0 : ∀ c, c < 4 → x.1 (24 + 2 * c) 0 = nI (W c) ∧ x.1 (24 + 2 * c) 1 = nI (H c) ∧ W c ≤ 32 ∧ H c ≤ 32) (hw : w ≤ 32) (hh : h ≤ 32) (n4 : n ≤ 4) (hs : s < 256) (hk : k ≤ n) (hm : ∀ c, c < k → W c = w ∧ H c = h) (done : ∀ m, fX11_paintFrom_66 X (m + 1) (B + 0) (nI w) (nI h) (nI n) (nI s) (nI p) (nI k) (rg_p lX B w0 (xPh x P s k)) = r) : fX11_paintFrom_66 X FU (B + 0) (nI w) (nI h) (nI n) (nI s) (nI p) 0 (rg_p lX B w0 x) = r := by
  have gq : ∀ x1 : rg_S, x1.2.1 = x.2.1 → gR (rg_p lX B w0 x1) (B + 0) 11 5 = some (B + P) := fun x1 h => by rw [← hR', ← h]; exact rg_R rfl rfl
  have e := rg_lpF (F := fun u (t : Int32 × px_W) => fX11_paintFrom_66 X u (B + 0) (nI w) (nI h) (nI n) (nI s) (nI p) t.1 t.2) k (fun c => (nI c, rg_p lX B w0 (xPh x P s c))) (r := r) (by omega) ?_ done
  · refine Eq.trans ?_ e
    dsimp only
    rw [xPh_0, nI_0]
  · intro m c hc
    dsimp only
    obtain ⟨d0, d1, d2, d3⟩ := e0 c (by omega)
    have hmc := hm c hc
    rw [fX11_paintFrom_66.eq_2]
    refine ei_n (nI_ge (show c < n by omega) (by omega)) (ob_v (rg_C rfl rfl) (ob_v (x_plane (by omega)) (ob_v (rg_O (pl_o (by omega))) (ob_v (x_isz (x := xPh x P s c) (by omega) d0 d1 d2 d3 hw hh) ?_))))
    dsimp only
    rw [if_pos hmc]
    refine ei_n (by decide) (ob_v (gq _ rfl) (ob_v (rg_C hP.o rfl) (ob_v (rg_sA _ hP.a1 (by decide) c _ (by omega) (by decide)) (ob_v (gq _ rfl) (ob_v (rg_C hP.o rfl) (ob_v (rg_sA _ hP.a2 (by decide) c _ (by omega) (by decide)) ?_))))))
    rw [shp_f hs (by omega), shp_v hs (by omega), nI_1]
    congr 2
    refine S_ext rfl rfl (fun o => ?_) rfl
    rw [wA_3, wA_3, wA_3, xPh_A, xPh_A, xPh_A, xPh_A, if_pos rfl, if_neg (show ¬ P + 2 = P + 1 by omega), if_neg (show ¬ P + 1 = P + 2 by omega), if_pos rfl, id, id, gF_s, gF_s]
    by_cases o2 : o = P + 2
    · rw [if_pos o2, if_pos o2]
    · rw [if_neg o2, if_neg o2, if_neg o2]
      by_cases o1 : o = P + 1
      · rw [if_pos o1, if_pos o1]
      · rw [if_neg o1, if_neg o1, if_neg o1]
/-- what the draft holds when it's painted -/
def xPd (x x3 : rg_S) (P p : Nat) (g : gG) (V : Nat → Int32) : Prop := (∀ o k, o < 7 ∨ 24 ≤ o ∧ o < 32 ∨ o = 195 → x3.1 o k = x.1 o k) ∧ x3.2.1 = x.2.1 ∧ (∀ o, o < 7 ∨ 24 ≤ o ∧ o < 32 ∨ o = 37 → x3.2.2.1 o = x.2.2.1 o) ∧ xPic x3 P g ∧ (∀ i, i < 64 * gBs g g.2.2.1 → x3.2.2.1 (P + 6) i = V i) ∧ ∀ c k, c < g.2.2.1 → k < 64 → x3.2.2.1 (P + 7) (64 * c + k) = nI (pS p c k)
theorem x_p139 {g : gG} (hst : px_st X) (hP : isP P) (hR : x.2.1 0 4 = Q) (hR' : x.2.1 0 5 = P) (hgg : g = pG w h n s) (hg : gOk g) (hw : w ≤ 32) (hh : h ≤ 32) (hp : p ≤ 5000) (hI : ∀ c, c < n → pI x c w h (I c)) (hby : ∀ c i j, c < n → i < w → j < h → isB8 (I c i j)) (ht : ∀ u t, u < 8 → t < 8 → x.2.2.1 37 (192 + 8 * u + t) = wvN 8 u t) :
    ∃ x3, fX11_paintFrom_139 X (B + 0) (nI w) (nI h) (nI n) (nI p) (rg_p lX B w0 (xPh x P s n)) = some (1, rg_p lX B w0 (xTD x3 P Q)) ∧ xPd x x3 P p g (pnV g I p) := by
  have hP' : P = 7 ∨ P = 15 := hP
  have g1 : g.1 = w := by rw [hgg]; rfl
  have g2 : g.2.1 = h := by rw [hgg]; rfl
  have g3 : g.2.2.1 = n := by rw [hgg]; rfl
  have g4 : g.2.2.2.1 = pf s := by rw [hgg]; rfl
  have g5 : g.2.2.2.2 = pv s := by rw [hgg]; rfl
  have n4 := hg.2.2.2.2.2.1
  rw [g3] at n4
  have hb : gBs g g.2.2.1 ≤ 192 := Nat.le_trans (gP_bs hg (by omega) (by omega) (Nat.le_refl _)) (by omega)
  have gq : ∀ x1 : rg_S, x1.2.1 = x.2.1 → gR (rg_p lX B w0 x1) (B + 0) 11 5 = some (B + P) := fun x1 h => by rw [← hR', ← h]; exact rg_R rfl rfl
  generalize hx1 : rg_wI (rg_wI (rg_wI (xPh x P s n) P 0 (nI w)) P 1 (nI h)) P 2 (nI n) = x1
  have i1 : ∀ o k, o ≠ P → x1.1 o k = x.1 o k := fun o k ho => by rw [← hx1, wI_n _ _ (by omega), wI_n _ _ (by omega), wI_n _ _ (by omega)]; rfl
  have i2 : x1.2.1 = x.2.1 := by rw [← hx1]; rfl
  have i3 : ∀ o, o ≠ P + 1 → o ≠ P + 2 → x1.2.2.1 o = x.2.2.1 o := fun o o1 o2 => by
    rw [← hx1, wI_2, wI_2, wI_2, xPh_A, if_neg o2, if_neg o1]
  have fr : xFr x1 P g := by
    refine ⟨?_, ?_, ?_, ?_, ?_⟩
    · rw [← hx1, g1, wI_n _ _ (by omega), wI_n _ _ (by omega), wI_s]
    · rw [← hx1, g2, wI_n _ _ (by omega), wI_s]
    · rw [← hx1, g3, wI_s]
    · intro c hc
      rw [← hx1, wI_2, wI_2, wI_2, xPh_A, if_neg (by omega), if_pos rfl, gF_at (by omega), g4]
    · intro c hc
      rw [← hx1, wI_2, wI_2, wI_2, xPh_A, if_pos rfl, gF_at (by omega), g5]
  have es := x_settle (X := X) (B := B) (w0 := w0) hP hg fr
  have px2 := xSt_pic fr
  generalize hx2 : xSt x1 P g g.2.2.1 = x2 at es px2
  have j1 : ∀ o k, o ≠ P → x2.1 o k = x.1 o k := fun o k ho => by
    rw [← hx2, xS_I, if_neg (by omega), xS0_n _ _ _ (by omega)]
    exact i1 o k ho
  have j2 : x2.2.1 = x.2.1 := by rw [← hx2]; exact i2
  have j3 : ∀ o, ¬ (P + 1 ≤ o ∧ o ≤ P + 5) → x2.2.2.1 o = x.2.2.1 o := fun o ho => by
    rw [← hx2, xS_A, if_neg (by omega), if_neg (by omega), if_neg (by omega)]
    exact i3 o (by omega) (by omega)
  obtain ⟨q, e, _, k1, k2, k3, k6, k7⟩ := rg_lpE (F := fun u (t : Int32 × rg_S) => fX11_paintFrom_188 X u (B + 0) (nI n) (nI p) t.1 (rg_p lX B w0 t.2)) (E := fun t => fX11_paintFrom_217 X (B + 0) (rg_p lX B w0 t.2)) (n := n) (fun c t => t.1 = nI c ∧ (∀ o k, o ≠ 32 → o ≠ 34 → t.2.1 o k = x2.1 o k) ∧ t.2.2.1 = x2.2.1 ∧ (∀ o, o ≠ 33 → o ≠ 35 → o ≠ P + 6 → o ≠ P + 7 → t.2.2.2.1 o = x2.2.2.1 o) ∧ t.2.2.2.1 (P + 6) = fU (64 * gBs g c) (pnV g I p) (x2.2.2.1 (P + 6)) ∧ ∀ c' k, c' < c → k < 64 → t.2.2.2.1 (P + 7) (64 * c' + k) = nI (pS p c' k)) (by
    rintro m c ⟨c', x3⟩ hc ⟨e1, l1, l2, l3, l6, l7⟩
    dsimp only at e1 l1 l2 l3 l6 l7 ⊢
    subst e1
    have px3 : xPic (rg_wA x3 (P + 7) (fW c 64 (fun k => nI (pS p c k)) (x3.2.2.1 (P + 7)))) P g := px2.c (fun k _ => l1 P k (by omega) (by omega)) (fun j j1 j2 => by rw [wA_n _ _ (by omega)]; exact l3 _ (by omega) (by omega) (by omega) (by omega))
    have pI3 : pI (rg_wA x3 (P + 7) (fW c 64 (fun k => nI (pS p c k)) (x3.2.2.1 (P + 7)))) c g.1 g.2.1 (I c) := by
      obtain ⟨a1, a2, a3, a4, a5, a6, a7⟩ := hI c hc
      rw [g1, g2]
      exact ⟨a1, a2, a3, a4, ((l1 _ 0 (by omega) (by omega)).trans (j1 _ 0 (by omega))).trans a5, ((l1 _ 1 (by omega) (by omega)).trans (j1 _ 1 (by omega))).trans a6, fun i j hi hj => by rw [wA_n _ _ (by omega), l3 _ (by omega) (by omega) (by omega) (by omega), j3 _ (by omega)]; exact a7 i j hi hj⟩
    obtain ⟨x4, e4, F4, h4⟩ := x_paintC (X := X) (B := B) (w0 := w0) (x := rg_wA x3 (P + 7) (fW c 64 (fun k => nI (pS p c k)) (x3.2.2.1 (P + 7)))) (p := p) (c := c) (I := I) (Z := x2.2.2.1 (P + 6)) hst hP (by rw [wA_2, l2, j2]; exact hR') hg hb px3 (by omega) pI3 (by rw [g1, g2]; exact fun i j hi hj => hby c i j hc hi hj) (by rw [wA_n _ _ (by omega), l3 37 (by omega) (by omega) (by omega) (by omega), j3 37 (by omega)]; exact ht) (fun k hk => by rw [wA_s, fW_in hk]) (by rw [wA_n _ _ (by omega)]; exact l6)
    refine ⟨(nI (c + 1), x4), ?_, rfl, fun o k o1 o2 => (F4.1 o k o1 o2).trans (l1 o k o1 o2), F4.2.1.trans l2, fun o o1 o2 o3 o4 => ?_, h4, fun c' k hc' hk => ?_⟩
    · rw [fX11_paintFrom_188.eq_2]
      refine ei_n (nI_ge hc (by omega)) (ob_v (gq x3 (l2.trans j2)) (ob_v (rg_O hP.o) (ob_v (x_setSteps hst hP (by omega) hp) (ob_v (rg_O rfl) (ob_v e4 ?_)))))
      rw [nI_1]
    · dsimp only
      rw [F4.2.2 o o1 o2 o3, wA_n _ _ o4]
      exact l3 o o1 o2 o3 o4
    · dsimp only
      rw [F4.2.2 (P + 7) (by omega) (by omega) (by omega), wA_s]
      by_cases ec : c' = c
      · rw [ec, fW_in hk]
      · rw [fW_out hk ec]
        exact l7 c' k (by omega) hk) (by
    rintro m ⟨c', x3⟩ ⟨e1, l1, l2, l3, l6, l7⟩
    dsimp only at e1 ⊢
    subst e1
    rw [fX11_paintFrom_188.eq_2]
    exact ei_t (nI_le (Nat.le_refl _) (by omega)) rfl) n FU 0 (0, x2) (by omega) (by unfold FU; omega) ⟨rfl, fun _ _ _ _ => rfl, rfl, fun _ _ _ _ _ => rfl, (fU_0 _ _).symm, fun c' k hc' => absurd hc' (Nat.not_lt_zero _)⟩
  refine ⟨q.2, ?_, fun o k ho => (k1 o k (by omega) (by omega)).trans (j1 o k (by omega)), k2.trans j2, fun o ho => (k3 o (by omega) (by omega) (by omega) (by omega)).trans (j3 o (by omega)), px2.c (fun k _ => k1 P k (by omega) (by omega)) (fun j j1 j2 => k3 _ (by omega) (by omega) (by omega) (by omega)), fun i hi => ?_, fun c k hc hk => k7 c k (by omega) hk⟩
  · unfold fX11_paintFrom_139
    refine ob_v (gq _ rfl) (ob_v (rg_pI hP.o rfl _) (ob_v (gq _ rfl) (ob_v (rg_pI hP.o rfl _) (ob_v (gq _ rfl) (ob_v (rg_pI hP.o rfl _) ?_)))))
    rw [hx1]
    refine ob_v (gq x1 i2) (ob_v (rg_O hP.o) (ob_v es (ob_v (gq x2 j2) (ob_v (rg_I hP.o rfl) ?_))))
    rw [px2.2.2.2.1]
    refine ei_t (nI_le (b := 192) hb (by omega)) (e.trans ?_)
    unfold fX11_paintFrom_217
    exact ob_v (rg_O rfl) (ob_v (x_takeDraft (by rw [k2, j2]; exact hR) (by rw [k2, j2]; exact hR')) rfl)
  · rw [k6, ← g3, fU_lt hi]
end
