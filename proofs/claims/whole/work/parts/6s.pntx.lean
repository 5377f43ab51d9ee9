/-! paintFrom, the class -/
def pA (g : gG) (c : Nat) : Nat := if g.2.2.2.1 c < gH g then 1 else 0
def pC (g : gG) (c : Nat) : Nat := if g.2.2.2.2 c < gV_ g then 1 else 0
def pS (p c k : Nat) : Nat := max 1 (min 255 ((((if c = 0 then 16 else 17) + (if c = 0 then 6 else 10) * (zg k / 8 + zg k % 8)) * p + 50) / 100))
def pnJ (g : gG) (I : Nat → Nat → Nat → Int32) (c : Nat) : Nat → Nat → Int32 := fun i j => skI (pA g c) (pC g c) g.1 g.2.1 (I c) (clampZ i (skW (pA g c) g.1)) (clampZ j (skW (pC g c) g.2.1))
def pnV (g : gG) (I : Nat → Nat → Nat → Int32) (p : Nat) : Nat → Int32 := flV g (fun c q k => fwW (fwG (pnJ g I c) (q % gAc g c) (q / gAc g c)) (pS p c) k)
theorem pA_2 (g : gG) (c : Nat) : pA g c < 2 := by
  unfold pA
  split <;> decide
theorem pC_2 (g : gG) (c : Nat) : pC g c < 2 := by
  unfold pC
  split <;> decide
theorem pS_in (p c k : Nat) : 1 ≤ pS p c k ∧ pS p c k ≤ 255 := by
  unfold pS
  omega
theorem pnV_at {g : gG} {I : Nat → Nat → Nat → Int32} {p c i j k : Nat} (hc : c < 4) (hi : i < gAc g c) (hj : j < gDn g c) (hk : k < 64) : pnV g I p (64 * (gBs g c + j * gAc g c + i) + k) = fwW (fwG (pnJ g I c) i j) (pS p c) k := by
  have h := (pl_iff (W := gAc g c) (X := i) (Y := j) (t := gAc g c * j + i) hi).mp rfl
  have hr := row_lt hi hj
  unfold pnV
  rw [show gBs g c + j * gAc g c + i = gBs g c + (gAc g c * j + i) by rw [Nat.mul_comm j, Nat.add_assoc], flV_at hc hr hk, h.1, h.2]
theorem fW_U {T : Nat} {V W Z : Nat → Int32} (h : ∀ k, k < 64 → V (64 * T + k) = W k) : fW T 64 W (fU (64 * T) V Z) = fU (64 * (T + 1)) V Z := by
  funext i
  unfold fW fU
  by_cases e : 64 * T ≤ i ∧ i < 64 * T + 64
  · rw [if_pos e, if_pos (by omega), ← h _ (by omega), show 64 * T + (i - 64 * T) = i by omega]
  · rw [if_neg e]
    by_cases e2 : i < 64 * T
    · rw [if_pos e2, if_pos (by omega)]
    · rw [if_neg e2, if_neg (by omega)]
theorem geoP : ∀ (W : Fin 33) (hm h : Fin 3), 1 ≤ W.val → 1 ≤ h.val → h.val ≤ hm.val → gUp W.val (8 * hm.val) * h.val ≤ 4 := by decide +kernel
theorem gP_ac {g : gG} {c : Nat} (hg : gOk g) (h1 : g.1 ≤ 32) (h2 : g.2.1 ≤ 32) (hc : c < g.2.2.1) : gAc g c ≤ 4 ∧ gDn g c ≤ 4 := by
  have hh := hg.h
  have hv := hg.v
  have f := hg.2.2.2.2.2.2 c hc
  have m1 : g.2.2.2.1 c ≤ gH g := gMx_ge hc
  have m2 : g.2.2.2.2 c ≤ gV_ g := gMx_ge hc
  exact ⟨geoP ⟨g.1, by omega⟩ ⟨gH g, by omega⟩ ⟨g.2.2.2.1 c, by omega⟩ hg.1 f.1.1 m1, geoP ⟨g.2.1, by omega⟩ ⟨gV_ g, by omega⟩ ⟨g.2.2.2.2 c, by omega⟩ hg.2.2.1 f.2.1 m2⟩
theorem gP_bs {g : gG} (hg : gOk g) (h1 : g.1 ≤ 32) (h2 : g.2.1 ≤ 32) : ∀ {c : Nat}, c ≤ g.2.2.1 → gBs g c ≤ 16 * c := by
  intro c
  induction c with
  | zero => intro _; exact Nat.le_refl 0
  | succ c ih =>
    intro hc
    have e1 := ih (by omega)
    have e2 := gP_ac hg h1 h2 (c := c) (by omega)
    have e3 : gAc g c * gDn g c ≤ 4 * 4 := Nat.mul_le_mul e2.1 e2.2
    unfold gBs
    omega
theorem avg_b {u v : Int32} {o : Nat} (hu : isB8 u) (hv : isB8 v) (ho : o < 2) : isB8 ((u + v + nI o) >>> (1 &&& 31)) := by
  obtain ⟨p, hp, rfl⟩ := hu
  obtain ⟨q, hq, rfl⟩ := hv
  rw [nI_add, nI_add, pk_shrN (by omega) (1 &&& 31) 1 (by decide)]
  exact ⟨_, by omega, rfl⟩
theorem avg4_b {u v r s : Int32} {o : Nat} (hu : isB8 u) (hv : isB8 v) (hr : isB8 r) (hs : isB8 s) (ho : o < 2) : isB8 ((u + v + r + s + 1 + nI o) >>> (2 &&& 31)) := by
  obtain ⟨p, hp, rfl⟩ := hu
  obtain ⟨q, hq, rfl⟩ := hv
  obtain ⟨m, hm, rfl⟩ := hr
  obtain ⟨n, hn, rfl⟩ := hs
  rw [nI_add, nI_add, nI_add, nI_1, nI_add, pk_shrN (by omega) (2 &&& 31) 2 (by decide)]
  exact ⟨_, by omega, rfl⟩
theorem skI_b {a c w h i j : Nat} {I : Nat → Nat → Int32} (w1 : 1 ≤ w) (h1 : 1 ≤ h) (hI : ∀ i j, i < w → j < h → isB8 (I i j)) (hi : i < skW a w) (hj : j < skW c h) : isB8 (skI a c w h I i j) := by
  unfold skI
  unfold skW at hi hj
  by_cases a0 : a = 0
  · rw [if_pos a0] at hi ⊢
    by_cases c0 : c = 0
    · rw [if_pos c0] at hj ⊢
      exact hI _ _ hi hj
    · rw [if_neg c0]
      exact avg_b (hI _ _ hi (clampZ_lt h1)) (hI _ _ hi (clampZ_lt h1)) (by omega)
  · rw [if_neg a0]
    by_cases c0 : c = 0
    · rw [if_pos c0] at hj ⊢
      exact avg_b (hI _ _ (clampZ_lt w1) hj) (hI _ _ (clampZ_lt w1) hj) (by omega)
    · rw [if_neg c0]
      exact avg4_b (hI _ _ (clampZ_lt w1) (clampZ_lt h1)) (hI _ _ (clampZ_lt w1) (clampZ_lt h1)) (hI _ _ (clampZ_lt w1) (clampZ_lt h1)) (hI _ _ (clampZ_lt w1) (clampZ_lt h1)) (by omega)
/-- nothing changed but the planes beside and the draft's coefficients -/
def FP (P : Nat) (x x' : rg_S) : Prop := (∀ o k, o ≠ 32 → o ≠ 34 → x'.1 o k = x.1 o k) ∧ x'.2.1 = x.2.1 ∧ ∀ o, o ≠ 33 → o ≠ 35 → o ≠ P + 6 → x'.2.2.1 o = x.2.2.1 o
theorem FP.trans {P : Nat} {x x1 x2 : rg_S} (h : FP P x x1) (h2 : FP P x1 x2) : FP P x x2 := ⟨fun o k a c => (h2.1 o k a c).trans (h.1 o k a c), h2.2.1.trans h.2.1, fun o a c d => (h2.2.2 o a c d).trans (h.2.2 o a c d)⟩
theorem FP.pic {x x' : rg_S} {P : Nat} {g : gG} (h : FP P x x') (hP : isP P) (hx : xPic x P g) : xPic x' P g := by
  have hP' : P = 7 ∨ P = 15 := hP
  exact hx.c (fun k _ => h.1 P k (by omega) (by omega)) (fun j j1 j2 => h.2.2 _ (by omega) (by omega) (by omega))
section
variable {X : px_X} {b B : Nat} {w0 w1 w : px_W} {x y : rg_S} {P p c : Nat} {g : gG} {I : Nat → Nat → Nat → Int32} {Z : Nat → Int32}
/-- a row of blocks, then all -/
theorem x_pc63 {w h : Nat} {J : Nat → Nat → Int32} (hst : px_st X) (hP : isP P) (hR : x.2.1 0 5 = P) (hg : gOk g) (hb : gBs g g.2.2.1 ≤ 192) (hx : xPic x P g) (hI : pI x 4 w h J) (hby : ∀ i j, i < w → j < h → isB8 (J i j)) (hJ : ∀ i j : Nat, J (clampZ i w) (clampZ j h) = pnJ g I c i j) (ht : ∀ u t, u < 8 → t < 8 → x.2.2.1 37 (192 + 8 * u + t) = wvN 8 u t) (hc : c < g.2.2.1) (hs : ∀ k, k < 64 → x.2.2.1 (P + 7) (64 * c + k) = nI (pS p c k)) (hZ : x.2.2.1 (P + 6) = fU (64 * gBs g c) (pnV g I p) Z) :
    ∃ x', fX11_paintComponent_63 X FU (B + 0) (nI c) 0 (rg_p lX B w0 x) = some (rg_p lX B w0 x') ∧ FP P x x' ∧ x'.2.2.1 (P + 6) = fU (64 * gBs g (c + 1)) (pnV g I p) Z := by
  have hP' : P = 7 ∨ P = 15 := hP
  have hc4 := hg.2.2.2.2.2.1
  have hac := hg.ac hc
  have hdn := hg.dn hc
  have gq : ∀ x1 : rg_S, x1.2.1 = x.2.1 → gR (rg_p lX B w0 x1) (B + 0) 11 5 = some (B + P) := fun x1 h => by rw [← hR, ← h]; exact rg_R rfl rfl
  obtain ⟨q, e, hq⟩ := rg_lpE (F := fun u (s : Int32 × rg_S) => fX11_paintComponent_63 X u (B + 0) (nI c) s.1 (rg_p lX B w0 s.2)) (E := fun s => some (rg_p lX B w0 s.2)) (n := gDn g c) (fun j s => s.1 = nI j ∧ s.2.1 = x.1 ∧ s.2.2.1 = x.2.1 ∧ (∀ o, o ≠ P + 6 → s.2.2.2.1 o = x.2.2.1 o) ∧ s.2.2.2.1 (P + 6) = fU (64 * (gBs g c + j * gAc g c)) (pnV g I p) Z) (by
    rintro m j ⟨j', x1⟩ hj ⟨e1, i1, i2, i3, i6⟩
    dsimp only at e1 i1 i2 i3 i6 ⊢
    subst e1
    obtain ⟨q, e, hq⟩ := rg_lpE (F := fun u (s : Int32 × rg_S) => fX11_paintComponent_78 X (fX11_paintComponent_63 X m) u (B + 0) (nI c) (nI j) s.1 (rg_p lX B w0 s.2)) (E := fun s => fX11_paintComponent_63 X m (B + 0) (nI c) (nI (j + 1)) (rg_p lX B w0 s.2)) (n := gAc g c) (fun i s => s.1 = nI i ∧ s.2.1 = x.1 ∧ s.2.2.1 = x.2.1 ∧ (∀ o, o ≠ P + 6 → s.2.2.2.1 o = x.2.2.1 o) ∧ s.2.2.2.1 (P + 6) = fU (64 * (gBs g c + j * gAc g c + i)) (pnV g I p) Z) (by
      rintro m2 i ⟨i', x2⟩ hi ⟨e1, k1, k2, k3, k6⟩
      dsimp only at e1 k1 k2 k3 k6 ⊢
      subst e1
      have px : xPic x2 P g := hx.c (fun k _ => by rw [k1]) (fun j j1 j2 => k3 _ (by omega))
      have pI2 : pI x2 4 w h J := by
        obtain ⟨a1, a2, a3, a4, a5, a6, a7⟩ := hI
        exact ⟨a1, a2, a3, a4, by rw [k1]; exact a5, by rw [k1]; exact a6, fun i j hi hj => by rw [k3 _ (by omega)]; exact a7 i j hi hj⟩
      obtain ⟨x3, ef, l1, l2, l3, l6⟩ := x_forward (X := X) (B := B) (w0 := w0) (x := x2) (st := pS p c) hst hP hg hb px pI2 hby (by rw [k3 37 (by omega)]; exact ht) hc (fun k hk => ⟨by rw [k3 _ (by omega)]; exact hs k hk, pS_in p c k⟩) hi hj
      refine ⟨(nI (i + 1), x3), ?_, rfl, l1.trans k1, l2.trans k2, fun o ho => (l3 o ho).trans (k3 o ho), ?_⟩
      · rw [fX11_paintComponent_78.eq_2]
        refine ob_v (gq x2 k2) (ob_v (rg_C hP.o rfl) (ob_v (rg_A hP.a3 (by decide) c (by omega) (by decide)) ?_))
        rw [(px.2.2.2.2 c hc).1]
        refine ei_n (nI_ge hi (by omega)) (ob_v (rg_C rfl rfl) (ob_v (rg_C rfl rfl) (ob_v (gq x2 k2) (ob_v (rg_O rfl) (ob_v ef ?_)))))
        rw [nI_1]
      · dsimp only
        rw [l6, k6, fW_U (fun k hk => ?_), Nat.add_assoc]
        rw [pnV_at (by omega) hi hj hk]
        have : (fun i j : Nat => J (clampZ i w) (clampZ j h)) = pnJ g I c := funext fun i => funext fun j => hJ i j
        rw [this]) (by
      rintro m2 ⟨i', x2⟩ ⟨e1, k1, k2, k3, k6⟩
      dsimp only at e1 k1 k2 k3 k6 ⊢
      subst e1
      have px : xPic x2 P g := hx.c (fun k _ => by rw [k1]) (fun j j1 j2 => k3 _ (by omega))
      rw [fX11_paintComponent_78.eq_2]
      refine ob_v (gq x2 k2) (ob_v (rg_C hP.o rfl) (ob_v (rg_A hP.a3 (by decide) c (by omega) (by decide)) ?_))
      rw [(px.2.2.2.2 c hc).1]
      refine ei_t (nI_le (Nat.le_refl _) (by omega)) ?_
      rw [fX11_paintComponent_115, nI_1]) (gAc g c) FU 0 (0, x1) (by omega) (by unfold FU; omega) ⟨rfl, i1, i2, i3, i6⟩
    have px : xPic x1 P g := hx.c (fun k _ => by rw [i1]) (fun j j1 j2 => i3 _ (by omega))
    refine ⟨(nI (j + 1), q.2), ?_, rfl, hq.2.1, hq.2.2.1, hq.2.2.2.1, ?_⟩
    · rw [fX11_paintComponent_63.eq_2]
      refine ob_v (gq x1 i2) (ob_v (rg_C hP.o rfl) (ob_v (rg_A hP.a4 (by decide) c (by omega) (by decide)) ?_))
      rw [(px.2.2.2.2 c hc).2.1]
      exact ei_n (nI_ge hj (by omega)) e
    · rw [Nat.add_mul, Nat.one_mul, ← Nat.add_assoc]
      exact hq.2.2.2.2) (by
    rintro m ⟨j', x1⟩ ⟨e1, i1, i2, i3, i6⟩
    dsimp only at e1 i1 i2 i3 i6 ⊢
    subst e1
    have px : xPic x1 P g := hx.c (fun k _ => by rw [i1]) (fun j j1 j2 => i3 _ (by omega))
    rw [fX11_paintComponent_63.eq_2]
    refine ob_v (gq x1 i2) (ob_v (rg_C hP.o rfl) (ob_v (rg_A hP.a4 (by decide) c (by omega) (by decide)) ?_))
    rw [(px.2.2.2.2 c hc).2.1]
    exact ei_t (nI_le (Nat.le_refl _) (by omega)) rfl) (gDn g c) FU 0 (0, x) (by omega) (by unfold FU; omega) ⟨rfl, rfl, rfl, fun _ _ => rfl, by rw [Nat.zero_mul, Nat.add_zero]; exact hZ⟩
  refine ⟨q.2, e, ⟨fun o k _ _ => by rw [hq.2.1], hq.2.2.1, fun o _ _ ho => hq.2.2.2.1 o ho⟩, ?_⟩
  rw [hq.2.2.2.2, Nat.mul_comm (gDn g c)]
  rfl
theorem x_paintC (hst : px_st X) (hP : isP P) (hR : x.2.1 0 5 = P) (hg : gOk g) (hb : gBs g g.2.2.1 ≤ 192) (hx : xPic x P g) (hc : c < g.2.2.1) (hI : pI x c g.1 g.2.1 (I c)) (hby : ∀ i j, i < g.1 → j < g.2.1 → isB8 (I c i j)) (ht : ∀ u t, u < 8 → t < 8 → x.2.2.1 37 (192 + 8 * u + t) = wvN 8 u t) (hs : ∀ k, k < 64 → x.2.2.1 (P + 7) (64 * c + k) = nI (pS p c k)) (hZ : x.2.2.1 (P + 6) = fU (64 * gBs g c) (pnV g I p) Z) :
    ∃ x', fX11_paintComponent X (rg_p lX B w0 x) (B + 0) (nI c) = some (rg_p lX B w0 x') ∧ FP P x x' ∧ x'.2.2.1 (P + 6) = fU (64 * gBs g (c + 1)) (pnV g I p) Z := by
  have hP' : P = 7 ∨ P = 15 := hP
  have hc4 := hg.2.2.2.2.2.1
  have hgh := hg.h
  have hgv := hg.v
  have fc := hg.2.2.2.2.2.2 c hc
  have gq : gR (rg_p lX B w0 x) (B + 0) 11 5 = some (B + P) := by rw [← hR]; exact rg_R rfl rfl
  obtain ⟨x1, es, I1, F1⟩ := x_shrunk (X := X) (B := B) (w0 := w0) (by omega) hI (pA_2 g c) (pC_2 g c)
  have px1 := F1.pic hP hx
  obtain ⟨x2, e2, F2, h2⟩ := x_pc63 (X := X) (B := B) (w0 := w0) (x := x1) (g := g) (c := c) (I := I) (p := p) (Z := Z) hst hP (by rw [F1.2.1]; exact hR) hg hb px1 I1 (fun i j hi hj => skI_b hI.1 hI.2.2.1 hby hi hj) (fun i j => rfl) (by rw [F1.2.2 37 (by decide) (by decide)]; exact ht) hc (by rw [F1.2.2 (P + 7) (by omega) (by omega)]; exact hs) (by rw [F1.2.2 (P + 6) (by omega) (by omega)]; exact hZ)
  refine ⟨x2, ?_, FP.trans ⟨F1.1, F1.2.1, fun o a c _ => F1.2.2 o a c⟩ F2, h2⟩
  have f58 : fX11_paintComponent_58 X (B + 0) (nI c) (nI (pC g c)) (nI (pA g c)) (B + (24 + 2 * c)) (B + 32) (rg_p lX B w0 x) = some (rg_p lX B w0 x2) := by
    unfold fX11_paintComponent_58
    exact ob_v (rg_O rfl) (ob_v es e2)
  have f34 : fX11_paintComponent_34 X (B + 0) (nI c) (nI (pA g c)) (B + (24 + 2 * c)) (B + 32) (rg_p lX B w0 x) = some (rg_p lX B w0 x2) := by
    unfold fX11_paintComponent_34
    refine ob_v gq (ob_v (rg_C hP.o rfl) (ob_v (rg_A hP.a2 (by decide) c (by omega) (by decide)) (ob_v gq (ob_v (rg_I hP.o rfl) ?_))))
    rw [hx.2.2.1, hx.1.2.2.2.2 c hc]
    unfold pC at f58
    by_cases h : g.2.2.2.2 c < gV_ g
    · rw [if_pos h] at f58
      exact ei_n (nI_ge h (by omega)) f58
    · rw [if_neg h] at f58
      exact ei_t (nI_le (by omega) (by omega)) f58
  unfold fX11_paintComponent
  refine ob_v (rg_C rfl rfl) (ob_v (rg_C rfl rfl) (ob_v (x_plane (by omega)) (ob_v gq (ob_v (rg_C hP.o rfl) (ob_v (rg_A hP.a1 (by decide) c (by omega) (by decide)) (ob_v gq (ob_v (rg_I hP.o rfl) ?_)))))))
  rw [hx.2.1, hx.1.2.2.2.1 c hc]
  unfold pA at f34
  by_cases h : g.2.2.2.1 c < gH g
  · rw [if_pos h] at f34
    exact ei_n (nI_ge h (by omega)) f34
  · rw [if_neg h] at f34
    exact ei_t (nI_le (by omega) (by omega)) f34
/-- setSteps -/
theorem x_setSteps (hst : px_st X) (hP : isP P) (hc : c < 4) (hp : p ≤ 5000) : fX2_setSteps X (rg_p lX B w0 x) (B + P) (nI c) (nI p) = some (rg_p lX B w0 (rg_wA x (P + 7) (fW c 64 (fun k => nI (pS p c k)) (x.2.2.1 (P + 7))))) := by
  have loop : ∀ a d : Nat, a = (if c = 0 then 16 else 17) → d = (if c = 0 then 6 else 10) → fX2_setSteps_28 X FU (B + P) (nI c) (nI p) (nI a) (nI d) 0 (rg_p lX B w0 x) = some (rg_p lX B w0 (rg_wA x (P + 7) (fW c 64 (fun k => nI (pS p c k)) (x.2.2.1 (P + 7))))) := by
    intro a d ha hd
    have ha2 : a ≤ 17 := by rw [ha]; split <;> decide
    have hd2 : d ≤ 10 := by rw [hd]; split <;> decide
    have e := rg_lpF (F := fun u (t : Int32 × px_W) => fX2_setSteps_28 X u (B + P) (nI c) (nI p) (nI a) (nI d) t.1 t.2) 64 (fun k => (nI k, rg_p lX B w0 (rg_wA x (P + 7) (fW c k (fun k => nI (pS p c k)) (x.2.2.1 (P + 7)))))) (r := some (rg_p lX B w0 (rg_wA x (P + 7) (fW c 64 (fun k => nI (pS p c k)) (x.2.2.1 (P + 7)))))) (by omega) ?_ ?_
    · refine Eq.trans ?_ e
      dsimp only
      rw [fW_0, wA_id rfl, nI_0]
    · intro m k hk
      dsimp only
      have hz := zg_lt hk
      have hs : zg k / 8 + zg k % 8 ≤ 14 := by omega
      have hm : d * (zg k / 8 + zg k % 8) ≤ 10 * 14 := Nat.mul_le_mul hd2 hs
      have hm2 : (a + d * (zg k / 8 + zg k % 8)) * p ≤ 157 * 5000 := Nat.mul_le_mul (by omega) hp
      rw [fX2_setSteps_28.eq_2]
      refine ei_n (nI_ge (b := 64) hk (by omega)) (ob_v (s_zig hst hk) (ob_v (dI_n (d := 8) (by omega) (by decide) (by decide)) (ob_v (s_zig hst hk) (ob_v (rI_n (d := 8) (by omega) (by decide) (by decide)) ?_))))
      rw [nI_add, pk_mul, nI_add, pk_mul, show (50 : Int32) = nI 50 from rfl, nI_add, n64]
      refine ob_v (dI_n (d := 100) (by omega) (by decide) (by decide)) (ob_v (rg_C hP.o rfl) (ob_v (rg_sA _ hP.a7 (by decide) _ _ (by omega) (by decide)) ?_))
      rw [wA_wA, wA_s, id, nI_1, ← fW_s]
      congr 5
      unfold pS
      rw [← ha, ← hd, show (255 : Int32) = nI 255 from rfl, mminN (by decide) (by omega), show (1 : Int32) = nI 1 from rfl, mmaxN (by decide) (by omega)]
    · intro m
      dsimp only
      rw [fX2_setSteps_28.eq_2]
      exact ei_t (by decide) rfl
  unfold fX2_setSteps fX2_setSteps_11 fX2_setSteps_23
  by_cases c0 : c = 0
  · refine ei_t (by rw [c0]; rfl) (ei_t (by rw [c0]; rfl) (loop 16 6 ?_ ?_))
    · rw [if_pos c0]
    · rw [if_pos c0]
  · refine ei_n (nI_ne0 (by omega) (by omega)) (ei_n (nI_ne0 (by omega) (by omega)) (loop 17 10 ?_ ?_))
    · rw [if_neg c0]
    · rw [if_neg c0]
end
