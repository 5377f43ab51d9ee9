/-! showAt -/
/-- one call on both sides, where the states aren't the same for all worlds -/
def op2' (B b : Nat) {α : Type} (F : px_W → Option (α × px_W)) (G : px_W → Option (α × px_W)) (x y : rg_S) : Prop := ∀ w0, ∃ a x', F (rg_p lX B w0 x) = some (a, rg_p lX B w0 x') ∧ ∀ w1, ∃ y', G (rg_p lM b w1 y) = some (a, rg_p lM b w1 y') ∧ Rel x' y'
theorem bk2_cong {n : Nat} {G G' : Nat → Int64} (n8 : n ≤ 8) (h : ∀ i, i < 64 → G i = G' i) (X Y : Nat) : bk2 n G X Y = bk2 n G' X Y := by
  unfold bk2
  rw [sumL_cong (f' := fun u => (wvN n u X).toInt64 * bk1 n G' u Y) (fun u hu => ?_)]
  unfold bk1
  rw [sumL_cong (f' := fun v => (wvN n v Y).toInt64 * G' (8 * v + u)) (fun v hv => ?_)]
  rw [h _ (by omega)]
theorem bkI_cong {g : gG} {F S F' S' : Nat → Int32} {n c X Y : Nat} (n1 : 0 < n) (n8 : n ≤ 8) (hc : c < g.2.2.1) (hF : ∀ i, i < 64 * gBs g g.2.2.1 → F i = F' i) (hS : ∀ i, i < 64 * g.2.2.1 → S i = S' i) (hX : X < n * gAc g c) (hY : Y < n * gDn g c) : bkI g F S n c X Y = bkI g F' S' n c X Y := by
  have h1 : X / n < gAc g c := Nat.div_lt_of_lt_mul hX
  have h2 : Y / n < gDn g c := Nat.div_lt_of_lt_mul hY
  have hin := gB_in hc h1 h2
  unfold bkI
  refine bk2_cong n8 (fun i hi => ?_) _ _
  have hz := iz_lt hi
  unfold bkG
  rw [hF _ (by omega), hS _ (by omega)]
theorem gwA_cong {t : Int32} {w h : Nat} {I I' : Nat → Nat → Int32} (hw : 1 ≤ w) (e : ∀ i j, i < w → j < h → I i j = I' i j) {i j : Nat} (hi : i < 2 * w) (hj : j < h) : gwA t w I i j = gwA t w I' i j := by
  unfold gwA
  rw [e _ _ (show i / 2 < w by omega) hj, e _ _ (clampZ_lt hw) hj]
theorem gwD_cong {t : Int32} {w h : Nat} {I I' : Nat → Nat → Int32} (hh : 1 ≤ h) (e : ∀ i j, i < w → j < h → I i j = I' i j) {i j : Nat} (hi : i < w) (hj : j < 2 * h) : gwD t h I i j = gwD t h I' i j := by
  unfold gwD
  rw [e _ _ hi (show j / 2 < h by omega), e _ _ hi (clampZ_lt hh)]
theorem sh2I_cong {g : gG} {F S F' S' : Nat → Int32} {t : Int32} {n s c : Nat} (hg : gOk g) (hn : n = 2 ^ s) (hs : s < 4) (hc : c < g.2.2.1) (hw : gUp (g.1 * n) 8 ≤ 32) (hh : gUp (g.2.1 * n) 8 ≤ 32) (hF : ∀ i, i < 64 * gBs g g.2.2.1 → F i = F' i) (hS : ∀ i, i < 64 * g.2.2.1 → S i = S' i) {i j : Nat} (hi : i < sh1W g n c) (hj : j < sh2H g n c) : sh2I g F S t n c i j = sh2I g F' S' t n c i j := by
  obtain ⟨⟨a1, a2, a3, a4, a5, a6, a7⟩, ⟨d1, d2, d3, d4, d5, d6, d7⟩⟩ := sh_sz hg hn hs hc hw hh
  have n18 : 1 ≤ n ∧ n ≤ 8 := by
    rw [hn]
    rcases (show s = 0 ∨ s = 1 ∨ s = 2 ∨ s = 3 by omega) with rfl | rfl | rfl | rfl <;> decide
  have e0 : ∀ i j, i < shW g n c → j < shH g n c → bkI g F S n c i j = bkI g F' S' n c i j := fun i j hi hj => bkI_cong (by omega) n18.2 hc hF hS (by omega) (by omega)
  have e1 : ∀ i j, i < sh1W g n c → j < shH g n c → sh1I g F S t n c i j = sh1I g F' S' t n c i j := by
    intro i j hi hj
    unfold sh1I
    unfold sh1W at hi
    by_cases e : g.2.2.2.1 c < gH g
    · rw [if_pos e] at hi ⊢
      rw [if_pos e]
      exact gwA_cong a2 e0 hi hj
    · rw [if_neg e] at hi ⊢
      rw [if_neg e]
      exact e0 i j hi hj
  unfold sh2I
  unfold sh2H at hj
  by_cases e : g.2.2.2.2 c < gV_ g
  · rw [if_pos e] at hj ⊢
    rw [if_pos e]
    exact gwD_cong d2 e1 hi hj
  · rw [if_neg e] at hj ⊢
    rw [if_neg e]
    exact e1 i j hi hj
def isB8 (v : Int32) : Prop := ∃ c, c < 256 ∧ v = nI c
theorem tri_b {a d : Int32} {o : Nat} (ha : isB8 a) (hd : isB8 d) (ho : o < 2) : isB8 ((3 * a + d + 1 + nI o) >>> (2 &&& 31)) := by
  obtain ⟨p, hp, rfl⟩ := ha
  obtain ⟨q, hq, rfl⟩ := hd
  rw [show (3 : Int32) = nI 3 from rfl, pk_mul, nI_add, nI_1, nI_add, pk_shrN (by omega) (2 &&& 31) 2 (by decide)]
  exact ⟨_, by omega, rfl⟩
theorem sh2I_b {g : gG} {F S : Nat → Int32} {t : Int32} {n c : Nat} (i j : Nat) : isB8 (sh2I g F S t n c i j) := by
  have b0 : ∀ i j, isB8 (bkI g F S n c i j) := fun i j => by
    unfold bkI bk2 isB8
    exact limL_b _
  have b1 : ∀ i j, isB8 (sh1I g F S t n c i j) := by
    intro i j
    unfold sh1I
    split
    · unfold gwA
      split
      · exact b0 _ _
      · exact tri_b (b0 _ _) (b0 _ _) (by omega)
    · exact b0 _ _
  unfold sh2I
  split
  · unfold gwD
    split
    · exact b1 _ _
    · exact tri_b (b1 _ _) (b1 _ _) (by omega)
  · exact b1 _ _
section
variable {X : px_X} {b B : Nat} {w0 w1 : px_W} {x y : rg_S} {P Q n s c w h : Nat} {g : gG} {F S : Nat → Int32} {t : Int32} {I : Nat → Nat → Int32}
/-- c components shown: the class -/
def xSh (x x' : rg_S) (c w h : Nat) (J : Nat → Nat → Nat → Int32) : Prop := (∀ o k, o < 24 ∨ 36 ≤ o → x'.1 o k = x.1 o k) ∧ x'.2.1 = x.2.1 ∧ (∀ o, o < 24 ∨ 36 ≤ o → x'.2.2.1 o = x.2.2.1 o) ∧ (∀ p, c ≤ p → p < 4 → (∀ k, x'.1 (24 + 2 * p) k = x.1 (24 + 2 * p) k) ∧ x'.2.2.1 (24 + 2 * p + 1) = x.2.2.1 (24 + 2 * p + 1)) ∧ ∀ p, p < c → pI x' p w h (J p)
def ySh (y y' : rg_S) (c w h : Nat) (J : Nat → Nat → Nat → Int32) : Prop := (∀ o k, o ≠ 0 ∨ k ≠ 44 ∧ k ≠ 45 → y'.1 o k = y.1 o k) ∧ y'.2.1 = y.2.1 ∧ (∀ o, o < 72 ∨ 77 ≤ o → y'.2.2.1 o = y.2.2.1 o) ∧ (∀ p, c ≤ p → p < 4 → y'.2.2.1 73 p = y.2.2.1 73 p ∧ y'.2.2.1 74 p = y.2.2.1 74 p ∧ ∀ t, t < 1024 → y'.2.2.1 72 (1024 * p + t) = y.2.2.1 72 (1024 * p + t)) ∧ (∀ p, p < c → y'.2.2.1 73 p = nI w ∧ y'.2.2.1 74 p = nI h ∧ ∀ i j, i < w → j < h → y'.2.2.1 72 (1024 * p + w * j + i) = J p i j) ∧ r4b y'
theorem x_show79 (hst : px_st X) (hQ : isP Q) (hR : x.2.1 0 4 = Q) (hg : gOk g) (hb : gBs g g.2.2.1 ≤ 192) (hx : xPic x Q g) (hn : n = 2 ^ s) (hs : s < 4) (ht : ∀ u t, u < 2 ^ s → t < 2 ^ s → x.2.2.1 37 (64 * s + 8 * u + t) = wvN (2 ^ s) u t) (ew : gUp (g.1 * n) 8 = w) (eh : gUp (g.2.1 * n) 8 = h) (hw : w ≤ 32) (hh : h ≤ 32) :
    ∃ x', fX11_showAt_79 X FU (B + 0) (nI n) t (nI w) (nI h) 0 (rg_p lX B w0 x) = some (1, rg_p lX B w0 x') ∧ xSh x x' g.2.2.1 w h (fun p => sh2I g (x.2.2.1 (Q + 6)) (x.2.2.1 (Q + 7)) t n p) := by
  have hQ' : Q = 7 ∨ Q = 15 := hQ
  have hc4 := hg.2.2.2.2.2.1
  obtain ⟨q, e, hq⟩ := rg_lpE (F := fun u (p : Int32 × rg_S) => fX11_showAt_79 X u (B + 0) (nI n) t (nI w) (nI h) p.1 (rg_p lX B w0 p.2)) (E := fun p => some (1, rg_p lX B w0 p.2)) (n := g.2.2.1) (fun c p => p.1 = nI c ∧ xSh x p.2 c w h (fun p => sh2I g (x.2.2.1 (Q + 6)) (x.2.2.1 (Q + 7)) t n p)) (by
    rintro m c ⟨c', x1⟩ hc ⟨e1, f1, f2, f3, f4, f5⟩
    dsimp only at e1 f1 f2 f3 f4 f5 ⊢
    subst e1
    have px : xPic x1 Q g := hx.c (fun k _ => f1 Q k (by omega)) (fun j j1 j2 => f3 _ (by omega))
    obtain ⟨x2, e2, p2, g1, g2, g3⟩ := x_showC (X := X) (B := B) (w0 := w0) (x := x1) (t := t) hst hQ (by rw [f2]; exact hR) hg hb px hn hs (by rw [f3 37 (by omega)]; exact ht) hc (by omega) (by omega)
    rw [f3 (Q + 6) (by omega), f3 (Q + 7) (by omega)] at p2
    obtain ⟨⟨a1, a2, a3, a4, a5, a6, a7⟩, ⟨d1, d2, d3, d4, d5, d6, d7⟩⟩ := sh_sz (c := c) hg hn hs hc (by omega) (by omega)
    obtain ⟨x3, e3, p3, i1, i2, i3⟩ := x_first (X := X) (B := B) (w0 := w0) (p := c) (q := 4) (w := w) (h := h) (by omega) (by decide) (by omega) p2 (by omega) (by omega) (by omega) (by omega)
    have gq : gR (rg_p lX B w0 x1) (B + 0) 11 4 = some (B + Q) := by rw [← hR, ← f2]; exact rg_R rfl rfl
    refine ⟨(nI (c + 1), x3), ?_, rfl, ?_, ?_, ?_, ?_, ?_⟩
    · rw [fX11_showAt_79.eq_2]
      refine ob_v gq (ob_v (rg_I hQ.o rfl) ?_)
      rw [px.1.2.2.1]
      refine ei_n (nI_ge hc (by omega)) (ob_v (rg_O rfl) (ob_v e2 (ob_v (rg_C rfl rfl) (ob_v (x_plane (by omega)) (ob_v (rg_C rfl rfl) (ob_v (rg_O (pl_o (by omega))) (ob_v e3 ?_)))))))
      rw [nI_1]
    · intro o k ho
      exact ((i1 o k (by omega)).trans (g1 o k (by omega) (by omega))).trans (f1 o k ho)
    · exact (i2.trans g2).trans f2
    · intro o ho
      exact ((i3 o (by omega)).trans (g3 o (by omega) (by omega))).trans (f3 o ho)
    · intro p p1 p2
      refine ⟨fun k => ((i1 _ k (by omega)).trans (g1 _ k (by omega) (by omega))).trans ((f4 p (by omega) p2).1 k), ((i3 _ (by omega)).trans (g3 _ (by omega) (by omega))).trans (f4 p (by omega) p2).2⟩
    · intro p hp
      by_cases e : p = c
      · subst e
        exact p3
      · obtain ⟨q1, q2, q3, q4, q5, q6, q7⟩ := f5 p (by omega)
        refine ⟨q1, q2, q3, q4, ?_, ?_, fun i j hi hj => ?_⟩
        · exact ((i1 _ 0 (by omega)).trans (g1 _ 0 (by omega) (by omega))).trans q5
        · exact ((i1 _ 1 (by omega)).trans (g1 _ 1 (by omega) (by omega))).trans q6
        · dsimp only
          rw [i3 _ (by omega), g3 _ (by omega) (by omega)]
          exact q7 i j hi hj) (by
    rintro m ⟨c', x1⟩ ⟨e1, f1, f2, f3, f4, f5⟩
    dsimp only at e1 f1 f2 f3 f4 f5 ⊢
    subst e1
    have px : xPic x1 Q g := hx.c (fun k _ => f1 Q k (by omega)) (fun j j1 j2 => f3 _ (by omega))
    have gq : gR (rg_p lX B w0 x1) (B + 0) 11 4 = some (B + Q) := by rw [← hR, ← f2]; exact rg_R rfl rfl
    rw [fX11_showAt_79.eq_2]
    refine ob_v gq (ob_v (rg_I hQ.o rfl) ?_)
    rw [px.1.2.2.1]
    exact ei_t (nI_le (Nat.le_refl _) (by omega)) rfl) g.2.2.1 FU 0 (0, x) (by omega) (by unfold FU; omega) ⟨rfl, fun _ _ _ => rfl, rfl, fun _ _ => rfl, fun p _ _ => ⟨fun _ => rfl, rfl⟩, fun p hp => absurd hp (Nat.not_lt_zero p)⟩
  exact ⟨q.2, e, hq.2⟩
theorem m_show73 (ho : ∀ k, k < 64 → y.2.2.1 71 (zg k) = nI k) (hbt : r4b y) (hg : gOk g) (hb : gBs g g.2.2.1 ≤ 192) (hy : mPic y g) (hn : n = 2 ^ s) (hs : s < 4) (ew : gUp (g.1 * n) 8 = w) (eh : gUp (g.2.1 * n) 8 = h) (hw : w ≤ 32) (hh : h ≤ 32) :
    ∃ y', fX15_showAt_73 X FU (b + 0) (nI n) t (nI w) (nI h) 0 (rg_p lM b w0 y) = some (1, rg_p lM b w0 y') ∧ ySh y y' g.2.2.1 w h (fun p => sh2I g (y.2.2.1 64) (y.2.2.1 63) t n p) := by
  have hc4 := hg.2.2.2.2.2.1
  have n18 : 1 ≤ n ∧ n ≤ 8 := by
    rw [hn]
    rcases (show s = 0 ∨ s = 1 ∨ s = 2 ∨ s = 3 by omega) with rfl | rfl | rfl | rfl <;> decide
  obtain ⟨q, e, hq⟩ := rg_lpE (F := fun u (p : Int32 × rg_S) => fX15_showAt_73 X u (b + 0) (nI n) t (nI w) (nI h) p.1 (rg_p lM b w0 p.2)) (E := fun p => some (1, rg_p lM b w0 p.2)) (n := g.2.2.1) (fun c p => p.1 = nI c ∧ ySh y p.2 c w h (fun p => sh2I g (y.2.2.1 64) (y.2.2.1 63) t n p)) (by
    rintro m c ⟨c', y1⟩ hc ⟨e1, f1, f2, f3, f4, f5, f6⟩
    dsimp only at e1 f1 f2 f3 f4 f5 f6 ⊢
    subst e1
    have py : mPic y1 g := by
      unfold mPic mFr at *
      rw [f1 0 18 (by omega), f1 0 19 (by omega), f1 0 20 (by omega), f1 0 26 (by omega), f1 0 27 (by omega), f1 0 28 (by omega), f1 0 29 (by omega), f3 58 (by omega), f3 59 (by omega), f3 60 (by omega), f3 61 (by omega), f3 62 (by omega)]
      exact hy
    obtain ⟨p60, p61, p62⟩ := py.2.2.2.2.2 c hc
    have pym : mPic (rg_wI (rg_wI y1 0 44 (nI (n * gAc g c))) 0 45 (nI (n * gDn g c))) g := py
    obtain ⟨⟨a1, a2, a3, a4, a5, a6, a7⟩, ⟨d1, d2, d3, d4, d5, d6, d7⟩⟩ := sh_sz (c := c) hg hn hs hc (by omega) (by omega)
    obtain ⟨y2, e2, A2, F2⟩ := m_sc_blocks (X := X) (b := b) (w0 := w0) (t := t) (w := w) (h := h) (k73 := fX15_showAt_73 X m) (y := rg_wI (rg_wI y1 0 44 (nI (n * gAc g c))) 0 45 (nI (n * gDn g c))) (n := n) (c := c) (by show ∀ k, k < 64 → y1.2.2.1 71 (zg k) = nI k; rw [f3 71 (by omega)]; exact ho) hg hb pym n18.1 n18.2 hc a1 d1 rfl rfl
    have A2' : aI y2 (n * gAc g c) (n * gDn g c) (bkI g (y.2.2.1 64) (y.2.2.1 63) n c) := by
      have e64 : (rg_wI (rg_wI y1 0 44 (nI (n * gAc g c))) 0 45 (nI (n * gDn g c))).2.2.1 64 = y.2.2.1 64 := f3 64 (by omega)
      have e63 : (rg_wI (rg_wI y1 0 44 (nI (n * gAc g c))) 0 45 (nI (n * gDn g c))).2.2.1 63 = y.2.2.1 63 := f3 63 (by omega)
      rw [e64, e63] at A2
      exact A2
    obtain ⟨y3, e3, A3, F3⟩ := m_sc170 (X := X) (b := b) (w0 := w0) (t := t) (w := w) (h := h) (k73 := fX15_showAt_73 X m) hg (F2.pic pym) hn hs hc (by omega) (by omega) A2'
    have e4 := m_sc266 (X := X) (b := b) (w0 := w0) (t := t) (w := w) (h := h) (n := n) (c := c) (k73 := fX15_showAt_73 X m) A3 (by omega) (by omega) (by omega) hw (by omega) (by omega) hh
    have F23 := F2.trans F3
    have fI : ∀ o k, o ≠ 0 ∨ k ≠ 44 ∧ k ≠ 45 → y3.1 o k = y1.1 o k := fun o k hk => (F23.1 o k hk).trans ((wI_n _ _ (by omega)).trans (wI_n _ _ (by omega)))
    have fAA : ∀ o, o ≠ 75 → o ≠ 76 → y3.2.2.1 o = y1.2.2.1 o := fun o o1 o2 => F23.2.2 o o1 o2
    refine ⟨(nI (c + 1), rg_wA (rg_wA (rg_wA y3 73 (upd (y3.2.2.1 73) c (nI w))) 74 (upd (y3.2.2.1 74) c (nI h))) 72 (fD c (fB w 0 0 w h 0 (sh2I g (y.2.2.1 64) (y.2.2.1 63) t n c) (fun t => y3.2.2.1 72 (1024 * c + t))) (y3.2.2.1 72))), ?_, rfl, ?_, ?_, ?_, ?_, ?_, ?_⟩
    · rw [fX15_showAt_73.eq_2]
      refine ob_v (rg_I rfl rfl) ?_
      rw [py.1.2.2.1]
      refine ei_n (nI_ge hc (by omega)) (ob_v (rg_C rfl rfl) (ob_v (rg_A rfl (by decide) c (by omega) (by decide)) ?_))
      rw [p60, pk_mul]
      refine ob_v (rg_pI rfl rfl _) (ob_v (rg_C rfl rfl) (ob_v (rg_A rfl (by decide) c (by omega) (by decide)) ?_))
      rw [wI_2, p61, pk_mul]
      exact ob_v (rg_pI rfl rfl _) (e2.trans (e3.trans e4))
    · intro o k hk
      exact (fI o k hk).trans (f1 o k hk)
    · exact F23.2.1.trans f2
    · intro o ho
      dsimp only
      rw [wA_n _ _ (by omega), wA_n _ _ (by omega), wA_n _ _ (by omega), fAA o (by omega) (by omega)]
      exact f3 o ho
    · intro p p1 p2
      obtain ⟨k1, k2, k3⟩ := f4 p (by omega) p2
      refine ⟨?_, ?_, fun t ht => ?_⟩
      · show upd (y3.2.2.1 73) c (nI w) p = _
        rw [pk_un (by omega), fAA 73 (by decide) (by decide)]
        exact k1
      · show upd (y3.2.2.1 74) c (nI h) p = _
        rw [pk_un (by omega), fAA 74 (by decide) (by decide)]
        exact k2
      · dsimp only
        rw [wA_s]
        unfold fD
        rw [if_neg (by omega), fAA 72 (by decide) (by decide)]
        exact k3 t ht
    · intro p hp
      by_cases e : p = c
      · subst e
        refine ⟨?_, ?_, fun i j hi hj => ?_⟩
        · show upd (y3.2.2.1 73) p (nI w) p = _
          rw [pk_us]
        · show upd (y3.2.2.1 74) p (nI h) p = _
          rw [pk_us]
        · have hr := row_lt hi hj
          have hm : w * h ≤ 32 * 32 := Nat.mul_le_mul hw hh
          dsimp only
          rw [wA_s]
          unfold fD
          rw [if_pos (by omega), show 1024 * p + w * j + i - 1024 * p = w * j + i by omega, fB_at hi, if_pos (by omega)]
          rfl
      · obtain ⟨k1, k2, k3⟩ := f5 p (by omega)
        refine ⟨?_, ?_, fun i j hi hj => ?_⟩
        · show upd (y3.2.2.1 73) c (nI w) p = _
          rw [pk_un e, fAA 73 (by decide) (by decide)]
          exact k1
        · show upd (y3.2.2.1 74) c (nI h) p = _
          rw [pk_un e, fAA 74 (by decide) (by decide)]
          exact k2
        · have hr := row_lt hi hj
          have hm : w * h ≤ 32 * 32 := Nat.mul_le_mul hw hh
          dsimp only
          rw [wA_s]
          unfold fD
          rw [if_neg (by omega), fAA 72 (by decide) (by decide)]
          exact k3 i j hi hj
    · intro u hu
      dsimp only
      rw [wA_s]
      unfold fD
      split
      · unfold fB
        split
        · exact sh2I_b _ _
        · rw [fAA 72 (by decide) (by decide)]
          rename_i hcc _
          show ∃ c_1, c_1 < 256 ∧ y1.2.2.1 72 (1024 * c + (u - 1024 * c)) = nI c_1
          rw [show 1024 * c + (u - 1024 * c) = u by omega]
          exact f6 u hu
      · rw [fAA 72 (by decide) (by decide)]
        exact f6 u hu) (by
    rintro m ⟨c', y1⟩ ⟨e1, f1, f2, f3, f4, f5, f6⟩
    dsimp only at e1 f1 f2 f3 f4 f5 f6 ⊢
    subst e1
    rw [fX15_showAt_73.eq_2]
    refine ob_v (rg_I rfl rfl) ?_
    rw [f1 0 20 (by omega), hy.1.2.2.1]
    exact ei_t (nI_le (Nat.le_refl _) (by omega)) rfl) g.2.2.1 FU 0 (0, y) (by omega) (by unfold FU; omega) ⟨rfl, fun _ _ _ => rfl, rfl, fun _ _ => rfl, fun p _ _ => ⟨rfl, rfl, fun _ _ => rfl⟩, fun p hp => absurd hp (Nat.not_lt_zero p), hbt⟩
  exact ⟨q.2, e, hq.2⟩
theorem o_show (hst : px_st X) (hr : Rel x y) (a t : Int32) : op2' B b (fun w => fX11_showAt X w (B + 0) a t) (fun w => fX15_showAt X w (b + 0) a t) x y := by
  intro w0
  dsimp only
  have h5 := hr.2.2.2.2.2.1
  obtain ⟨Q, hP1, hR, h5⟩ := h5
  have hQ : isP Q := by unfold isP; omega
  have hQ' : Q = 7 ∨ Q = 15 := hQ
  rcases h5 with ⟨t1, t2⟩ | ⟨t1, t2, g, hp⟩
  · refine ⟨0, x, ?_, fun w1 => ⟨y, ?_, hr⟩⟩
    · unfold fX11_showAt
      exact ob_v (rg_I rfl rfl) (ei_t t1 rfl)
    · unfold fX15_showAt
      exact ob_v (rg_I rfl rfl) (ei_t t2 rfl)
  · obtain ⟨pg, pb, px, py, pc, ps⟩ := hp
    have hc4 := pg.2.2.2.2.2.1
    have u1 : ¬ x.1 0 3 = 0 := by rw [t1]; decide
    have u2 : ¬ y.1 0 17 = 0 := by rw [t2]; decide
    by_cases ha : ∃ s, s < 4 ∧ a = nI (2 ^ s)
    · obtain ⟨s, hs, rfl⟩ := ha
      have n18 : 1 ≤ 2 ^ s ∧ 2 ^ s ≤ 8 := by rcases (show s = 0 ∨ s = 1 ∨ s = 2 ∨ s = 3 by omega) with rfl | rfl | rfl | rfl <;> decide
      have dx : ∀ w, fX11_showAt X w (B + 0) (nI (2 ^ s)) t = (gI w (B + 0) 11 3).bind fun v => if v = 0 then some (0, w) else fX11_showAt_30 X (B + 0) (nI (2 ^ s)) t w := by
        intro w
        unfold fX11_showAt
        rcases (show s = 0 ∨ s = 1 ∨ s = 2 ∨ s = 3 by omega) with rfl | rfl | rfl | rfl
        · rw [if_pos (by decide)]
        · rw [if_neg (by decide), if_pos (by decide)]
        · rw [if_neg (by decide), if_neg (by decide), if_pos (by decide)]
        · rw [if_neg (by decide), if_neg (by decide), if_neg (by decide), if_pos (by decide)]
      have dy : ∀ w, fX15_showAt X w (b + 0) (nI (2 ^ s)) t = (gI w (b + 0) 15 17).bind fun v => if v = 0 then some (0, w) else fX15_showAt_30 X (b + 0) (nI (2 ^ s)) t w := by
        intro w
        unfold fX15_showAt
        rcases (show s = 0 ∨ s = 1 ∨ s = 2 ∨ s = 3 by omega) with rfl | rfl | rfl | rfl
        · rw [if_pos (by decide)]
        · rw [if_neg (by decide), if_pos (by decide)]
        · rw [if_neg (by decide), if_neg (by decide), if_pos (by decide)]
        · rw [if_neg (by decide), if_neg (by decide), if_neg (by decide), if_pos (by decide)]
      have m1 : g.1 * 2 ^ s ≤ 64 * 8 := Nat.mul_le_mul pg.2.1 n18.2
      have m2 : g.2.1 * 2 ^ s ≤ 64 * 8 := Nat.mul_le_mul pg.2.2.2.1 n18.2
      have gq : ∀ w0 : px_W, gR (rg_p lX B w0 x) (B + 0) 11 4 = some (B + Q) := fun w0 => by rw [← hR]; exact rg_R rfl rfl
      have l1 := gUp_le2 (a := g.1 * 2 ^ s) (d := 8)
      have l2 := gUp_le2 (a := g.2.1 * 2 ^ s) (d := 8)
      -- up to the question of size
      have sx : ∀ r, (if 32 < nI (gUp (g.1 * 2 ^ s) 8) then some (0, rg_p lX B w0 x) else if nI (gUp (g.2.1 * 2 ^ s) 8) ≤ 32 then fX11_showAt_79 X FU (B + 0) (nI (2 ^ s)) t (nI (gUp (g.1 * 2 ^ s) 8)) (nI (gUp (g.2.1 * 2 ^ s) 8)) 0 (rg_p lX B w0 x) else some (0, rg_p lX B w0 x)) = r → fX11_showAt X (rg_p lX B w0 x) (B + 0) (nI (2 ^ s)) t = r := by
        intro r hr
        rw [dx]
        unfold fX11_showAt_30
        refine ob_v (rg_I rfl rfl) (ei_n u1 (ob_v (gq w0) (ob_v (rg_I hQ.o rfl) ?_)))
        rw [px.1.1, pk_mul, show (8 : Int32) = nI 8 from rfl]
        refine ob_v (x_up (by decide) (by omega)) (ob_v (gq w0) (ob_v (rg_I hQ.o rfl) ?_))
        rw [px.1.2.1, pk_mul]
        exact ob_v (x_up (by decide) (by omega)) hr
      have sy : ∀ w1 r, (if 32 < nI (gUp (g.1 * 2 ^ s) 8) then some (0, rg_p lM b w1 y) else if nI (gUp (g.2.1 * 2 ^ s) 8) ≤ 32 then fX15_showAt_73 X FU (b + 0) (nI (2 ^ s)) t (nI (gUp (g.1 * 2 ^ s) 8)) (nI (gUp (g.2.1 * 2 ^ s) 8)) 0 (rg_p lM b w1 y) else some (0, rg_p lM b w1 y)) = r → fX15_showAt X (rg_p lM b w1 y) (b + 0) (nI (2 ^ s)) t = r := by
        intro w1 r hr
        rw [dy]
        unfold fX15_showAt_30
        refine ob_v (rg_I rfl rfl) (ei_n u2 (ob_v (rg_I rfl rfl) ?_))
        rw [py.1.1, pk_mul, show (8 : Int32) = nI 8 from rfl]
        refine ob_v (m_up (by decide) (by omega)) (ob_v (rg_I rfl rfl) ?_)
        dsimp only
        rw [py.1.2.1, pk_mul]
        exact ob_v (m_up (by decide) (by omega)) hr
      by_cases hw : gUp (g.1 * 2 ^ s) 8 ≤ 32
      · by_cases hh : gUp (g.2.1 * 2 ^ s) 8 ≤ 32
        · obtain ⟨x', ex, hX⟩ := x_show79 (X := X) (B := B) (w0 := w0) (t := t) (s := s) hst hQ hR pg pb px rfl hs (fun u t hu ht => hr.2.2.2.2.2.2.1 s u t hs hu ht) rfl rfl hw hh
          refine ⟨1, x', sx _ (ei_n (nI_nlt (a := 32) hw (by omega)) (ei_t (nI_le (b := 32) hh (by omega)) ex)), fun w1 => ?_⟩
          obtain ⟨y', ey, hY⟩ := m_show73 (X := X) (b := b) (w0 := w1) (t := t) (s := s) hr.2.2.2.2.2.2.2.2.1 hr.2.2.2.2.1 pg pb py rfl hs rfl rfl hw hh
          refine ⟨y', sy w1 _ (ei_n (nI_nlt (a := 32) hw (by omega)) (ei_t (nI_le (b := 32) hh (by omega)) ey)), ?_⟩
          obtain ⟨f1, f2, f3, f4, f5⟩ := hX
          obtain ⟨k1, k2, k3, k4, k5, k6⟩ := hY
          obtain ⟨z1, z2, z3, ⟨WW, HH, r4⟩, z4b, z5, z6⟩ := hr
          refine ⟨z1.c (f1 1 1 (by omega)) (f3 2 (by omega)) (k1 0 1 (by omega)) (k3 1 (by omega)), z2.c ⟨by rw [f2], by rw [f2]⟩ (fun o ho => f1 o 1 (by omega)) (fun o ho => f3 _ (by omega)) (k1 0 3 (by omega)) (k3 2 (by omega)), ?_, ?_, k6, z5.c ⟨by rw [f2], by rw [f2]⟩ ⟨f1 0 3 (by omega), k1 0 17 (by omega)⟩ (fun P k hP hk => f1 P k (by omega)) (fun P j hP j1 j2 => f3 _ (by omega)) (fun k _ _ => k1 0 k (by omega)) (fun o o1 o2 => k3 o (by omega)), z6.c (f3 37 (by omega)) (fun o o1 o2 => k3 o (by omega)) (fun k => f1 195 k (by omega)) (k1 24 42 (by omega))⟩
          · unfold r3 at *
            rw [f1 0 13 (by omega), f1 0 14 (by omega), f1 0 15 (by omega), f1 0 16 (by omega), f1 0 17 (by omega), k1 0 7 (by omega), k1 0 8 (by omega), k1 0 9 (by omega), k1 0 10 (by omega), k1 0 11 (by omega)]
            exact z3
          · refine ⟨fun p => if p < g.2.2.1 then gUp (g.1 * 2 ^ s) 8 else WW p, fun p => if p < g.2.2.1 then gUp (g.2.1 * 2 ^ s) 8 else HH p, fun p hp => ?_⟩
            dsimp only
            by_cases hpc : p < g.2.2.1
            · rw [if_pos hpc, if_pos hpc]
              obtain ⟨q1, q2, q3, q4, q5, q6, q7⟩ := f5 p hpc
              obtain ⟨j1, j2, j3⟩ := k5 p hpc
              obtain ⟨⟨a1, a2, a3, a4, a5, a6, a7⟩, ⟨d1, d2, d3, d4, d5, d6, d7⟩⟩ := sh_sz (n := 2 ^ s) (c := p) pg rfl hs hpc hw hh
              refine ⟨q1, q2, q3, q4, q5, q6, j1, j2, fun i j hi hj => ?_⟩
              rw [q7 i j hi hj, j3 i j hi hj]
              exact sh2I_cong pg rfl hs hpc hw hh (fun i hi => (pc i hi).1) (fun i hi => (ps i hi).1) (by omega) (by omega)
            · rw [if_neg hpc, if_neg hpc]
              obtain ⟨q1, q2, q3, q4, q5, q6, q7, q8, q9⟩ := r4 p hp
              obtain ⟨g1, g2⟩ := f4 p (by omega) hp
              obtain ⟨j1, j2, j3⟩ := k4 p (by omega) hp
              refine ⟨q1, q2, q3, q4, by rw [g1]; exact q5, by rw [g1]; exact q6, by rw [j1]; exact q7, by rw [j2]; exact q8, fun i j hi hj => ?_⟩
              have hrr := row_lt hi hj
              have hm : WW p * HH p ≤ 32 * 32 := Nat.mul_le_mul q2 q4
              rw [g2, show 1024 * p + WW p * j + i = 1024 * p + (WW p * j + i) by omega, j3 _ (by omega), ← Nat.add_assoc]
              exact q9 i j hi hj
        · exact ⟨0, x, sx _ (ei_n (nI_nlt (a := 32) hw (by omega)) (ei_n (nI_ge (a := 32) (by omega) (by omega)) rfl)), fun w1 => ⟨y, sy w1 _ (ei_n (nI_nlt (a := 32) hw (by omega)) (ei_n (nI_ge (a := 32) (by omega) (by omega)) rfl)), hr⟩⟩
      · exact ⟨0, x, sx _ (ei_t (nI_lt (a := 32) (by omega) (by omega)) rfl), fun w1 => ⟨y, sy w1 _ (ei_t (nI_lt (a := 32) (by omega) (by omega)) rfl), hr⟩⟩
    · have n1 : ¬ a = 1 := fun e => ha ⟨0, by decide, e⟩
      have n2 : ¬ a = 2 := fun e => ha ⟨1, by decide, e⟩
      have n4 : ¬ a = 4 := fun e => ha ⟨2, by decide, e⟩
      have n8 : ¬ a = 8 := fun e => ha ⟨3, by decide, e⟩
      refine ⟨0, x, ?_, fun w1 => ⟨y, ?_, hr⟩⟩
      · unfold fX11_showAt
        exact ob_v (rg_I rfl rfl) (ei_n u1 (ei_n n1 (ei_n n2 (ei_n n4 (ei_n n8 rfl)))))
      · unfold fX15_showAt
        exact ob_v (rg_I rfl rfl) (ei_n u2 (ei_n n1 (ei_n n2 (ei_n n4 (ei_n n8 rfl)))))
end
