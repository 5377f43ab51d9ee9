/-! the reference's showAt, a component -/
def fD (c : Nat) (f Z : Nat → Int32) : Nat → Int32 := fun u => if 1024 * c ≤ u ∧ u < 1024 * c + 1024 then f (u - 1024 * c) else Z u
theorem fD_0 (c : Nat) (Z : Nat → Int32) : fD c (fun t => Z (1024 * c + t)) Z = Z := by
  funext u
  unfold fD
  by_cases h : 1024 * c ≤ u ∧ u < 1024 * c + 1024
  · rw [if_pos h]
    show Z (1024 * c + (u - 1024 * c)) = Z u
    rw [show 1024 * c + (u - 1024 * c) = u by omega]
  · rw [if_neg h]
theorem fD_s {c t : Nat} {f Z : Nat → Int32} {v : Int32} (ht : t < 1024) : upd (fD c f Z) (1024 * c + t) v = fD c (fun s => if s = t then v else f s) Z := by
  funext u
  unfold upd fD
  by_cases h : u = 1024 * c + t
  · rw [if_pos h, if_pos (by omega)]
    exact (if_pos (by omega)).symm
  · rw [if_neg h]
    by_cases h2 : 1024 * c ≤ u ∧ u < 1024 * c + 1024
    · rw [if_pos h2, if_pos h2]
      exact (if_neg (by omega)).symm
    · rw [if_neg h2, if_neg h2]
section
variable {X : px_X} {b B : Nat} {w0 w1 : px_W} {x y : rg_S} {P Q n s c w h : Nat} {g : gG} {F S : Nat → Int32} {t : Int32} {I : Nat → Nat → Int32} {k73 : Nat → Int32 → Int32 → Int32 → Int32 → Int32 → px_W → Option (Int32 × px_W)}
theorem m_sc_blocks (ho : ∀ k, k < 64 → y.2.2.1 71 (zg k) = nI k) (hg : gOk g) (hb : gBs g g.2.2.1 ≤ 192) (hy : mPic y g) (n1 : 1 ≤ n) (n8 : n ≤ 8) (hc : c < g.2.2.1) (ha : n * gAc g c ≤ 32) (hd : n * gDn g c ≤ 32) (e44 : y.1 0 44 = nI (n * gAc g c)) (e45 : y.1 0 45 = nI (n * gDn g c)) :
    ∃ y', fX15_showAt_111 X k73 FU (b + 0) (nI n) t (nI w) (nI h) (nI c) 0 (rg_p lM b w0 y) = fX15_showAt_170 X k73 (b + 0) (nI n) t (nI w) (nI h) (nI c) (rg_p lM b w0 y') ∧ aI y' (n * gAc g c) (n * gDn g c) (bkI g (y.2.2.1 64) (y.2.2.1 63) n c) ∧ FA y y' := by
  have hc4 := hg.2.2.2.2.2.1
  have hac := hg.ac hc
  have hdn := hg.dn hc
  have had := hg.ad hc
  have mono := gBs_mono (g := g) (c := c + 1) (d := g.2.2.1) hc
  have es : gBs g (c + 1) = gBs g c + gAc g c * gDn g c := rfl
  obtain ⟨q, e, hq⟩ := rg_lpE (F := fun u (p : Int32 × rg_S) => fX15_showAt_111 X k73 u (b + 0) (nI n) t (nI w) (nI h) (nI c) p.1 (rg_p lM b w0 p.2)) (E := fun p => fX15_showAt_170 X k73 (b + 0) (nI n) t (nI w) (nI h) (nI c) (rg_p lM b w0 p.2)) (n := gAc g c * gDn g c) (fun q p => p.1 = nI q ∧ FA y p.2 ∧ p.2.1 0 44 = nI (n * gAc g c) ∧ p.2.1 0 45 = nI (n * gDn g c) ∧ ∀ Xx Yy, Xx < n * gAc g c → Yy < n * gDn g c → (Yy / n) * gAc g c + Xx / n < q → p.2.2.2.1 75 (n * gAc g c * Yy + Xx) = bkI g (y.2.2.1 64) (y.2.2.1 63) n c Xx Yy) (by
    rintro m q ⟨q', y1⟩ hq ⟨e1, hF, f44, f45, hB⟩
    dsimp only at e1 hF f44 f45 hB ⊢
    subst e1
    have py := hF.pic hy
    obtain ⟨p60, p61, p62⟩ := py.2.2.2.2.2 c hc
    have hi := Nat.mod_lt q (show 0 < gAc g c by omega)
    have hj : q / gAc g c < gDn g c := Nat.div_lt_of_lt_mul hq
    have hqe := Nat.div_add_mod q (gAc g c)
    have hq1 : q < 2 ^ 31 := by omega
    have mul1 : n * (q % gAc g c) + n ≤ n * gAc g c := by
      have := Nat.mul_le_mul (Nat.le_refl n) (show q % gAc g c + 1 ≤ gAc g c from hi)
      rw [Nat.mul_add, Nat.mul_one] at this
      exact this
    have mul2 : n * (q / gAc g c) + n ≤ n * gDn g c := by
      have := Nat.mul_le_mul (Nat.le_refl n) (show q / gAc g c + 1 ≤ gDn g c from hj)
      rw [Nat.mul_add, Nat.mul_one] at this
      exact this
    have hs : n * gAc g c * (n * (q / gAc g c) + n) ≤ 4356 := Nat.le_trans (Nat.mul_le_mul ha (Nat.le_trans mul2 hd)) (by decide)
    have eb := m_back (X := X) (b := b) (w0 := w0) (y := y1) (c := c) (t := q) (e := gBs g c) (ax := n * (q % gAc g c)) (ay := n * (q / gAc g c)) n1 n8 (by rw [hF.2.2 71 (by decide) (by decide)]; exact ho) (by omega) p62 (by omega) f44 mul1 hs
    have f64 : y1.2.2.1 64 = y.2.2.1 64 := hF.2.2 64 (by decide) (by decide)
    have f63 : y1.2.2.1 63 = y.2.2.1 63 := hF.2.2 63 (by decide) (by decide)
    rw [f64, f63] at eb
    refine ⟨(nI (q + 1), rg_wA (rg_wJ y1 77 (fB 8 0 0 n n 0 (bk1 n (bkG (y.2.2.1 64) (y.2.2.1 63) c (gBs g c + q))) (y1.2.2.2 77))) 75 (fB (n * gAc g c) (n * (q % gAc g c)) (n * (q / gAc g c)) n n 0 (bk2 n (bkG (y.2.2.1 64) (y.2.2.1 63) c (gBs g c + q))) (y1.2.2.1 75))), ?_, rfl, hF.trans ⟨fun o k _ => rfl, rfl, fun o o1 o2 => wA_n _ _ o1⟩, f44, f45, ?_⟩
    · rw [fX15_showAt_111.eq_2]
      refine ob_v (rg_C rfl rfl) (ob_v (rg_A rfl (by decide) c (by omega) (by decide)) (ob_v (rg_C rfl rfl) (ob_v (rg_A rfl (by decide) c (by omega) (by decide)) ?_)))
      rw [p60, p61, pk_mul]
      refine ei_n (nI_ge hq (by omega)) (ob_v (rg_C rfl rfl) (ob_v (rg_A rfl (by decide) c (by omega) (by decide)) ?_))
      rw [p60]
      refine ob_v (rI_n hq1 (by omega) (by omega)) (ob_v (rg_C rfl rfl) (ob_v (rg_A rfl (by decide) c (by omega) (by decide)) ?_))
      rw [p60]
      refine ob_v (dI_n hq1 (by omega) (by omega)) (ob_v (rg_O rfl) ?_)
      rw [pk_mul, pk_mul]
      refine ob_v eb ?_
      rw [nI_1]
    · intro Xx Yy hX hY hlt
      dsimp only
      have hXd : Xx / n < gAc g c := Nat.div_lt_of_lt_mul hX
      rw [wA_s, fB_at hX]
      by_cases hin : n * (q % gAc g c) ≤ Xx ∧ Xx < n * (q % gAc g c) + n ∧ n * (q / gAc g c) ≤ Yy ∧ Yy < n * (q / gAc g c) + n
      · rw [if_pos hin]
        have hin' := hin
        rw [Nat.mul_comm n (q % gAc g c), Nat.mul_comm n (q / gAc g c)] at hin' ⊢
        rw [bkI_at (i := q % gAc g c) (j := q / gAc g c) (by omega) hin'.1 hin'.2.1 hin'.2.2.1 hin'.2.2.2]
        rw [Nat.add_assoc (gBs g c), Nat.mul_comm (q / gAc g c) (gAc g c), hqe]
      · rw [if_neg hin]
        rw [Nat.mul_comm n (q % gAc g c), Nat.mul_comm n (q / gAc g c)] at hin
        have := (blk (j := q / gAc g c) (Y := Yy) (by omega) hXd hi).mp (by
          rw [Nat.mul_comm (q / gAc g c) (gAc g c)]
          omega)
        rcases this with h | h
        · refine hB Xx Yy hX hY ?_
          rw [Nat.mul_comm (q / gAc g c) (gAc g c), hqe] at h
          exact h
        · exact absurd h hin) (by
    rintro m ⟨q', y1⟩ ⟨e1, hF, f44, f45, hB⟩
    dsimp only at e1 hF f44 f45 hB ⊢
    subst e1
    have py := hF.pic hy
    obtain ⟨p60, p61, p62⟩ := py.2.2.2.2.2 c hc
    rw [fX15_showAt_111.eq_2]
    refine ob_v (rg_C rfl rfl) (ob_v (rg_A rfl (by decide) c (by omega) (by decide)) (ob_v (rg_C rfl rfl) (ob_v (rg_A rfl (by decide) c (by omega) (by decide)) ?_)))
    rw [p60, p61, pk_mul]
    exact ei_t (nI_le (Nat.le_refl _) (by omega)) rfl) (gAc g c * gDn g c) FU 0 (0, y) (by omega) (by unfold FU; omega) ⟨rfl, FA.rfl, e44, e45, fun Xx Yy _ _ h => absurd h (Nat.not_lt_zero _)⟩
  obtain ⟨-, hF, f44, f45, hB⟩ := hq
  refine ⟨q.2, e, ⟨?_, by omega, ?_, by omega, f44, f45, ?_⟩, hF⟩
  · exact Nat.mul_pos n1 hac.1
  · exact Nat.mul_pos n1 hdn.1
  · intro i j hi hj
    refine hB i j hi hj ?_
    have h1 : i / n < gAc g c := Nat.div_lt_of_lt_mul hi
    have h2 : j / n < gDn g c := Nat.div_lt_of_lt_mul hj
    have := row_lt (w := gAc g c) (h := gDn g c) h1 h2
    rw [Nat.mul_comm (j / n)]
    exact this
theorem m_sc170 (hg : gOk g) (hy : mPic y g) (hn : n = 2 ^ s) (hs : s < 4) (hc : c < g.2.2.1) (hw : gUp (g.1 * n) 8 ≤ 32) (hh : gUp (g.2.1 * n) 8 ≤ 32) (hA : aI y (n * gAc g c) (n * gDn g c) (bkI g F S n c)) :
    ∃ y', fX15_showAt_170 X k73 (b + 0) (nI n) t (nI w) (nI h) (nI c) (rg_p lM b w0 y) = fX15_showAt_266 X k73 (b + 0) (nI n) t (nI w) (nI h) (nI c) (rg_p lM b w0 y') ∧ aI y' (sh1W g n c) (sh2H g n c) (sh2I g F S t n c) ∧ FA y y' := by
  obtain ⟨⟨a1, a2, a3, a4, a5, a6, a7⟩, ⟨d1, d2, d3, d4, d5, d6, d7⟩⟩ := sh_sz hg hn hs hc hw hh
  have hc4 := hg.2.2.2.2.2.1
  have hgh := hg.h
  have hgv := hg.v
  have fc := hg.2.2.2.2.2.2 c hc
  have n18 : 1 ≤ n ∧ n ≤ 8 := by
    rw [hn]
    rcases (show s = 0 ∨ s = 1 ∨ s = 2 ∨ s = 3 by omega) with rfl | rfl | rfl | rfl <;> decide
  have h1 : g.1 * g.2.2.2.1 c ≤ 64 * 2 := Nat.mul_le_mul hg.2.1 fc.1.2
  have h2 : g.2.1 * g.2.2.2.2 c ≤ 64 * 2 := Nat.mul_le_mul hg.2.2.2.1 fc.2.2
  have u1 := gUp_le2 (a := g.1 * g.2.2.2.1 c) (d := gH g)
  have u2 := gUp_le2 (a := g.2.1 * g.2.2.2.2 c) (d := gV_ g)
  have hm1 : gUp (g.1 * g.2.2.2.1 c) (gH g) * n ≤ 200 * 8 := Nat.mul_le_mul (by omega) n18.2
  have hm2 : gUp (g.2.1 * g.2.2.2.2 c) (gV_ g) * n ≤ 200 * 8 := Nat.mul_le_mul (by omega) n18.2
  obtain ⟨y1, e1, A1, F1⟩ := m_fit (X := X) (b := b) (w0 := w0) (w := shW g n c) (h := shH g n c) hA a2 (by omega) d2 (by omega)
  have A1' : aI y1 (shW g n c) (shH g n c) (bkI g F S n c) := A1.cong (fun i j hi hj => by rw [clampZ_in (show i < n * gAc g c by omega), clampZ_in (show j < n * gDn g c by omega)])
  have py1 := F1.pic hy
  -- across
  have acr : ∃ y2, (if nI (gH g) ≤ nI (g.2.2.2.1 c) then fX15_showAt_246 X k73 (b + 0) (nI n) t (nI w) (nI h) (nI c) (rg_p lM b w0 y1) else (gO (rg_p lM b w0 y1) (b + 0) 15).bind fun o93 => (fX15_grow X (rg_p lM b w0 y1) (b + 0) 1 t).bind fun q94 => fX15_showAt_246 X k73 (b + 0) (nI n) t (nI w) (nI h) (nI c) q94) = fX15_showAt_246 X k73 (b + 0) (nI n) t (nI w) (nI h) (nI c) (rg_p lM b w0 y2) ∧ aI y2 (sh1W g n c) (shH g n c) (sh1I g F S t n c) ∧ FA y1 y2 := by
    unfold sh1W sh1I
    by_cases e : g.2.2.2.1 c < gH g
    · rw [if_pos e, if_pos e]
      have := a4 e
      obtain ⟨y2, e2, A2, F2⟩ := m_grow (X := X) (b := b) (w0 := w0) (a := 1) (t := t) A1' (by decide) (by omega) (by omega)
      rw [if_pos rfl, if_pos rfl, if_pos rfl] at A2
      exact ⟨y2, ei_n (nI_ge e (by omega)) (ob_v (rg_O rfl) (ob_v e2 rfl)), A2, F2⟩
    · rw [if_neg e, if_neg e]
      exact ⟨y1, ei_t (nI_le (by omega) (by omega)) rfl, A1', FA.rfl⟩
  obtain ⟨y2, e2, A2, F2⟩ := acr
  have py2 := (F1.trans F2).pic hy
  have dow : ∃ y3, fX15_showAt_246 X k73 (b + 0) (nI n) t (nI w) (nI h) (nI c) (rg_p lM b w0 y2) = fX15_showAt_266 X k73 (b + 0) (nI n) t (nI w) (nI h) (nI c) (rg_p lM b w0 y3) ∧ aI y3 (sh1W g n c) (sh2H g n c) (sh2I g F S t n c) ∧ FA y2 y3 := by
    have st : ∀ r, (if nI (gV_ g) ≤ nI (g.2.2.2.2 c) then fX15_showAt_266 X k73 (b + 0) (nI n) t (nI w) (nI h) (nI c) (rg_p lM b w0 y2) else (gO (rg_p lM b w0 y2) (b + 0) 15).bind fun o73 => (fX15_grow X (rg_p lM b w0 y2) (b + 0) 0 t).bind fun q74 => fX15_showAt_266 X k73 (b + 0) (nI n) t (nI w) (nI h) (nI c) q74) = r → fX15_showAt_246 X k73 (b + 0) (nI n) t (nI w) (nI h) (nI c) (rg_p lM b w0 y2) = r := by
      intro r hr
      unfold fX15_showAt_246
      refine ob_v (rg_C rfl rfl) (ob_v (rg_A rfl (by decide) c (by omega) (by decide)) (ob_v (rg_I rfl rfl) ?_))
      rw [py2.1.2.2.2.2 c hc, py2.2.2.1]
      exact hr
    unfold sh2H sh2I
    by_cases e : g.2.2.2.2 c < gV_ g
    · rw [if_pos e, if_pos e]
      have := d4 e
      obtain ⟨y3, e3, A3, F3⟩ := m_grow (X := X) (b := b) (w0 := w0) (a := 0) (t := t) A2 (by decide) (by omega) (by omega)
      rw [if_neg (by decide), if_neg (by decide), if_neg (by decide)] at A3
      exact ⟨y3, st _ (ei_n (nI_ge e (by omega)) (ob_v (rg_O rfl) (ob_v e3 rfl))), A3, F3⟩
    · rw [if_neg e, if_neg e]
      exact ⟨y2, st _ (ei_t (nI_le (by omega) (by omega)) rfl), A2, FA.rfl⟩
  obtain ⟨y3, e3, A3, F3⟩ := dow
  refine ⟨y3, ?_, A3, (F1.trans F2).trans F3⟩
  unfold fX15_showAt_170
  refine ob_v (rg_I rfl rfl) (ob_v (rg_C rfl rfl) (ob_v (rg_A rfl (by decide) c (by omega) (by decide)) (ob_v (rg_I rfl rfl) ?_)))
  rw [hy.1.1, hy.1.2.2.2.1 c hc, hy.2.1, pk_mul]
  refine ob_v (m_up (by omega) (by omega)) ?_
  dsimp only
  rw [pk_mul, show (8 : Int32) = nI 8 from rfl]
  refine ob_v (m_up (by decide) (by omega)) ?_
  dsimp only
  refine ob_v (rg_I rfl rfl) (ob_v (rg_C rfl rfl) (ob_v (rg_A rfl (by decide) c (by omega) (by decide)) (ob_v (rg_I rfl rfl) ?_)))
  rw [hy.1.2.1, hy.1.2.2.2.2 c hc, hy.2.2.1, pk_mul]
  refine ob_v (m_up (by omega) (by omega)) ?_
  dsimp only
  rw [pk_mul]
  refine ob_v (m_up (by decide) (by omega)) ?_
  dsimp only
  refine ob_v (rg_O rfl) (ob_v e1 (ob_v (rg_C rfl rfl) (ob_v (rg_A rfl (by decide) c (by omega) (by decide)) (ob_v (rg_I rfl rfl) ?_))))
  rw [py1.1.2.2.2.1 c hc, py1.2.1]
  exact e2.trans e3
theorem m_sc266 {W H : Nat} (hA : aI y W H I) (hc : c < 4) (w1 : 1 ≤ w) (w2 : w ≤ W) (w3 : w ≤ 32) (h1 : 1 ≤ h) (h2 : h ≤ H) (h3 : h ≤ 32) :
    fX15_showAt_266 X k73 (b + 0) (nI n) t (nI w) (nI h) (nI c) (rg_p lM b w0 y) = k73 (b + 0) (nI n) t (nI w) (nI h) (nI (c + 1)) (rg_p lM b w0 (rg_wA (rg_wA (rg_wA y 73 (upd (y.2.2.1 73) c (nI w))) 74 (upd (y.2.2.1 74) c (nI h))) 72 (fD c (fB w 0 0 w h 0 I (fun t => y.2.2.1 72 (1024 * c + t))) (y.2.2.1 72)))) := by
  obtain ⟨q1, q2, q3, q4, q5, q6, q7⟩ := hA
  have hm : w * h ≤ 32 * 32 := Nat.mul_le_mul w3 h3
  have hm2 : W * H ≤ 66 * 66 := Nat.mul_le_mul q2 q4
  unfold fX15_showAt_266
  refine ob_v (rg_C rfl rfl) (ob_v (rg_sA _ rfl (by decide) c _ (by omega) (by decide)) (ob_v (rg_C rfl rfl) (ob_v (rg_sA _ rfl (by decide) c _ (by omega) (by decide)) ?_)))
  have e := rg_lpF (F := fun u (p : Int32 × px_W) => fX15_showAt_286 X k73 u (b + 0) (nI n) t (nI w) (nI h) (nI c) p.1 p.2) h (fun j => (nI j, rg_p lM b w0 (rg_wA (rg_wA (rg_wA y 73 (upd (y.2.2.1 73) c (nI w))) 74 (upd (y.2.2.1 74) c (nI h))) 72 (fD c (fB w 0 0 w j 0 I (fun t => y.2.2.1 72 (1024 * c + t))) (y.2.2.1 72))))) (r := k73 (b + 0) (nI n) t (nI w) (nI h) (nI (c + 1)) (rg_p lM b w0 (rg_wA (rg_wA (rg_wA y 73 (upd (y.2.2.1 73) c (nI w))) 74 (upd (y.2.2.1 74) c (nI h))) 72 (fD c (fB w 0 0 w h 0 I (fun t => y.2.2.1 72 (1024 * c + t))) (y.2.2.1 72))))) (by omega) ?_ ?_
  · refine Eq.trans ?_ e
    dsimp only
    rw [fB_0, fD_0, show rg_wA (rg_wA (rg_wA y 73 (upd (y.2.2.1 73) c (nI w))) 74 (upd (y.2.2.1 74) c (nI h))) 72 (y.2.2.1 72) = rg_wA (rg_wA y 73 (upd (y.2.2.1 73) c (nI w))) 74 (upd (y.2.2.1 74) c (nI h)) from wA_id rfl, nI_0]
    rfl
  · intro m j hj
    dsimp only
    rw [fX15_showAt_286.eq_2]
    refine ei_n (nI_ge hj (by omega)) ?_
    refine rg_lpF (F := fun u (p : Int32 × px_W) => fX15_showAt_296 X k73 (fX15_showAt_286 X k73 m) u (b + 0) (nI n) t (nI w) (nI h) (nI c) (nI j) p.1 p.2) w (fun i => (nI i, rg_p lM b w0 (rg_wA (rg_wA (rg_wA y 73 (upd (y.2.2.1 73) c (nI w))) 74 (upd (y.2.2.1 74) c (nI h))) 72 (fD c (fB w 0 0 w j i I (fun t => y.2.2.1 72 (1024 * c + t))) (y.2.2.1 72))))) (by omega) ?_ ?_
    · intro u i hi
      dsimp only
      have hr := row_lt hi hj
      have hr2 := row_lt (w := W) (h := H) (show i < W by omega) (show j < H by omega)
      rw [fX15_showAt_296.eq_2]
      refine ei_n (nI_ge hi (by omega)) (ob_v (rg_C rfl rfl) (ob_v (rg_C rfl rfl) (ob_v (rg_I rfl rfl) ?_)))
      rw [show (rg_wA (rg_wA (rg_wA y 73 (upd (y.2.2.1 73) c (nI w))) 74 (upd (y.2.2.1 74) c (nI h))) 72 (fD c (fB w 0 0 w j i I (fun t => y.2.2.1 72 (1024 * c + t))) (y.2.2.1 72))).1 0 44 = nI W from q5, pk_mul, nI_add]
      refine ob_v (rg_A rfl (by decide) _ (by omega) (by decide)) ?_
      rw [show (1024 : Int32) * nI c + nI w * nI j + nI i = nI (1024 * c + (w * (0 + j) + (0 + i))) by rw [show (1024 : Int32) = nI 1024 from rfl, pk_mul, pk_mul, nI_add, nI_add, Nat.zero_add, Nat.zero_add, Nat.add_assoc]]
      refine ob_v (rg_sA _ rfl (by decide) _ _ (by rw [Nat.zero_add, Nat.zero_add]; omega) (by decide)) ?_
      rw [wA_wA, wA_s, wA_n _ _ (by decide), wA_n _ _ (by decide), wA_n _ _ (by decide), id, q7 i j (by omega) (by omega), fD_s (by rw [Nat.zero_add, Nat.zero_add]; omega), fB_s hi (by omega), nI_1]
    · intro u
      dsimp only
      rw [fX15_showAt_296.eq_2]
      refine ei_t (nI_le (Nat.le_refl _) (by omega)) ?_
      rw [fX15_showAt_342, nI_1, fB_row]
  · intro m
    dsimp only
    rw [fX15_showAt_286.eq_2]
    refine ei_t (nI_le (Nat.le_refl _) (by omega)) ?_
    rw [fX15_showAt_348, nI_1]
end
