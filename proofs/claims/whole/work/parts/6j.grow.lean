/-! grow on both sides -/
def gwA (t : Int32) (w : Nat) (I : Nat → Nat → Int32) (i j : Nat) : Int32 := if t = 0 then I (i / 2) j else (3 * I (i / 2) j + I (clampZ ((i / 2 : Nat) + (if i % 2 = 0 then -1 else 1)) w) j + 1 + nI (i % 2)) >>> (2 &&& 31)
def gwD (t : Int32) (h : Nat) (I : Nat → Nat → Int32) (i j : Nat) : Int32 := if t = 0 then I i (j / 2) else (3 * I i (j / 2) + I i (clampZ ((j / 2 : Nat) + (if j % 2 = 0 then -1 else 1)) h) + 1 + nI (j % 2)) >>> (2 &&& 31)
theorem m_odd {z : Nat} (hz : z < 500) : nI (z / 2) + 2 * nI (z % 2) - 1 = iI ((z / 2 : Nat) + (if z % 2 = 0 then -1 else 1)) := by
  rw [show (2 : Int32) = nI 2 from rfl, pk_mul, nI_add, iI_n, show (1 : Int32) = iI 1 from rfl, iI_sub]
  congr 1
  by_cases h : z % 2 = 0
  · rw [if_pos h, h]; omega
  · rw [if_neg h, show z % 2 = 1 by omega]; omega
section
variable {X : px_X} {b B : Nat} {w0 w1 : px_W} {x y : rg_S} {P Q n : Nat} {I : Nat → Nat → Int32}
theorem m_grow {aw ah a : Nat} {t : Int32} (hA : aI y aw ah I) (ha : a < 2) (hw : aw ≤ 33) (hh : ah ≤ 33) : ∃ y', fX15_grow X (rg_p lM b w0 y) (b + 0) (nI a) t = some (rg_p lM b w0 y') ∧ aI y' (if a = 1 then 2 * aw else aw) (if a = 1 then ah else 2 * ah) (if a = 1 then gwA t aw I else gwD t ah I) ∧ FA y y' := by
  obtain ⟨q1, q2, q3, q4, q5, q6, q7⟩ := hA
  have fa : ∀ n, n < 2 → (nI n = 0 ↔ n = 0) := fun n hn => nI_eq (b := 0) (by omega) (by omega)
  have ew : ∃ w, (if a = 1 then 2 * aw else aw) = w ∧ 1 ≤ w ∧ w ≤ 66 := ⟨_, rfl, by split <;> omega, by split <;> omega⟩
  have eh : ∃ h, (if a = 1 then ah else 2 * ah) = h ∧ 1 ≤ h ∧ h ≤ 66 := ⟨_, rfl, by split <;> omega, by split <;> omega⟩
  obtain ⟨w, ew, w1, w2⟩ := ew
  obtain ⟨h, eh, h1, h2⟩ := eh
  rw [ew, eh]
  have hm : w * h ≤ 66 * 66 := Nat.mul_le_mul w2 h2
  have hAw : ∀ f, aI (rg_wA y 76 f) aw ah I := fun f => ⟨q1, q2, q3, q4, q5, q6, q7⟩
  generalize hV : (if a = 1 then gwA t aw I else gwD t ah I) = V
  obtain ⟨y', e', hI', hF'⟩ := m_become (X := X) (b := b) (w0 := w0) (y := rg_wA y 76 (fB w 0 0 w h 0 V (y.2.2.1 76))) (I := V) w1 w2 h1 h2 (fun i j hi hj => by
    rw [wA_s, fB_at hi, if_pos (by omega)]
    rfl)
  have hF : FA y y' := by
    refine FA.trans ?_ hF'
    exact ⟨fun o k _ => rfl, rfl, fun o _ o2 => wA_n _ _ o2⟩
  refine ⟨y', ?_, hI', hF⟩
  have loop : fX15_grow_40 X FU (b + 0) (nI a) t (nI w) (nI h) 0 (rg_p lM b w0 y) = some (rg_p lM b w0 y') := by
    have e := rg_lpF (F := fun u (p : Int32 × px_W) => fX15_grow_40 X u (b + 0) (nI a) t (nI w) (nI h) p.1 p.2) h (fun j => (nI j, rg_p lM b w0 (rg_wA y 76 (fB w 0 0 w j 0 V (y.2.2.1 76))))) (r := some (rg_p lM b w0 y')) (by omega) ?_ ?_
    · refine Eq.trans ?_ e
      dsimp only
      rw [fB_0, wA_id rfl, nI_0]
    · intro m j hj
      dsimp only
      rw [fX15_grow_40.eq_2]
      refine ei_n (nI_ge hj (by omega)) ?_
      refine rg_lpF (F := fun u (p : Int32 × px_W) => fX15_grow_50 X (fX15_grow_40 X m) u (b + 0) (nI a) t (nI w) (nI h) (nI j) p.1 p.2) w (fun i => (nI i, rg_p lM b w0 (rg_wA y 76 (fB w 0 0 w j i V (y.2.2.1 76))))) (by omega) ?_ ?_
      · intro u i hi
        dsimp only
        have hr := row_lt hi hj
        -- the write
        have f188 : ∀ v, v = V i j → fX15_grow_188 X (fX15_grow_40 X m) (fX15_grow_50 X (fX15_grow_40 X m) u) (b + 0) (nI a) t (nI w) (nI h) (nI j) (nI i) v (nI w * nI j + nI i) (b + 76) (rg_p lM b w0 (rg_wA y 76 (fB w 0 0 w j i V (y.2.2.1 76)))) = fX15_grow_50 X (fX15_grow_40 X m) u (b + 0) (nI a) t (nI w) (nI h) (nI j) (nI (i + 1)) (rg_p lM b w0 (rg_wA y 76 (fB w 0 0 w j (i + 1) V (y.2.2.1 76)))) := by
          rintro v rfl
          unfold fX15_grow_188
          rw [show nI w * nI j + nI i = nI (w * (0 + j) + (0 + i)) by rw [pk_mul, nI_add, Nat.zero_add, Nat.zero_add]]
          refine ob_v (rg_sA _ rfl (by decide) _ _ (by rw [Nat.zero_add, Nat.zero_add]; omega) (by decide)) ?_
          rw [wA_wA, wA_s, id, nI_1]
          have e := fB_s (W := w) (ax := 0) (ay := 0) (n := w) (j := j) (i := i) (V := V) (Z := y.2.2.1 76) hi (by omega)
          rw [← e]
          rfl
        have sm : ∀ (p q : Int), -1000 ≤ p → p < 1000 → -1000 ≤ q → q < 1000 → fX15_sample X (rg_p lM b w0 (rg_wA y 76 (fB w 0 0 w j i V (y.2.2.1 76)))) (b + 0) (iI p) (iI q) = some (I (clampZ p aw) (clampZ q ah), rg_p lM b w0 (rg_wA y 76 (fB w 0 0 w j i V (y.2.2.1 76)))) := fun p q p1 p2 p3 p4 => m_smp (hAw _) p1 p2 p3 p4
        rw [fX15_grow_50.eq_2]
        refine ei_n (nI_ge hi (by omega)) ?_
        by_cases a0 : a = 0
        · rw [if_neg (by omega)] at ew eh hV
          have hy2 : j / 2 < ah := by omega
          refine ei_t ((fa a ha).mpr a0) ?_
          unfold fX15_grow_69
          refine ei_t ((fa a ha).mpr a0) (ob_v (dI_n (d := 2) (by omega) (by decide) (by decide)) ?_)
          unfold fX15_grow_84
          refine ei_t ((fa a ha).mpr a0) (ob_v (rI_n (d := 2) (by omega) (by decide) (by decide)) ?_)
          unfold fX15_grow_101
          refine ei_t ((fa a ha).mpr a0) (ob_v (rg_O rfl) ?_)
          rw [m_odd (by omega)]
          have s1 := sm i ((j / 2 : Nat) + (if j % 2 = 0 then -1 else 1)) (by omega) (by omega) (by split <;> omega) (by split <;> omega)
          rw [← iI_n, clampZ_in (show i < aw by omega)] at s1
          refine ob_v s1 ?_
          have s2 := sm i (j / 2 : Nat) (by omega) (by omega) (by omega) (by omega)
          rw [← iI_n, ← iI_n, clampZ_in (show i < aw by omega), clampZ_in hy2] at s2
          unfold fX15_grow_140
          refine ob_v (rg_C rfl rfl) ?_
          by_cases t0 : t = 0
          · refine ei_t t0 (ob_v (rg_O rfl) (ob_v s2 (f188 _ ?_)))
            rw [← hV]
            unfold gwD
            rw [if_pos t0]
          · refine ei_n t0 (ob_v (rg_O rfl) (ob_v s2 (f188 _ ?_)))
            rw [← hV]
            unfold gwD
            rw [if_neg t0]
        · have a1 : a = 1 := by omega
          rw [if_pos a1] at ew eh hV
          have hx2 : i / 2 < aw := by omega
          refine ei_n (fun e => a0 ((fa a ha).mp e)) (ob_v (dI_n (d := 2) (by omega) (by decide) (by decide)) ?_)
          unfold fX15_grow_69
          refine ei_n (fun e => a0 ((fa a ha).mp e)) ?_
          unfold fX15_grow_84
          refine ei_n (fun e => a0 ((fa a ha).mp e)) (ob_v (rI_n (d := 2) (by omega) (by decide) (by decide)) ?_)
          unfold fX15_grow_101
          refine ei_n (fun e => a0 ((fa a ha).mp e)) (ob_v (rg_O rfl) ?_)
          rw [m_odd (by omega)]
          have s1 := sm ((i / 2 : Nat) + (if i % 2 = 0 then -1 else 1)) j (by split <;> omega) (by split <;> omega) (by omega) (by omega)
          rw [← iI_n, clampZ_in (show j < ah by omega)] at s1
          refine ob_v s1 ?_
          have s2 := sm (i / 2 : Nat) j (by omega) (by omega) (by omega) (by omega)
          rw [← iI_n, ← iI_n, clampZ_in hx2, clampZ_in (show j < ah by omega)] at s2
          unfold fX15_grow_140
          refine ob_v (rg_C rfl rfl) ?_
          by_cases t0 : t = 0
          · refine ei_t t0 (ob_v (rg_O rfl) (ob_v s2 (f188 _ ?_)))
            rw [← hV]
            unfold gwA
            rw [if_pos t0]
          · refine ei_n t0 (ob_v (rg_O rfl) (ob_v s2 (f188 _ ?_)))
            rw [← hV]
            unfold gwA
            rw [if_neg t0]
      · intro u
        dsimp only
        rw [fX15_grow_50.eq_2]
        refine ei_t (nI_le (Nat.le_refl _) (by omega)) ?_
        rw [fX15_grow_195, nI_1, fB_row]
    · intro m
      dsimp only
      rw [fX15_grow_40.eq_2]
      refine ei_t (nI_le (Nat.le_refl _) (by omega)) ?_
      unfold fX15_grow_201
      exact ob_v (rg_O rfl) (ob_v e' rfl)
  have n2 : ∀ u, (2 : Int32) * nI u = nI (2 * u) := fun u => pk_mul 2 u
  unfold fX15_grow fX15_grow_17 fX15_grow_35
  by_cases a0 : a = 0
  · rw [if_neg (by omega)] at ew eh
    refine ei_t ((fa a ha).mpr a0) (ob_v (rg_I rfl rfl) (ei_t ((fa a ha).mpr a0) (ob_v (rg_I rfl rfl) ?_)))
    rw [q5, q6, n2, ew, eh]
    exact loop
  · rw [if_pos (by omega)] at ew eh
    refine ei_n (fun e => a0 ((fa a ha).mp e)) (ob_v (rg_I rfl rfl) (ei_n (fun e => a0 ((fa a ha).mp e)) (ob_v (rg_I rfl rfl) ?_)))
    rw [q5, q6, n2, ew, eh]
    exact loop
/-- becomeFirst -/
theorem x_first {p q w h W H : Nat} (hp : p < 6) (hq : q < 6) (hpq : p ≠ q) (hI : pI x q W H I) (w1 : 1 ≤ w) (w2 : w ≤ W) (h1 : 1 ≤ h) (h2 : h ≤ H) : ∃ x', fX3_becomeFirst X (rg_p lX B w0 x) (B + (24 + 2 * p)) (B + (24 + 2 * q)) (nI w) (nI h) = some (rg_p lX B w0 x') ∧ pI x' p w h I ∧ (∀ o k, o ≠ 24 + 2 * p → x'.1 o k = x.1 o k) ∧ x'.2.1 = x.2.1 ∧ ∀ o, o ≠ 24 + 2 * p + 1 → x'.2.2.1 o = x.2.2.1 o := by
  obtain ⟨q1, q2, q3, q4, q5, q6, q7⟩ := hI
  refine ⟨rg_wA (rg_wI (rg_wI x (24 + 2 * p) 0 (nI w)) (24 + 2 * p) 1 (nI h)) (24 + 2 * p + 1) (va_cpy (x.2.2.1 (24 + 2 * q + 1)) (x.2.2.1 (24 + 2 * p + 1)) 0 0 1024), ?_, ⟨w1, by omega, h1, by omega, ?_, ?_, ?_⟩, ?_, rfl, ?_⟩
  · unfold fX3_becomeFirst
    refine ob_v (rg_pI (pl_o hp) rfl _) (ob_v (rg_pI (pl_o hp) rfl _) (ob_v (rg_C (pl_o hq) rfl) (ob_v (rg_C (pl_o hp) rfl) ?_)))
    exact ob_v (rg_cpy (sp := 0) (dp := 0) (m := 1024) (pl_a hq) (pl_a hp) (by decide) (by decide) (by decide) (by decide) (by decide) (fun _ _ => rfl)) rfl
  · rw [wA_1, wI_n _ _ (by omega), wI_s]
  · rw [wA_1, wI_s]
  · intro i j hi hj
    rw [wA_s, pk_cpy_in (by omega) (by omega), Nat.sub_zero, Nat.zero_add]
    exact q7 i j (by omega) (by omega)
  · intro o k ho
    rw [wA_1, wI_n _ _ (by omega), wI_n _ _ (by omega)]
  · intro o ho
    rw [wA_n _ _ ho, wI_2, wI_2]
/-- the class' becomeGrownAcross: far (5) from near (4) -/
theorem x_grownA {w h : Nat} {t : Int32} (hI : pI x 4 w h I) (hw : 2 * w ≤ 32) : ∃ x', fX3_becomeGrownAcross X (rg_p lX B w0 x) (B + 34) (B + 32) t = some (rg_p lX B w0 x') ∧ pI x' 5 (2 * w) h (gwA t w I) ∧ FS x x' := by
  have hI' := hI
  obtain ⟨q1, q2, q3, q4, q5, q6, q7⟩ := hI
  have q5' : x.1 32 0 = nI w := q5
  have q6' : x.1 32 1 = nI h := q6
  have hx1 : ∀ f, pI (rg_wA (rg_wI (rg_wI x 34 0 (nI (2 * w))) 34 1 (nI h)) 35 f) 4 w h I := fun f => ⟨q1, q2, q3, q4, q5, q6, q7⟩
  refine ⟨rg_wA (rg_wI (rg_wI x 34 0 (nI (2 * w))) 34 1 (nI h)) 35 (fB 32 0 0 (2 * w) h 0 (gwA t w I) (x.2.2.1 35)), ?_, ⟨by omega, hw, q3, q4, rfl, rfl, ?_⟩, ?_, rfl, ?_⟩
  · unfold fX3_becomeGrownAcross
    refine ob_v (rg_I rfl rfl) ?_
    rw [q5', show (2 : Int32) * nI w = nI (2 * w) from pk_mul 2 w, show mmin 32 (nI (2 * w)) = nI (2 * w) by rw [show (32 : Int32) = nI 32 from rfl, mminN (by omega) (by omega), Nat.min_eq_right hw]]
    refine ob_v (rg_pI rfl rfl _) (ob_v (rg_I rfl rfl) ?_)
    rw [wI_n _ _ (by decide), q6']
    refine ob_v (rg_pI rfl rfl _) ?_
    have e := rg_lpF (F := fun u (p : Int32 × px_W) => fX3_becomeGrownAcross_25 X u (B + 34) (B + 32) t p.1 p.2) h (fun j => (nI j, rg_p lX B w0 (rg_wA (rg_wI (rg_wI x 34 0 (nI (2 * w))) 34 1 (nI h)) 35 (fB 32 0 0 (2 * w) j 0 (gwA t w I) (x.2.2.1 35))))) (r := some (rg_p lX B w0 (rg_wA (rg_wI (rg_wI x 34 0 (nI (2 * w))) 34 1 (nI h)) 35 (fB 32 0 0 (2 * w) h 0 (gwA t w I) (x.2.2.1 35))))) (by omega) ?_ ?_
    · refine Eq.trans ?_ e
      dsimp only
      rw [fB_0, show rg_wA (rg_wI (rg_wI x 34 0 (nI (2 * w))) 34 1 (nI h)) 35 (x.2.2.1 35) = rg_wI (rg_wI x 34 0 (nI (2 * w))) 34 1 (nI h) from wA_id rfl, nI_0]
    · intro m j hj
      dsimp only
      rw [fX3_becomeGrownAcross_25.eq_2]
      refine ob_v (rg_I rfl rfl) (ei_n (nI_ge hj (by omega)) ?_)
      refine rg_lpF (F := fun u (p : Int32 × px_W) => fX3_becomeGrownAcross_36 X (fX3_becomeGrownAcross_25 X m) u (B + 34) (B + 32) t (nI j) p.1 p.2) (2 * w) (fun i => (nI i, rg_p lX B w0 (rg_wA (rg_wI (rg_wI x 34 0 (nI (2 * w))) 34 1 (nI h)) 35 (fB 32 0 0 (2 * w) j i (gwA t w I) (x.2.2.1 35))))) (by omega) ?_ ?_
      · intro u i hi
        dsimp only
        have sm : ∀ (p q : Int), -1000 ≤ p → p < 1000 → -1000 ≤ q → q < 1000 → fX3_nearest X (rg_p lX B w0 (rg_wA (rg_wI (rg_wI x 34 0 (nI (2 * w))) 34 1 (nI h)) 35 (fB 32 0 0 (2 * w) j i (gwA t w I) (x.2.2.1 35)))) (B + 32) (iI p) (iI q) = some (I (clampZ p w) (clampZ q h), rg_p lX B w0 (rg_wA (rg_wI (rg_wI x 34 0 (nI (2 * w))) 34 1 (nI h)) 35 (fB 32 0 0 (2 * w) j i (gwA t w I) (x.2.2.1 35)))) := fun p q p1 p2 p3 p4 => x_near (p := 4) (by decide) (hx1 _) p1 p2 p3 p4
        have f116 : ∀ v, v = gwA t w I i j → fX3_becomeGrownAcross_116 X (fX3_becomeGrownAcross_25 X m) (fX3_becomeGrownAcross_36 X (fX3_becomeGrownAcross_25 X m) u) (B + 34) (B + 32) t (nI j) (nI i) v (32 * nI j + nI i) (B + 35) (rg_p lX B w0 (rg_wA (rg_wI (rg_wI x 34 0 (nI (2 * w))) 34 1 (nI h)) 35 (fB 32 0 0 (2 * w) j i (gwA t w I) (x.2.2.1 35)))) = fX3_becomeGrownAcross_36 X (fX3_becomeGrownAcross_25 X m) u (B + 34) (B + 32) t (nI j) (nI (i + 1)) (rg_p lX B w0 (rg_wA (rg_wI (rg_wI x 34 0 (nI (2 * w))) 34 1 (nI h)) 35 (fB 32 0 0 (2 * w) j (i + 1) (gwA t w I) (x.2.2.1 35)))) := by
          rintro v rfl
          unfold fX3_becomeGrownAcross_116
          rw [show (32 : Int32) * nI j + nI i = nI (32 * (0 + j) + (0 + i)) by rw [show (32 : Int32) = nI 32 from rfl, pk_mul, nI_add, Nat.zero_add, Nat.zero_add]]
          refine ob_v (rg_sA _ rfl (by decide) _ _ (by omega) (by decide)) ?_
          rw [wA_wA, wA_s, id, nI_1]
          have e := fB_s (W := 32) (ax := 0) (ay := 0) (n := 2 * w) (j := j) (i := i) (V := gwA t w I) (Z := x.2.2.1 35) hi (by omega)
          rw [← e]
          rfl
        have s2 := sm (i / 2 : Nat) j (by omega) (by omega) (by omega) (by omega)
        rw [← iI_n, ← iI_n, clampZ_in (show i / 2 < w by omega), clampZ_in hj] at s2
        have s1 := sm ((i / 2 : Nat) + (if i % 2 = 0 then -1 else 1)) j (by split <;> omega) (by split <;> omega) (by omega) (by omega)
        rw [← iI_n j, clampZ_in hj] at s1
        have f73 : ∀ d : Int32, nI (i / 2) + d = iI ((i / 2 : Nat) + (if i % 2 = 0 then -1 else 1)) → fX3_becomeGrownAcross_73 X (fX3_becomeGrownAcross_25 X m) (fX3_becomeGrownAcross_36 X (fX3_becomeGrownAcross_25 X m) u) (B + 34) (B + 32) t (nI j) (nI i) (I (i / 2) j) d (nI (i / 2)) (B + 32) (rg_p lX B w0 (rg_wA (rg_wI (rg_wI x 34 0 (nI (2 * w))) 34 1 (nI h)) 35 (fB 32 0 0 (2 * w) j i (gwA t w I) (x.2.2.1 35)))) = fX3_becomeGrownAcross_36 X (fX3_becomeGrownAcross_25 X m) u (B + 34) (B + 32) t (nI j) (nI (i + 1)) (rg_p lX B w0 (rg_wA (rg_wI (rg_wI x 34 0 (nI (2 * w))) 34 1 (nI h)) 35 (fB 32 0 0 (2 * w) j (i + 1) (gwA t w I) (x.2.2.1 35)))) := by
          intro d hd
          unfold fX3_becomeGrownAcross_73
          rw [hd]
          refine ob_v (rg_O rfl) (ob_v s1 (ob_v (rg_C rfl rfl) ?_))
          by_cases t0 : t = 0
          · refine ei_t t0 (f116 _ ?_)
            unfold gwA
            rw [if_pos t0]
          · refine ei_n t0 (ob_v (rI_n (d := 2) (by omega) (by decide) (by decide)) (f116 _ ?_))
            unfold gwA
            rw [if_neg t0]
        rw [fX3_becomeGrownAcross_36.eq_2]
        refine ob_v (rg_I rfl rfl) (ei_n (nI_ge hi (by omega)) (ob_v (dI_n (d := 2) (by omega) (by decide) (by decide)) (ob_v (rg_O rfl) (ob_v s2 (ob_v (dI_n (d := 2) (by omega) (by decide) (by decide)) (ob_v (rI_n (d := 2) (by omega) (by decide) (by decide)) ?_))))))
        by_cases o : i % 2 = 0
        · rw [o]
          refine ei_t rfl (f73 _ ?_)
          rw [if_pos o, show (-1 : Int32) = iI (-1) from rfl, iI_n, iI_add]
        · rw [show i % 2 = 1 by omega]
          refine ei_n (by decide) (f73 _ ?_)
          rw [if_neg o, show (1 : Int32) = iI 1 from rfl, iI_n, iI_add]
      · intro u
        dsimp only
        rw [fX3_becomeGrownAcross_36.eq_2]
        refine ob_v (rg_I rfl rfl) (ei_t (nI_le (Nat.le_refl _) (by omega)) ?_)
        rw [fX3_becomeGrownAcross_123, nI_1, fB_row]
    · intro m
      dsimp only
      rw [fX3_becomeGrownAcross_25.eq_2]
      exact ob_v (rg_I rfl rfl) (ei_t (nI_le (Nat.le_refl _) (by omega)) rfl)
  · intro i j hi hj
    show fB 32 0 0 (2 * w) h 0 (gwA t w I) (x.2.2.1 35) (32 * j + i) = _
    rw [fB_at (by omega), if_pos (by omega)]
    rfl
  · intro o k o1 o2
    rw [wA_1, wI_n _ _ (by omega), wI_n _ _ (by omega)]
  · intro o o1 o2
    rw [wA_n _ _ o2, wI_2, wI_2]
theorem x_grownD {w h : Nat} {t : Int32} (hI : pI x 4 w h I) (hh : 2 * h ≤ 32) : ∃ x', fX3_becomeGrownDown X (rg_p lX B w0 x) (B + 34) (B + 32) t = some (rg_p lX B w0 x') ∧ pI x' 5 w (2 * h) (gwD t h I) ∧ FS x x' := by
  have hI' := hI
  obtain ⟨q1, q2, q3, q4, q5, q6, q7⟩ := hI
  have q5' : x.1 32 0 = nI w := q5
  have q6' : x.1 32 1 = nI h := q6
  have hx1 : ∀ f, pI (rg_wA (rg_wI (rg_wI x 34 0 (nI w)) 34 1 (nI (2 * h))) 35 f) 4 w h I := fun f => ⟨q1, q2, q3, q4, q5, q6, q7⟩
  refine ⟨rg_wA (rg_wI (rg_wI x 34 0 (nI w)) 34 1 (nI (2 * h))) 35 (fB 32 0 0 w (2 * h) 0 (gwD t h I) (x.2.2.1 35)), ?_, ⟨q1, q2, by omega, hh, rfl, rfl, ?_⟩, ?_, rfl, ?_⟩
  · unfold fX3_becomeGrownDown
    refine ob_v (rg_I rfl rfl) ?_
    rw [q5']
    refine ob_v (rg_pI rfl rfl _) (ob_v (rg_I rfl rfl) ?_)
    rw [wI_n _ _ (by decide), q6', show (2 : Int32) * nI h = nI (2 * h) from pk_mul 2 h, show mmin 32 (nI (2 * h)) = nI (2 * h) by rw [show (32 : Int32) = nI 32 from rfl, mminN (by omega) (by omega), Nat.min_eq_right hh]]
    refine ob_v (rg_pI rfl rfl _) ?_
    have e := rg_lpF (F := fun u (p : Int32 × px_W) => fX3_becomeGrownDown_25 X u (B + 34) (B + 32) t p.1 p.2) (2 * h) (fun j => (nI j, rg_p lX B w0 (rg_wA (rg_wI (rg_wI x 34 0 (nI w)) 34 1 (nI (2 * h))) 35 (fB 32 0 0 w j 0 (gwD t h I) (x.2.2.1 35))))) (r := some (rg_p lX B w0 (rg_wA (rg_wI (rg_wI x 34 0 (nI w)) 34 1 (nI (2 * h))) 35 (fB 32 0 0 w (2 * h) 0 (gwD t h I) (x.2.2.1 35))))) (by omega) ?_ ?_
    · refine Eq.trans ?_ e
      dsimp only
      rw [fB_0, show rg_wA (rg_wI (rg_wI x 34 0 (nI w)) 34 1 (nI (2 * h))) 35 (x.2.2.1 35) = rg_wI (rg_wI x 34 0 (nI w)) 34 1 (nI (2 * h)) from wA_id rfl, nI_0]
    · intro m j hj
      dsimp only
      rw [fX3_becomeGrownDown_25.eq_2]
      refine ob_v (rg_I rfl rfl) (ei_n (nI_ge hj (by omega)) ?_)
      refine rg_lpF (F := fun u (p : Int32 × px_W) => fX3_becomeGrownDown_36 X (fX3_becomeGrownDown_25 X m) u (B + 34) (B + 32) t (nI j) p.1 p.2) w (fun i => (nI i, rg_p lX B w0 (rg_wA (rg_wI (rg_wI x 34 0 (nI w)) 34 1 (nI (2 * h))) 35 (fB 32 0 0 w j i (gwD t h I) (x.2.2.1 35))))) (by omega) ?_ ?_
      · intro u i hi
        dsimp only
        have sm : ∀ (p q : Int), -1000 ≤ p → p < 1000 → -1000 ≤ q → q < 1000 → fX3_nearest X (rg_p lX B w0 (rg_wA (rg_wI (rg_wI x 34 0 (nI w)) 34 1 (nI (2 * h))) 35 (fB 32 0 0 w j i (gwD t h I) (x.2.2.1 35)))) (B + 32) (iI p) (iI q) = some (I (clampZ p w) (clampZ q h), rg_p lX B w0 (rg_wA (rg_wI (rg_wI x 34 0 (nI w)) 34 1 (nI (2 * h))) 35 (fB 32 0 0 w j i (gwD t h I) (x.2.2.1 35)))) := fun p q p1 p2 p3 p4 => x_near (p := 4) (by decide) (hx1 _) p1 p2 p3 p4
        have f116 : ∀ v, v = gwD t h I i j → fX3_becomeGrownDown_114 X (fX3_becomeGrownDown_25 X m) (fX3_becomeGrownDown_36 X (fX3_becomeGrownDown_25 X m) u) (B + 34) (B + 32) t (nI j) (nI i) v (32 * nI j + nI i) (B + 35) (rg_p lX B w0 (rg_wA (rg_wI (rg_wI x 34 0 (nI w)) 34 1 (nI (2 * h))) 35 (fB 32 0 0 w j i (gwD t h I) (x.2.2.1 35)))) = fX3_becomeGrownDown_36 X (fX3_becomeGrownDown_25 X m) u (B + 34) (B + 32) t (nI j) (nI (i + 1)) (rg_p lX B w0 (rg_wA (rg_wI (rg_wI x 34 0 (nI w)) 34 1 (nI (2 * h))) 35 (fB 32 0 0 w j (i + 1) (gwD t h I) (x.2.2.1 35)))) := by
          rintro v rfl
          unfold fX3_becomeGrownDown_114
          rw [show (32 : Int32) * nI j + nI i = nI (32 * (0 + j) + (0 + i)) by rw [show (32 : Int32) = nI 32 from rfl, pk_mul, nI_add, Nat.zero_add, Nat.zero_add]]
          refine ob_v (rg_sA _ rfl (by decide) _ _ (by omega) (by decide)) ?_
          rw [wA_wA, wA_s, id, nI_1]
          have e := fB_s (W := 32) (ax := 0) (ay := 0) (n := w) (j := j) (i := i) (V := gwD t h I) (Z := x.2.2.1 35) hi (by omega)
          rw [← e]
          rfl
        have s2 := sm i (j / 2 : Nat) (by omega) (by omega) (by omega) (by omega)
        rw [← iI_n, ← iI_n, clampZ_in hi, clampZ_in (show j / 2 < h by omega)] at s2
        have s1 := sm i ((j / 2 : Nat) + (if j % 2 = 0 then -1 else 1)) (by omega) (by omega) (by split <;> omega) (by split <;> omega)
        rw [← iI_n i, clampZ_in hi] at s1
        have f73 : ∀ d : Int32, nI (j / 2) + d = iI ((j / 2 : Nat) + (if j % 2 = 0 then -1 else 1)) → fX3_becomeGrownDown_73 X (fX3_becomeGrownDown_25 X m) (fX3_becomeGrownDown_36 X (fX3_becomeGrownDown_25 X m) u) (B + 34) (B + 32) t (nI j) (nI i) (I i (j / 2)) d (nI (j / 2)) (nI i) (B + 32) (rg_p lX B w0 (rg_wA (rg_wI (rg_wI x 34 0 (nI w)) 34 1 (nI (2 * h))) 35 (fB 32 0 0 w j i (gwD t h I) (x.2.2.1 35)))) = fX3_becomeGrownDown_36 X (fX3_becomeGrownDown_25 X m) u (B + 34) (B + 32) t (nI j) (nI (i + 1)) (rg_p lX B w0 (rg_wA (rg_wI (rg_wI x 34 0 (nI w)) 34 1 (nI (2 * h))) 35 (fB 32 0 0 w j (i + 1) (gwD t h I) (x.2.2.1 35)))) := by
          intro d hd
          unfold fX3_becomeGrownDown_73
          rw [hd]
          refine ob_v (rg_O rfl) (ob_v s1 (ob_v (rg_C rfl rfl) ?_))
          by_cases t0 : t = 0
          · refine ei_t t0 (f116 _ ?_)
            unfold gwD
            rw [if_pos t0]
          · refine ei_n t0 (ob_v (rI_n (d := 2) (by omega) (by decide) (by decide)) (f116 _ ?_))
            unfold gwD
            rw [if_neg t0]
        rw [fX3_becomeGrownDown_36.eq_2]
        refine ob_v (rg_I rfl rfl) (ei_n (nI_ge hi (by omega)) (ob_v (dI_n (d := 2) (by omega) (by decide) (by decide)) (ob_v (rg_O rfl) (ob_v s2 (ob_v (dI_n (d := 2) (by omega) (by decide) (by decide)) (ob_v (rI_n (d := 2) (by omega) (by decide) (by decide)) ?_))))))
        by_cases o : j % 2 = 0
        · rw [o]
          refine ei_t rfl (f73 _ ?_)
          rw [if_pos o, show (-1 : Int32) = iI (-1) from rfl, iI_n, iI_add]
        · rw [show j % 2 = 1 by omega]
          refine ei_n (by decide) (f73 _ ?_)
          rw [if_neg o, show (1 : Int32) = iI 1 from rfl, iI_n, iI_add]
      · intro u
        dsimp only
        rw [fX3_becomeGrownDown_36.eq_2]
        refine ob_v (rg_I rfl rfl) (ei_t (nI_le (Nat.le_refl _) (by omega)) ?_)
        rw [fX3_becomeGrownDown_121, nI_1, fB_row]
    · intro m
      dsimp only
      rw [fX3_becomeGrownDown_25.eq_2]
      exact ob_v (rg_I rfl rfl) (ei_t (nI_le (Nat.le_refl _) (by omega)) rfl)
  · intro i j hi hj
    show fB 32 0 0 w (2 * h) 0 (gwD t h I) (x.2.2.1 35) (32 * j + i) = _
    rw [fB_at (by omega), if_pos (by omega)]
    rfl
  · intro o k o1 o2
    rw [wA_1, wI_n _ _ (by omega), wI_n _ _ (by omega)]
  · intro o o1 o2
    rw [wA_n _ _ o2, wI_2, wI_2]
end
