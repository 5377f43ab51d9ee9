/-! a scan saved by the reference: its parts -/
def pM (p : scP) (m : Nat) : Prop := (p.2.2.1 = 0 ∨ p.2.2.1 = p.2.2.2 + 1) ∧ (p.1 = 0 ∧ p.2.1 = 63 ∧ p.2.2.1 = 0 ∧ p.2.2.2 = 0 ∨ p.1 = 0 ∧ p.2.1 = 0 ∨ 1 ≤ p.1 ∧ m = 1)
def ySc (y : rg_S) (mask : Nat) (p : scP) : rg_S := rg_wI (rg_wI (rg_wI (rg_wI (rg_wI y 24 22 (nI mask)) 24 23 (nI p.1)) 24 24 (nI p.2.1)) 24 25 (nI p.2.2.1)) 24 26 (nI p.2.2.2)
def ix (c0 m c : Nat) : Nat := min (c - c0) m
def FYk (y y' : rg_S) : Prop := (∀ p k, ¬ (p = 0 ∧ (k = 5 ∨ k = 6)) → p ≠ 48 → ¬ (p = 24 ∧ k = 16) → y'.1 p k = y.1 p k) ∧ y'.2.1 = y.2.1 ∧ ∀ p, p ≠ 3 → ¬ (34 ≤ p ∧ p ≤ 38) → ¬ (49 ≤ p ∧ p ≤ 55) → y'.2.2.1 p = y.2.2.1 p
theorem FYk.rfl {y : rg_S} : FYk y y := ⟨fun _ _ _ _ _ => Eq.refl _, Eq.refl _, fun _ _ _ _ => Eq.refl _⟩
theorem FYk.trans {y y1 y2 : rg_S} (h : FYk y y1) (h2 : FYk y1 y2) : FYk y y2 := ⟨fun p k a c d => (h2.1 p k a c d).trans (h.1 p k a c d), h2.2.1.trans h.2.1, fun p a c d => (h2.2.2 p a c d).trans (h.2.2 p a c d)⟩
theorem FYp.k {y y' : rg_S} (h : FYp y y') : FYk y y' := ⟨fun p k hk _ _ => h.1 p k (by omega), h.2.1, fun p hp _ _ => h.2.2.1 p hp⟩
theorem FMk.k {t : Nat} {y y' : rg_S} (h : FMk t y y') : FYk y y' := ⟨fun p k hk h1 h2 => h.1 p k (by omega) (by omega), h.2.1, fun p _ h1 h2 => h.2.2.1 p h1 h2⟩
/-- the tables made so far hold the words -/
def mdT (E : List ev) (Q : Nat → Prop) (n : Nat) (y : rg_S) : Prop := ∀ t s, t < n → Q t → s < 256 → 0 < cnt E t s → y.2.2.1 38 (256 * t + s) = nI (cwF E t s) ∧ y.2.2.1 37 (256 * t + s) = nI (clF E t s)
section
variable {X : px_X} {b B : Nat} {w0 w1 : px_W} {y y' : rg_S} {c0 m t : Nat} {p : scP} {L : List Int32} {g : gG} {E : List ev}
theorem mk_lt (hg : gOk g) (hs : scOk g c0 m) : 0 < mk c0 m ∧ mk c0 m < 2 ^ g.2.2.1 := by
  have hp : 0 < 2 ^ c0 := Nat.two_pow_pos _
  unfold scOk at hs
  unfold mk
  rcases hs with ⟨m1, hc⟩ | ⟨m1, hc, hm⟩
  · rw [m1]
    have := Nat.pow_lt_pow_right (a := 2) (by decide) hc
    omega
  · rw [hc, hm]
    have := hg.2.2.2.2.1
    have : 2 ^ 1 ≤ 2 ^ g.2.2.1 := Nat.pow_le_pow_right (by decide) this
    omega
theorem pw_n {n : Nat} (h : n ≤ 8) : (1 : Int32) <<< (nI n &&& 31) = nI (2 ^ n) := by
  rcases (show n = 0 ∨ n = 1 ∨ n = 2 ∨ n = 3 ∨ n = 4 ∨ n = 5 ∨ n = 6 ∨ n = 7 ∨ n = 8 by omega) with rfl | rfl | rfl | rfl | rfl | rfl | rfl | rfl | rfl <;> decide
theorem m_scan (hg : gOk g) (hs : scOk g c0 m) (h2 : y.1 24 2 = nI g.2.2.1) (hp : pOk p) (hm : pM p m) : fX13_scan X (rg_p lM b w0 y) (b + 24) (nI (mk c0 m)) (nI p.1) (nI p.2.1) (nI p.2.2.1) (nI p.2.2.2) = some (1, rg_p lM b w0 (ySc y (mk c0 m) p)) := by
  obtain ⟨p1, p2, p3, p4, pf⟩ := hp
  obtain ⟨hm1, hm2⟩ := hm
  have h4 := hg.2.2.2.2.2.1
  obtain ⟨mk0, mkl⟩ := mk_lt hg hs
  have pw4 : 2 ^ g.2.2.1 ≤ 2 ^ 4 := Nat.pow_le_pow_right (by decide) h4
  have e148 : fX13_scan_148 X (b + 24) (nI (mk c0 m)) (nI p.1) (nI p.2.1) (nI p.2.2.1) (nI p.2.2.2) (rg_p lM b w0 y) = some (1, rg_p lM b w0 (ySc y (mk c0 m) p)) := by
    unfold fX13_scan_148
    exact ob_v (rg_pI rfl rfl _) (ob_v (rg_pI rfl rfl _) (ob_v (rg_pI rfl rfl _) (ob_v (rg_pI rfl rfl _) (ob_v (rg_pI rfl rfl _) rfl))))
  have e45 : fX13_scan_45 X (b + 24) (nI (mk c0 m)) (nI p.1) (nI p.2.1) (nI p.2.2.1) (nI p.2.2.2) 1 (rg_p lM b w0 y) = some (1, rg_p lM b w0 (ySc y (mk c0 m) p)) := by
    unfold fX13_scan_45 fX13_scan_71 fX13_scan_72 fX13_scan_86 fX13_scan_87 fX13_scan_123 fX13_scan_124
    rcases hm2 with ⟨q1, q2, q3, q4⟩ | ⟨q1, q2⟩ | ⟨q1, q2⟩
    · refine ei_t (by rw [q1]; rfl) (ei_t (by rw [q2]; rfl) (ei_t (by rw [q3]; rfl) (ei_t (by rw [q4]; rfl) (ei_t (by rw [q1]; rfl) (ei_n (by rw [q2]; decide) (ei_t (by rw [q1]; decide) (ei_n n10 (ei_n n10 e148))))))))
    · refine ei_t (by rw [q1]; rfl) (ei_n (by rw [q2]; decide) (ei_t (by rw [q1]; rfl) (ei_t (by rw [q2]; rfl) (ei_t (by rw [q1]; decide) (ei_n n10 (ei_t rfl (ei_n n10 e148)))))))
    · have f0 : ¬ nI p.1 = 0 := nI_ne0 (by omega) (by omega)
      refine ei_n f0 (ei_n f0 (ei_n (nI_nlt (b := 1) q1 (by omega)) (ei_n (nI_nlt (a := 63) (by omega) (by omega)) (ei_n (nI_nlt p1 (by omega)) (ei_n (nI_nlt (a := 63) (by omega) (by omega)) (ob_v (m_ones hg hs) (ei_t (by rw [q2]; rfl) (ei_n n10 (ei_t rfl (ei_t rfl (ei_n n10 e148)))))))))))
  unfold fX13_scan fX13_scan_40
  refine ei_n (nI_nle mk0 (by omega)) (ob_v (rg_I rfl rfl) ?_)
  rw [h2, pw_n (by omega)]
  refine ei_n (nI_ge mkl (by omega)) (ei_n (nI_nlt (b := 0) (by omega) (by omega)) (ei_n (nI_nlt (a := 9) (by omega) (by omega)) ?_))
  rcases hm1 with q | q
  · exact ei_t (by rw [q]; rfl) e45
  · refine ei_n (nI_ne0 (by omega) (by omega)) (ei_t (by rw [q, nI_1]) e45)
theorem bit_in (hg : gOk g) (hs : scOk g c0 m) {c : Nat} (hc : c < 4) : (((nI (mk c0 m) >>> (nI c &&& 31)) &&& 1) = 1) ↔ (c0 ≤ c ∧ c < c0 + m) := by
  rw [vb_e, mk_bit hg hs hc]
  split
  · rename_i q
    exact ⟨fun _ => q, fun _ => rfl⟩
  · rename_i q
    exact ⟨fun e => absurd e (by decide), fun e => absurd e q⟩
theorem ix_s {c : Nat} (h : c0 ≤ c ∧ c < c0 + m) : ix c0 m c = c - c0 ∧ ix c0 m (c + 1) = c - c0 + 1 := by
  unfold ix
  omega
theorem ix_n {c : Nat} (h : ¬ (c0 ≤ c ∧ c < c0 + m)) : ix c0 m (c + 1) = ix c0 m c := by
  unfold ix
  omega
theorem m_c50 (hg : gOk g) (hs : scOk g c0 m) (hp : pOk p) (hl : E.length ≤ 1352000000) (h20 : y.1 0 20 = nI g.2.2.1) (hf : ∀ t s, t < 8 → s < 256 → y.2.2.1 43 (256 * t + s) = nI (cnt E t s)) {a2 a4 a5 a8 : Int32} (h8 : a8 = if p.1 = 0 ∧ p.2.2.1 = 0 then 1 else 0) : ∀ (k M c : Nat), c + k = g.2.2.1 → k < M → fX15_saveScan_50 X M (b + 0) (nI (mk c0 m)) a2 (nI p.2.1) a4 a5 a8 (nI (ctS E p c0 (ix c0 m c))) (nI (ix c0 m c)) (nI c) (rg_p lM b w0 y) = fX15_saveScan_154 X (b + 0) (nI (mk c0 m)) a2 (nI p.2.1) a4 a5 a8 (nI (ctS E p c0 m)) (nI m) (rg_p lM b w0 y) := by
  obtain ⟨p1, p2, p3, p4, pf⟩ := hp
  have h4 := hg.2.2.2.2.2.1
  have hcm := hs.cm hg
  have ft : ∀ t s, t < 8 → s < 256 → fF E t s < 2 ^ 31 := fun t s _ hs' => by
    rw [fF_lt hs']
    have := List.countP_le_length (p := isW t s) (l := E)
    unfold cnt
    omega
  have di : ∀ t, t < 8 → fX15_distinct X (rg_p lM b w0 y) (b + 0) (nI t) = some (nI (cn (fF E t) 256), rg_p lM b w0 y) := fun t ht => m_dist ht (fun s hs' => by rw [fF_lt hs']; exact hf t s ht hs') (fun s hs' => ft t s ht hs')
  intro k
  induction k with
  | zero =>
    intro M c hc hM
    obtain rfl : c = g.2.2.1 := by omega
    obtain ⟨M, rfl⟩ : ∃ M', M = M' + 1 := ⟨M - 1, by omega⟩
    rw [fX15_saveScan_50.eq_2, show ix c0 m g.2.2.1 = m by unfold ix; omega]
    refine ob_v (rg_I rfl rfl) ?_
    rw [h20]
    exact ei_t (nI_le (Nat.le_refl _) (by omega)) rfl
  | succ k ih =>
    intro M c hc hM
    obtain ⟨M, rfl⟩ : ∃ M', M = M' + 1 := ⟨M - 1, by omega⟩
    have e := ih M (c + 1) (by omega) (by omega)
    rw [fX15_saveScan_50.eq_2]
    refine ob_v (rg_I rfl rfl) ?_
    rw [h20]
    refine ei_n (nI_ge (by omega) (by omega)) ?_
    by_cases q : c0 ≤ c ∧ c < c0 + m
    · obtain ⟨i1, i2⟩ := ix_s q
      rw [i2] at e
      rw [i1]
      refine ei_t ((bit_in hg hs (by omega)).mpr q) ?_
      have e116 : ∀ v, v = nI (if p.1 = 0 ∧ p.2.2.1 = 0 then 17 + cn (fF E (c0 + (c - c0))) 256 else 0) → fX15_saveScan_116 X (fX15_saveScan_50 X M) (b + 0) (nI (mk c0 m)) a2 (nI p.2.1) a4 a5 a8 (nI (c - c0) + 1) (nI c) 1 v (nI (ctS E p c0 (c - c0))) (rg_p lM b w0 y) = fX15_saveScan_154 X (b + 0) (nI (mk c0 m)) a2 (nI p.2.1) a4 a5 a8 (nI (ctS E p c0 m)) (nI m) (rg_p lM b w0 y) := by
        intro v hv
        unfold fX15_saveScan_116 fX15_saveScan_144 fX15_saveScan_145
        rw [hv, nI_add, nI_1, nI_1]
        rw [ctS.eq_2] at e
        refine ei_n n10 ?_
        by_cases ot : 0 < p.2.1
        · rw [if_pos ot] at e
          refine ei_n (nI_nle ot (by omega)) (ob_v (rg_O rfl) ?_)
          rw [show (4 : Int32) + nI c = nI (4 + c) from nI_add 4 c]
          refine ob_v (di (4 + c) (by omega)) ?_
          dsimp only
          rw [show (17 : Int32) + nI (cn (fF E (4 + c)) 256) = nI (17 + cn (fF E (4 + c)) 256) from nI_add 17 _, nI_add]
          rw [show 4 + c0 + (c - c0) = 4 + c by omega] at e
          exact e
        · rw [if_neg ot] at e
          refine ei_t (by rw [show p.2.1 = 0 by omega]; decide) ?_
          rw [show (0 : Int32) = nI 0 from rfl, nI_add]
          exact e
      unfold fX15_saveScan_74
      refine ei_n n10 ?_
      unfold fX15_saveScan_88 fX15_saveScan_115
      refine ei_n n10 ?_
      by_cases d : p.1 = 0 ∧ p.2.2.1 = 0
      · refine ei_n (by rw [h8, if_pos d]; exact n10) (ob_v (rg_O rfl) (ob_v (di c (by omega)) (e116 _ ?_)))
        rw [if_pos d, show c0 + (c - c0) = c by omega]
        exact nI_add 17 _
      · exact ei_t (by rw [h8, if_neg d]) (e116 _ (by rw [if_neg d]; rfl))
    · rw [ix_n q] at e
      refine ei_n (fun h => q ((bit_in hg hs (by omega)).mp h)) ?_
      unfold fX15_saveScan_74 fX15_saveScan_88 fX15_saveScan_115 fX15_saveScan_116 fX15_saveScan_144 fX15_saveScan_145
      refine ei_t rfl (ei_t rfl (ei_t rfl ?_))
      rw [show (0 : Int32) = nI 0 from rfl, nI_add, nI_add, nI_add, nI_1]
      exact e
/-- one table's turn -/
theorem m_tt (hl : E.length ≤ 1352000000) (ht : t < 8) (hf : ∀ t s, t < 8 → s < 256 → y.2.2.1 43 (256 * t + s) = nI (cnt E t s)) {Q : Nat → Prop} (h : yQ y L) (hd : mdT E Q t y) : ∃ y', fX15_putTable X (rg_p lM b w0 y) (b + 0) (nI t) = some (rg_p lM b w0 y') ∧ yQ y' (L ++ tb (if 4 ≤ t then 12 + t else t) (fF E t)) ∧ FYk y y' ∧ mdT E Q (t + 1) y' := by
  obtain ⟨y1, y', e', h', F1, mt, F2⟩ := m_ptb (X := X) (b := b) (w0 := w0) (y := y) ht hl (fun s hs => hf t s ht hs) h
  refine ⟨y', e', h', F1.k.trans F2.k, fun t' s ht' hQ hs hc => ?_⟩
  rw [F2.2.2.1 38 (by decide), F2.2.2.1 37 (by decide)]
  by_cases e : t' = t
  · rw [e] at hc ⊢
    obtain ⟨Z3, Z2, a3, a2⟩ := mt
    have has := bO_has (fF_256 E t) hs (by rw [fF_lt hs]; exact hc)
    have e2 := aW_in (g := gW (bC (fF E t))) (o := 256 * t) (o' := 0) (Z := Z2) (Z' := fun _ => 0) has
    have e3 := aW_in (g := gL (bC (fF E t)) 16) (o := 256 * t) (o' := 0) (Z := Z3) (Z' := fun _ => 0) has
    rw [Nat.zero_add] at e2 e3
    rw [a2, a3, e2, e3]
    exact ⟨nI_sur _, nI_sur _⟩
  · have k := F1.2.2.2 (256 * t' + s) (by omega)
    rw [k.1, k.2]
    exact hd t' s (by omega) hQ hs hc
theorem mdT_n {Q : Nat → Prop} (h : mdT E Q t y) (hq : ¬ Q t) : mdT E Q (t + 1) y := fun t' s ht' hQ hs hc => by
  by_cases e : t' = t
  · rw [e] at hQ
    exact absurd hQ hq
  · exact h t' s (by omega) hQ hs hc
/-- all tables: those of the direct ones first -/
def tbB (E : List ev) (p : scP) (c0 m t : Nat) : List Int32 := (if p.1 = 0 ∧ p.2.2.1 = 0 then tD E c0 (ix c0 m t) else []) ++ (if 0 < p.2.1 then tO E c0 (ix c0 m (t - 4)) else [])
theorem tbB_y (hc : c0 + m ≤ 4) (ht : t < 8) (hq : tbQ c0 m p t) : tbB E p c0 m (t + 1) = tbB E p c0 m t ++ tb (if 4 ≤ t then 12 + t else t) (fF E t) := by
  unfold tbB
  rcases hq with ⟨d1, d2, q1, q2⟩ | ⟨d, q1, q2⟩
  · have z1 : (if 0 < p.2.1 then tO E c0 (ix c0 m (t + 1 - 4)) else []) = [] := by
      have : ix c0 m (t + 1 - 4) = 0 := by unfold ix; omega
      rw [this]
      split <;> rfl
    have z2 : (if 0 < p.2.1 then tO E c0 (ix c0 m (t - 4)) else []) = [] := by
      have : ix c0 m (t - 4) = 0 := by unfold ix; omega
      rw [this]
      split <;> rfl
    obtain ⟨i1, i2⟩ := ix_s (c0 := c0) (m := m) ⟨q1, q2⟩
    rw [z1, z2, List.append_nil, List.append_nil, i1, i2, if_pos ⟨d1, d2⟩, if_pos ⟨d1, d2⟩, tD.eq_2, show c0 + (t - c0) = t by omega, if_neg (show ¬ 4 ≤ t by omega)]
  · have z1 : ix c0 m (t + 1) = ix c0 m t := by unfold ix; omega
    obtain ⟨i1, i2⟩ := ix_s (c0 := c0) (m := m) (c := t - 4) ⟨by omega, by omega⟩
    rw [z1, show t + 1 - 4 = t - 4 + 1 by omega, i1, i2, if_pos d, if_pos d, tO.eq_2, show 16 + (c0 + (t - 4 - c0)) = 12 + t by omega, show 4 + c0 + (t - 4 - c0) = t by omega, List.append_assoc, if_pos (show 4 ≤ t by omega)]
theorem tbB_n (hc : c0 + m ≤ 4) (ht : t < 8) (hq : ¬ tbQ c0 m p t) : tbB E p c0 m (t + 1) = tbB E p c0 m t := by
  unfold tbB
  unfold tbQ at hq
  have a1 : (if p.1 = 0 ∧ p.2.2.1 = 0 then tD E c0 (ix c0 m (t + 1)) else []) = if p.1 = 0 ∧ p.2.2.1 = 0 then tD E c0 (ix c0 m t) else [] := by
    split
    · rw [ix_n (by omega)]
    · rfl
  have a2 : (if 0 < p.2.1 then tO E c0 (ix c0 m (t + 1 - 4)) else []) = if 0 < p.2.1 then tO E c0 (ix c0 m (t - 4)) else [] := by
    split
    · by_cases t4 : t < 4
      · rw [show t + 1 - 4 = t - 4 by omega]
      · rw [show t + 1 - 4 = t - 4 + 1 by omega, ix_n (by omega)]
    · rfl
  rw [a1, a2]
theorem m_t171 (hg : gOk g) (hs : scOk g c0 m) (hp : pOk p) (hl : E.length ≤ 1352000000) {a2 a4 a5 a8 a10 : Int32} (h8 : a8 = if p.1 = 0 ∧ p.2.2.1 = 0 then 1 else 0) : ∀ (k M t : Nat) (y : rg_S), t + k = 8 → k < M → (∀ t s, t < 8 → s < 256 → y.2.2.1 43 (256 * t + s) = nI (cnt E t s)) → yQ y (L ++ tbB E p c0 m t) → mdT E (tbQ c0 m p) t y → ∃ y', fX15_saveScan_171 X M (b + 0) (nI (mk c0 m)) a2 (nI p.2.1) a4 a5 a8 a10 (nI t) (rg_p lM b w0 y) = fX15_saveScan_220 X (b + 0) (nI (mk c0 m)) a2 (nI p.2.1) a4 a5 a10 (rg_p lM b w0 y') ∧ yQ y' (L ++ tbB E p c0 m 8) ∧ FYk y y' ∧ mdT E (tbQ c0 m p) 8 y' := by
  obtain ⟨p1, p2, p3, p4, pf⟩ := hp
  have h4 := hg.2.2.2.2.2.1
  have hcm := hs.cm hg
  intro k
  induction k with
  | zero =>
    intro M t y ht hM hf h hd
    obtain rfl : t = 8 := by omega
    obtain ⟨M, rfl⟩ : ∃ M', M = M' + 1 := ⟨M - 1, by omega⟩
    refine ⟨y, ?_, h, FYk.rfl, hd⟩
    rw [fX15_saveScan_171.eq_2]
    exact ei_t (by decide) rfl
  | succ k ih =>
    intro M t y ht hM hf h hd
    obtain ⟨M, rfl⟩ : ∃ M', M = M' + 1 := ⟨M - 1, by omega⟩
    have start : ∀ r, (if ((nI (mk c0 m) >>> (nI (t % 4) &&& 31)) &&& 1) = 1 then (if 4 ≤ nI t then (if nI p.2.1 ≤ 0 then fX15_saveScan_214 X (fX15_saveScan_171 X M) (b + 0) (nI (mk c0 m)) a2 (nI p.2.1) a4 a5 a8 a10 (nI t) (rg_p lM b w0 y) else fX15_saveScan_208 X (fX15_saveScan_171 X M) (b + 0) (nI (mk c0 m)) a2 (nI p.2.1) a4 a5 a8 a10 (nI t) (rg_p lM b w0 y)) else (if a8 = 0 then fX15_saveScan_214 X (fX15_saveScan_171 X M) (b + 0) (nI (mk c0 m)) a2 (nI p.2.1) a4 a5 a8 a10 (nI t) (rg_p lM b w0 y) else fX15_saveScan_208 X (fX15_saveScan_171 X M) (b + 0) (nI (mk c0 m)) a2 (nI p.2.1) a4 a5 a8 a10 (nI t) (rg_p lM b w0 y))) else fX15_saveScan_214 X (fX15_saveScan_171 X M) (b + 0) (nI (mk c0 m)) a2 (nI p.2.1) a4 a5 a8 a10 (nI t) (rg_p lM b w0 y)) = r → fX15_saveScan_171 X (M + 1) (b + 0) (nI (mk c0 m)) a2 (nI p.2.1) a4 a5 a8 a10 (nI t) (rg_p lM b w0 y) = r := by
      intro r hr
      rw [fX15_saveScan_171.eq_2]
      exact ei_n (nI_ge (b := 8) (by omega) (by omega)) (ob_v (rI_n (d := 4) (by omega) (by decide) (by decide)) hr)
    by_cases q : tbQ c0 m p t
    · have bs := tbB_y (E := E) (p := p) (c0 := c0) (m := m) (t := t) (by omega) (by omega) q
      obtain ⟨y1, e1, h1, F1, d1⟩ := m_tt (X := X) (b := b) (w0 := w0) (y := y) hl (t := t) (by omega) hf h hd
      rw [List.append_assoc, ← bs] at h1
      obtain ⟨y2, e2, h2, F2, d2⟩ := ih M (t + 1) y1 (by omega) (by omega) (fun t s ht hs' => by rw [F1.2.2 43 (by decide) (by decide) (by decide)]; exact hf t s ht hs') h1 d1
      have e208 : fX15_saveScan_208 X (fX15_saveScan_171 X M) (b + 0) (nI (mk c0 m)) a2 (nI p.2.1) a4 a5 a8 a10 (nI t) (rg_p lM b w0 y) = fX15_saveScan_220 X (b + 0) (nI (mk c0 m)) a2 (nI p.2.1) a4 a5 a10 (rg_p lM b w0 y2) := by
        unfold fX15_saveScan_208 fX15_saveScan_214
        refine ob_v (rg_O rfl) (ob_v e1 ?_)
        rw [nI_1]
        exact e2
      refine ⟨y2, start _ ?_, h2, F1.trans F2, d2⟩
      rcases q with ⟨d1', d2', q1, q2⟩ | ⟨d, q1, q2⟩
      · exact ei_t ((bit_in hg hs (by omega)).mpr (by omega)) (ei_n (nI_ge (b := 4) (by omega) (by omega)) (ei_n (by rw [h8, if_pos ⟨d1', d2'⟩]; exact n10) e208))
      · exact ei_t ((bit_in hg hs (by omega)).mpr (by omega)) (ei_t (nI_le (a := 4) (by omega) (by omega)) (ei_n (nI_nle d (by omega)) e208))
    · have bs := tbB_n (E := E) (p := p) (c0 := c0) (m := m) (t := t) (by omega) (by omega) q
      obtain ⟨y2, e2, h2, F2, d2⟩ := ih M (t + 1) y (by omega) (by omega) hf (by rw [bs]; exact h) (mdT_n hd q)
      have e214 : fX15_saveScan_214 X (fX15_saveScan_171 X M) (b + 0) (nI (mk c0 m)) a2 (nI p.2.1) a4 a5 a8 a10 (nI t) (rg_p lM b w0 y) = fX15_saveScan_220 X (b + 0) (nI (mk c0 m)) a2 (nI p.2.1) a4 a5 a10 (rg_p lM b w0 y2) := by
        unfold fX15_saveScan_214
        rw [nI_1]
        exact e2
      refine ⟨y2, start _ ?_, h2, F2, d2⟩
      by_cases q1 : c0 ≤ t % 4 ∧ t % 4 < c0 + m
      · refine ei_t ((bit_in hg hs (by omega)).mpr q1) ?_
        unfold tbQ at q
        by_cases t4 : t < 4
        · refine ei_n (nI_ge (b := 4) t4 (by omega)) (ei_t ?_ e214)
          rw [h8, if_neg (fun e => q (Or.inl ⟨e.1, e.2, by omega, by omega⟩))]
        · refine ei_t (nI_le (a := 4) (by omega) (by omega)) (ei_t ?_ e214)
          rw [show p.2.1 = 0 by omega]
          decide
      · exact ei_n (fun e => q1 ((bit_in hg hs (by omega)).mp e)) e214
end
