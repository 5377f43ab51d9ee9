/-! a scan written by the reference: its units -/
def mk (c0 m : Nat) : Nat := (2 ^ m - 1) * 2 ^ c0
def uY (y0 : rg_S) (g : gG) (c0 m iv : Nat) : Prop := y0.1 24 22 = nI (mk c0 m) ∧ y0.1 24 10 = nI (gUA g) ∧ y0.1 24 11 = nI (gUD g) ∧ y0.1 24 2 = nI g.2.2.1 ∧ y0.1 24 27 = nI iv ∧ ∀ c, c < g.2.2.1 → y0.2.2.1 25 c = nI (g.2.2.2.1 c) ∧ y0.2.2.1 26 c = nI (g.2.2.2.2 c) ∧ y0.2.2.1 27 c = nI (gAc g c) ∧ y0.2.2.1 29 c = nI (gOA g c) ∧ y0.2.2.1 30 c = nI (gOD g c)
theorem mk_bit {g : gG} {c0 m k : Nat} (hg : gOk g) (hs : scOk g c0 m) (hk : k < 4) : vb (nI (mk c0 m)) k = if c0 ≤ k ∧ k < c0 + m then 1 else 0 := by
  have := hg.2.2.2.2.1
  have := hg.2.2.2.2.2.1
  unfold scOk at hs
  have hh : m = 1 ∧ c0 = 0 ∨ m = 1 ∧ c0 = 1 ∨ m = 1 ∧ c0 = 2 ∨ m = 1 ∧ c0 = 3 ∨ m = 2 ∧ c0 = 0 ∨ m = 3 ∧ c0 = 0 ∨ m = 4 ∧ c0 = 0 := by omega
  have hk' : k = 0 ∨ k = 1 ∨ k = 2 ∨ k = 3 := by omega
  rcases hh with ⟨rfl, rfl⟩ | ⟨rfl, rfl⟩ | ⟨rfl, rfl⟩ | ⟨rfl, rfl⟩ | ⟨rfl, rfl⟩ | ⟨rfl, rfl⟩ | ⟨rfl, rfl⟩ <;> rcases hk' with rfl | rfl | rfl | rfl <;> decide
section
variable {X : px_X} {b B : Nat} {w0 w1 w : px_W} {y y' y0 : rg_S} {t n c j T q c0 m u iv N : Nat} {p : scP} {K : kS} {a a' : aS} {Z : Nat → Int} {g : gG}
theorem m_ones4 (v : Int32) : ∀ (k M i s : Nat), i + k = 4 → k < M → fX13_ones_4 X M v (nI s) (nI i) w = some (nI (s + sumN (fun j => vb v (i + j)) k), w) := by
  intro k
  induction k with
  | zero =>
    intro M i s hi hM
    obtain rfl : i = 4 := by omega
    obtain ⟨M, rfl⟩ : ∃ M', M = M' + 1 := ⟨M - 1, by omega⟩
    rw [fX13_ones_4.eq_2]
    exact ei_t (by decide) rfl
  | succ k ih =>
    intro M i s hi hM
    obtain ⟨M, rfl⟩ : ∃ M', M = M' + 1 := ⟨M - 1, by omega⟩
    rw [fX13_ones_4.eq_2]
    refine ei_n (nI_ge (b := 4) (by omega) (by omega)) ?_
    rw [vb_e, nI_add, nI_1, ih M (i + 1) _ (by omega) (by omega)]
    congr 2
    have e : ∀ n, sumN (fun j => vb v (i + j)) (n + 1) = vb v i + sumN (fun j => vb v (i + 1 + j)) n := by
      intro n
      induction n with
      | zero =>
        show 0 + vb v (i + 0) = vb v i + 0
        rw [Nat.zero_add, Nat.add_zero, Nat.add_zero]
      | succ n ih2 =>
        rw [sumN.eq_2, ih2, sumN.eq_2, show i + 1 + n = i + (n + 1) by omega]
        omega
    rw [e]
    congr 1
    omega
theorem m_ones {g : gG} {c0 m : Nat} (hg : gOk g) (hs : scOk g c0 m) : fX13_ones X w (nI (mk c0 m)) = some (nI m, w) := by
  have e := m_ones4 (X := X) (w := w) (nI (mk c0 m)) 4 FU 0 0 rfl (by unfold FU; omega)
  unfold fX13_ones
  refine (show fX13_ones_4 X FU _ (nI 0) (nI 0) w = _ from e).trans ?_
  congr 2
  have h := fun k hk => mk_bit (k := k) hg hs hk
  have hcm := hs.cm hg
  have h4 := hg.2.2.2.2.2.1
  have s4 : sumN (fun j => vb (nI (mk c0 m)) (0 + j)) 4 = 0 + vb (nI (mk c0 m)) (0 + 0) + vb (nI (mk c0 m)) (0 + 1) + vb (nI (mk c0 m)) (0 + 2) + vb (nI (mk c0 m)) (0 + 3) := rfl
  rw [s4, h (0 + 0) (by decide), h (0 + 1) (by decide), h (0 + 2) (by decide), h (0 + 3) (by decide)]
  congr 1
  have : c0 = 0 ∨ c0 = 1 ∨ c0 = 2 ∨ c0 = 3 := by omega
  have : m = 1 ∨ m = 2 ∨ m = 3 ∨ m = 4 := by omega
  unfold scOk at hs
  split <;> split <;> split <;> split <;> omega
theorem m_single (hg : gOk g) (hs : scOk g c0 m) (h22 : y.1 24 22 = nI (mk c0 m)) : fX13_single X (rg_p lM b w0 y) (b + 24) = some (nI c0, rg_p lM b w0 y) := by
  have hcm := hs.cm hg
  have h : ∀ (k M i : Nat), i + k = c0 → k < M → fX13_single_2 X M (b + 24) (nI i) (rg_p lM b w0 y) = some (nI c0, rg_p lM b w0 y) := by
    intro k
    induction k with
    | zero =>
      intro M i hi hM
      obtain rfl : i = c0 := by omega
      obtain ⟨M, rfl⟩ : ∃ M', M = M' + 1 := ⟨M - 1, by omega⟩
      rw [fX13_single_2.eq_2]
      refine ob_v (rg_I rfl rfl) ?_
      rw [h22, vb_e, mk_bit hg hs (by omega), if_pos (show i ≤ i ∧ i < i + m by omega)]
      exact ei_n (by decide) rfl
    | succ k ih =>
      intro M i hi hM
      obtain ⟨M, rfl⟩ : ∃ M', M = M' + 1 := ⟨M - 1, by omega⟩
      rw [fX13_single_2.eq_2]
      refine ob_v (rg_I rfl rfl) ?_
      rw [h22, vb_e, mk_bit hg hs (by omega), if_neg (show ¬ (c0 ≤ i ∧ i < c0 + m) by omega), nI_1]
      exact ei_t (by decide) (ih M (i + 1) (by omega) (by omega))
  unfold fX13_single
  exact h c0 FU 0 (by omega) (by unfold FU; omega)
theorem uY.st (h : uY y0 g c0 m iv) (k : yW K y0 a y) : uY y g c0 m iv := by
  obtain ⟨⟨f1, f2, f3, f4⟩, _⟩ := k
  unfold uY at *
  rw [f1 24 22 (by omega), f1 24 10 (by omega), f1 24 11 (by omega), f1 24 2 (by omega), f1 24 27 (by omega), f3 25 (by omega), f3 26 (by omega), f3 27 (by omega), f3 29 (by omega), f3 30 (by omega)]
  exact h
theorem nm1 (hg : gOk g) (hs : scOk g c0 m) (m1 : m ≠ 1) : ¬ nI m = 1 := fun e => m1 ((nI_eq (b := 1) (by have := hs.cm hg; have := hg.2.2.2.2.2.1; omega) (by omega)).mp e)
theorem m_units (hg : gOk g) (hs : scOk g c0 m) (h : uY y g c0 m iv) : fX13_units X (rg_p lM b w0 y) (b + 24) = some (nI (scU g c0 m), rg_p lM b w0 y) := by
  obtain ⟨h22, h10, h11, h2, h27, hc⟩ := h
  have hcm := hs.cm hg
  unfold fX13_units
  refine ob_v (rg_O rfl) (ob_v (m_single hg hs h22) (ob_v (rg_I rfl rfl) ?_))
  rw [h22]
  refine ob_v (m_ones hg hs) ?_
  unfold scU
  by_cases m1 : m = 1
  · rw [if_pos m1]
    refine ei_t (by rw [m1]; rfl) (ob_v (rg_C rfl rfl) (ob_v (rg_A rfl (by decide) _ hcm.1 (by decide)) (ob_v (rg_C rfl rfl) (ob_v (rg_A rfl (by decide) _ hcm.1 (by decide)) ?_))))
    rw [(hc c0 (by omega)).2.2.2.1, (hc c0 (by omega)).2.2.2.2, pk_mul]
  · rw [if_neg m1]
    refine ei_n (nm1 hg hs m1) (ob_v (rg_I rfl rfl) (ob_v (rg_I rfl rfl) ?_))
    rw [h10, h11, pk_mul]
theorem m_blocksIn (hg : gOk g) (hs : scOk g c0 m) (h : uY y g c0 m iv) (hcc : c < g.2.2.1) : fX13_blocksIn X (rg_p lM b w0 y) (b + 24) (nI c) = some (nI (scB g c0 m c), rg_p lM b w0 y) := by
  obtain ⟨h22, h10, h11, h2, h27, hc⟩ := h
  have hcm := hs.cm hg
  have h4 := hg.2.2.2.2.2.1
  unfold fX13_blocksIn
  refine ob_v (rg_I rfl rfl) ?_
  rw [h22, vb_e, mk_bit hg hs (by omega)]
  unfold scB
  by_cases q : c0 ≤ c ∧ c < c0 + m
  · rw [if_pos q, if_pos q]
    refine ei_n (by decide) (ob_v (rg_I rfl rfl) ?_)
    rw [h22]
    refine ob_v (m_ones hg hs) ?_
    by_cases m1 : m = 1
    · rw [if_pos m1]
      exact ei_t (by rw [m1]; rfl) rfl
    · rw [if_neg m1]
      refine ei_n (nm1 hg hs m1) (ob_v (rg_C rfl rfl) (ob_v (rg_A rfl (by decide) _ (by omega) (by decide)) (ob_v (rg_C rfl rfl) (ob_v (rg_A rfl (by decide) _ (by omega) (by decide)) ?_))))
      rw [(hc c hcc).1, (hc c hcc).2.1, pk_mul]
  · rw [if_neg q, if_neg q]
    exact ei_t (by decide) rfl
theorem m_blockOf (hg : gOk g) (hs : scOk g c0 m) (h : uY y g c0 m iv) (hu : u < scU g c0 m) (hj : j < scB g c0 m c) : fX13_blockOf X (rg_p lM b w0 y) (b + 24) (nI c) (nI u) (nI j) = some (nI (scQ g m u c j), rg_p lM b w0 y) := by
  obtain ⟨h22, h10, h11, h2, h27, hc⟩ := h
  obtain ⟨k1, k2, hcc, k3⟩ := scB_c hs hj
  have h4 := hg.2.2.2.2.2.1
  have hun := scU_lt hg hs
  have ua := hg.ua
  have f := hg.2.2.2.2.2.2 c hcc
  have oa := hg.oa hcc
  have ac := hg.ac hcc
  obtain ⟨a1, a2, a3, a4, a5⟩ := hc c hcc
  have hj4 : j < 65536 := by
    unfold scB at hj
    rw [if_pos ⟨k1, k2⟩] at hj
    split at hj
    · omega
    · have : g.2.2.2.1 c * g.2.2.2.2 c ≤ 2 * 2 := Nat.mul_le_mul f.1.2 f.2.2
      omega
  unfold fX13_blockOf scQ
  refine ob_v (rg_I rfl rfl) ?_
  rw [h22]
  refine ob_v (m_ones hg hs) ?_
  by_cases m1 : m = 1
  · rw [if_pos m1]
    refine ei_t (by rw [m1]; rfl) (ob_v (rg_C rfl rfl) (ob_v (rg_A rfl (by decide) _ (by omega) (by decide)) ?_))
    rw [a4]
    refine ob_v (dI_n (by omega) (by omega) (by omega)) (ob_v (rg_C rfl rfl) (ob_v (rg_A rfl (by decide) _ (by omega) (by decide)) (ob_v (rg_C rfl rfl) (ob_v (rg_A rfl (by decide) _ (by omega) (by decide)) ?_))))
    rw [a4]
    refine ob_v (rI_n (by omega) (by omega) (by omega)) ?_
    rw [a3, pk_mul, nI_add]
  · rw [if_neg m1]
    refine ei_n (nm1 hg hs m1) (ob_v (rg_I rfl rfl) ?_)
    rw [h10]
    refine ob_v (rI_n (by omega) (by omega) (by omega)) (ob_v (rg_C rfl rfl) (ob_v (rg_A rfl (by decide) _ (by omega) (by decide)) (ob_v (rg_C rfl rfl) (ob_v (rg_A rfl (by decide) _ (by omega) (by decide)) ?_))))
    rw [a1]
    refine ob_v (rI_n (by omega) (by omega) (by omega)) (ob_v (rg_I rfl rfl) ?_)
    rw [h10]
    refine ob_v (dI_n (by omega) (by omega) (by omega)) (ob_v (rg_C rfl rfl) (ob_v (rg_A rfl (by decide) _ (by omega) (by decide)) (ob_v (rg_C rfl rfl) (ob_v (rg_A rfl (by decide) _ (by omega) (by decide)) ?_))))
    rw [a1]
    refine ob_v (dI_n (by omega) (by omega) (by omega)) (ob_v (rg_C rfl rfl) (ob_v (rg_A rfl (by decide) _ (by omega) (by decide)) ?_))
    rw [a2, a3, pk_mul, nI_add, pk_mul, pk_mul, nI_add, nI_add]
theorem m_comp (S : sY K y0) (pp : pY y0 p.1 p.2.1 p.2.2.1 p.2.2.2 (64 * gBs g g.2.2.1) g.2.2.1 (gBs g) Z) (q : uY y0 g c0 m iv) (hg : gOk g) (hs : scOk g c0 m) (hff : p.1 = 0 → 0 < p.2.1 → p.2.2.1 = 0) (hZ : ∀ i, i < 64 * gBs g g.2.2.1 → -1024 ≤ Z i ∧ Z i ≤ 1023) (hu : u < scU g c0 m) (hcc : c < g.2.2.1) (hI : aIv p.1 p.2.2.1 a) {k82 : Nat → Int32 → Int32 → Int32 → px_W → Option (px_W)} {k205 : Nat → Int32 → Int32 → Int32 → Int32 → px_W → Option (px_W)} {a1 a2 : Int32} (hE : inE K (aC g m p Z u c a (scB g c0 m c))) : ∀ (n M j : Nat) (y : rg_S), j + n = scB g c0 m c → n < M → yW K y0 (aC g m p Z u c a j) y → ∃ y', fX13_writeAll_217 X k82 k205 M (b + 24) a1 a2 (nI u) (nI c) (nI j) (rg_p lM b w0 y) = k205 (b + 24) a1 a2 (nI u) (nI (c + 1)) (rg_p lM b w0 y') ∧ yW K y0 (aC g m p Z u c a (scB g c0 m c)) y' := by
  have f := hg.2.2.2.2.2.2 c hcc
  have sc4 : scB g c0 m c ≤ 4 := by
    unfold scB
    split
    · split
      · omega
      · exact Nat.mul_le_mul f.1.2 f.2.2
    · omega
  intro n
  induction n with
  | zero =>
    intro M j y hj hM h
    obtain rfl : j = scB g c0 m c := by omega
    obtain ⟨M, rfl⟩ : ∃ M', M = M' + 1 := ⟨M - 1, by omega⟩
    refine ⟨y, ?_, h⟩
    rw [fX13_writeAll_217.eq_2]
    refine ob_v (rg_O rfl) (ob_v (m_blocksIn hg hs (q.st h) hcc) (ei_t (nI_le (Nat.le_refl _) (by omega)) ?_))
    unfold fX13_writeAll_249
    rw [nI_1]
  | succ n ih =>
    intro M j y hj hM h
    obtain ⟨M, rfl⟩ : ∃ M', M = M' + 1 := ⟨M - 1, by omega⟩
    have g1 := gr_aC (g := g) (m := m) (p := p) (Z := Z) (u := u) (a := a) c (j + 1) n
    rw [show j + 1 + n = scB g c0 m c by omega] at g1
    have hT := (scQ_lt hg hs hu (show j < scB g c0 m c by omega)).2
    obtain ⟨x1, e1, h1⟩ := m_blk (X := X) (b := b) (w0 := w0) (T := gBs g c + scQ g m u c j) S pp h (aIv_c hg hs hZ hff hu hI j (by omega)) hff hcc rfl (by omega) (hE.g g1)
    obtain ⟨x2, e2, h2⟩ := ih M (j + 1) x1 (by omega) (by omega) h1
    refine ⟨x2, ?_, h2⟩
    rw [fX13_writeAll_217.eq_2]
    refine ob_v (rg_O rfl) (ob_v (m_blocksIn hg hs (q.st h) hcc) (ei_n (nI_ge (by omega) (by omega)) (ob_v (rg_O rfl) (ob_v (m_blockOf hg hs (q.st h) hu (by omega)) (ob_v (rg_O rfl) (ob_v e1 ?_))))))
    rw [nI_1]
    exact e2
theorem m_comps (S : sY K y0) (pp : pY y0 p.1 p.2.1 p.2.2.1 p.2.2.2 (64 * gBs g g.2.2.1) g.2.2.1 (gBs g) Z) (q : uY y0 g c0 m iv) (hg : gOk g) (hs : scOk g c0 m) (hff : p.1 = 0 → 0 < p.2.1 → p.2.2.1 = 0) (hZ : ∀ i, i < 64 * gBs g g.2.2.1 → -1024 ≤ Z i ∧ Z i ≤ 1023) (hu : u < scU g c0 m) (hI : aIv p.1 p.2.2.1 a) {k82 : Nat → Int32 → Int32 → Int32 → px_W → Option (px_W)} {a1 a2 : Int32} (hE : inE K (aUn g c0 m p Z u a g.2.2.1)) : ∀ (d M c : Nat) (y : rg_S), c + d = g.2.2.1 → d < M → yW K y0 (aUn g c0 m p Z u a c) y → ∃ y', fX13_writeAll_205 X k82 M (b + 24) a1 a2 (nI u) (nI c) (rg_p lM b w0 y) = k82 (b + 24) a1 a2 (nI (u + 1)) (rg_p lM b w0 y') ∧ yW K y0 (aUn g c0 m p Z u a g.2.2.1) y' := by
  have h4 := hg.2.2.2.2.2.1
  intro d
  induction d with
  | zero =>
    intro M c y hc hM h
    obtain rfl : c = g.2.2.1 := by omega
    obtain ⟨M, rfl⟩ : ∃ M', M = M' + 1 := ⟨M - 1, by omega⟩
    refine ⟨y, ?_, h⟩
    rw [fX13_writeAll_205.eq_2]
    refine ob_v (rg_I rfl rfl) ?_
    rw [(q.st h).2.2.2.1]
    refine ei_t (nI_le (Nat.le_refl _) (by omega)) ?_
    unfold fX13_writeAll_255
    rw [nI_1]
  | succ d ih =>
    intro M c y hc hM h
    obtain ⟨M, rfl⟩ : ∃ M', M = M' + 1 := ⟨M - 1, by omega⟩
    have g1 := gr_aUn (g := g) (c0 := c0) (m := m) (p := p) (Z := Z) (u := u) (a := a) (c + 1) d
    rw [show c + 1 + d = g.2.2.1 by omega] at g1
    have f := hg.2.2.2.2.2.2 c (by omega)
    have sc4 : scB g c0 m c ≤ 4 := by
      unfold scB
      split
      · split
        · omega
        · exact Nat.mul_le_mul f.1.2 f.2.2
      · omega
    obtain ⟨x1, e1, h1⟩ := m_comp (X := X) (b := b) (w0 := w0) (k82 := k82) (k205 := fX13_writeAll_205 X k82 M) (a1 := a1) (a2 := a2) (c := c) S pp q hg hs hff hZ hu (by omega) (aIv_un hg hs hZ hff hu hI c) (hE.g g1) (scB g c0 m c) FU 0 y (by omega) (by unfold FU; omega) h
    obtain ⟨x2, e2, h2⟩ := ih M (c + 1) x1 (by omega) (by omega) h1
    refine ⟨x2, ?_, h2⟩
    rw [fX13_writeAll_205.eq_2]
    refine ob_v (rg_I rfl rfl) ?_
    rw [(q.st h).2.2.2.1]
    refine ei_n (nI_ge (by omega) (by omega)) ?_
    exact (show fX13_writeAll_217 X k82 (fX13_writeAll_205 X k82 M) FU (b + 24) a1 a2 (nI u) (nI c) (nI 0) _ = _ from e1).trans e2
end
