/-! every byte told is a byte -/
def allB (L : List Int32) : Prop := ∀ v, v ∈ L → bt v = v
theorem aB_nil : allB [] := fun v hv => by cases hv
theorem aB_1 (z : Int32) : allB [bt z] := fun v hv => by rw [List.mem_singleton.mp hv]; exact bt_bt z
theorem aB_app {L M : List Int32} (h : allB L) (k : allB M) : allB (L ++ M) := fun v hv => (List.mem_append.mp hv).elim (h v) (k v)
theorem aB_c {z : Int32} {L : List Int32} (h : allB L) : allB (bt z :: L) := aB_app (aB_1 z) h
theorem aB_mp (F : Nat → Int32) : ∀ n, allB (mp (fun k => bt (F k)) n)
  | 0 => aB_nil
  | n + 1 => by
    rw [mp_s]
    exact aB_app (aB_mp F n) (aB_1 _)
theorem aB_tw (n : Nat) : allB (tw n) := aB_c (aB_1 _)
theorem aB_sg (c n : Nat) : allB (sg c n) := aB_app (aB_c (aB_1 _)) (aB_tw _)
theorem aB_tb (n : Nat) (f : Nat → Nat) : allB (tb n f) := aB_app (aB_app (aB_1 _) (aB_mp (fun l => nI (bC f (l + 1))) 16)) (aB_mp (fun i => nI ((bO f).getD i 0)) _)
theorem aB_tD (E : List ev) (c0 : Nat) : ∀ i, allB (tD E c0 i)
  | 0 => aB_nil
  | i + 1 => aB_app (aB_tD E c0 i) (aB_tb _ _)
theorem aB_tO (E : List ev) (c0 : Nat) : ∀ i, allB (tO E c0 i)
  | 0 => aB_nil
  | i + 1 => aB_app (aB_tO E c0 i) (aB_tb _ _)
theorem aB_wd (E : List ev) (p : scP) (c0 m : Nat) : allB (wdS E p c0 m) := by
  unfold wdS
  split
  · exact aB_nil
  · refine aB_app (aB_app (aB_sg _ _) ?_) ?_
    · split
      · exact aB_tD _ _ _
      · exact aB_nil
    · split
      · exact aB_tO _ _ _
      · exact aB_nil
theorem aB_cm (c0 : Nat) : ∀ i, allB (cmL c0 i)
  | 0 => aB_nil
  | i + 1 => aB_app (aB_cm c0 i) (aB_c (aB_1 _))
theorem aB_sc (E : List ev) (p : scP) (c0 m : Nat) : allB (scL E p c0 m) := aB_app (aB_app (aB_wd _ _ _ _) (aB_app (aB_app (aB_app (aB_sg _ _) (aB_1 _)) (aB_cm _ _)) (aB_c (aB_c (aB_1 _))))) (bL_emit (e := ([], 0, 0)) (fun v hv => by cases hv))
theorem aB_each (g : gG) (Z : Nat → Int) (iv : Nat) (p : scP) : ∀ c, allB (eachL g Z iv p c)
  | 0 => aB_nil
  | c + 1 => aB_app (aB_each g Z iv p c) (aB_sc _ _ _ _)
theorem aB_row (g : gG) (Z : Nat → Int) (iv : Nat) (r : Nat × scP) : allB (rowL g Z iv r) := by
  unfold rowL
  split
  · exact aB_sc _ _ _ _
  · exact aB_each _ _ _ _ _
theorem aB_rows (g : gG) (Z : Nat → Int) (iv : Nat) (R : List (Nat × scP)) : ∀ i, allB (rowsL g Z iv R i)
  | 0 => aB_nil
  | i + 1 => aB_app (aB_rows g Z iv R i) (aB_row _ _ _ _)
theorem aB_st (S : Nat → Int32) : ∀ c, allB (stL S c)
  | 0 => aB_nil
  | c + 1 => aB_app (aB_st S c) (aB_app (aB_1 _) (aB_mp (fun k => S (64 * c + k)) 64))
theorem aB_co (g : gG) : ∀ c, allB (coL g c)
  | 0 => aB_nil
  | c + 1 => aB_app (aB_co g c) (aB_c (aB_c (aB_1 _)))
theorem aB_iv (iv : Nat) : allB (ivL iv) := by
  unfold ivL
  split
  · exact aB_app (aB_sg _ _) (aB_tw _)
  · exact aB_nil
theorem aB_hd (g : gG) (S : Nat → Int32) (k iv : Nat) : allB (hdF g S k iv) := aB_app (aB_app (aB_app (aB_app (aB_app (aB_app (aB_app (aB_app (aB_sg _ _) (aB_st _ _)) (aB_sg _ _)) (aB_1 _)) (aB_tw _)) (aB_tw _)) (aB_1 _)) (aB_co _ _)) (aB_iv _)
/-- a whole file -/
def filL (g : gG) (S : Nat → Int32) (Z : Nat → Int) (iv s : Nat) : List Int32 := [bt 255, bt 216] ++ hdF g S (if s = 2 then 194 else 192) iv ++ rowsL g Z iv (scrR s) (scrR s).length ++ [bt 255, bt 217]
theorem aB_fil (g : gG) (S : Nat → Int32) (Z : Nat → Int) (iv s : Nat) : allB (filL g S Z iv s) := aB_app (aB_app (aB_app (aB_c (aB_1 _)) (aB_hd _ _ _ _)) (aB_rows _ _ _ _ _)) (aB_c (aB_1 _))
/-! what comes ahead of the scans: the reference -/
section
variable {X : px_X} {b B : Nat} {w0 w1 : px_W} {y y' : rg_S} {iv s : Nat} {L : List Int32} {g : gG} {S : Nat → Int32} {Z : Nat → Int}
theorem m_st31 {c : Nat} (hc : c < 4) {k16 : Nat → Int32 → px_W → Option (px_W)} : ∀ (k M i : Nat) (y : rg_S) (L : List Int32), i + k = 64 → k < M → (∀ j, j < 64 → y.2.2.1 63 (64 * c + j) = S (64 * c + j)) → yQ y (L ++ mp (fun k => bt (S (64 * c + k))) i) → ∃ y', fX15_saveTables_31 X k16 M (b + 0) (nI c) (nI i) (rg_p lM b w0 y) = k16 (b + 0) (nI (c + 1)) (rg_p lM b w0 y') ∧ yQ y' (L ++ mp (fun k => bt (S (64 * c + k))) 64) ∧ FYp y y' := by
  intro k
  induction k with
  | zero =>
    intro M i y L hi hM hF h
    obtain rfl : i = 64 := by omega
    obtain ⟨M, rfl⟩ : ∃ M', M = M' + 1 := ⟨M - 1, by omega⟩
    refine ⟨y, ?_, h, FYp.rfl⟩
    rw [fX15_saveTables_31.eq_2]
    refine ei_t (by decide) ?_
    unfold fX15_saveTables_58
    rw [nI_1]
  | succ k ih =>
    intro M i y L hi hM hF h
    obtain ⟨M, rfl⟩ : ∃ M', M = M' + 1 := ⟨M - 1, by omega⟩
    obtain ⟨x1, e1, h1, F1⟩ := m_putQ (X := X) (b := b) (w0 := w0) h (S (64 * c + i))
    rw [List.append_assoc, ← mp_s (fun k => bt (S (64 * c + k))) i] at h1
    obtain ⟨x2, e2, h2, F2⟩ := ih M (i + 1) x1 L (by omega) (by omega) (fun j hj => by rw [F1.2.2.1 _ (by omega)]; exact hF j hj) h1
    refine ⟨x2, ?_, h2, F1.trans F2⟩
    rw [fX15_saveTables_31.eq_2]
    refine ei_n (nI_ge (b := 64) (by omega) (by omega)) (ob_v (rg_C rfl rfl) ?_)
    rw [n64]
    refine ob_v (rg_A rfl (by decide) _ (by omega) (by decide)) (ob_v (rg_O rfl) ?_)
    rw [hF i (by omega)]
    refine ob_v e1 ?_
    rw [nI_1]
    exact e2
theorem m_tabs (hg : gOk g) (h20 : y.1 0 20 = nI g.2.2.1) (hS : ∀ j, j < 64 * g.2.2.1 → y.2.2.1 63 j = S j) (h : yQ y L) : ∃ y', fX15_saveTables X (rg_p lM b w0 y) (b + 0) = some (rg_p lM b w0 y') ∧ yQ y' (L ++ sg 219 (65 * g.2.2.1) ++ stL S g.2.2.1) ∧ FYp y y' := by
  have h4 := hg.2.2.2.2.2.1
  have lp : ∀ (k M c : Nat) (y : rg_S) (L : List Int32), c + k = g.2.2.1 → k < M → y.1 0 20 = nI g.2.2.1 → (∀ j, j < 64 * g.2.2.1 → y.2.2.1 63 j = S j) → yQ y (L ++ stL S c) → ∃ y', fX15_saveTables_16 X M (b + 0) (nI c) (rg_p lM b w0 y) = some (rg_p lM b w0 y') ∧ yQ y' (L ++ stL S g.2.2.1) ∧ FYp y y' := by
    intro k
    induction k with
    | zero =>
      intro M c y L hc hM h20 hS h
      obtain rfl : c = g.2.2.1 := by omega
      obtain ⟨M, rfl⟩ : ∃ M', M = M' + 1 := ⟨M - 1, by omega⟩
      refine ⟨y, ?_, h, FYp.rfl⟩
      rw [fX15_saveTables_16.eq_2]
      refine ob_v (rg_I rfl rfl) ?_
      rw [h20]
      exact ei_t (nI_le (Nat.le_refl _) (by omega)) rfl
    | succ k ih =>
      intro M c y L hc hM h20 hS h
      obtain ⟨M, rfl⟩ : ∃ M', M = M' + 1 := ⟨M - 1, by omega⟩
      obtain ⟨x1, e1, h1, F1⟩ := m_putQ (X := X) (b := b) (w0 := w0) h (nI c)
      obtain ⟨x2, e2, h2, F2⟩ := m_st31 (X := X) (b := b) (w0 := w0) (S := S) (k16 := fX15_saveTables_16 X M) (c := c) (by omega) 64 FU 0 x1 (L ++ stL S c ++ [bt (nI c)]) rfl (by unfold FU; omega) (fun j hj => by rw [F1.2.2.1 _ (by omega)]; exact hS _ (by omega)) (by rw [mp_0, List.append_nil]; exact h1)
      rw [List.append_assoc, List.append_assoc, ← stL.eq_2] at h2
      obtain ⟨x3, e3, h3, F3⟩ := ih M (c + 1) x2 L (by omega) (by omega) (by rw [F2.1 _ _ (by omega), F1.1 _ _ (by omega)]; exact h20) (fun j hj => by rw [F2.2.2.1 _ (by omega), F1.2.2.1 _ (by omega)]; exact hS j hj) h2
      refine ⟨x3, ?_, h3, F1.trans (F2.trans F3)⟩
      rw [fX15_saveTables_16.eq_2]
      refine ob_v (rg_I rfl rfl) ?_
      rw [h20]
      refine ei_n (nI_ge (by omega) (by omega)) (ob_v (rg_O rfl) (ob_v e1 ?_))
      exact (show fX15_saveTables_31 X (fX15_saveTables_16 X M) FU (b + 0) (nI c) (nI 0) _ = _ from e2).trans e3
  obtain ⟨y1, e1, h1, F1⟩ := m_beg (X := X) (b := b) (w0 := w0) (code := 219) (n := 65 * g.2.2.1) h (by omega)
  obtain ⟨y2, e2, h2, F2⟩ := lp g.2.2.1 FU 0 y1 (L ++ sg 219 (65 * g.2.2.1)) (by omega) (by unfold FU; omega) (by rw [F1.1 _ _ (by omega)]; exact h20) (fun j hj => by rw [F1.2.2.1 _ (by omega)]; exact hS j hj) (by show yQ y1 (_ ++ []); rw [List.append_nil]; exact h1)
  refine ⟨y2, ?_, h2, F1.trans F2⟩
  unfold fX15_saveTables
  refine ob_v (rg_I rfl rfl) (ob_v (rg_O rfl) ?_)
  rw [h20, show (65 : Int32) * nI g.2.2.1 = nI (65 * g.2.2.1) from pk_mul 65 _]
  exact ob_v e1 e2
theorem m_co228 (hg : gOk g) {a1 a2 : Int32} : ∀ (k M c : Nat) (y : rg_S) (L : List Int32), c + k = g.2.2.1 → k < M → mFr y g → yQ y (L ++ coL g c) → ∃ y', fX15_saveAs_228 X M (b + 0) a1 a2 (nI c) (rg_p lM b w0 y) = fX15_saveAs_279 X (b + 0) a1 a2 (rg_p lM b w0 y') ∧ yQ y' (L ++ coL g g.2.2.1) ∧ FYp y y' := by
  have h4 := hg.2.2.2.2.2.1
  intro k
  induction k with
  | zero =>
    intro M c y L hc hM hf h
    obtain rfl : c = g.2.2.1 := by omega
    obtain ⟨M, rfl⟩ : ∃ M', M = M' + 1 := ⟨M - 1, by omega⟩
    refine ⟨y, ?_, h, FYp.rfl⟩
    rw [fX15_saveAs_228.eq_2]
    refine ob_v (rg_I rfl rfl) ?_
    rw [hf.2.2.1]
    exact ei_t (nI_le (Nat.le_refl _) (by omega)) rfl
  | succ k ih =>
    intro M c y L hc hM hf h
    obtain ⟨M, rfl⟩ : ∃ M', M = M' + 1 := ⟨M - 1, by omega⟩
    obtain ⟨x1, e1, h1, F1⟩ := m_putQ (X := X) (b := b) (w0 := w0) h (nI (c + 1))
    obtain ⟨x2, e2, h2, F2⟩ := m_putQ (X := X) (b := b) (w0 := w0) h1 (nI (16 * g.2.2.2.1 c + g.2.2.2.2 c))
    obtain ⟨x3, e3, h3, F3⟩ := m_putQ (X := X) (b := b) (w0 := w0) h2 (nI c)
    have F13 := F1.trans (F2.trans F3)
    have h3' : yQ x3 (L ++ coL g (c + 1)) := by
      rw [coL.eq_2]
      simp only [List.append_assoc, List.cons_append, List.nil_append] at h3 ⊢
      exact h3
    obtain ⟨x4, e4, h4', F4⟩ := ih M (c + 1) x3 L (by omega) (by omega) (hf.z F13.k.z) h3'
    refine ⟨x4, ?_, h4', F13.trans F4⟩
    have p1 := hf.z F1.k.z
    rw [fX15_saveAs_228.eq_2]
    refine ob_v (rg_I rfl rfl) ?_
    rw [hf.2.2.1, nI_1]
    refine ei_n (nI_ge (by omega) (by omega)) (ob_v (rg_O rfl) (ob_v e1 (ob_v (rg_C rfl rfl) (ob_v (rg_A rfl (by decide) _ (by omega) (by decide)) (ob_v (rg_C rfl rfl) (ob_v (rg_A rfl (by decide) _ (by omega) (by decide)) (ob_v (rg_O rfl) ?_)))))))
    rw [p1.2.2.2.1 c (by omega), p1.2.2.2.2 c (by omega), show (16 : Int32) = nI 16 from rfl, pk_mul, nI_add]
    exact ob_v e2 (ob_v (rg_O rfl) (ob_v e3 e4))
theorem m_h140 (hs : s ≤ 2) (hg : gOk g) (hiv : iv < 65536) (hf : mFr y g) (hS : ∀ j, j < 64 * g.2.2.1 → y.2.2.1 63 j = S j) : ∃ y', fX15_saveAs_140 X (b + 0) (nI s) (nI iv) (rg_p lM b w0 y) = fX15_saveAs_296 X (b + 0) (nI s) (rg_p lM b w0 y') ∧ yQ y' ([bt 255, bt 216] ++ hdF g S (if s = 2 then 194 else 192) iv) ∧ FYz y y' := by
  have h4 := hg.2.2.2.2.2.1
  have w2 := hg.2.1
  have v2 := hg.2.2.2.1
  generalize hz : rg_wI (rg_wI y 0 5 0) 0 6 0 = z
  have Fz : FYz y z := by
    rw [← hz]
    exact ⟨fun p k hk _ _ => by rw [wI_n _ _ (by omega), wI_n _ _ (by omega)], rfl, fun _ _ _ _ => rfl⟩
  have qz : yQ z [] := by
    rw [← hz]
    exact Or.inl ⟨by rw [wI_n _ _ (by omega), wI_s]; rfl, by rw [wI_s]; rfl, fun i hi => absurd hi (Nat.not_lt_zero _)⟩
  obtain ⟨y1, e1, q1, F1⟩ := m_putQ (X := X) (b := b) (w0 := w0) qz 255
  obtain ⟨y2, e2, q2, F2⟩ := m_putQ (X := X) (b := b) (w0 := w0) q1 216
  have G2 : FYz y y2 := Fz.trans (F1.k.z.trans F2.k.z)
  have hf2 := hf.z G2
  obtain ⟨y3, e3, q3, F3⟩ := m_tabs (X := X) (b := b) (w0 := w0) (S := S) hg hf2.2.2.1 (fun j hj => by rw [G2.2.2 63 (by decide) (by decide) (by decide)]; exact hS j hj) q2
  have G3 := G2.trans F3.k.z
  have hf3 := hf.z G3
  generalize hkd : (if s = 2 then 194 else 192) = kind
  obtain ⟨y4, e4, q4, F4⟩ := m_beg (X := X) (b := b) (w0 := w0) (code := kind) (n := 6 + 3 * g.2.2.1) q3 (by omega)
  obtain ⟨y5, e5, q5, F5⟩ := m_putQ (X := X) (b := b) (w0 := w0) q4 (nI 8)
  have G5 := G3.trans (F4.k.z.trans F5.k.z)
  obtain ⟨y6, e6, q6, F6⟩ := m_twoQ (X := X) (b := b) (w0 := w0) (n := g.2.1) q5 (by omega)
  have G6 := G5.trans F6.k.z
  obtain ⟨y7, e7, q7, F7⟩ := m_twoQ (X := X) (b := b) (w0 := w0) (n := g.1) q6 (by omega)
  have G7 := G6.trans F7.k.z
  obtain ⟨y8, e8, q8, F8⟩ := m_putQ (X := X) (b := b) (w0 := w0) q7 (nI g.2.2.1)
  have G8 := G7.trans F8.k.z
  obtain ⟨y9, e9, q9, F9⟩ := m_co228 (X := X) (b := b) (w0 := w0) (a1 := nI s) (a2 := nI iv) hg g.2.2.1 FU 0 y8 _ (by omega) (by unfold FU; omega) (hf.z G8) (by show yQ y8 (_ ++ []); rw [List.append_nil]; exact q8)
  have G9 := G8.trans F9.k.z
  obtain ⟨ya, ea, qa, Fa⟩ : ∃ ya, fX15_saveAs_279 X (b + 0) (nI s) (nI iv) (rg_p lM b w0 y9) = fX15_saveAs_296 X (b + 0) (nI s) (rg_p lM b w0 ya) ∧ yQ ya ([] ++ [bt 255] ++ [bt 216] ++ sg 219 (65 * g.2.2.1) ++ stL S g.2.2.1 ++ sg kind (6 + 3 * g.2.2.1) ++ [bt (nI 8)] ++ tw g.2.1 ++ tw g.1 ++ [bt (nI g.2.2.1)] ++ coL g g.2.2.1 ++ ivL iv) ∧ FYp y9 ya := by
    unfold fX15_saveAs_279 ivL
    by_cases z : 0 < iv
    · rw [if_pos z]
      obtain ⟨xa, ea, ha, Fa⟩ := m_beg (X := X) (b := b) (w0 := w0) (code := 221) (n := 2) q9 (by decide)
      obtain ⟨xb, eb', hb', Fb⟩ := m_twoQ (X := X) (b := b) (w0 := w0) ha (n := iv) (by omega)
      refine ⟨xb, ei_n (nI_nle z (by omega)) (ob_v (rg_O rfl) (ob_v ea (ob_v (rg_O rfl) (ob_v eb' rfl)))), ?_, Fa.trans Fb⟩
      rw [List.append_assoc] at hb'
      exact hb'
    · rw [if_neg z, List.append_nil]
      refine ⟨y9, ei_t ?_ rfl, q9, FYp.rfl⟩
      rw [show iv = 0 by omega]
      decide
  refine ⟨ya, ?_, ?_, G9.trans Fa.k.z⟩
  · have e183 : ∀ v, v = nI kind → fX15_saveAs_183 X (b + 0) (nI s) (nI iv) v (b + 0) (rg_p lM b w0 y3) = fX15_saveAs_296 X (b + 0) (nI s) (rg_p lM b w0 ya) := by
      intro v hv
      unfold fX15_saveAs_183
      refine ob_v (rg_I rfl rfl) (ob_v (rg_O rfl) ?_)
      rw [hf3.2.2.1, hv, show (6 : Int32) + 3 * nI g.2.2.1 = nI (6 + 3 * g.2.2.1) by rw [show (3 : Int32) = nI 3 from rfl, pk_mul]; exact nI_add 6 _]
      refine ob_v e4 (ob_v (rg_O rfl) (ob_v e5 (ob_v (rg_I rfl rfl) (ob_v (rg_O rfl) ?_))))
      rw [(hf.z G5).2.1]
      refine ob_v e6 (ob_v (rg_I rfl rfl) (ob_v (rg_O rfl) ?_))
      rw [(hf.z G6).1]
      refine ob_v e7 (ob_v (rg_I rfl rfl) (ob_v (rg_O rfl) ?_))
      rw [(hf.z G7).2.2.1]
      refine ob_v e8 ?_
      exact (show fX15_saveAs_228 X FU (b + 0) (nI s) (nI iv) (nI 0) _ = _ from e9).trans ea
    unfold fX15_saveAs_140
    refine ob_v (rg_pI rfl rfl _) (ob_v (rg_pZ rfl rfl _ (Or.inl rfl)) ?_)
    rw [hz]
    refine ob_v (rg_O rfl) (ob_v e1 (ob_v (rg_O rfl) (ob_v e2 (ob_v (rg_O rfl) (ob_v e3 ?_)))))
    by_cases s2 : s = 2
    · rw [if_pos s2] at hkd
      exact ei_t (by rw [s2]; rfl) (e183 _ (by rw [← hkd]; rfl))
    · rw [if_neg s2] at hkd
      exact ei_n (fun e => s2 ((nI_eq (b := 2) (by omega) (by omega)).mp e)) (e183 _ (by rw [← hkd]; rfl))
  · have : [] ++ [bt 255] ++ [bt 216] ++ sg 219 (65 * g.2.2.1) ++ stL S g.2.2.1 ++ sg kind (6 + 3 * g.2.2.1) ++ [bt (nI 8)] ++ tw g.2.1 ++ tw g.1 ++ [bt (nI g.2.2.1)] ++ coL g g.2.2.1 ++ ivL iv = [bt 255, bt 216] ++ hdF g S kind iv := by
      unfold hdF
      simp only [List.append_assoc, List.nil_append, List.cons_append]
    rw [this] at qa
    exact qa
end
