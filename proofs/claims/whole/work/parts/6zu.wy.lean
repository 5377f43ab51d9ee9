/-! the reference's side of the walk: words, bits, runs -/
def FYw (y0 y : rg_S) : Prop := (∀ p k, ¬ (p = 24 ∧ (k = 31 ∨ k = 32 ∨ k = 33 ∨ k = 34 ∨ k = 38 ∨ k = 40 ∨ k = 42)) → y.1 p k = y0.1 p k) ∧ y.2.1 = y0.2.1 ∧ (∀ p, ¬ (42 ≤ p ∧ p ≤ 46) → y.2.2.1 p = y0.2.2.1 p) ∧ y.2.2.2 = y0.2.2.2
def sY (K : kS) (y0 : rg_S) : Prop := (K.md = 0 ∨ K.md = 1) ∧ y0.1 24 35 = nI K.md ∧ (K.md = 0 → ∀ t s, eW t s ∈ K.Ef → y0.2.2.1 38 (256 * t + s) = nI (K.cw t s) ∧ y0.2.2.1 37 (256 * t + s) = nI (K.cl t s) ∧ 1 ≤ K.cl t s ∧ K.cl t s ≤ 16)
def yV (a : aS) (y : rg_S) : Prop := y.1 24 38 = nI a.2.1 ∧ y.1 24 40 = nI a.2.2.1.length ∧ y.1 24 42 = nI a.2.2.2.1.length ∧ lst (y.2.2.1 45) a.2.2.1 ∧ lst (y.2.2.1 46) a.2.2.2.1 ∧ ∀ c, c < 4 → y.2.2.1 44 c = iI (a.2.2.2.2 c)
def yW (K : kS) (y0 : rg_S) (a : aS) (y : rg_S) : Prop := FYw y0 y ∧ yE y (emit K.md K.cw K.cl a.1 ([], 0, 0)) ∧ (K.md = 1 → ∀ t s, t < 8 → s < 256 → y.2.2.1 43 (256 * t + s) = nI (cnt a.1 t s)) ∧ yV a y
theorem nI_sur (v : Int32) : v = nI v.toBitVec.toNat := (Int32.toBitVec_inj.mp (BitVec.eq_of_toNat_eq (pk_tn v.toBitVec.isLt))).symm
theorem vb_cc {c : Nat} (h : c < 2) : vb (nI c) 0 = c := by
  rcases (show c = 0 ∨ c = 1 by omega) with rfl | rfl <;> decide
section
variable {X : px_X} {b B : Nat} {w0 w1 : px_W} {y y' y0 : rg_S} {t s n : Nat} {K : kS} {a a' : aS}
theorem sY.c (S : sY K y0) (h : yW K y0 a y) : y.1 24 35 = nI K.md := by
  rw [h.1.1 24 35 (by omega)]
  exact S.2.1
theorem yW_b (h : yW K y0 a y) (m : K.md = 0) {f : Nat → Int32} (hF : FYb (rg_wA y 43 f) y') (e2 : a'.2 = a.2) (hE : yE y' (emit K.md K.cw K.cl a'.1 ([], 0, 0))) : yW K y0 a' y' := by
  obtain ⟨h1, h2, h3, h4, h5, h6, h7, h8, h9⟩ := h
  obtain ⟨f1, f2, f3, f4⟩ := hF
  refine ⟨⟨fun p k hp => ?_, f2.trans h1.2.1, fun p hp => ?_, f4.trans h1.2.2.2⟩, hE, fun e => absurd (m.symm.trans e) (by decide), ?_⟩
  · rw [f1 p k (by omega), wA_1]
    exact h1.1 p k hp
  · rw [f3 p (by omega), wA_n _ _ (by omega)]
    exact h1.2.2.1 p hp
  · unfold yV
    rw [e2, f1 24 38 (by omega), f1 24 40 (by omega), f1 24 42 (by omega), f3 45 (by omega), f3 46 (by omega), f3 44 (by omega), wA_1, wA_n _ _ (by omega), wA_n _ _ (by omega), wA_n _ _ (by omega)]
    exact ⟨h4, h5, h6, h7, h8, h9⟩
theorem yW_f (h : yW K y0 a y) (f1 : ∀ p k, ¬ (p = 24 ∧ (k = 38 ∨ k = 40 ∨ k = 42)) → y'.1 p k = y.1 p k) (f2 : y'.2.1 = y.2.1) (f3 : ∀ p, p ≠ 44 → p ≠ 45 → p ≠ 46 → y'.2.2.1 p = y.2.2.1 p) (f4 : y'.2.2.2 = y.2.2.2) (ea : a'.1 = a.1) (g : yV a' y') : yW K y0 a' y' := by
  obtain ⟨h1, h2, h3, _⟩ := h
  refine ⟨⟨fun p k hp => ?_, f2.trans h1.2.1, fun p hp => (f3 p (by omega) (by omega) (by omega)).trans (h1.2.2.1 p hp), f4.trans h1.2.2.2⟩, ?_, fun e t s ht hs => ?_, g⟩
  · rw [f1 p k (by omega)]
    exact h1.1 p k hp
  · unfold yE zO
    rw [ea, f1 24 31 (by omega), f1 24 34 (by omega), f3 42 (by omega) (by omega) (by omega), f1 24 32 (by omega), f1 24 33 (by omega)]
    exact h2
  · rw [f3 _ (by omega) (by omega) (by omega), ea]
    exact h3 e t s ht hs
theorem FYb_43 {y y' : rg_S} (h : FYb y y') : FYb (rg_wA y 43 (y.2.2.1 43)) y' := by
  rw [wA_id rfl]
  exact h
theorem m_w (S : sY K y0) (h : yW K y0 a y) (ht : t < 8) (hs : s < 256) (hE : inE K (ap [eW t s] a)) : ∃ y', fX13_word X (rg_p lM b w0 y) (b + 24) (nI t) (nI s) = some (rg_p lM b w0 y') ∧ yW K y0 (ap [eW t s] a) y' := by
  have ct := S.c h
  obtain ⟨Smd, S4, SE⟩ := S
  rcases Smd with m | m
  · obtain ⟨c1, c2, c3, c4⟩ := SE m t s (hE m _ (List.mem_append_right _ (List.mem_singleton.mpr rfl)))
    obtain ⟨y', e', hE', hF⟩ := m_wordW (X := X) (b := b) (w0 := w0) (W := K.cw t s) (l := K.cl t s) h.2.1 (by rw [ct, m]; rfl) ht hs (nI_sur _) (by rw [h.1.2.2.1 _ (by omega)]; exact c1) (by rw [h.1.2.2.1 _ (by omega)]; exact c2) c3 c4
    refine ⟨y', e', yW_b h m hF rfl ?_⟩
    rw [m] at hE' ⊢
    show yE y' (emit 0 K.cw K.cl (a.1 ++ [eW t s]) _)
    rw [emit_0]
    exact hE'
  · refine ⟨_, m_wordC (X := X) (b := b) (w0 := w0) (by rw [ct, m]; rfl) ht hs (h.2.2.1 m t s ht hs), ?_⟩
    obtain ⟨h1, h2, h3, h4, h5, h6, h7, h8, h9⟩ := h
    refine ⟨⟨h1.1, h1.2.1, fun p hp => ?_, h1.2.2.2⟩, ?_, fun _ t' s' ht' hs' => ?_, h4, h5, h6, ?_, ?_, ?_⟩
    · rw [wA_n _ _ (by omega)]
      exact h1.2.2.1 p hp
    · unfold yE zO
      rw [wA_n _ _ (by omega), m, emit_1]
      rw [m, emit_1] at h2
      exact h2
    · show (rg_wA y _ _).2.2.1 _ (256 * t' + s') = nI (cnt (a.1 ++ [eW t s]) t' s')
      rw [cnt_w, wA_s]
      by_cases q : 256 * t' + s' = 256 * t + s
      · rw [q, pk_us, if_pos (by omega)]
        obtain ⟨rfl, rfl⟩ : t' = t ∧ s' = s := by omega
        rfl
      · rw [pk_un q, if_neg (fun e => q (by rw [e.1, e.2]))]
        exact h3 m t' s' ht' hs'
    · rw [wA_n _ _ (by omega)]
      exact h7
    · rw [wA_n _ _ (by omega)]
      exact h8
    · rw [wA_n _ _ (by omega)]
      exact h9
theorem yW_1 (h : yW K y0 a y) (m : K.md = 1) (v : Int32) (n : Nat) : yW K y0 (ap [eV v n] a) y := by
  refine ⟨h.1, ?_, fun _ t s ht hs => ?_, h.2.2.2⟩
  · have := h.2.1
    rw [m, emit_1] at this ⊢
    exact this
  · show _ = nI (cnt (a.1 ++ [eV v n]) t s)
    rw [show a.1 ++ [eV v n] = a.1 ++ [.inr (.inl (v, n))] from rfl, cnt_n]
    exact h.2.2.1 m t s ht hs
theorem m_bit1 (hct : y.1 24 35 = 1) (v : Int32) : fX13_bit X (rg_p lM b w0 y) (b + 24) v = some (rg_p lM b w0 y) := by
  unfold fX13_bit
  refine ob_v (rg_I rfl rfl) ?_
  rw [hct]
  exact ei_n n10 rfl
theorem m_b (S : sY K y0) (h : yW K y0 a y) (v : Int32) : ∃ y', fX13_bit X (rg_p lM b w0 y) (b + 24) (nI (vb v 0)) = some (rg_p lM b w0 y') ∧ yW K y0 (ap [eV v 1] a) y' := by
  have ct := S.c h
  rcases S.1 with m | m
  · obtain ⟨y', e', hE', hF⟩ := m_bit (X := X) (b := b) (w0 := w0) (c := vb v 0) h.2.1 (vb_2 v 0) (by rw [ct, m]; rfl)
    refine ⟨y', e', yW_b h m (FYb_43 hF) rfl ?_⟩
    rw [m] at hE' ⊢
    show yE y' (emit 0 K.cw K.cl (a.1 ++ [eV v 1]) _)
    rw [emit_0]
    exact hE'
  · exact ⟨y, m_bit1 (by rw [ct, m]; rfl) _, yW_1 h m v 1⟩
theorem m_low1 (hct : y.1 24 35 = 1) (v : Int32) : ∀ {n M : Nat}, n ≤ 31 → n < M → fX13_low_4 X M (b + 24) v (nI n - 1) (rg_p lM b w0 y) = some (rg_p lM b w0 y) := by
  intro n
  induction n with
  | zero =>
    intro M _ hM
    obtain ⟨M, rfl⟩ : ∃ M', M = M' + 1 := ⟨M - 1, by omega⟩
    rw [fX13_low_4.eq_2]
    exact ei_t (by decide) rfl
  | succ n ih =>
    intro M hn hM
    obtain ⟨M, rfl⟩ : ∃ M', M = M' + 1 := ⟨M - 1, by omega⟩
    rw [fX13_low_4.eq_2, show nI (n + 1) - 1 = nI n from pk_sub (a := n + 1) (b := 1) (by omega)]
    refine ei_n (nI_nlt (b := 0) (by omega) (by omega)) (ob_v (rg_O rfl) (ob_v (m_bit1 hct _) ?_))
    rw [show nI n + (-1) = nI n - 1 by
      rw [iI_n, show (-1 : Int32) = iI (-1) from rfl, show (1 : Int32) = iI 1 from rfl, iI_add, iI_sub]
      rfl]
    exact ih (by omega) (by omega)
theorem m_v (S : sY K y0) (h : yW K y0 a y) (v : Int32) (hn : n ≤ 31) : ∃ y', fX13_low X (rg_p lM b w0 y) (b + 24) v (nI n) = some (rg_p lM b w0 y') ∧ yW K y0 (ap [eV v n] a) y' := by
  have ct := S.c h
  rcases S.1 with m | m
  · obtain ⟨y', e', hE', hF⟩ := m_low (X := X) (b := b) (w0 := w0) v (n := n) (M := FU) hn (by unfold FU; omega) h.2.1 (by rw [ct, m]; rfl)
    refine ⟨y', e', yW_b h m (FYb_43 hF) rfl ?_⟩
    rw [m] at hE' ⊢
    show yE y' (emit 0 K.cw K.cl (a.1 ++ [eV v n]) _)
    rw [emit_0]
    exact hE'
  · exact ⟨y, m_low1 (by rw [ct, m]; rfl) v hn (by unfold FU; omega), yW_1 h m v n⟩
theorem m_num (S : sY K y0) (h : yW K y0 a y) {z : Int} (hz : z.natAbs < 65536) : ∃ y', fX13_number X (rg_p lM b w0 y) (b + 24) (iI z) = some (rg_p lM b w0 y') ∧ yW K y0 (ap [eV (nv z) (sz z.natAbs)] a) y' := by
  have h16 := sz_16 hz
  have hle : iI z ≤ 0 ↔ z ≤ 0 := iI_le (b := 0) (by omega) (by omega) (by omega) (by omega)
  obtain ⟨y', e', hx⟩ := m_v (X := X) (b := b) (w0 := w0) S h (nv z) (n := sz z.natAbs) (by omega)
  refine ⟨y', ?_, hx⟩
  unfold fX13_number fX13_number_12
  unfold nv at e'
  by_cases q : z ≤ 0
  · rw [if_pos q] at e'
    exact ei_t (hle.mpr q) (ob_v (m_sizeOf hz) (ob_v (rg_O rfl) (ob_v e' rfl)))
  · rw [if_neg q] at e'
    exact ei_n (fun h => q (hle.mp h)) (ob_v (m_sizeOf hz) (ob_v (rg_O rfl) (ob_v e' rfl)))
theorem m_s37 (S : sY K y0) : ∀ (k j M : Nat) (a : aS) (y : rg_S), yW K y0 a y → j + k = a.2.2.1.length → a.2.2.1.length ≤ 1024 → (∀ c, c ∈ a.2.2.1 → c < 2) → k < M → ∃ y', fX13_sendRun_37 X M (b + 24) (nI j) (rg_p lM b w0 y) = fX13_sendRun_61 X (b + 24) (rg_p lM b w0 y') ∧ yW K y0 (ap (bts (a.2.2.1.drop j)) a) y' := by
  intro k
  induction k with
  | zero =>
    intro j M a y h hj hl hc hM
    obtain ⟨M, rfl⟩ : ∃ M', M = M' + 1 := ⟨M - 1, by omega⟩
    refine ⟨y, ?_, ?_⟩
    · rw [fX13_sendRun_37.eq_2]
      refine ob_v (rg_I rfl rfl) ?_
      rw [h.2.2.2.2.1]
      exact ei_t (nI_le (by omega) (by omega)) rfl
    · rw [List.drop_eq_nil_of_le (by omega)]
      show yW K y0 (ap [] a) y
      rw [ap_0]
      exact h
  | succ k ih =>
    intro j M a y h hj hl hc hM
    obtain ⟨M, rfl⟩ : ∃ M', M = M' + 1 := ⟨M - 1, by omega⟩
    obtain ⟨x1, e1, h1⟩ := m_b (X := X) (b := b) (w0 := w0) S h (nI (a.2.2.1.getD j 0))
    rw [vb_cc (hc _ (getD_mem (j := j) (by omega)))] at e1
    obtain ⟨x2, e2, h2⟩ := ih (j + 1) M (ap [eV (nI (a.2.2.1.getD j 0)) 1] a) x1 h1 (by show j + 1 + k = a.2.2.1.length; omega) hl hc (by omega)
    refine ⟨x2, ?_, ?_⟩
    · rw [fX13_sendRun_37.eq_2]
      refine ob_v (rg_I rfl rfl) ?_
      rw [h.2.2.2.2.1]
      refine ei_n (nI_ge (by omega) (by omega)) (ob_v (rg_C rfl rfl) (ob_v (rg_A rfl (by decide) _ (by omega) (by decide)) (ob_v (rg_O rfl) ?_)))
      rw [h.2.2.2.2.2.2.1 j (by omega)]
      refine ob_v e1 ?_
      rw [nI_1]
      exact e2
    · rw [drop_c (by omega)]
      show yW K y0 (ap (eV _ 1 :: bts (a.2.2.1.drop (j + 1))) a) x2
      rw [ap_c]
      exact h2
theorem m_send (S : sY K y0) (h : yW K y0 a y) {R N m : Nat} (hR : R ≤ 32767) (hN : N ≤ 1024) (hB : aB R N m a) (ht : t < 8) (hE : inE K (aSend t a)) : ∃ y', fX13_sendRun X (rg_p lM b w0 y) (b + 24) (nI t) = some (rg_p lM b w0 y') ∧ yW K y0 (aSend t a) y' := by
  have b1 := hB.1
  have b2 := hB.2.1
  by_cases z : a.2.1 = 0
  · refine ⟨y, ?_, by rw [sd_0 z]; exact h⟩
    unfold fX13_sendRun
    exact ob_v (rg_I rfl rfl) (ei_t (by rw [h.2.2.2.1, z]; decide) rfl)
  · have s1 : 1 ≤ sz a.2.1 := by rw [sz_s z]; omega
    have s15 : sz a.2.1 ≤ 15 := by
      rw [sz_s z]
      by_cases q : a.2.1 / 2 = 0
      · rw [q]; decide
      · unfold sz
        rw [if_neg q]
        have := (Nat.log2_lt q (k := 14)).mpr (by omega)
        omega
    have eS1 : aSend t a = (a.1 ++ aRun t a, 0, [], a.2.2.2) := if_neg z
    have g1 : gr (ap [eW t (16 * (sz a.2.1 - 1))] a) (aSend t a) := by
      rw [eS1]
      refine ⟨eV (nI a.2.1) (sz a.2.1 - 1) :: bts a.2.2.1, ?_⟩
      show a.1 ++ aRun t a = a.1 ++ [_] ++ _
      rw [List.append_assoc]
      rfl
    obtain ⟨y1, e1, h1⟩ := m_w (X := X) (b := b) (w0 := w0) S h ht (s := 16 * (sz a.2.1 - 1)) (by omega) (hE.g g1)
    obtain ⟨y2, e2, h2⟩ := m_v (X := X) (b := b) (w0 := w0) S h1 (nI a.2.1) (n := sz a.2.1 - 1) (by omega)
    obtain ⟨y3, e3, h3⟩ := m_s37 (X := X) (b := b) (w0 := w0) S a.2.2.1.length 0 FU _ y2 h2 (Nat.zero_add _) (by show a.2.2.1.length ≤ 1024; omega) hB.2.2.2.1 (by unfold FU; omega)
    refine ⟨rg_wI (rg_wI y3 24 38 0) 24 40 0, ?_, ?_⟩
    · unfold fX13_sendRun
      refine ob_v (rg_I rfl rfl) ?_
      rw [h.2.2.2.1]
      refine ei_n (nI_nle (by omega) (by omega)) (ob_v (rg_I rfl rfl) ?_)
      rw [h.2.2.2.1, iI_n]
      refine ob_v (m_sizeOf (by omega)) (ob_v (rg_O rfl) ?_)
      dsimp only
      rw [show ((a.2.1 : Int)).natAbs = a.2.1 from Int.natAbs_natCast _, show (1 : Int32) = nI 1 from rfl, pk_sub s1, show (16 : Int32) = nI 16 from rfl, pk_mul]
      refine ob_v e1 (ob_v (rg_I rfl rfl) (ob_v (rg_O rfl) ?_))
      rw [h1.2.2.2.1]
      refine ob_v e2 ?_
      refine (show fX13_sendRun_37 X FU (b + 24) (nI 0) _ = _ from e3).trans ?_
      unfold fX13_sendRun_61
      exact ob_v (rg_pI rfl rfl _) (ob_v (rg_pI rfl rfl _) rfl)
    · have ea : (aSend t a).1 = (ap (bts (List.drop 0 a.2.2.1)) (ap [eV (nI a.2.1) (sz a.2.1 - 1)] (ap [eW t (16 * (sz a.2.1 - 1))] a))).1 := by
        rw [eS1]
        show a.1 ++ aRun t a = a.1 ++ [_] ++ [_] ++ _
        rw [List.append_assoc, List.append_assoc]
        rfl
      obtain ⟨v1, v2, v3, v4, v5, v6⟩ := h3.2.2.2
      refine yW_f h3 (fun p k hp => ?_) rfl (fun _ _ _ _ => rfl) rfl ea ?_
      · rw [wI_n _ _ (by omega), wI_n _ _ (by omega)]
      · rw [eS1]
        refine ⟨?_, ?_, ?_, lst_nil, v5, v6⟩
        · rw [wI_n _ _ (by omega), wI_s]; rfl
        · rw [wI_s]; rfl
        · rw [wI_n _ _ (by omega), wI_n _ _ (by omega)]
          exact v3
theorem m_c2 (S : sY K y0) : ∀ (k j M : Nat) (a : aS) (y : rg_S), yW K y0 a y → j + k = a.2.2.2.1.length → a.2.2.2.1.length ≤ 64 → (∀ c, c ∈ a.2.2.2.1 → c < 2) → k < M → ∃ y', fX13_sendComing_2 X M (b + 24) (nI j) (rg_p lM b w0 y) = fX13_sendComing_26 X (b + 24) (rg_p lM b w0 y') ∧ yW K y0 (ap (bts (a.2.2.2.1.drop j)) a) y' := by
  intro k
  induction k with
  | zero =>
    intro j M a y h hj hl hc hM
    obtain ⟨M, rfl⟩ : ∃ M', M = M' + 1 := ⟨M - 1, by omega⟩
    refine ⟨y, ?_, ?_⟩
    · rw [fX13_sendComing_2.eq_2]
      refine ob_v (rg_I rfl rfl) ?_
      rw [h.2.2.2.2.2.1]
      exact ei_t (nI_le (by omega) (by omega)) rfl
    · rw [List.drop_eq_nil_of_le (by omega)]
      show yW K y0 (ap [] a) y
      rw [ap_0]
      exact h
  | succ k ih =>
    intro j M a y h hj hl hc hM
    obtain ⟨M, rfl⟩ : ∃ M', M = M' + 1 := ⟨M - 1, by omega⟩
    obtain ⟨x1, e1, h1⟩ := m_b (X := X) (b := b) (w0 := w0) S h (nI (a.2.2.2.1.getD j 0))
    rw [vb_cc (hc _ (getD_mem (j := j) (by omega)))] at e1
    obtain ⟨x2, e2, h2⟩ := ih (j + 1) M (ap [eV (nI (a.2.2.2.1.getD j 0)) 1] a) x1 h1 (by show j + 1 + k = a.2.2.2.1.length; omega) hl hc (by omega)
    refine ⟨x2, ?_, ?_⟩
    · rw [fX13_sendComing_2.eq_2]
      refine ob_v (rg_I rfl rfl) ?_
      rw [h.2.2.2.2.2.1]
      refine ei_n (nI_ge (by omega) (by omega)) (ob_v (rg_C rfl rfl) (ob_v (rg_A rfl (by decide) _ (by omega) (by decide)) (ob_v (rg_O rfl) ?_)))
      rw [h.2.2.2.2.2.2.2.1 j (by omega)]
      refine ob_v e1 ?_
      rw [nI_1]
      exact e2
    · rw [drop_c (by omega)]
      show yW K y0 (ap (eV _ 1 :: bts (a.2.2.2.1.drop (j + 1))) a) x2
      rw [ap_c]
      exact h2
theorem m_come (S : sY K y0) (h : yW K y0 a y) {R N n : Nat} (hn : n ≤ 64) (hB : aB R N n a) : ∃ y', fX13_sendComing X (rg_p lM b w0 y) (b + 24) = some (rg_p lM b w0 y') ∧ yW K y0 (aCome a) y' := by
  have hl := hB.2.2.1
  obtain ⟨x3, e3, h3⟩ := m_c2 (X := X) (b := b) (w0 := w0) S a.2.2.2.1.length 0 FU _ y h (Nat.zero_add _) (by omega) hB.2.2.2.2.1 (by unfold FU; omega)
  obtain ⟨v1, v2, v3, v4, v5, v6⟩ := h3.2.2.2
  refine ⟨rg_wI x3 24 42 0, ?_, yW_f h3 (fun p k hp => ?_) rfl (fun _ _ _ _ => rfl) rfl rfl ⟨?_, ?_, ?_, v4, lst_nil, v6⟩⟩
  · unfold fX13_sendComing
    refine (show fX13_sendComing_2 X FU (b + 24) (nI 0) _ = _ from e3).trans ?_
    unfold fX13_sendComing_26
    exact ob_v (rg_pI rfl rfl _) rfl
  · rw [wI_n _ _ (by omega)]
  · rw [wI_n _ _ (by omega)]; exact v1
  · rw [wI_n _ _ (by omega)]; exact v2
  · rw [wI_s]; rfl
theorem nar_2 {c : Nat} (h : c < 2) : vp_nar .byte (nI c) = nI c := by
  rcases (show c = 0 ∨ c = 1 by omega) with rfl | rfl <;> rfl
theorem m_l252 (S : sY K y0) (ht : Int32) : ∀ (k j M : Nat) (a : aS) (y : rg_S), yW K y0 a y → j + k = a.2.2.2.1.length → a.2.2.2.1.length ≤ 64 → a.2.2.1.length + k ≤ 1024 → (∀ c, c ∈ a.2.2.2.1 → c < 2) → k < M → ∃ y', fX13_writeMore_252 X M (b + 24) ht (nI j) (rg_p lM b w0 y) = fX13_writeMore_293 X (b + 24) ht (rg_p lM b w0 y') ∧ yW K y0 (a.1, a.2.1, a.2.2.1 ++ a.2.2.2.1.drop j, a.2.2.2) y' := by
  intro k
  induction k with
  | zero =>
    intro j M a y h hj hl hr hc hM
    obtain ⟨M, rfl⟩ : ∃ M', M = M' + 1 := ⟨M - 1, by omega⟩
    refine ⟨y, ?_, ?_⟩
    · rw [fX13_writeMore_252.eq_2]
      refine ob_v (rg_I rfl rfl) ?_
      rw [h.2.2.2.2.2.1]
      exact ei_t (nI_le (by omega) (by omega)) rfl
    · rw [List.drop_eq_nil_of_le (by omega), List.append_nil]
      exact h
  | succ k ih =>
    intro j M a y h hj hl hr hc hM
    obtain ⟨M, rfl⟩ : ∃ M', M = M' + 1 := ⟨M - 1, by omega⟩
    obtain ⟨v1, v2, v3, v4, v5, v6⟩ := h.2.2.2
    have h1 : yW K y0 (a.1, a.2.1, a.2.2.1 ++ [a.2.2.2.1.getD j 0], a.2.2.2) (rg_wI (rg_wA y 45 (upd (y.2.2.1 45) a.2.2.1.length (nI (a.2.2.2.1.getD j 0)))) 24 40 (nI (a.2.2.1.length + 1))) := by
      refine yW_f h (fun p k hp => ?_) rfl (fun p _ p1 _ => ?_) rfl rfl ⟨?_, ?_, ?_, ?_, v5, v6⟩
      · rw [wI_n _ _ (by omega), wA_1]
      · rw [wI_2, wA_n _ _ p1]
      · rw [wI_n _ _ (by omega), wA_1]; exact v1
      · rw [wI_s]
        show _ = nI (a.2.2.1 ++ [_]).length
        rw [List.length_append, List.length_singleton]
      · rw [wI_n _ _ (by omega), wA_1]; exact v3
      · show lst ((rg_wA y 45 _).2.2.1 45) _
        rw [wA_s]
        exact lst_snoc v4
    obtain ⟨x2, e2, h2⟩ := ih (j + 1) M _ _ h1 (by show j + 1 + k = a.2.2.2.1.length; omega) hl (by show (a.2.2.1 ++ [_]).length + k ≤ 1024; rw [List.length_append, List.length_singleton]; omega) hc (by omega)
    refine ⟨x2, ?_, ?_⟩
    · rw [fX13_writeMore_252.eq_2]
      refine ob_v (rg_I rfl rfl) ?_
      rw [v3]
      refine ei_n (nI_ge (by omega) (by omega)) (ob_v (rg_C rfl rfl) (ob_v (rg_I rfl rfl) (ob_v (rg_C rfl rfl) (ob_v (rg_A rfl (by decide) _ (by omega) (by decide)) ?_))))
      rw [v2, v5 j (by omega)]
      refine ob_v (rg_sA _ rfl (by decide) _ _ (by omega) (by decide)) (ob_v (rg_I rfl rfl) ?_)
      rw [wA_1, v2, nI_1, nar_2 (hc _ (getD_mem (j := j) (by omega)))]
      refine ob_v (rg_pI rfl rfl _) ?_
      rw [nI_1]
      exact e2
    · rw [drop_c (by omega)]
      have e : a.2.2.1 ++ a.2.2.2.1.getD j 0 :: a.2.2.2.1.drop (j + 1) = a.2.2.1 ++ [a.2.2.2.1.getD j 0] ++ a.2.2.2.1.drop (j + 1) := by
        rw [List.append_assoc]
        rfl
      rw [e]
      exact h2
/-- a run grows, and is sent when it is full -/
theorem m_long (S : sY K y0) (h : yW K y0 a y) (hB : aB 32766 900 64 a) (ht : t < 8) (hE : inE K (aFull t (aLong a))) : ∃ y', fX13_writeMore_239 X (b + 24) (nI t) (rg_p lM b w0 y) = some (rg_p lM b w0 y') ∧ yW K y0 (aFull t (aLong a)) y' := by
  have b1 := hB.2.1
  have b2 := hB.2.2.1
  have hL := aB_long hB
  obtain ⟨v1, v2, v3, v4, v5, v6⟩ := h.2.2.2
  have h1 : yW K y0 (a.1, a.2.1 + 1, a.2.2) (rg_wI y 24 38 (nI (a.2.1 + 1))) := by
    refine yW_f h (fun p k hp => ?_) rfl (fun p _ _ _ => rfl) rfl rfl ⟨?_, ?_, ?_, v4, v5, v6⟩
    · rw [wI_n _ _ (by omega)]
    · rw [wI_s]
    · rw [wI_n _ _ (by omega)]; exact v2
    · rw [wI_n _ _ (by omega)]; exact v3
  obtain ⟨x3, e3, h3⟩ := m_l252 (X := X) (b := b) (w0 := w0) S (nI t) a.2.2.2.1.length 0 FU _ _ h1 (Nat.zero_add _) b2 (by show a.2.2.1.length + a.2.2.2.1.length ≤ 1024; omega) hB.2.2.2.2.1 (by unfold FU; omega)
  obtain ⟨u1, u2, u3, u4, u5, u6⟩ := h3.2.2.2
  have h4 : yW K y0 (aLong a) (rg_wI x3 24 42 0) := by
    refine yW_f h3 (fun p k hp => ?_) rfl (fun _ _ _ _ => rfl) rfl rfl ⟨?_, ?_, ?_, u4, lst_nil, u6⟩
    · rw [wI_n _ _ (by omega)]
    · rw [wI_n _ _ (by omega)]; exact u1
    · rw [wI_n _ _ (by omega)]; exact u2
    · rw [wI_s]; rfl
  have s239 : ∀ r, fX13_writeMore_293 X (b + 24) (nI t) (rg_p lM b w0 x3) = r → fX13_writeMore_239 X (b + 24) (nI t) (rg_p lM b w0 y) = r := by
    intro r hr
    unfold fX13_writeMore_239
    refine ob_v (rg_I rfl rfl) ?_
    rw [v1, nI_1]
    refine ob_v (rg_pI rfl rfl _) ?_
    exact (show fX13_writeMore_252 X FU (b + 24) (nI t) (nI 0) _ = _ from e3).trans hr
  obtain ⟨z1, z2, _⟩ := h4.2.2.2
  have l1 := hL.1
  have l2 := hL.2.1
  have s318 : (aLong a).2.1 = 32767 ∨ 900 < (aLong a).2.2.1.length → ∃ y', fX13_writeMore_318 X (b + 24) (nI t) (rg_p lM b w0 (rg_wI x3 24 42 0)) = some (rg_p lM b w0 y') ∧ yW K y0 (aFull t (aLong a)) y' := by
    intro q
    unfold aFull at hE ⊢
    rw [if_pos q] at hE ⊢
    obtain ⟨y', e', h'⟩ := m_send (X := X) (b := b) (w0 := w0) S h4 (by decide) (by decide) hL ht hE
    refine ⟨y', ?_, h'⟩
    unfold fX13_writeMore_318
    exact ob_v (rg_O rfl) (ob_v e' rfl)
  by_cases q : (aLong a).2.1 = 32767
  · obtain ⟨y', e', h'⟩ := s318 (Or.inl q)
    refine ⟨y', s239 _ ?_, h'⟩
    unfold fX13_writeMore_293
    refine ob_v (rg_pI rfl rfl _) (ob_v (rg_I rfl rfl) ?_)
    rw [z1]
    exact ei_t (by rw [q]; rfl) e'
  · by_cases r : 900 < (aLong a).2.2.1.length
    · obtain ⟨y', e', h'⟩ := s318 (Or.inr r)
      refine ⟨y', s239 _ ?_, h'⟩
      unfold fX13_writeMore_293
      refine ob_v (rg_pI rfl rfl _) (ob_v (rg_I rfl rfl) ?_)
      rw [z1]
      refine ei_n (fun e => q ((nI_eq (b := 32767) (by omega) (by omega)).mp e)) (ob_v (rg_I rfl rfl) ?_)
      rw [z2]
      exact ei_n (nI_ge (a := 900) r (by omega)) e'
    · refine ⟨rg_wI x3 24 42 0, s239 _ ?_, ?_⟩
      · unfold fX13_writeMore_293
        refine ob_v (rg_pI rfl rfl _) (ob_v (rg_I rfl rfl) ?_)
        rw [z1]
        refine ei_n (fun e => q ((nI_eq (b := 32767) (by omega) (by omega)).mp e)) (ob_v (rg_I rfl rfl) ?_)
        rw [z2]
        exact ei_t (nI_le (b := 900) (by omega) (by omega)) rfl
      · unfold aFull
        rw [if_neg (by omega)]
        exact h4
end
