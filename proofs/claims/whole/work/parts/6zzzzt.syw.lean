/-! a table read by the reference -/
section
variable {X : px_X} {b B : Nat} {w0 w1 : px_W} {y y' : rg_S} {c : sgC} {p t : Nat} {f : sgF} {q : Nat → Nat}
theorem m_t7_0 {A2 A5 : Int32} {A3 : Int64} {M : Nat} (h : ftY y f) : fX14_readTable_7 X (M + 1) (b + 4) (nI t) A2 A3 A5 (rg_p lM b w0 y) = fX14_readTable_128 X (b + 4) (nI t) A2 (rg_p lM b w0 y) := by
  rw [fX14_readTable_7.eq_2]
  exact ei_c (fun _ => rfl) (fun _ => ob_v (rg_I rfl rfl) (ei_n h.n rfl))
theorem m_ck (ht : t < 8) : ∀ (r l p s w M : Nat) (n : Nat → Nat) (y : rg_S), l + r = 17 → 1 ≤ l → r + 1 < M → (r = 0 → s ≠ 0) → s = dn n (l - 1) → w = nx n (l - 1) → (∀ k, k ≤ l - 1 → nx n k < 2 ^ k) → (∀ j, n j ≤ 255) → s ≤ 256 → (∀ j, 1 ≤ j → j < l → y.2.2.1 14 (17 * t + j) = nI (n j)) → kY y c p → ∃ A2 y', fX14_readTable_7 X M (b + 4) (nI t) (nI s) (lI w) (nI l) (rg_p lM b w0 y) = fX14_readTable_128 X (b + 4) (nI t) A2 (rg_p lM b w0 y') ∧ FYa 14 y y' ∧ (∀ i, ¬ (17 * t + 1 ≤ i ∧ i ≤ 17 * t + 16) → y'.2.2.1 14 i = y.2.2.1 14 i) ∧ ((∃ f, sgCk c r l p s w n = .inl f ∧ ftY y' f) ∨ ∃ p' s' n', sgCk c r l p s w n = .inr (p', s', n') ∧ A2 = nI s' ∧ kY y' c p' ∧ ∀ j, 1 ≤ j → j ≤ 16 → y'.2.2.1 14 (17 * t + j) = nI (n' j)) := by
  intro r
  induction r with
  | zero =>
    intro l p s w M n y hl l1 hM s0 hs hw hn hf s6 hc h
    obtain rfl : l = 17 := by omega
    obtain ⟨M, rfl⟩ : ∃ M', M = M' + 1 := ⟨M - 1, by omega⟩
    unfold sgCk
    rw [if_neg (s0 rfl)]
    refine ⟨nI s, y, ?_, FYa.rfl, fun _ _ => rfl, Or.inr ⟨_, _, _, rfl, rfl, h, fun j a b => hc j a (by omega)⟩⟩
    rw [fX14_readTable_7.eq_2]
    exact ei_t (by decide) rfl
  | succ r ih =>
    intro l p s w M n y hl l1 hM s0 hs hw hn hf s6 hc h
    obtain ⟨M, rfl⟩ : ∃ M', M = M' + 1 := ⟨M - 1, by omega⟩
    obtain ⟨M0, hM0⟩ : ∃ M', M = M' + 1 := ⟨M - 1, by omega⟩
    obtain ⟨v, y1, e1, F1, o1⟩ := m_nx (X := X) (b := b) (w0 := w0) h
    have hL := h.2.2.2.2.2.1
    have hwl := hn (l - 1) (Nat.le_refl _)
    rw [← hw] at hwl
    have p16 : 2 ^ (l - 1) ≤ 2 ^ 15 := Nat.pow_le_pow_right (by decide) (by omega)
    have p17 : 2 ^ l ≤ 2 ^ 16 := Nat.pow_le_pow_right (by decide) (by omega)
    have pl : 2 ^ l = 2 * 2 ^ (l - 1) := by
      obtain ⟨m, rfl⟩ : ∃ m, l = m + 1 := ⟨l - 1, by omega⟩
      rw [Nat.pow_succ, Nat.mul_comm, show m + 1 - 1 = m by omega]
    generalize hy2 : rg_wA y1 14 (upd (y1.2.2.1 14) (17 * t + l) v) = y2
    have F2 : FYa 14 y y2 := by
      rw [← hy2]
      exact F1.a.trans FYa.wA
    have a2 : ∀ i, ¬ (17 * t + 1 ≤ i ∧ i ≤ 17 * t + 16) → y2.2.2.1 14 i = y.2.2.1 14 i := by
      intro i hi
      rw [← hy2, wA_s, pk_un (by omega), F1.2]
    have i2 : y2.1 = y1.1 := by rw [← hy2]; rfl
    have start : ∀ z, (if 0 < y2.1 4 4 then fX14_readTable_87 X (fX14_readTable_7 X M) (b + 4) (nI t) (nI s + v) ((2 * lI w) + v.toInt64) (nI l) (b + 4) (rg_p lM b w0 y2) else if 256 < (nI s + v) then fX14_readTable_91 X (fX14_readTable_7 X M) (b + 4) (nI t) (nI s + v) ((2 * lI w) + v.toInt64) (nI l) (b + 4) (rg_p lM b w0 y2) else if v = 0 then fX14_readTable_87 X (fX14_readTable_7 X M) (b + 4) (nI t) (nI s + v) ((2 * lI w) + v.toInt64) (nI l) (b + 4) (rg_p lM b w0 y2) else if 0 < (lg_cmp ((2 * lI w) + v.toInt64) (((1 : Int64) <<< ((nI l).toInt64 &&& 63)) - 1)) then fX14_readTable_91 X (fX14_readTable_7 X M) (b + 4) (nI t) (nI s + v) ((2 * lI w) + v.toInt64) (nI l) (b + 4) (rg_p lM b w0 y2) else fX14_readTable_87 X (fX14_readTable_7 X M) (b + 4) (nI t) (nI s + v) ((2 * lI w) + v.toInt64) (nI l) (b + 4) (rg_p lM b w0 y2)) = z → fX14_readTable_7 X (M + 1) (b + 4) (nI t) (nI s) (lI w) (nI l) (rg_p lM b w0 y) = z := by
      intro z hz
      rw [fX14_readTable_7.eq_2]
      refine ei_n (nI_nlt (a := 16) (by omega) (by omega)) (ob_v (rg_I rfl rfl) (ei_t h.2.2.2.1 (ob_v (rg_O rfl) (ob_v e1 (ob_v (rg_C rfl rfl) ?_)))))
      rw [show (17 : Int32) * nI t + nI l = nI (17 * t + l) from by rw [show (17 : Int32) = nI 17 from rfl, pk_mul, nI_add]]
      refine ob_v (rg_sA id rfl (by decide) _ _ (by omega) (by decide)) ?_
      dsimp only [id]
      rw [hy2]
      exact ob_v (rg_I rfl rfl) hz
    have after0 : ∀ (z z' : rg_S) (s0 A2 : Int32) (A3 : Int64) (f : sgF), fX14_must X (rg_p lM b w0 z) (b + 4) s0 = some (rg_p lM b w0 z') → ftY z' f → fX14_readTable_92 X (fX14_readTable_7 X M) (b + 4) (nI t) A2 A3 (nI l) s0 (b + 4) (rg_p lM b w0 z) = fX14_readTable_128 X (b + 4) (nI t) A2 (rg_p lM b w0 z') := by
      intro z z' s0 A2 A3 f hm hf
      unfold fX14_readTable_92
      refine ob_v (rg_O rfl) (ob_v hm (ob_v (rg_I rfl rfl) (ei_t hf.l ?_)))
      unfold fX14_readTable_114 fX14_readTable_119
      refine ob_v (rg_O rfl) (ob_v (m_must1 (by decide)) ?_)
      rw [hM0]
      exact m_t7_0 hf
    unfold sgCk
    rcases o1 with ⟨f, r1, r2, r3⟩ | ⟨u, q1, r1, r2, r3, r4⟩
    · rw [r1]
      have r3' : ftY y2 f := by
        unfold ftY
        rw [i2]
        exact r3
      refine ⟨nI s + v, y2, start _ (ei_t r3'.l ?_), F2, a2, Or.inl ⟨f, rfl, r3'⟩⟩
      unfold fX14_readTable_87
      exact after0 y2 y2 1 _ _ f (m_must1 (by decide)) r3'
    have g1 := sgN_p r1
    have k2 : kY y2 c q1 := by
      rw [← hy2]
      exact r4.w (by decide)
    have n4 : ¬ 0 < y2.1 4 4 := by rw [k2.2.2.2.1]; decide
    have ew : (2 : Int64) * lI w + v.toInt64 = lI (2 * w + u : Nat) := by
      rw [r3, i_l, n_t (by omega), show (2 : Int64) = lI 2 from rfl, lI_mul, lI_add]
      congr 1
    have es : nI s + v = nI (s + u) := by rw [r3, nI_add]
    have esh : (1 : Int64) <<< ((nI l).toInt64 &&& 63) - 1 = lI ((2 ^ l : Nat) - 1 : Int) := by
      rw [shl_n (by omega), show (1 : Int64) = lI 1 from rfl, lI_sub]
    rw [es, ew, esh] at start
    rw [r1]
    show ∃ A2 y', _ ∧ _ ∧ _ ∧ ((∃ f, (if 256 < s + u ∨ 2 ^ l ≤ 2 * w + u then .inl (6, p) else sgCk c r (l + 1) q1 (s + u) (2 * w + u) (uG n l u)) = .inl f ∧ _) ∨ ∃ p' s' n', (if 256 < s + u ∨ 2 ^ l ≤ 2 * w + u then .inl (6, p) else sgCk c r (l + 1) q1 (s + u) (2 * w + u) (uG n l u)) = .inr (p', s', n') ∧ _)
    obtain ⟨y3, e3, F3, f3⟩ := m_mustF (X := X) (b := b) (w0 := w0) (y := y2) k2.2.2.2.1 k2.1 (by omega) (by omega)
    rw [show (6, q1 - 1) = (6, p) by rw [g1.1]; rfl] at f3
    have a3 : ∀ i, ¬ (17 * t + 1 ≤ i ∧ i ≤ 17 * t + 16) → y3.2.2.1 14 i = y.2.2.1 14 i := by
      intro i hi
      rw [F3.2]
      exact a2 i hi
    have bad : fX14_readTable_91 X (fX14_readTable_7 X M) (b + 4) (nI t) (nI (s + u)) (lI (2 * w + u : Nat)) (nI l) (b + 4) (rg_p lM b w0 y2) = fX14_readTable_128 X (b + 4) (nI t) (nI (s + u)) (rg_p lM b w0 y3) := by
      unfold fX14_readTable_91
      exact after0 y2 y3 0 _ _ _ e3 f3
    by_cases d1 : 256 < s + u
    · rw [if_pos (Or.inl d1)]
      exact ⟨_, y3, start _ (ei_n n4 (ei_t (nI_lt (a := 256) d1 (by omega)) bad)), F2.trans F3.a, a3, Or.inl ⟨_, rfl, f3⟩⟩
    have nd1 : ¬ (256 : Int32) < nI (s + u) := nI_nlt (a := 256) (by omega) (by omega)
    by_cases d2 : 2 ^ l ≤ 2 * w + u
    · rw [if_pos (Or.inr d2)]
      have u0 : u ≠ 0 := by omega
      refine ⟨_, y3, start _ (ei_n n4 (ei_n nd1 (ei_n (by rw [r3]; exact nI_ne0 (by omega) (by omega)) (ei_t ?_ bad)))), F2.trans F3.a, a3, Or.inl ⟨_, rfl, f3⟩⟩
      rw [lg_cmp_gt, l_lt, lI_t (by omega) (by omega), lI_t (by omega) (by omega)]
      omega
    rw [if_neg (by omega)]
    have good : ∀ z, fX14_readTable_87 X (fX14_readTable_7 X M) (b + 4) (nI t) (nI (s + u)) (lI (2 * w + u : Nat)) (nI l) (b + 4) (rg_p lM b w0 y2) = z → fX14_readTable_7 X (M + 1) (b + 4) (nI t) (nI s) (lI w) (nI l) (rg_p lM b w0 y) = z := by
      intro z hz
      refine start _ (ei_n n4 (ei_n nd1 ?_))
      by_cases u0 : u = 0
      · exact ei_t (by rw [r3, u0]; rfl) hz
      · refine ei_n (by rw [r3]; exact nI_ne0 (by omega) (by omega)) (ei_n ?_ hz)
        rw [lg_cmp_gt, l_lt, lI_t (by omega) (by omega), lI_t (by omega) (by omega)]
        omega
    by_cases last : l = 16 ∧ s + u = 0
    · -- no words at all
      obtain ⟨l16, su⟩ := last
      obtain rfl : r = 0 := by omega
      unfold sgCk
      rw [if_pos su]
      refine ⟨nI (s + u), y3, good _ ?_, F2.trans F3.a, a3, Or.inl ⟨_, rfl, ?_⟩⟩
      · unfold fX14_readTable_87 fX14_readTable_92
        refine ob_v (rg_O rfl) (ob_v (m_must1 (by decide)) (ob_v (rg_I rfl rfl) (ei_n n4 (ei_n (by rw [l16]; decide) (ei_t (by rw [su]; decide) ?_)))))
        unfold fX14_readTable_119
        refine ob_v (rg_O rfl) (ob_v e3 ?_)
        rw [hM0]
        exact m_t7_0 f3
      · rw [g1.1]
        exact f3
    · have cg : ∀ j, j ≤ l - 1 → uG n l u j = n j := fun j hj => uG_n _ _ (by omega)
      have n1 : nx (uG n l u) (l - 1) = nx n (l - 1) := nx_cg _ cg
      have d1' : dn (uG n l u) (l - 1) = dn n (l - 1) := dn_cg _ cg
      have n2 : nx (uG n l u) l = 2 * w + u := by
        obtain ⟨m, rfl⟩ : ∃ m, l = m + 1 := ⟨l - 1, by omega⟩
        show 2 * nx (uG n (m + 1) u) m + uG n (m + 1) u (m + 1) = _
        rw [uG_s, hw]
        rw [show m + 1 - 1 = m by omega] at n1 ⊢
        rw [n1]
      have d2' : dn (uG n l u) l = s + u := by
        obtain ⟨m, rfl⟩ : ∃ m, l = m + 1 := ⟨l - 1, by omega⟩
        show dn (uG n (m + 1) u) m + uG n (m + 1) u (m + 1) = _
        rw [uG_s, hs]
        rw [show m + 1 - 1 = m by omega] at d1' ⊢
        rw [d1']
      obtain ⟨A2, y4, e4, F4, a4, o4⟩ := ih (l + 1) q1 (s + u) (2 * w + u) M (uG n l u) y2 (by omega) (by omega) (by omega) (fun z => by omega) (by rw [show l + 1 - 1 = l by omega]; exact d2'.symm) (by rw [show l + 1 - 1 = l by omega]; exact n2.symm) (by
        intro k hk
        rcases Nat.lt_or_ge k l with z | z
        · rw [nx_cg k (fun j hj => cg j (by omega))]
          exact hn k (by omega)
        · rw [show k = l by omega, n2]
          omega) (by
        intro j
        by_cases z : j = l
        · rw [z, uG_s]
          omega
        · rw [uG_n _ _ z]
          exact hf j) (by omega) (by
        intro j ja jb
        rw [← hy2, wA_s]
        by_cases z : j = l
        · rw [z, pk_us, uG_s, r3]
        · rw [pk_un (by omega), uG_n _ _ z, F1.2]
          exact hc j ja (by omega)) k2
      refine ⟨A2, y4, good _ ?_, F2.trans F4, fun i hi => (a4 i hi).trans (a2 i hi), o4⟩
      unfold fX14_readTable_87 fX14_readTable_92
      have e114 : fX14_readTable_114 X (fX14_readTable_7 X M) (b + 4) (nI t) (nI (s + u)) (lI (2 * w + u : Nat)) (nI l) (b + 4) (rg_p lM b w0 y2) = fX14_readTable_128 X (b + 4) (nI t) A2 (rg_p lM b w0 y4) := by
        unfold fX14_readTable_114 fX14_readTable_119
        refine ob_v (rg_O rfl) (ob_v (m_must1 (by decide)) ?_)
        rw [nI_1]
        exact e4
      refine ob_v (rg_O rfl) (ob_v (m_must1 (by decide)) (ob_v (rg_I rfl rfl) (ei_n n4 ?_)))
      by_cases l16 : l < 16
      · exact ei_t (nI_lt (b := 16) l16 (by omega)) e114
      · exact ei_n (nI_nlt (b := 16) (by omega) (by omega)) (ei_n (nI_nle (by omega) (by omega)) e114)
theorem m_seen {A2 : Int32} : fX14_readTable_128 X (b + 4) (nI t) A2 (rg_p lM b w0 y) = fX14_readTable_153 X (b + 4) (nI t) A2 (rg_p lM b w0 (rg_wA y 23 (fU 256 (fun _ => 0) (y.2.2.1 23)))) := by
  unfold fX14_readTable_128
  have e := rg_lpF (F := fun M (s : Int32 × rg_S) => fX14_readTable_131 X M (b + 4) (nI t) A2 s.1 (rg_p lM b w0 s.2)) 256 (fun i => (nI i, rg_wA y 23 (fU i (fun _ => 0) (y.2.2.1 23)))) (r := fX14_readTable_153 X (b + 4) (nI t) A2 (rg_p lM b w0 (rg_wA y 23 (fU 256 (fun _ => 0) (y.2.2.1 23))))) (by omega) ?_ ?_
  · dsimp only at e
    rw [fU_0, wA_id rfl] at e
    exact e
  · intro M i hi
    dsimp only
    rw [fX14_readTable_131.eq_2]
    refine ei_n (nI_ge (b := 256) (by omega) (by omega)) (ob_v (rg_C rfl rfl) (ob_v (rg_sA (vp_nar .boolean) rfl (by decide) _ _ hi (by decide)) ?_))
    rw [wA_s, wA_wA, show vp_nar .boolean (0 : Int32) = 0 from rfl, nI_1, ← fU_s i (fun _ => 0) (y.2.2.1 23)]
  · intro M
    dsimp only
    rw [fX14_readTable_131.eq_2]
    exact ei_t (by decide) rfl
theorem m_t242_0 {A2 : Int32} (ht : t < 8) (h : ftY y f) : fX14_readTable_242 X (b + 4) (nI t) A2 (rg_p lM b w0 y) = some (rg_p lM b w0 (rg_wA y 16 (upd (y.2.2.1 16) t A2))) := by
  unfold fX14_readTable_242
  exact ob_v (rg_C rfl rfl) (ob_v (rg_sA id rfl (by decide) _ _ ht (by decide)) (ob_v (rg_I rfl rfl) (ei_n h.n rfl)))
theorem m_t156_0 {A2 A5 : Int32} {M : Nat} (ht : t < 8) (h : ftY y f) : fX14_readTable_156 X (M + 1) (b + 4) (nI t) A2 A5 (rg_p lM b w0 y) = some (rg_p lM b w0 (rg_wA y 16 (upd (y.2.2.1 16) t A2))) := by
  rw [fX14_readTable_156.eq_2]
  exact ei_c (fun _ => m_t242_0 ht h) (fun _ => ob_v (rg_I rfl rfl) (ei_n h.n (m_t242_0 ht h)))
theorem m_sk {m most : Nat} (ht : t < 8) (hm : m ≤ 256) (hmo : most = if t < 4 then 11 else 255) : ∀ (r p M : Nat) (S : List Nat) (y : rg_S), S.length + r = m → r + 1 < M → kY y c p → (∀ s, s < 256 → y.2.2.1 23 s = if s ∈ S then 1 else 0) → (∀ j, j < S.length → y.2.2.1 15 (256 * t + j) = nI (S.getD j 0)) → ∃ y', fX14_readTable_156 X M (b + 4) (nI t) (nI m) (nI S.length) (rg_p lM b w0 y) = some (rg_p lM b w0 y') ∧ FYg y y' ∧ ((∃ f, sgSk c most r p S = .inl f ∧ ftY y' f) ∨ ∃ p' S', sgSk c most r p S = .inr (p', S') ∧ kY y' c p' ∧ (∀ j, j < m → y'.2.2.1 15 (256 * t + j) = nI (S'.getD j 0)) ∧ y'.2.2.1 16 = upd (y.2.2.1 16) t (nI m) ∧ y'.2.2.1 13 = upd (y.2.2.1 13) t 1 ∧ (∀ i, ¬ (256 * t ≤ i ∧ i < 256 * t + 256) → y'.2.2.1 15 i = y.2.2.1 15 i) ∧ (∀ k, ¬ (4 ≤ k ∧ k ≤ 6) → y'.1 4 k = y.1 4 k) ∧ ∀ a, a ≠ 13 → a ≠ 15 → a ≠ 16 → a ≠ 23 → y'.2.2.1 a = y.2.2.1 a) := by
  intro r
  induction r with
  | zero =>
    intro p M S y hl hM h hu hs
    obtain ⟨M, rfl⟩ : ∃ M', M = M' + 1 := ⟨M - 1, by omega⟩
    refine ⟨rg_wA (rg_wA y 16 (upd (y.2.2.1 16) t (nI m))) 13 (upd (y.2.2.1 13) t 1), ?_, (FYg.wA (by omega)).trans (FYg.wA (by omega)), Or.inr ⟨p, S, rfl, (h.w (by decide)).w (by decide), ?_, ?_, wA_s _ _ _, ?_, fun _ _ => rfl, ?_⟩⟩
    · rw [fX14_readTable_156.eq_2]
      refine ei_t (nI_le (by omega) (by omega)) ?_
      unfold fX14_readTable_242
      refine ob_v (rg_C rfl rfl) (ob_v (rg_sA id rfl (by decide) _ _ ht (by decide)) (ob_v (rg_I rfl rfl) (ei_t h.2.2.2.1 (ob_v (rg_C rfl rfl) (ob_v (rg_sA (vp_nar .boolean) rfl (by decide) _ _ ht (by decide)) ?_)))))
      rw [wA_n _ _ (show 13 ≠ 16 by decide), show vp_nar .boolean (1 : Int32) = 1 from rfl]
      rfl
    · intro j hj
      rw [wA_n _ _ (by decide), wA_n _ _ (by decide)]
      exact hs j (by omega)
    · rw [wA_n _ _ (by decide), wA_s]
    · intro i hi
      rw [wA_n _ _ (by decide), wA_n _ _ (by decide)]
    · intro a h1 h2 h3 h4
      rw [wA_n _ _ h1, wA_n _ _ h3]
  | succ r ih =>
    intro p M S y hl hM h hu hs
    obtain ⟨M, rfl⟩ : ∃ M', M = M' + 1 := ⟨M - 1, by omega⟩
    obtain ⟨M0, hM0⟩ : ∃ M', M = M' + 1 := ⟨M - 1, by omega⟩
    have hL := h.2.2.2.2.2.1
    obtain ⟨v, y1, e1, F1, o1⟩ := m_nx (X := X) (b := b) (w0 := w0) h
    have e210 : ∀ (z z' : rg_S) (s0 : Int32) (u : Nat), u < 256 → fX14_must X (rg_p lM b w0 z) (b + 4) s0 = some (rg_p lM b w0 z') → fX14_readTable_210 X (fX14_readTable_156 X M) (b + 4) (nI t) (nI m) (nI S.length) (nI u) s0 (b + 4) (rg_p lM b w0 z) = fX14_readTable_156 X M (b + 4) (nI t) (nI m) (nI (S.length + 1)) (rg_p lM b w0 (rg_wA (rg_wA z' 23 (upd (z'.2.2.1 23) u 1)) 15 (upd (z'.2.2.1 15) (256 * t + S.length) (nI u)))) := by
      intro z z' s0 u hu2 hm2
      unfold fX14_readTable_210
      refine ob_v (rg_O rfl) (ob_v hm2 (ob_v (rg_C rfl rfl) (ob_v (rg_sA (vp_nar .boolean) rfl (by decide) _ _ hu2 (by decide)) (ob_v (rg_C rfl rfl) ?_))))
      rw [show (256 : Int32) * nI t + nI S.length = nI (256 * t + S.length) from by rw [show (256 : Int32) = nI 256 from rfl, pk_mul, nI_add]]
      refine ob_v (rg_sA id rfl (by decide) _ _ (by omega) (by decide)) ?_
      rw [wA_n _ _ (show 15 ≠ 23 by decide), nI_1, show vp_nar .boolean (1 : Int32) = 1 from rfl]
      rfl
    have start : ∀ z, (if 0 < y1.1 4 4 then fX14_readTable_205 X (fX14_readTable_156 X M) (b + 4) (nI t) (nI m) (nI S.length) v (b + 4) (rg_p lM b w0 y1) else (gR (rg_p lM b w0 y1) (b + 4) 14 35).bind fun v50 => (aN (rg_p lM b w0 y1) 4 v50 v).bind fun v51 => if v51 = 0 then (if 3 < nI t then fX14_readTable_205 X (fX14_readTable_156 X M) (b + 4) (nI t) (nI m) (nI S.length) v (b + 4) (rg_p lM b w0 y1) else if 12 ≤ v then fX14_readTable_209 X (fX14_readTable_156 X M) (b + 4) (nI t) (nI m) (nI S.length) v (b + 4) (rg_p lM b w0 y1) else fX14_readTable_205 X (fX14_readTable_156 X M) (b + 4) (nI t) (nI m) (nI S.length) v (b + 4) (rg_p lM b w0 y1)) else fX14_readTable_209 X (fX14_readTable_156 X M) (b + 4) (nI t) (nI m) (nI S.length) v (b + 4) (rg_p lM b w0 y1)) = z → fX14_readTable_156 X (M + 1) (b + 4) (nI t) (nI m) (nI S.length) (rg_p lM b w0 y) = z := by
      intro z hz
      rw [fX14_readTable_156.eq_2]
      exact ei_n (nI_ge (by omega) (by omega)) (ob_v (rg_I rfl rfl) (ei_t h.2.2.2.1 (ob_v (rg_O rfl) (ob_v e1 (ob_v (rg_I rfl rfl) hz)))))
    unfold sgSk sgI
    rcases o1 with ⟨f, r1, r2, r3⟩ | ⟨u, q1, r1, r2, r3, r4⟩
    · rw [r1]
      refine ⟨rg_wA (rg_wA (rg_wA y1 23 (upd (y1.2.2.1 23) 0 1)) 15 (upd (y1.2.2.1 15) (256 * t + S.length) (nI 0))) 16 (upd (y1.2.2.1 16) t (nI m)), start _ (ei_t r3.l ?_), ?_, Or.inl ⟨f, rfl, ?_⟩⟩
      · unfold fX14_readTable_205
        rw [r2, show (0 : Int32) = nI 0 from rfl, e210 y1 y1 1 0 (by decide) (m_must1 (by decide)), hM0, m_t156_0 (f := f) ht (show ftY (rg_wA (rg_wA y1 23 (upd (y1.2.2.1 23) 0 1)) 15 (upd (y1.2.2.1 15) (256 * t + S.length) (nI 0))) f from r3), wA_n _ _ (show 16 ≠ 15 by decide), wA_n _ _ (show 16 ≠ 23 by decide)]
      · exact F1.g.trans ((FYg.wA (by omega)).trans ((FYg.wA (by omega)).trans (FYg.wA (by omega))))
      · exact r3
    have g1 := sgN_p r1
    have n4 : ¬ 0 < y1.1 4 4 := by rw [r4.2.2.2.1]; decide
    rw [r3] at start
    rw [r1]
    obtain ⟨y3, e3, F3, f3⟩ := m_mustF (X := X) (b := b) (w0 := w0) (y := y1) r4.2.2.2.1 r4.1 (by omega) (by omega)
    rw [show (6, q1 - 1) = (6, p) by rw [g1.1]; rfl] at f3
    have bad : fX14_readTable_209 X (fX14_readTable_156 X M) (b + 4) (nI t) (nI m) (nI S.length) (nI u) (b + 4) (rg_p lM b w0 y1) = some (rg_p lM b w0 (rg_wA (rg_wA (rg_wA y3 23 (upd (y3.2.2.1 23) u 1)) 15 (upd (y3.2.2.1 15) (256 * t + S.length) (nI u))) 16 (upd (y3.2.2.1 16) t (nI m)))) := by
      unfold fX14_readTable_209
      rw [e210 y1 y3 0 u r2 e3, hM0, m_t156_0 (f := (6, p)) ht (show ftY (rg_wA (rg_wA y3 23 (upd (y3.2.2.1 23) u 1)) 15 (upd (y3.2.2.1 15) (256 * t + S.length) (nI u))) (6, p) from f3), wA_n _ _ (show 16 ≠ 15 by decide), wA_n _ _ (show 16 ≠ 23 by decide)]
    have Fbad : FYg y (rg_wA (rg_wA (rg_wA y3 23 (upd (y3.2.2.1 23) u 1)) 15 (upd (y3.2.2.1 15) (256 * t + S.length) (nI u))) 16 (upd (y3.2.2.1 16) t (nI m))) := (F1.trans F3).g.trans ((FYg.wA (by omega)).trans ((FYg.wA (by omega)).trans (FYg.wA (by omega))))
    have hu1 : y1.2.2.1 23 u = if u ∈ S then 1 else 0 := by rw [F1.2]; exact hu u r2
    have start2 : ∀ z, (if y1.2.2.1 23 u = 0 then (if 3 < nI t then fX14_readTable_205 X (fX14_readTable_156 X M) (b + 4) (nI t) (nI m) (nI S.length) (nI u) (b + 4) (rg_p lM b w0 y1) else if 12 ≤ nI u then fX14_readTable_209 X (fX14_readTable_156 X M) (b + 4) (nI t) (nI m) (nI S.length) (nI u) (b + 4) (rg_p lM b w0 y1) else fX14_readTable_205 X (fX14_readTable_156 X M) (b + 4) (nI t) (nI m) (nI S.length) (nI u) (b + 4) (rg_p lM b w0 y1)) else fX14_readTable_209 X (fX14_readTable_156 X M) (b + 4) (nI t) (nI m) (nI S.length) (nI u) (b + 4) (rg_p lM b w0 y1)) = z → fX14_readTable_156 X (M + 1) (b + 4) (nI t) (nI m) (nI S.length) (rg_p lM b w0 y) = z := fun z hz => start _ (ei_n n4 (ob_v (rg_C rfl rfl) (ob_v (rg_A rfl (by decide) _ r2 (by decide)) hz)))
    rw [hu1] at start2
    show ∃ y', _ ∧ _ ∧ ((∃ f, sgB (if u < 0 ∨ most < u then (.inl (6, p) : sgF ⊕ (Nat × Nat)) else .inr (u, q1)) (fun v => if v.1 ∈ S then .inl (6, p) else sgSk c most r v.2 (S ++ [v.1])) = .inl f ∧ _) ∨ ∃ p' S', sgB (if u < 0 ∨ most < u then (.inl (6, p) : sgF ⊕ (Nat × Nat)) else .inr (u, q1)) (fun v => if v.1 ∈ S then .inl (6, p) else sgSk c most r v.2 (S ++ [v.1])) = .inr (p', S') ∧ _)
    by_cases dS : u ∈ S
    · rw [if_pos dS] at start2
      refine ⟨_, start2 _ (ei_n (by decide) bad), Fbad, Or.inl ⟨(6, p), ?_, f3⟩⟩
      by_cases z : u < 0 ∨ most < u
      · rw [if_pos z]; rfl
      · rw [if_neg z]
        show (if u ∈ S then _ else _) = _
        rw [if_pos dS]
    rw [if_neg dS] at start2
    by_cases z : most < u
    · rw [if_pos (Or.inr z)]
      have t4 : t < 4 := by
        rw [hmo] at z
        split at z
        · assumption
        · omega
      rw [if_pos t4] at hmo
      exact ⟨_, start2 _ (ei_t rfl (ei_n (nI_nlt (a := 3) (by omega) (by omega)) (ei_t (nI_le (a := 12) (by omega) (by omega)) bad))), Fbad, Or.inl ⟨_, rfl, f3⟩⟩
    rw [if_neg (by omega)]
    show ∃ y', _ ∧ _ ∧ ((∃ f, (if u ∈ S then .inl (6, p) else sgSk c most r q1 (S ++ [u])) = .inl f ∧ _) ∨ ∃ p' S', (if u ∈ S then .inl (6, p) else sgSk c most r q1 (S ++ [u])) = .inr (p', S') ∧ _)
    rw [if_neg dS]
    have gl : (S ++ [u]).length = S.length + 1 := by rw [List.length_append]; rfl
    generalize hy4 : rg_wA (rg_wA y1 23 (upd (y1.2.2.1 23) u 1)) 15 (upd (y1.2.2.1 15) (256 * t + S.length) (nI u)) = y4
    have F4 : FYg y y4 := by
      rw [← hy4]
      exact F1.g.trans ((FYg.wA (by omega)).trans (FYg.wA (by omega)))
    obtain ⟨y5, e5, F5, o5⟩ := ih q1 M (S ++ [u]) y4 (by omega) (by omega) (by rw [← hy4]; exact (r4.w (by decide)).w (by decide)) (by
      intro s hs2
      rw [← hy4, wA_n _ _ (by omega), wA_s]
      by_cases zz : s = u
      · rw [zz, pk_us, if_pos (List.mem_append_right _ (List.mem_singleton.mpr rfl))]
      · rw [pk_un zz, F1.2, hu s hs2]
        by_cases z2 : s ∈ S
        · rw [if_pos z2, if_pos (List.mem_append_left _ z2)]
        · rw [if_neg z2, if_neg (fun e => (List.mem_append.mp e).elim z2 (fun e2 => zz (List.mem_singleton.mp e2)))]) (by
      intro j hj
      rw [← hy4, wA_s]
      by_cases zz : j = S.length
      · rw [zz, pk_us, List.getD_eq_getElem?_getD, List.getElem?_append_right (Nat.le_refl _), Nat.sub_self]
        rfl
      · rw [pk_un (by omega), F1.2, hs j (by omega), List.getD_eq_getElem?_getD, List.getD_eq_getElem?_getD, List.getElem?_append_left (by omega)])
    rw [gl] at e5
    have good : fX14_readTable_205 X (fX14_readTable_156 X M) (b + 4) (nI t) (nI m) (nI S.length) (nI u) (b + 4) (rg_p lM b w0 y1) = some (rg_p lM b w0 y5) := by
      unfold fX14_readTable_205
      rw [e210 y1 y1 1 u r2 (m_must1 (by decide)), hy4]
      exact e5
    refine ⟨y5, start2 _ (ei_t rfl ?_), F4.trans F5, ?_⟩
    · by_cases t4 : t < 4
      · rw [if_pos t4] at hmo
        exact ei_n (nI_nlt (a := 3) (by omega) (by omega)) (ei_n (nI_ge (b := 12) (by omega) (by omega)) good)
      · exact ei_t (nI_lt (a := 3) (by omega) (by omega)) good
    · rcases o5 with o5 | ⟨p', S', s1, s2, s3, s4, s5, s6, s7, s8⟩
      · exact Or.inl o5
      · refine Or.inr ⟨p', S', s1, s2, s3, ?_, ?_, fun i hi => ?_, fun k hk => ?_, fun a h1 h2 h3 h4 => ?_⟩
        · rw [s4, ← hy4, wA_n _ _ (by decide), wA_n _ _ (by decide), F1.2]
        · rw [s5, ← hy4, wA_n _ _ (by decide), wA_n _ _ (by decide), F1.2]
        · rw [s6 i hi, ← hy4, wA_s, pk_un (by omega), F1.2]
        · rw [s7 k hk, ← hy4, wA_1, wA_1, F1.1 _ _ (by omega)]
        · rw [s8 a h1 h2 h3 h4, ← hy4, wA_n _ _ h2, wA_n _ _ h4, F1.2]
end
