/-! all word tables of a segment, by the reference -/
def wsY (y : rg_S) (T : sgW) : Prop := ∀ t, t < 8 → (T t = none ∧ y.2.2.1 13 t = 0) ∨ ∃ W, T t = some W ∧ y.2.2.1 13 t = 1 ∧ (∀ l, 1 ≤ l → l ≤ 16 → y.2.2.1 14 (17 * t + l) = nI (W.1 l)) ∧ y.2.2.1 16 t = nI W.2.length ∧ ∀ i, i < W.2.length → y.2.2.1 15 (256 * t + i) = nI (W.2.getD i 0)
section
variable {X : px_X} {b B : Nat} {w0 w1 : px_W} {y y' : rg_S} {c : sgC} {p t : Nat} {f : sgF}
theorem m_tab {most : Nat} {T : sgW} (ht : t < 8) (hmo : most = if t < 4 then 11 else 255) (h : kY y c p) (hO : TOk T) (hT : wsY y T) : ∃ y', fX14_readTable X (rg_p lM b w0 y) (b + 4) (nI t) = some (rg_p lM b w0 y') ∧ FYg y y' ∧ ((∃ f, sgB (sgCk c 16 1 p 0 0 (fun _ => 0)) (fun a => sgB (sgSk c most a.2.1 a.1 []) fun e => (.inr (e.1, (a.2.2, e.2)) : sgF ⊕ (Nat × (Nat → Nat) × List Nat))) = .inl f ∧ ftY y' f) ∨ ∃ p' W, sgB (sgCk c 16 1 p 0 0 (fun _ => 0)) (fun a => sgB (sgSk c most a.2.1 a.1 []) fun e => (.inr (e.1, (a.2.2, e.2)) : sgF ⊕ (Nat × (Nat → Nat) × List Nat))) = .inr (p', W) ∧ p + 16 ≤ p' ∧ kY y' c p' ∧ wsY y' (fun j => if j = t then some W else T j) ∧ (∀ k, ¬ (4 ≤ k ∧ k ≤ 6) → y'.1 4 k = y.1 4 k) ∧ ∀ a, ¬ (13 ≤ a ∧ a ≤ 16) → a ≠ 23 → y'.2.2.1 a = y.2.2.1 a) := by
  obtain ⟨A2, y1, e1, F1, a1, o1⟩ := m_ck (X := X) (b := b) (w0 := w0) (c := c) ht 16 1 p 0 0 FU (fun _ => 0) y (by omega) (by omega) (by unfold FU; omega) (fun z => by omega) rfl rfl (fun k hk => by rw [show k = 0 by omega]; decide) (fun _ => Nat.zero_le _) (by omega) (fun j a b => absurd b (by omega)) h
  generalize hy2 : rg_wA y1 23 (fU 256 (fun _ => 0) (y1.2.2.1 23)) = y2
  have F2 : FYg y y2 := by
    rw [← hy2]
    exact (F1.g (by omega)).trans (FYg.wA (by omega))
  have start : ∀ z, fX14_readTable_156 X FU (b + 4) (nI t) A2 (nI 0) (rg_p lM b w0 y2) = z → fX14_readTable X (rg_p lM b w0 y) (b + 4) (nI t) = z := by
    intro z hz
    unfold fX14_readTable
    refine Eq.trans (show fX14_readTable_7 X FU (b + 4) (nI t) (nI 0) (lI (0 : Nat)) (nI 1) (rg_p lM b w0 y) = _ from e1) ?_
    rw [m_seen, hy2]
    unfold fX14_readTable_153
    exact hz
  rcases o1 with ⟨f, r1, r2⟩ | ⟨q1, s', n', r1, r2, r3, r4⟩
  · rw [r1]
    have r2' : ftY y2 f := by rw [← hy2]; exact r2
    refine ⟨_, start _ (by rw [show FU = 3999999 + 1 from rfl]; exact m_t156_0 ht r2'), F2.trans (FYg.wA (by omega)), Or.inl ⟨f, rfl, r2'⟩⟩
  obtain ⟨⟨d1, d2, d3⟩, d4, d5, d6, d7⟩ := sgCk_ok (fun i hi => (h.2.2.2.2.2.2 i hi).2) 16 1 p 0 0 (fun _ => 0) (by omega) (by omega) rfl rfl (fun k hk => by rw [show k = 0 by omega]; decide) (fun _ => Nat.zero_le _) (by omega) r1
  rw [r1]
  obtain ⟨y3, e3, F3, o3⟩ := m_sk (X := X) (b := b) (w0 := w0) (c := c) (m := s') (most := most) ht d3 hmo s' q1 FU [] y2 (by rw [List.length_nil]; omega) (by unfold FU; omega) (by rw [← hy2]; exact r3.w (by decide)) (by
    intro s hs
    rw [← hy2, wA_s, fU_lt hs, if_neg List.not_mem_nil]) (fun j hj => absurd hj (by rw [List.length_nil]; omega))
  rw [r2] at start
  show ∃ y', _ ∧ _ ∧ ((∃ f, sgB (sgSk c most s' q1 []) (fun e => (.inr (e.1, (n', e.2)) : sgF ⊕ (Nat × (Nat → Nat) × List Nat))) = .inl f ∧ _) ∨ ∃ p' W, sgB (sgSk c most s' q1 []) (fun e => (.inr (e.1, (n', e.2)) : sgF ⊕ (Nat × (Nat → Nat) × List Nat))) = .inr (p', W) ∧ _)
  rcases o3 with ⟨f, s1, s2⟩ | ⟨p2, S', s1, s2, s3, s4, s5, s6, s7, s8⟩
  · rw [s1]
    exact ⟨y3, start _ e3, F2.trans F3, Or.inl ⟨f, rfl, s2⟩⟩
  obtain ⟨t1, t2, t3, t4⟩ := sgSk_ok (by rw [hmo]; split <;> decide) s' q1 [] (fun i hi => absurd hi (by rw [List.length_nil]; omega)) (fun i j hi => absurd hi (by rw [List.length_nil]; omega)) s1
  rw [List.length_nil, Nat.zero_add] at t1
  rw [s1]
  have b14 : y3.2.2.1 14 = y1.2.2.1 14 := by rw [s8 14 (by decide) (by decide) (by decide) (by decide), ← hy2, wA_n _ _ (by decide)]
  have b13 : y3.2.2.1 13 = upd (y.2.2.1 13) t 1 := by rw [s5, ← hy2, wA_n _ _ (by decide), F1.2.2.1 13 (by decide)]
  have b16 : y3.2.2.1 16 = upd (y.2.2.1 16) t (nI s') := by rw [s4, ← hy2, wA_n _ _ (by decide), F1.2.2.1 16 (by decide)]
  have b15 : ∀ i, ¬ (256 * t ≤ i ∧ i < 256 * t + 256) → y3.2.2.1 15 i = y.2.2.1 15 i := by
    intro i hi
    rw [s6 i hi, ← hy2, wA_n _ _ (by decide), F1.2.2.1 15 (by decide)]
  refine ⟨y3, start _ e3, F2.trans F3, Or.inr ⟨p2, (n', S'), rfl, by omega, s2, ?_, fun k hk => ?_, fun a ha1 ha2 => ?_⟩⟩
  · intro t' ht'
    by_cases e : t' = t
    · rw [e]
      refine Or.inr ⟨(n', S'), if_pos rfl, by rw [b13, pk_us], fun l la lb => by rw [b14]; exact r4 l la lb, by rw [b16, pk_us]; show nI s' = nI S'.length; rw [t1], fun i hi => s3 i (by have : i < S'.length := hi; omega)⟩
    · rw [show (fun j => if j = t then some (n', S') else T j) t' = T t' from if_neg e]
      rcases hT t' ht' with ⟨g1, g2⟩ | ⟨W, g1, g2, g3, g4, g5⟩
      · exact Or.inl ⟨g1, by rw [b13, pk_un e]; exact g2⟩
      · have w256 := (hO t' W g1).1.1
        exact Or.inr ⟨W, g1, by rw [b13, pk_un e]; exact g2, fun l la lb => by rw [b14, a1 _ (by omega)]; exact g3 l la lb, by rw [b16, pk_un e]; exact g4, fun i hi => by rw [b15 _ (by omega)]; exact g5 i hi⟩
  · rw [s7 k hk, ← hy2, wA_1, F1.1 _ _ (by omega)]
  · rw [s8 a (by omega) (by omega) (by omega) ha2, ← hy2, wA_n _ _ ha2, F1.2.2.1 a (by omega)]
theorem m_w2_0 {A1 : Int32} {M : Nat} (h : ftY y f) : fX14_readWords_2 X (M + 1) (b + 4) A1 (rg_p lM b w0 y) = some (rg_p lM b w0 y) := by
  rw [fX14_readWords_2.eq_2]
  exact ei_c (fun _ => rfl) (fun _ => ob_v (rg_I rfl rfl) (ei_n h.n rfl))
theorem m_ws : ∀ (r p M : Nat) (T : sgW) (y : rg_S), c.2.1 < p + r → r + 1 < M → kY y c p → TOk T → wsY y T → ∃ y', fX14_readWords_2 X M (b + 4) 1 (rg_p lM b w0 y) = some (rg_p lM b w0 y') ∧ FYg y y' ∧ ((∃ f, sgWs c r p T = .inl f ∧ ftY y' f) ∨ ∃ p' T', sgWs c r p T = .inr (p', T') ∧ kY y' c p' ∧ wsY y' T' ∧ (∀ k, ¬ (4 ≤ k ∧ k ≤ 6) → y'.1 4 k = y.1 4 k) ∧ ∀ a, ¬ (13 ≤ a ∧ a ≤ 16) → a ≠ 23 → y'.2.2.1 a = y.2.2.1 a) := by
  intro r
  induction r with
  | zero =>
    intro p M T y hr _ h _ _
    have := h.2.2.2.2.2.1.2.2.2.1
    omega
  | succ r ih =>
    intro p M T y hr hM h hO hT
    have hL := h.2.2.2.2.2.1
    obtain ⟨M, rfl⟩ : ∃ M', M = M' + 1 := ⟨M - 1, by omega⟩
    obtain ⟨M0, hM0⟩ : ∃ M', M = M' + 1 := ⟨M - 1, by omega⟩
    obtain ⟨v, y1, e1, F1, o1⟩ := m_nx (X := X) (b := b) (w0 := w0) h
    have start : ∀ z, (if 0 < y1.1 4 4 then fX14_readWords_43 X (fX14_readWords_2 X M) (b + 4) v (b + 4) (rg_p lM b w0 y1) else if v < 4 then fX14_readWords_43 X (fX14_readWords_2 X M) (b + 4) v (b + 4) (rg_p lM b w0 y1) else if v < 16 then fX14_readWords_47 X (fX14_readWords_2 X M) (b + 4) v (b + 4) (rg_p lM b w0 y1) else if 20 ≤ v then fX14_readWords_47 X (fX14_readWords_2 X M) (b + 4) v (b + 4) (rg_p lM b w0 y1) else fX14_readWords_43 X (fX14_readWords_2 X M) (b + 4) v (b + 4) (rg_p lM b w0 y1)) = z → fX14_readWords_2 X (M + 1) (b + 4) 1 (rg_p lM b w0 y) = z := by
      intro z hz
      rw [fX14_readWords_2.eq_2]
      exact ei_n (by decide) (ob_v (rg_I rfl rfl) (ei_t h.2.2.2.1 (ob_v (rg_O rfl) (ob_v e1 (ob_v (rg_I rfl rfl) hz)))))
    have tail : ∀ (z : rg_S) (f : sgF), ftY z f → fX14_readWords_77 X (fX14_readWords_2 X M) (b + 4) (rg_p lM b w0 z) = some (rg_p lM b w0 z) := by
      intro z f hf
      unfold fX14_readWords_77 fX14_readWords_93
      rw [hM0]
      exact ob_v (rg_I rfl rfl) (ob_v (rg_I rfl rfl) (ei_c (fun _ => m_w2_0 hf) (fun _ => m_w2_0 hf)))
    have e48 : ∀ (z z' : rg_S) (s0 v : Int32) (f : sgF), fX14_must X (rg_p lM b w0 z) (b + 4) s0 = some (rg_p lM b w0 z') → ftY z' f → fX14_readWords_48 X (fX14_readWords_2 X M) (b + 4) v s0 (b + 4) (rg_p lM b w0 z) = some (rg_p lM b w0 z') := by
      intro z z' s0 v f hm hf
      have e64 : ∀ q : Int32, fX14_readWords_64 X (fX14_readWords_2 X M) (b + 4) q (rg_p lM b w0 z') = some (rg_p lM b w0 z') := by
        intro q
        unfold fX14_readWords_64
        exact ob_v (rg_I rfl rfl) (ei_n hf.n (tail z' f hf))
      unfold fX14_readWords_48
      exact ob_v (rg_O rfl) (ob_v hm (ei_c (fun _ => e64 _) (fun _ => e64 _)))
    unfold sgWs sgI
    rcases o1 with ⟨f, r1, r2, r3⟩ | ⟨u, p1, r1, r2, r3, r4⟩
    · rw [r1]
      refine ⟨y1, start _ (ei_t r3.l ?_), F1.g, Or.inl ⟨f, rfl, r3⟩⟩
      unfold fX14_readWords_43
      exact e48 y1 y1 1 v f (m_must1 (by decide)) r3
    have g1 := sgN_p r1
    have n4 : ¬ 0 < y1.1 4 4 := by rw [r4.2.2.2.1]; decide
    rw [r3] at start
    rw [r1]
    obtain ⟨y2, e2, F2, f2⟩ := m_mustF (X := X) (b := b) (w0 := w0) (y := y1) r4.2.2.2.1 r4.1 (by omega) (by omega)
    rw [show (6, p1 - 1) = (6, p) by rw [g1.1]; rfl] at f2
    have bad : fX14_readWords_47 X (fX14_readWords_2 X M) (b + 4) (nI u) (b + 4) (rg_p lM b w0 y1) = some (rg_p lM b w0 y2) := by
      unfold fX14_readWords_47
      exact e48 y1 y2 0 (nI u) _ e2 f2
    show ∃ y', _ ∧ _ ∧ ((∃ f, sgB (if u < 0 ∨ 19 < u then (.inl (6, p) : sgF ⊕ (Nat × Nat)) else .inr (u, p1)) (fun b => if 3 < b.1 ∧ b.1 < 16 then .inl (6, p) else sgB (sgCk c 16 1 b.2 0 0 (fun _ => 0)) fun a => sgB (sgSk c (if b.1 < 4 then 11 else 255) a.2.1 a.1 []) fun e => if e.1 < c.2.2.1 then sgWs c r e.1 (fun t => if t = (if b.1 < 4 then b.1 else b.1 - 12) then some (a.2.2, e.2) else T t) else .inr (e.1, fun t => if t = (if b.1 < 4 then b.1 else b.1 - 12) then some (a.2.2, e.2) else T t)) = .inl f ∧ _) ∨ ∃ p' T', sgB (if u < 0 ∨ 19 < u then (.inl (6, p) : sgF ⊕ (Nat × Nat)) else .inr (u, p1)) (fun b => if 3 < b.1 ∧ b.1 < 16 then .inl (6, p) else sgB (sgCk c 16 1 b.2 0 0 (fun _ => 0)) fun a => sgB (sgSk c (if b.1 < 4 then 11 else 255) a.2.1 a.1 []) fun e => if e.1 < c.2.2.1 then sgWs c r e.1 (fun t => if t = (if b.1 < 4 then b.1 else b.1 - 12) then some (a.2.2, e.2) else T t) else .inr (e.1, fun t => if t = (if b.1 < 4 then b.1 else b.1 - 12) then some (a.2.2, e.2) else T t)) = .inr (p', T') ∧ _)
    by_cases d1 : 19 < u
    · rw [if_pos (by omega)]
      exact ⟨y2, start _ (ei_n n4 (ei_n (nI_nlt (b := 4) (by omega) (by omega)) (ei_n (nI_nlt (b := 16) (by omega) (by omega)) (ei_t (nI_le (a := 20) (by omega) (by omega)) bad)))), (F1.trans F2).g, Or.inl ⟨_, rfl, f2⟩⟩
    rw [if_neg (by omega)]
    show ∃ y', _ ∧ _ ∧ ((∃ f, (if 3 < u ∧ u < 16 then .inl (6, p) else sgB (sgCk c 16 1 p1 0 0 (fun _ => 0)) fun a => sgB (sgSk c (if u < 4 then 11 else 255) a.2.1 a.1 []) fun e => if e.1 < c.2.2.1 then sgWs c r e.1 (fun t => if t = (if u < 4 then u else u - 12) then some (a.2.2, e.2) else T t) else .inr (e.1, fun t => if t = (if u < 4 then u else u - 12) then some (a.2.2, e.2) else T t)) = .inl f ∧ _) ∨ ∃ p' T', (if 3 < u ∧ u < 16 then .inl (6, p) else sgB (sgCk c 16 1 p1 0 0 (fun _ => 0)) fun a => sgB (sgSk c (if u < 4 then 11 else 255) a.2.1 a.1 []) fun e => if e.1 < c.2.2.1 then sgWs c r e.1 (fun t => if t = (if u < 4 then u else u - 12) then some (a.2.2, e.2) else T t) else .inr (e.1, fun t => if t = (if u < 4 then u else u - 12) then some (a.2.2, e.2) else T t)) = .inr (p', T') ∧ _)
    by_cases d : 3 < u ∧ u < 16
    · rw [if_pos d]
      exact ⟨y2, start _ (ei_n n4 (ei_n (nI_nlt (b := 4) (by omega) (by omega)) (ei_t (nI_lt (b := 16) (by omega) (by omega)) bad))), (F1.trans F2).g, Or.inl ⟨_, rfl, f2⟩⟩
    rw [if_neg d]
    have hT1 : wsY y1 T := by
      unfold wsY
      rw [F1.2]
      exact hT
    obtain ⟨y3, e3, F3, o3⟩ := m_tab (X := X) (b := b) (w0 := w0) (c := c) (p := p1) (most := if u < 4 then 11 else 255) (T := T) (t := if u < 4 then u else u - 12) (by split <;> omega) (by
      by_cases u4 : u < 4
      · rw [if_pos u4, if_pos (by rw [if_pos u4]; exact u4)]
      · rw [if_neg u4, if_neg (by rw [if_neg u4]; omega)]) r4 hO hT1
    generalize hmo : (if u < 4 then 11 else 255) = most at *
    generalize htt : (if u < 4 then u else u - 12) = t at *
    have st2 : ∀ z, fX14_readWords_77 X (fX14_readWords_2 X M) (b + 4) (rg_p lM b w0 y3) = z → fX14_readWords_2 X (M + 1) (b + 4) 1 (rg_p lM b w0 y) = z := by
      intro z hz
      have e64 : fX14_readWords_64 X (fX14_readWords_2 X M) (b + 4) (nI t) (rg_p lM b w0 y1) = z := by
        unfold fX14_readWords_64
        exact ob_v (rg_I rfl rfl) (ei_t r4.2.2.2.1 (ob_v (rg_O rfl) (ob_v e3 hz)))
      have e43 : fX14_readWords_43 X (fX14_readWords_2 X M) (b + 4) (nI u) (b + 4) (rg_p lM b w0 y1) = z := by
        unfold fX14_readWords_43 fX14_readWords_48
        refine ob_v (rg_O rfl) (ob_v (m_must1 (by decide)) ?_)
        by_cases u4 : u < 4
        · rw [if_pos u4] at htt
          rw [htt]
          rw [htt] at u4
          exact ei_n (nI_ge (b := 4) u4 (by omega)) e64
        · rw [if_neg u4] at htt
          refine ei_t (nI_le (a := 4) (by omega) (by omega)) ?_
          rw [show nI u - 12 = nI (u - 12) from pk_sub (b := 12) (by omega), htt]
          exact e64
      by_cases u4 : u < 4
      · exact start _ (ei_n n4 (ei_t (nI_lt (b := 4) u4 (by omega)) e43))
      · exact start _ (ei_n n4 (ei_n (nI_nlt (b := 4) (by omega) (by omega)) (ei_n (nI_nlt (b := 16) (by omega) (by omega)) (ei_n (nI_ge (b := 20) (by omega) (by omega)) e43))))
    have eB : ∀ {β : Type} (k : Nat × (Nat → Nat) × List Nat → sgF ⊕ β), sgB (sgB (sgCk c 16 1 p1 0 0 (fun _ => 0)) (fun a => sgB (sgSk c most a.2.1 a.1 []) fun e => (.inr (e.1, (a.2.2, e.2)) : sgF ⊕ (Nat × (Nat → Nat) × List Nat)))) k = sgB (sgCk c 16 1 p1 0 0 (fun _ => 0)) fun a => sgB (sgSk c most a.2.1 a.1 []) fun e => k (e.1, (a.2.2, e.2)) := by
      intro β k
      rw [sgB_B]
      congr 1
      funext a
      rw [sgB_B]
      rfl
    rw [← eB fun z => if z.1 < c.2.2.1 then sgWs c r z.1 (fun j => if j = t then some z.2 else T j) else .inr (z.1, fun j => if j = t then some z.2 else T j)]
    rcases o3 with ⟨f, s1, s2⟩ | ⟨p2, W, s1, s2, s3, s4, s5, s6⟩
    · rw [s1]
      exact ⟨y3, st2 _ (tail y3 f s2), F1.g.trans F3, Or.inl ⟨f, rfl, s2⟩⟩
    rw [s1]
    show ∃ y', _ ∧ _ ∧ ((∃ f, (if p2 < c.2.2.1 then sgWs c r p2 (fun j => if j = t then some W else T j) else .inr (p2, fun j => if j = t then some W else T j)) = .inl f ∧ _) ∨ ∃ p' T', (if p2 < c.2.2.1 then sgWs c r p2 (fun j => if j = t then some W else T j) else .inr (p2, fun j => if j = t then some W else T j)) = .inr (p', T') ∧ _)
    have hO2 : TOk (fun j => if j = t then some W else T j) := by
      have one := sgWs_o (c := c) (fun i hi => (h.2.2.2.2.2.2 i hi).2) 1 p T hO (p' := p2) (T' := fun j => if j = t then some W else T j) (by
        unfold sgWs sgI
        rw [r1]
        show sgB (if u < 0 ∨ 19 < u then (.inl (6, p) : sgF ⊕ (Nat × Nat)) else .inr (u, p1)) _ = _
        rw [if_neg (by omega)]
        show (if 3 < u ∧ u < 16 then _ else _) = _
        rw [if_neg d, hmo, htt, ← eB fun z => if z.1 < c.2.2.1 then sgWs c 0 z.1 (fun j => if j = t then some z.2 else T j) else .inr (z.1, fun j => if j = t then some z.2 else T j), s1]
        show (if p2 < c.2.2.1 then sgWs c 0 p2 _ else _) = _
        split <;> rfl)
      exact one
    have i4 : ∀ k, ¬ (4 ≤ k ∧ k ≤ 6) → y3.1 4 k = y.1 4 k := fun k hk => (s5 k hk).trans (F1.1 _ _ (by omega))
    have a4 : ∀ a, ¬ (13 ≤ a ∧ a ≤ 16) → a ≠ 23 → y3.2.2.1 a = y.2.2.1 a := fun a h1 h2 => by rw [s6 a h1 h2, F1.2]
    have st4 : ∀ z, fX14_readWords_2 X M (b + 4) (if p2 < c.2.2.1 then 1 else 0) (rg_p lM b w0 y3) = z → fX14_readWords_2 X (M + 1) (b + 4) 1 (rg_p lM b w0 y) = z := by
      intro z hz
      refine st2 _ ?_
      unfold fX14_readWords_77 fX14_readWords_93
      refine ob_v (rg_I rfl rfl) (ob_v (rg_I rfl rfl) ?_)
      have kb := s3.2.2.2.2.2.1
      rw [s3.1, s3.2.2.1]
      by_cases dd : p2 < c.2.2.1
      · rw [if_pos dd] at hz
        exact ei_n (nI_ge dd (by omega)) hz
      · rw [if_neg dd] at hz
        exact ei_t (nI_le (by omega) (by omega)) hz
    by_cases dd : p2 < c.2.2.1
    · rw [if_pos dd] at st4 ⊢
      obtain ⟨y5, e5, F5, o5⟩ := ih p2 M _ y3 (by omega) (by omega) s3 hO2 s4
      refine ⟨y5, st4 _ e5, F1.g.trans (F3.trans F5), ?_⟩
      rcases o5 with o5 | ⟨p', T', t1, t2, t3, t4, t5⟩
      · exact Or.inl o5
      · exact Or.inr ⟨p', T', t1, t2, t3, fun k hk => (t4 k hk).trans (i4 k hk), fun a h1 h2 => (t5 a h1 h2).trans (a4 a h1 h2)⟩
    · rw [if_neg dd] at st4 ⊢
      refine ⟨y3, st4 _ ?_, F1.g.trans F3, Or.inr ⟨_, _, rfl, s3, s4, i4, a4⟩⟩
      rw [hM0, fX14_readWords_2.eq_2]
      exact ei_t rfl rfl
end
