/-! all segments up to a scan, and the first pass, by the reference -/
section
variable {X : px_X} {b B : Nat} {w0 w1 : px_W} {y y' z z' : rg_S} {c : sgC} {p i n nn L kd K iv u q : Nat} {f : sgF} {s : sgS} {D : Nat → Nat} {a2 a3 a5 a6 : Int32}
theorem m_nsS : ∀ (r M : Nat) (y : rg_S) (s : sgS), L < s.1 0 + r → L + 10 < s.1 0 + M → fpY y D L (s.1 0) → fsY y s → sgOk s → sgO2 s → y.1 4 3 = 0 → ∃ y', FYg y y' ∧ ((∃ f, sgNs D L r s = .inl f ∧ ftY y' f ∧ fX14_readFile_56 X M (b + 4) (ln7 s) 1 (rg_p lM b w0 y) = some (rg_p lM b w0 y')) ∨ (∃ s2, sgNs D L r s = .inr (false, s2) ∧ fpY y' D L (s2.1 0) ∧ fsY y' s2 ∧ fX14_readFile_56 X M (b + 4) (ln7 s) 1 (rg_p lM b w0 y) = some (rg_p lM b w0 y')) ∨ (∃ s2, sgNs D L r s = .inr (true, s2) ∧ s.1 0 + 2 ≤ s2.1 0 ∧ sgBad D (s2.1 0) ∧ ftY y' (4, s2.1 0 + 1) ∧ fX14_readFile_56 X M (b + 4) (ln7 s) 1 (rg_p lM b w0 y) = some (rg_p lM b w0 y')) ∨ ∃ s2 M', sgNs D L r s = .inr (true, s2) ∧ (sgOk s2 ∧ sgO2 s2 ∧ sgKp s s2) ∧ ¬ sgBad D (s2.1 0) ∧ s.1 0 + 2 ≤ s2.1 0 ∧ L + 10 < s2.1 0 + M' ∧ fpY y' D L (s2.1 0) ∧ fsY y' s2 ∧ (scR y' (30 * s.1 8) (s2.1 10) (s2.1 11) (s2.1 12) (s2.1 13) (s2.1 14) (s2.1 15) (s2.1 1) ∧ scM y' (30 * s.1 8) s2.2.2.2.2.2.1 (s2.1 10) ∧ y'.2.2.1 17 (30 * s.1 8 + 6) = nI (s2.1 16 - s2.1 15)) ∧ (s2.1 7 ≠ 0 → s2.1 8 = 1) ∧ s2.1 8 = s.1 8 + 1 ∧ fX14_readFile_56 X M (b + 4) (ln7 s) 1 (rg_p lM b w0 y) = ((kTl X b (nI (30 * s.1 8)) (rg_p lM b w0 y')).bind (sTl b)).bind fun q => fX14_readFile_56 X M' (b + 4) q.1 1 q.2) := by
  intro r
  induction r with
  | zero =>
    intro M y s hr _ hp
    have := hp.2.2.2.2.1.2.1
    omega
  | succ r ih =>
    intro M y s hr hM hp hs ok o2 h3
    have hL := hp.2.2.2.2.1
    have hD := hp.2.2.2.2.2
    have oc := o2.2.2.2.2.2.2.1
    obtain ⟨M, rfl⟩ : ∃ M', M = M' + 2 := ⟨M - 2, by omega⟩
    obtain ⟨y1, F1, o1⟩ := m_turnS (X := X) (b := b) (w0 := w0) (M := M) hp hs ok h3
    rw [sgNs_e]
    rcases o1 with ⟨f, r1, r2, r3⟩ | ⟨q, r1, r2, r3, r4⟩ | ⟨u, q, r1, cs, u7, hu, hq, p1, fs1, e1⟩
    · rw [r1]
      exact ⟨y1, F1, Or.inl ⟨f, rfl, r2, r3⟩⟩
    · rw [r1]
      refine ⟨y1, F1, Or.inr (Or.inl ⟨(uG s.1 0 q, s.2), rfl, r2, r3.n (fun k h1 h2 h3 => uG_n _ _ (by omega)) rfl rfl rfl rfl, r4⟩)⟩
    rw [r1]
    have hq2 := p1.2.2.2.2.1
    have fs2 : fsY y1 (uG s.1 0 q, s.2) := fs1.n (fun k h1 h2 h3 => uG_n _ _ (by omega)) rfl rfl rfl rfl
    have ok1 : sgOk (uG s.1 0 q, s.2) := ok
    have hDl : ∀ i, i < L → D i < 256 := fun i hi => (hD i hi).2
    have eB8 : u = 218 → (sgB (.inr (u, q) : sgF ⊕ (Nat × Nat)) fun a => if a.1 = 217 then .inr (false, (uG s.1 0 a.2, s.2)) else sgB (sgSg D L a.1 (uG s.1 0 a.2, s.2)) fun s2 => if a.1 = 218 then .inr (true, s2) else sgNs D L r s2) = sgB (sgSg D L u (uG s.1 0 q, s.2)) fun s2 => (.inr (true, s2) : sgF ⊕ (Bool × sgS)) := by
      intro h
      show (if u = 217 then _ else _) = _
      rw [if_neg u7]
      congr 1
      funext s2
      exact if_pos h
    have eBn : u ≠ 218 → (sgB (.inr (u, q) : sgF ⊕ (Nat × Nat)) fun a => if a.1 = 217 then .inr (false, (uG s.1 0 a.2, s.2)) else sgB (sgSg D L a.1 (uG s.1 0 a.2, s.2)) fun s2 => if a.1 = 218 then .inr (true, s2) else sgNs D L r s2) = sgB (sgSg D L u (uG s.1 0 q, s.2)) fun s2 => sgNs D L r s2 := by
      intro h
      show (if u = 217 then _ else _) = _
      rw [if_neg u7]
      congr 1
      funext s2
      exact if_neg h
    by_cases c8 : u = 218
    · rw [eB8 c8]
      have k0 : s.1 3 ≠ 0 := by
        rcases cs with cs | cs <;> omega
      have o8 := m_sg8 (X := X) (b := b) (w0 := w0) (y := y1) (D := D) (L := L) (s := (uG s.1 0 q, s.2)) p1 fs2 ok1 o2.2.1 k0 (by show 4 * s.1 2 + 2 ≤ q; omega) (by show 10 * s.1 8 + 2 ≤ q; omega)
      rw [c8] at e1 cs ⊢
      rcases o8 with ⟨f, y2, v, t1, F2, t2, t3⟩ | ⟨s2, y2, v, t1, t2, F2, t3, t4⟩ | ⟨s2, y2, t1, t2, F2, t3, t4, t5, t6, t7, t8, t9⟩
      · rw [t1]
        exact ⟨y2, F1.trans F2, Or.inl ⟨f, rfl, t2, e1.trans (ob_v t3 (m_r56_0 t2))⟩⟩
      · obtain ⟨_, _, _, z4⟩ := sgSg_ok hDl hL.1 ok o2 cs hq t1
        rw [t1]
        exact ⟨y2, F1.trans F2, Or.inr (Or.inr (Or.inl ⟨s2, rfl, by omega, t2, t3, e1.trans (ob_v t4 (m_r56_0 t3))⟩))⟩
      · obtain ⟨z1, z2, z3, z4⟩ := sgSg_ok hDl hL.1 ok o2 cs hq t1
        have z8 := sgSg_8 t1
        rw [t1]
        refine ⟨y2, F1.trans F2, Or.inr (Or.inr (Or.inr ⟨s2, M + 1, rfl, ⟨z1, z2, z3⟩, t2, by omega, by omega, t3, t4, ⟨t5, t6, t7⟩, t8, z8, ?_⟩))⟩
        rw [e1, t9]
        rfl
    · rw [eBn c8]
      obtain ⟨y2, e2, F2, o2'⟩ := m_sg (X := X) (b := b) (w0 := w0) (y := y1) (D := D) (L := L) (s := (uG s.1 0 q, s.2)) hu c8 p1 fs2 ok1 o2.2.2.2.2.2.2.2.1 (by show 4 * s.1 2 + 2 ≤ q; omega) (by show 2 ≤ q; omega)
      have e2' : fX14_readFile_56 X (M + 2) (b + 4) (ln7 s) 1 (rg_p lM b w0 y) = fX14_readFile_56 X (M + 1) (b + 4) 0 1 (rg_p lM b w0 y2) := e1.trans (ob_v e2 rfl)
      rcases o2' with ⟨f, t1, t2⟩ | ⟨s2, t1, t2, t3⟩
      · rw [t1]
        exact ⟨y2, F1.trans F2, Or.inl ⟨f, rfl, t2, e2'.trans (m_r56_0 t2)⟩⟩
      · obtain ⟨z1, z2, z3, z4⟩ := sgSg_ok hDl hL.1 ok o2 cs hq t1
        have z8 := sgSg_8 t1
        rw [if_neg c8] at z8
        have z8 : s2.1 8 = s.1 8 + 0 := z8
        have z7 := sgSg_7 c8 t1
        have l2 : ln7 s2 = 0 := by
          unfold ln7
          rw [if_pos]
          rw [z7]
          by_cases c220 : u = 220
          · rw [if_pos c220]
          · rw [if_neg c220]
            show s.1 7 = 0
            rcases cs with cs | cs
            · exact absurd cs.2 c220
            · exact cs.1
        rw [t1]
        show ∃ y', _ ∧ ((∃ f, sgNs D L r s2 = .inl f ∧ _) ∨ (∃ s3, sgNs D L r s2 = .inr (false, s3) ∧ _) ∨ (∃ s3, sgNs D L r s2 = .inr (true, s3) ∧ _) ∨ ∃ s3 M', sgNs D L r s2 = .inr (true, s3) ∧ _)
        obtain ⟨y3, F3, o3⟩ := ih (M + 1) y2 s2 (by omega) (by omega) t2 t3 z1 z2 (by rw [F2.2.1.2, F1.2.1.2]; exact h3)
        rw [l2] at o3
        refine ⟨y3, F1.trans (F2.trans F3), ?_⟩
        rcases o3 with ⟨f, q1, q2, q3⟩ | ⟨s3, q1, q2, q3, q4⟩ | ⟨s3, q1, q2, q3, q4, q5⟩ | ⟨s3, M', q1, ⟨q2, q2b, q2c⟩, q3, q4, q5, q6, q7, q8, q9, q10, q11⟩
        · exact Or.inl ⟨f, q1, q2, e2'.trans q3⟩
        · exact Or.inr (Or.inl ⟨s3, q1, q2, q3, e2'.trans q4⟩)
        · exact Or.inr (Or.inr (Or.inl ⟨s3, q1, by omega, q3, q4, e2'.trans q5⟩))
        · rw [show s2.1 8 = s.1 8 by omega] at q8 q10 q11
          exact Or.inr (Or.inr (Or.inr ⟨s3, M', q1, ⟨q2, q2b, z3.trans q2c⟩, q3, by omega, q5, q6, q7, q8, q9, q10, e2'.trans q11⟩))
theorem sgPs_bad {r : Nat} {s : sgS} (h : sgBad D (s.1 0)) (h1 : s.1 0 + 1 < L) (h2 : D (s.1 0) = 255) (hr : L < s.1 0 + r) : sgPs D L r s = .inl (4, s.1 0 + 1) := by
  obtain ⟨r, rfl⟩ : ∃ r', r = r' + 1 := ⟨r - 1, by omega⟩
  obtain ⟨L, rfl⟩ : ∃ r', L = r' + 1 := ⟨L - 1, by omega⟩
  unfold sgBad at h
  have e : sgMk D (L + 1) (s.1 0) = .inr (D (s.1 0 + 1), s.1 0 + 2) := by
    unfold sgMk
    rw [if_neg (fun e => e.2 h2)]
    rw [sgSk2, if_neg (by omega), if_pos h2, sgSk2, if_neg (by omega), if_neg (by omega)]
  rw [sgPs, sgNs_e, e]
  show sgB (sgB (if sgCs (D (s.1 0 + 1)) s then (.inr (D (s.1 0 + 1), s.1 0 + 2) : sgF ⊕ (Nat × Nat)) else .inl (4, s.1 0 + 2 - 1)) _) _ = _
  rw [if_neg (by omega)]
  rfl
/-- the answer behind a scan says whether lines are due -/
theorem sTl_7 (hs : fsY y s) (o2 : sgO2 s) (h3 : s.1 3 ≠ 0) (h7 : s.1 7 ≠ 0 → s.1 8 = 1) (h8 : s.1 8 < 10000) (h8b : s.1 8 ≠ 0) : sTl b (rg_p lM b w0 y) = some (ln7 s, rg_p lM b w0 y) := by
  obtain ⟨_, _, _, a4, _, a6, _⟩ := hs
  obtain ⟨_, _, b3, _, b5, b6, _⟩ := o2
  have b6 := b6 h3
  unfold sTl ln7
  refine ob_v (rg_I rfl rfl) ?_
  rw [(a4 h3).2]
  by_cases z : s.1 5 = 0
  · refine ei_t (by rw [z]; rfl) (ob_v (rg_I rfl rfl) ?_)
    rw [a6]
    have g := (b3 h3 z).2
    have n7 : s.1 7 ≠ 0 := by omega
    rw [if_neg n7, h7 n7]
    exact ei_t rfl rfl
  · refine ei_n (nI_ne0 (by omega) (by omega)) ?_
    have : s.1 7 = 0 := by
      by_cases q : s.1 7 = 0
      · exact q
      · exact absurd (b5 q).2 z
    rw [if_pos this]
theorem m_psS (hD : ∀ i, D i < 256) : ∀ (r M : Nat) (y : rg_S) (s : sgS), L < s.1 0 + r → L + 10 < s.1 0 + M → fpY y D L (s.1 0) → fsY y s → sgOk s → sgO2 s → y.1 4 3 = 0 → y.2.1 4 2 = 0 → ∃ y', FYg y y' ∧ fX14_readFile_56 X M (b + 4) (ln7 s) 1 (rg_p lM b w0 y) = some (rg_p lM b w0 y') ∧ ((∃ f, sgPs D L r s = .inl f ∧ ftY y' f) ∨ ∃ s2, sgPs D L r s = .inr s2 ∧ fpY y' D L (s2.1 0) ∧ fsY y' s2) := by
  intro r
  induction r with
  | zero =>
    intro M y s hr _ hp
    have := hp.2.2.2.2.1.2.1
    omega
  | succ r ih =>
    intro M y s hr hM hp hs ok o2 h3 h2
    have hL := hp.2.2.2.2.1
    have oc := o2.2.2.2.2.2.2.1
    obtain ⟨y1, F1, o1⟩ := m_nsS (X := X) (b := b) (w0 := w0) (D := D) (L := L) (L + 1) M y s (by omega) hM hp hs ok o2 h3
    rw [sgPs]
    rcases o1 with ⟨f, r1, r2, r3⟩ | ⟨s2, r1, r2, r3, r4⟩ | ⟨s2, r1, r2, r3, r4, r5⟩ | ⟨s2, M', r1, ⟨z1, z2, z3⟩, r3, r4, r5, r6, r7, r8, r9, r10, r11⟩
    · rw [r1]
      exact ⟨y1, F1, r3, Or.inl ⟨f, rfl, r2⟩⟩
    · rw [r1]
      exact ⟨y1, F1, r4, Or.inr ⟨s2, rfl, r2, r3⟩⟩
    · have A := (sgNs_a hD hL.1 _ _ _ ok o2 r1).1 rfl
      obtain ⟨_, _, _, _, ⟨_, g2, g3, g4, _⟩, _⟩ := A
      have g2 : s2.1 16 + 1 < L := g2
      have g3 : s2.1 0 = s2.1 16 := g3
      have g4 : D (s2.1 16) = 255 := g4
      rw [r1]
      refine ⟨y1, F1, r5, Or.inl ⟨_, ?_, r4⟩⟩
      show sgPs D L r s2 = _
      exact sgPs_bad r3 (by omega) (by rw [g3]; exact g4) (by omega)
    · have A := (sgNs_a hD hL.1 _ _ _ ok o2 r1).1 rfl
      have k3 : s2.1 3 ≠ 0 := A.2.2.2.2.2.2.2.1
      have c2 := z2.2.2.2.2.2.2.1
      have l2 := r6.2.2.2.2.1
      rw [r1]
      show ∃ y', _ ∧ _ ∧ ((∃ f, sgPs D L r s2 = .inl f ∧ _) ∨ ∃ s3, sgPs D L r s2 = .inr s3 ∧ _)
      have t1 : y1.2.1 4 2 = 0 := by rw [F1.2.2.1]; exact h2
      obtain ⟨y2, F2, e2, o2'⟩ := ih M' y1 s2 (by omega) r5 r6 r7 z1 z2 (by rw [F1.2.1.2]; exact h3) t1
      refine ⟨y2, F1.trans F2, ?_, o2'⟩
      rw [r11]
      exact (ob_v (ob_v (kTl_0 t1) (sTl_7 r7 z2 k3 r9 (by omega) (by omega))) rfl).trans e2
end
