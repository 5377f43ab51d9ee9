/-! markers and segments in turn, by the reference -/
theorem sgSg_7 {D : Nat → Nat} {L code : Nat} {s s2 : sgS} (n8 : code ≠ 218) (e : sgSg D L code s = .inr s2) : s2.1 7 = if code = 220 then 0 else s.1 7 := by
  rw [sgSg_e] at e
  split at e
  · cases e
  split at e
  · cases e
  unfold sgBy at e
  by_cases c1 : code = 219
  · rw [if_pos c1] at e
    obtain ⟨a, e1, e2⟩ := sgB_i e
    rw [← Sum.inr.inj e2, if_neg (by omega)]
    rfl
  rw [if_neg c1] at e
  by_cases c2 : code = 196
  · rw [if_pos c2] at e
    obtain ⟨a, e1, e2⟩ := sgB_i e
    rw [← Sum.inr.inj e2, if_neg (by omega)]
    rfl
  rw [if_neg c2] at e
  by_cases c3 : code = 221
  · rw [if_pos c3] at e
    obtain ⟨a, e1, e2⟩ := sgB_i e
    obtain ⟨e3, e4⟩ := sgE_i e2
    rw [e4, if_neg (by omega)]
    rfl
  rw [if_neg c3] at e
  by_cases c4 : code = 192 ∨ code = 194
  · rw [if_pos c4] at e
    obtain ⟨a, e1, e2⟩ := sgB_i e
    have : s2.1 7 = s.1 7 := by
      rw [← Sum.inr.inj e2]
      rfl
    rw [this, if_neg (show ¬ code = 220 by omega)]
  rw [if_neg c4, if_neg n8] at e
  by_cases c6 : code = 220
  · rw [if_pos c6] at e
    obtain ⟨a, e1, e2⟩ := sgB_i e
    obtain ⟨e3, e4⟩ := sgE_i e2
    rw [e4, if_pos c6]
    rfl
  rw [if_neg c6] at e
  split at e
  · cases e
  · rw [← Sum.inr.inj e, if_neg c6]
    rfl
def ln7 (s : sgS) : Int32 := if s.1 7 = 0 then 0 else 1
section
variable {X : px_X} {b B : Nat} {w0 w1 : px_W} {y y' z z' : rg_S} {c : sgC} {p i n nn L kd K iv u q : Nat} {f : sgF} {s : sgS} {D : Nat → Nat} {a2 a3 a5 a6 : Int32}
theorem m_r108 {k56 : Nat → Int32 → Int32 → px_W → Option (px_W)} (hu : u < 256) (hk : kd < 1000) (h12 : y.1 4 12 = nI kd) : fX14_readFile_108 X k56 (b + 4) a2 a3 (nI u) a5 a6 (rg_p lM b w0 y) = fX14_readFile_199 X k56 (b + 4) a2 a3 (nI u) a5 a6 (if (u = 192 ∨ u = 194) ∧ kd = 0 ∨ u = 218 ∧ kd ≠ 0 ∨ (u = 196 ∨ u = 219 ∨ u = 221 ∨ u = 254) ∨ 224 ≤ u ∧ u ≤ 239 then 1 else 0) (rg_p lM b w0 y) := by
  have ne : ∀ k, k < 256 → u ≠ k → ¬ nI u = nI k := fun k hk e z => e ((nI_eq (by omega) (by omega)).mp z)
  have t1 : ((u = 192 ∨ u = 194) ∧ kd = 0 ∨ u = 218 ∧ kd ≠ 0 ∨ (u = 196 ∨ u = 219 ∨ u = 221 ∨ u = 254) ∨ 224 ≤ u ∧ u ≤ 239) → fX14_readFile_194 X k56 (b + 4) a2 a3 (nI u) a5 a6 (rg_p lM b w0 y) = fX14_readFile_199 X k56 (b + 4) a2 a3 (nI u) a5 a6 (if (u = 192 ∨ u = 194) ∧ kd = 0 ∨ u = 218 ∧ kd ≠ 0 ∨ (u = 196 ∨ u = 219 ∨ u = 221 ∨ u = 254) ∨ 224 ≤ u ∧ u ≤ 239 then 1 else 0) (rg_p lM b w0 y) := by
    intro h
    rw [if_pos h]
    rfl
  have t0 : ¬ ((u = 192 ∨ u = 194) ∧ kd = 0 ∨ u = 218 ∧ kd ≠ 0 ∨ (u = 196 ∨ u = 219 ∨ u = 221 ∨ u = 254) ∨ 224 ≤ u ∧ u ≤ 239) → fX14_readFile_198 X k56 (b + 4) a2 a3 (nI u) a5 a6 (rg_p lM b w0 y) = fX14_readFile_199 X k56 (b + 4) a2 a3 (nI u) a5 a6 (if (u = 192 ∨ u = 194) ∧ kd = 0 ∨ u = 218 ∧ kd ≠ 0 ∨ (u = 196 ∨ u = 219 ∨ u = 221 ∨ u = 254) ∨ 224 ≤ u ∧ u ≤ 239 then 1 else 0) (rg_p lM b w0 y) := by
    intro h
    rw [if_neg h]
    rfl
  generalize hR : fX14_readFile_199 X k56 (b + 4) a2 a3 (nI u) a5 a6 (if (u = 192 ∨ u = 194) ∧ kd = 0 ∨ u = 218 ∧ kd ≠ 0 ∨ (u = 196 ∨ u = 219 ∨ u = 221 ∨ u = 254) ∨ 224 ≤ u ∧ u ≤ 239 then 1 else 0) (rg_p lM b w0 y) = R at *
  have e179 : ¬ ((u = 192 ∨ u = 194) ∧ kd = 0) → u ≠ 196 → u ≠ 219 → u ≠ 221 → u ≠ 254 → ¬ (224 ≤ u ∧ u ≤ 239) → fX14_readFile_179 X k56 (b + 4) a2 a3 (nI u) a5 a6 (rg_p lM b w0 y) = R := by
    intro h1 h2 h3 h4 h5 h6
    unfold fX14_readFile_179
    by_cases c8 : u = 218
    · refine ei_t (by rw [c8]; rfl) (ob_v (rg_I rfl rfl) ?_)
      rw [h12]
      by_cases z : kd = 0
      · exact ei_t (by rw [z]; decide) (t0 (by omega))
      · exact ei_n (nI_nle (by omega) (by omega)) (t1 (by omega))
    · exact ei_n (ne 218 (by decide) c8) (t0 (by omega))
  have e172 : (u = 192 ∨ u = 194) → fX14_readFile_172 X k56 (b + 4) a2 a3 (nI u) a5 a6 (rg_p lM b w0 y) = R := by
    intro h
    unfold fX14_readFile_172
    refine ob_v (rg_I rfl rfl) ?_
    rw [h12]
    by_cases z : kd = 0
    · exact ei_t (by rw [z]; rfl) (t1 (by omega))
    · exact ei_n (nI_ne0 (by omega) (by omega)) (e179 (by omega) (by omega) (by omega) (by omega) (by omega) (by omega))
  have e124 : ¬ (224 ≤ u ∧ u ≤ 239) → fX14_readFile_124 X k56 (b + 4) a2 a3 (nI u) a5 a6 (rg_p lM b w0 y) = R := by
    intro h
    unfold fX14_readFile_124
    by_cases c1 : u = 254
    · exact ei_t (by rw [c1]; rfl) (t1 (by omega))
    refine ei_n (ne 254 (by decide) c1) ?_
    by_cases c2 : u = 219
    · exact ei_t (by rw [c2]; rfl) (t1 (by omega))
    refine ei_n (ne 219 (by decide) c2) ?_
    by_cases c3 : u = 196
    · exact ei_t (by rw [c3]; rfl) (t1 (by omega))
    refine ei_n (ne 196 (by decide) c3) ?_
    by_cases c4 : u = 221
    · exact ei_t (by rw [c4]; rfl) (t1 (by omega))
    refine ei_n (ne 221 (by decide) c4) ?_
    by_cases c5 : u = 192
    · exact ei_t (by rw [c5]; rfl) (e172 (by omega))
    refine ei_n (ne 192 (by decide) c5) ?_
    by_cases c6 : u = 194
    · exact ei_t (by rw [c6]; rfl) (e172 (by omega))
    exact ei_n (ne 194 (by decide) c6) (e179 (by omega) c3 c2 c4 c1 h)
  unfold fX14_readFile_108
  by_cases g1 : u < 224
  · exact ei_t (nI_lt (b := 224) g1 (by omega)) (e124 (by omega))
  · refine ei_n (nI_nlt (b := 224) (by omega) (by omega)) ?_
    by_cases g2 : u ≤ 239
    · exact ei_t (nI_le (b := 239) g2 (by omega)) (t1 (by omega))
    · exact ei_n (nI_ge (a := 239) (by omega) (by omega)) (e124 (by omega))
theorem m_r56_0 {M : Nat} {A2 A3 : Int32} (h : ftY y f) : fX14_readFile_56 X (M + 1) (b + 4) A2 A3 (rg_p lM b w0 y) = some (rg_p lM b w0 y) := by
  rw [fX14_readFile_56.eq_2]
  exact ei_c (fun _ => rfl) (fun _ => ob_v (rg_I rfl rfl) (ei_n h.n rfl))
theorem m_r238_0 {M : Nat} {A2 A3 A4 : Int32} (h : ftY y f) : fX14_readFile_238 X (fX14_readFile_56 X (M + 1)) (b + 4) A2 A3 A4 (rg_p lM b w0 y) = some (rg_p lM b w0 y) := by
  unfold fX14_readFile_238 fX14_readFile_266 fX14_readFile_280
  exact ob_v (rg_I rfl rfl) (ei_n h.n (ob_v (rg_I rfl rfl) (ei_n h.n (m_r56_0 h))))
theorem m_turnS {M : Nat} (hp : fpY y D L (s.1 0)) (hs : fsY y s) (ok : sgOk s) (h3 : y.1 4 3 = 0) : ∃ y1, FYg y y1 ∧ ((∃ f, sgB (sgMk D L (s.1 0)) (fun a => if sgCs a.1 s then (.inr a : sgF ⊕ (Nat × Nat)) else .inl (4, a.2 - 1)) = .inl f ∧ ftY y1 f ∧ fX14_readFile_56 X (M + 2) (b + 4) (ln7 s) 1 (rg_p lM b w0 y) = some (rg_p lM b w0 y1)) ∨ (∃ q, sgB (sgMk D L (s.1 0)) (fun a => if sgCs a.1 s then (.inr a : sgF ⊕ (Nat × Nat)) else .inl (4, a.2 - 1)) = .inr (217, q) ∧ fpY y1 D L q ∧ fsY y1 s ∧ fX14_readFile_56 X (M + 2) (b + 4) (ln7 s) 1 (rg_p lM b w0 y) = some (rg_p lM b w0 y1)) ∨ ∃ u q, sgB (sgMk D L (s.1 0)) (fun a => if sgCs a.1 s then (.inr a : sgF ⊕ (Nat × Nat)) else .inl (4, a.2 - 1)) = .inr (u, q) ∧ sgCs u s ∧ u ≠ 217 ∧ u < 256 ∧ s.1 0 + 2 ≤ q ∧ fpY y1 D L q ∧ fsY y1 s ∧ fX14_readFile_56 X (M + 2) (b + 4) (ln7 s) 1 (rg_p lM b w0 y) = (fX14_segment X (rg_p lM b w0 y1) (b + 4) (nI u)).bind fun q => fX14_readFile_56 X (M + 1) (b + 4) q.1 1 q.2) := by
  obtain ⟨k1, k3, k6, k6b, k7, kc, kq, kl, k8⟩ := ok
  obtain ⟨v1, y1, e1, F1, o1⟩ := m_mk (X := X) (b := b) (w0 := w0) hp
  have fs1 : fsY y1 s := hs.k F1
  have h12 : y1.1 4 12 = nI (s.1 3) := fs1.2.2.1
  have start : ∀ z, (if v1 = 217 then (fX14_isSent X (rg_p lM b w0 y1) (b + 4)).bind fun q68 => if q68.1 = 0 then fX14_readFile_108 X (fX14_readFile_56 X (M + 1)) (b + 4) 0 1 v1 (y1.1 4 6 - 1) (ln7 s) q68.2 else fX14_readFile_194 X (fX14_readFile_56 X (M + 1)) (b + 4) 0 1 v1 (y1.1 4 6 - 1) (ln7 s) q68.2 else fX14_readFile_108 X (fX14_readFile_56 X (M + 1)) (b + 4) 0 1 v1 (y1.1 4 6 - 1) (ln7 s) (rg_p lM b w0 y1)) = z → fX14_readFile_56 X (M + 2) (b + 4) (ln7 s) 1 (rg_p lM b w0 y) = z := by
    intro z hz
    rw [fX14_readFile_56.eq_2]
    refine ei_n (by decide) (ob_v (rg_I rfl rfl) (ei_t hp.2.1 (ob_v (rg_I rfl rfl) (ei_t h3 (ob_v (rg_O rfl) (ob_v e1 (ob_v (rg_I rfl rfl) ?_)))))))
    by_cases c1 : v1 = 217
    · rw [if_pos c1] at hz
      exact ei_t c1 (ob_v (rg_O rfl) hz)
    · rw [if_neg c1] at hz
      exact ei_n c1 hz
  have bad : ∀ (f : sgF), v1 = 0 → ftY y1 f → fX14_readFile_56 X (M + 2) (b + 4) (ln7 s) 1 (rg_p lM b w0 y) = some (rg_p lM b w0 y1) := by
    intro f hv hf
    refine start _ (ei_n (by rw [hv]; decide) ?_)
    rw [hv, show (0 : Int32) = nI 0 from rfl, m_r108 (u := 0) (kd := s.1 3) (by decide) (by omega) h12]
    unfold fX14_readFile_199
    exact ob_v (rg_I rfl rfl) (ei_n hf.n (m_r238_0 hf))
  rcases o1 with ⟨f, r1, r2, r3⟩ | ⟨q, r1, r2, r3⟩ | ⟨u, q, r1, u0, hu, r2, r3⟩
  · rw [r1]
    exact ⟨y1, F1.g, Or.inl ⟨f, rfl, r3, bad f r2 r3⟩⟩
  · rw [r1]
    refine ⟨y1, F1.g, Or.inl ⟨_, ?_, r3, bad _ r2 r3⟩⟩
    show (if sgCs 0 s then (.inr (0, q) : sgF ⊕ (Nat × Nat)) else .inl (4, q - 1)) = _
    rw [if_neg (fun e => by omega)]
  · obtain ⟨g1, g2, g3, g4⟩ := sgMk_p r1
    have hL := hp.2.2.2.2.1
    rw [r1]
    show ∃ y1, _ ∧ ((∃ f, (if sgCs u s then (.inr (u, q) : sgF ⊕ (Nat × Nat)) else .inl (4, q - 1)) = .inl f ∧ _) ∨ (∃ q', (if sgCs u s then (.inr (u, q) : sgF ⊕ (Nat × Nat)) else .inl (4, q - 1)) = .inr (217, q') ∧ _) ∨ ∃ u' q', (if sgCs u s then (.inr (u, q) : sgF ⊕ (Nat × Nat)) else .inl (4, q - 1)) = .inr (u', q') ∧ _)
    have sm : (0 < s.1 6 ∧ ∀ k, k < s.1 6 → s.2.2.2.1 (64 * k) ≠ 0) ↔ (s.1 3 ≠ 0 ∧ ∀ k, k < s.1 6 → s.2.2.2.1 (64 * k) ≠ 0) := by
      constructor
      · intro e
        refine ⟨fun z => ?_, e.2⟩
        have := (k7 z).1
        have := e.1
        omega
      · intro e
        exact ⟨by have := k6b e.1; omega, e.2⟩
    -- whether the marker is known
    have known : ∃ kn : Int32, (kn = 1 ∧ ((u = 192 ∨ u = 194) ∧ s.1 3 = 0 ∨ u = 218 ∧ s.1 3 ≠ 0 ∨ (u = 217 ∧ s.1 3 ≠ 0) ∧ (∀ c, c < s.1 6 → s.2.2.2.1 (64 * c) ≠ 0) ∨ (u = 196 ∨ u = 219 ∨ u = 221 ∨ u = 254) ∨ 224 ≤ u ∧ u ≤ 239) ∨ kn = 0 ∧ ¬ ((u = 192 ∨ u = 194) ∧ s.1 3 = 0 ∨ u = 218 ∧ s.1 3 ≠ 0 ∨ (u = 217 ∧ s.1 3 ≠ 0) ∧ (∀ c, c < s.1 6 → s.2.2.2.1 (64 * c) ≠ 0) ∨ (u = 196 ∨ u = 219 ∨ u = 221 ∨ u = 254) ∨ 224 ≤ u ∧ u ≤ 239)) ∧ ∀ z, fX14_readFile_199 X (fX14_readFile_56 X (M + 1)) (b + 4) 0 1 (nI u) (nI (q - 1)) (ln7 s) kn (rg_p lM b w0 y1) = z → fX14_readFile_56 X (M + 2) (b + 4) (ln7 s) 1 (rg_p lM b w0 y) = z := by
      rw [r2, r3.1, show nI q - 1 = nI (q - 1) from pk_sub (b := 1) (by omega)] at start
      by_cases c7 : u = 217
      · have se := m_sent (X := X) (b := b) (w0 := w0) (y := y1) k6 fs1.2.2.2.2.1 fs1.2.2.2.2.2.2.2.2.1
        by_cases sent : 0 < s.1 6 ∧ ∀ k, k < s.1 6 → s.2.2.2.1 (64 * k) ≠ 0
        · rw [if_pos sent] at se
          refine ⟨1, Or.inl ⟨rfl, Or.inr (Or.inr (Or.inl ⟨⟨c7, (sm.mp sent).1⟩, sent.2⟩))⟩, fun z hz => start _ (ei_t (by rw [c7]; rfl) (ob_v se (ei_n (show ¬ (1 : Int32) = 0 by decide) hz)))⟩
        · rw [if_neg sent] at se
          refine ⟨0, Or.inr ⟨rfl, fun e => ?_⟩, fun z hz => start _ (ei_t (by rw [c7]; rfl) (ob_v se (ei_t rfl ?_)))⟩
          · rcases e with e | e | e | e | e
            · omega
            · omega
            · exact sent (sm.mpr ⟨e.1.2, e.2⟩)
            · omega
            · omega
          · have := m_r108 (X := X) (b := b) (w0 := w0) (y := y1) (k56 := fX14_readFile_56 X (M + 1)) (a2 := 0) (a3 := 1) (a5 := nI (q - 1)) (a6 := ln7 s) (u := u) (kd := s.1 3) hu (by omega) h12
            rw [if_neg (by omega)] at this
            exact this.trans hz
      · have e8 := m_r108 (X := X) (b := b) (w0 := w0) (y := y1) (k56 := fX14_readFile_56 X (M + 1)) (a2 := 0) (a3 := 1) (a5 := nI (q - 1)) (a6 := ln7 s) (u := u) (kd := s.1 3) hu (by omega) h12
        have n7 : ¬ nI u = 217 := fun e => c7 ((nI_eq (b := 217) (by omega) (by omega)).mp e)
        by_cases kn : (u = 192 ∨ u = 194) ∧ s.1 3 = 0 ∨ u = 218 ∧ s.1 3 ≠ 0 ∨ (u = 196 ∨ u = 219 ∨ u = 221 ∨ u = 254) ∨ 224 ≤ u ∧ u ≤ 239
        · rw [if_pos kn] at e8
          refine ⟨1, Or.inl ⟨rfl, by omega⟩, fun z hz => start _ (ei_n n7 (e8.trans hz))⟩
        · rw [if_neg kn] at e8
          refine ⟨0, Or.inr ⟨rfl, fun e => ?_⟩, fun z hz => start _ (ei_n n7 (e8.trans hz))⟩
          rcases e with e | e | e | e | e
          · omega
          · omega
          · exact c7 e.1.1
          · omega
          · omega
    obtain ⟨kn, hkn, st2⟩ := known
    have e229 : ∃ y2, FYq y1 y2 ∧ ftY y2 (4, q - 1) ∧ fX14_readFile_229 X (fX14_readFile_56 X (M + 1)) (b + 4) 0 1 (nI u) (nI (q - 1)) (rg_p lM b w0 y1) = some (rg_p lM b w0 y2) := by
      obtain ⟨y2, e2, F2, f1, f2⟩ := m_sw (X := X) (b := b) (w0 := w0) (y := y1) (f := 4) (q := q - 1) r3.2.1
      have ft : ftY y2 (4, q - 1) := ftY.i f1 f2 (by decide) (by decide) (by omega)
      refine ⟨y2, F2, ft, ?_⟩
      unfold fX14_readFile_229
      exact ob_v (rg_O rfl) (ob_v e2 (m_r238_0 ft))
    obtain ⟨y2, F2, f2, e229⟩ := e229
    by_cases cs : sgCs u s
    · rw [if_pos cs]
      have st3 : ∀ z, fX14_readFile_238 X (fX14_readFile_56 X (M + 1)) (b + 4) 0 1 (nI u) (rg_p lM b w0 y1) = z → fX14_readFile_56 X (M + 2) (b + 4) (ln7 s) 1 (rg_p lM b w0 y) = z := by
        intro z hz
        refine st2 _ ?_
        unfold fX14_readFile_199
        refine ob_v (rg_I rfl rfl) (ei_t r3.2.1 ?_)
        rcases cs with ⟨c1, c2⟩ | ⟨c1, c2⟩
        · refine ei_n ?_ (ei_t (by rw [c2]; rfl) hz)
          unfold ln7
          rw [if_neg c1]
          decide
        · refine ei_t ?_ (ei_n ?_ hz)
          · unfold ln7
            rw [if_pos c1]
          · rcases hkn with ⟨h1, _⟩ | ⟨_, h2⟩
            · rw [h1]; decide
            · exact absurd c2 h2
      by_cases c7 : u = 217
      · refine ⟨rg_wI y1 4 9 (nI q), F1.g.trans (FYg.wI (by omega)), Or.inr (Or.inl ⟨q, by rw [c7], r3.wi (by omega), fs1.k (FYkk.wI (by omega)), st3 _ ?_⟩)⟩
        unfold fX14_readFile_238 fX14_readFile_280
        refine ob_v (rg_I rfl rfl) (ei_t r3.2.1 (ei_t (by rw [c7]; rfl) (ob_v (rg_I rfl rfl) (ob_v (rg_pI rfl rfl _) ?_))))
        rw [fX14_readFile_56.eq_2, r3.1]
        exact ei_t rfl rfl
      · refine ⟨y1, F1.g, Or.inr (Or.inr ⟨u, q, rfl, cs, c7, hu, g1, r3, fs1, st3 _ ?_⟩)⟩
        unfold fX14_readFile_238 fX14_readFile_266
        exact ob_v (rg_I rfl rfl) (ei_t r3.2.1 (ei_n (fun e => c7 ((nI_eq (b := 217) (by omega) (by omega)).mp e)) (ob_v (rg_I rfl rfl) (ei_t r3.2.1 (ob_v (rg_O rfl) rfl)))))
    · rw [if_neg cs]
      refine ⟨y2, F1.g.trans F2.g, Or.inl ⟨_, rfl, f2, st2 _ ?_⟩⟩
      unfold fX14_readFile_199
      refine ob_v (rg_I rfl rfl) (ei_t r3.2.1 ?_)
      by_cases l7 : s.1 7 = 0
      · refine ei_t ?_ (ei_t ?_ e229)
        · unfold ln7
          rw [if_pos l7]
        · rcases hkn with ⟨_, h2⟩ | ⟨h1, _⟩
          · exact absurd (Or.inr ⟨l7, h2⟩) cs
          · exact h1
      · refine ei_n ?_ (ei_n ?_ e229)
        · unfold ln7
          rw [if_neg l7]
          decide
        · exact fun e => cs (Or.inl ⟨l7, (nI_eq (b := 220) (by omega) (by omega)).mp e⟩)
end
