/-! the first pass over a file, by the class -/
theorem sgSg_8 {D : Nat → Nat} {L code : Nat} {s s2 : sgS} (e : sgSg D L code s = .inr s2) : s2.1 8 = s.1 8 + (if code = 218 then 1 else 0) := by
  rw [sgSg_e] at e
  split at e
  · cases e
  split at e
  · cases e
  unfold sgBy at e
  by_cases c1 : code = 219
  · rw [if_pos c1] at e
    obtain ⟨a, e1, e2⟩ := sgB_i e
    rw [← Sum.inr.inj e2, if_neg (by omega)]
    rfl
  rw [if_neg c1] at e
  by_cases c2 : code = 196
  · rw [if_pos c2] at e
    obtain ⟨a, e1, e2⟩ := sgB_i e
    rw [← Sum.inr.inj e2, if_neg (by omega)]
    rfl
  rw [if_neg c2] at e
  by_cases c3 : code = 221
  · rw [if_pos c3] at e
    obtain ⟨a, e1, e2⟩ := sgB_i e
    obtain ⟨e3, e4⟩ := sgE_i e2
    rw [e4, if_neg (by omega)]
    rfl
  rw [if_neg c3] at e
  by_cases c4 : code = 192 ∨ code = 194
  · rw [if_pos c4] at e
    obtain ⟨a, e1, e2⟩ := sgB_i e
    have : s2.1 8 = s.1 8 := by
      rw [← Sum.inr.inj e2]
      rfl
    rw [this, if_neg (show ¬ code = 218 by omega)]
    rfl
  rw [if_neg c4] at e
  by_cases c5 : code = 218
  · rw [if_pos c5] at e
    obtain ⟨a, e1, e2⟩ := sgB_i e
    obtain ⟨ed, e3, e4⟩ := sgB_i e2
    obtain ⟨nn, mb, fi, la, bf, bb, p1', p2', p3', _, _, _, _, _, _, f7⟩ := sgSc_i e1
    rw [← Sum.inr.inj e4, f7, if_pos c5]
    rfl
  rw [if_neg c5] at e
  by_cases c6 : code = 220
  · rw [if_pos c6] at e
    obtain ⟨a, e1, e2⟩ := sgB_i e
    obtain ⟨e3, e4⟩ := sgE_i e2
    rw [e4, if_neg (by omega)]
    rfl
  rw [if_neg c6] at e
  split at e
  · cases e
  · rw [← Sum.inr.inj e, if_neg c5]
    rfl
theorem sgNs_e {D : Nat → Nat} {L r : Nat} {s : sgS} : sgNs D L (r + 1) s = sgB (sgB (sgMk D L (s.1 0)) (fun a => if sgCs a.1 s then (.inr a : sgF ⊕ (Nat × Nat)) else .inl (4, a.2 - 1))) fun a => if a.1 = 217 then .inr (false, (uG s.1 0 a.2, s.2)) else sgB (sgSg D L a.1 (uG s.1 0 a.2, s.2)) fun s2 => if a.1 = 218 then .inr (true, s2) else sgNs D L r s2 := by
  rw [sgNs, sgB_B]
  congr 1
  funext a
  by_cases z : sgCs a.1 s
  · rw [if_pos z, if_pos z]
    rfl
  · rw [if_neg z, if_neg z]
    rfl
/-- a height that the frame left open is the one that was told -/
def l9 (s : sgS) (ln : Nat) : Prop := s.1 3 ≠ 0 → s.1 9 ≠ 0 → s.1 5 ≠ 0 → ln = s.1 5
theorem sgSg_l9 {D : Nat → Nat} {L code ln : Nat} {s s2 : sgS} (e : sgSg D L code s = .inr s2) (h : l9 s ln) : l9 s2 (if code = 220 then s2.1 5 else ln) := by
  have key : code ≠ 220 → (code = 192 ∨ code = 194 → s2.1 9 ≠ 0 → s2.1 5 = 0) ∧ (¬ (code = 192 ∨ code = 194) → s2.1 3 = s.1 3 ∧ s2.1 9 = s.1 9 ∧ s2.1 5 = s.1 5) := by
    intro n220
    rw [sgSg_e] at e
    split at e
    · cases e
    split at e
    · cases e
    unfold sgBy at e
    by_cases c1 : code = 219
    · rw [if_pos c1] at e
      obtain ⟨a, e1, e2⟩ := sgB_i e
      rw [← Sum.inr.inj e2]
      exact ⟨fun z => by omega, fun _ => ⟨rfl, rfl, rfl⟩⟩
    rw [if_neg c1] at e
    by_cases c2 : code = 196
    · rw [if_pos c2] at e
      obtain ⟨a, e1, e2⟩ := sgB_i e
      rw [← Sum.inr.inj e2]
      exact ⟨fun z => by omega, fun _ => ⟨rfl, rfl, rfl⟩⟩
    rw [if_neg c2] at e
    by_cases c3 : code = 221
    · rw [if_pos c3] at e
      obtain ⟨a, e1, e2⟩ := sgB_i e
      obtain ⟨e3, e4⟩ := sgE_i e2
      rw [e4]
      exact ⟨fun z => by omega, fun _ => ⟨rfl, rfl, rfl⟩⟩
    rw [if_neg c3] at e
    by_cases c4 : code = 192 ∨ code = 194
    · rw [if_pos c4] at e
      obtain ⟨a, e1, e2⟩ := sgB_i e
      rw [← Sum.inr.inj e2]
      refine ⟨fun _ => ?_, fun z => absurd c4 z⟩
      show (if a.1 = 0 then 1 else 0) ≠ 0 → a.1 = 0
      intro z
      by_cases q : a.1 = 0
      · exact q
      · rw [if_neg q] at z
        exact absurd rfl z
    rw [if_neg c4] at e
    by_cases c5 : code = 218
    · rw [if_pos c5] at e
      obtain ⟨a, e1, e2⟩ := sgB_i e
      obtain ⟨ed, e3, e4⟩ := sgB_i e2
      obtain ⟨nn, mb, fi, la, bf, bb, p1', p2', p3', _, _, _, _, _, _, f7⟩ := sgSc_i e1
      rw [← Sum.inr.inj e4, f7]
      exact ⟨fun z => by omega, fun _ => ⟨rfl, rfl, rfl⟩⟩
    rw [if_neg c5, if_neg n220] at e
    split at e
    · cases e
    · rw [← Sum.inr.inj e]
      exact ⟨fun z => absurd z c4, fun _ => ⟨rfl, rfl, rfl⟩⟩
  by_cases c : code = 220
  · rw [if_pos c]
    exact fun _ _ _ => rfl
  · rw [if_neg c]
    obtain ⟨k1, k2⟩ := key c
    by_cases c4 : code = 192 ∨ code = 194
    · intro _ z9 z5
      exact absurd (k1 c4 z9) z5
    · obtain ⟨a1, a2, a3⟩ := k2 c4
      unfold l9
      rw [a1, a2, a3]
      exact h
def nsX (x' : rg_S) (P : Nat) (D : Nat → Nat) (L ln : Nat) (s : sgS) (o : Bool × sgS) : Prop := fpX x' D L (o.2.1 0) ∧ fsX x' P o.2 ∧ sgOk o.2 ∧ sgO2 o.2 ∧ sgKp s o.2 ∧ s.1 0 + 2 ≤ o.2.1 0 ∧ (o.1 = true → scX x' o.2) ∧ (o.1 = false → o.2.1 7 = 0 ∧ o.2.1 3 ≠ 0 ∧ ∀ c, c < o.2.1 6 → o.2.2.2.2.1 (64 * c) ≠ 0) ∧ o.2.1 8 = s.1 8 + (if o.1 = true then 1 else 0) ∧ ∃ ln', hX x' P ln' o.2 ∧ (ln' = ln ∨ ln' = o.2.1 5 ∧ o.2.1 5 ≠ 0 ∧ o.2.1 3 ≠ 0) ∧ (l9 s ln → l9 o.2 ln')
section
variable {X : px_X} {b B : Nat} {w0 w1 : px_W} {x x' : rg_S} {p P L ln : Nat} {s : sgS} {D : Nat → Nat}
theorem x_ns : ∀ (r turn M ln : Nat) (x : rg_S) (s : sgS), L < s.1 0 + r → turn + 2 ≤ s.1 0 → r < M → fpX x D L (s.1 0) → fsX x P s → sgOk s → sgO2 s → hX x P ln s → ∃ v x', fX8_nextScan_2 X M (B + 40) (nI turn) (rg_p lX B w0 x) = some (v, rg_p lX B w0 x') ∧ FXsg P x x' ∧ ((∃ f, sgNs D L r s = .inl f ∧ v = 0 ∧ ftX x' f) ∨ ∃ o, sgNs D L r s = .inr o ∧ v = (if o.1 = true then 1 else 0) ∧ nsX x' P D L ln s o) := by
  intro r
  induction r with
  | zero =>
    intro turn M ln x s hr _ _ hp _ _ _ _
    have := hp.2.2.2.1.2
    omega
  | succ r ih =>
    intro turn M ln x s hr ht hM hp hs ok o2 hh
    obtain ⟨M, rfl⟩ : ∃ M', M = M' + 1 := ⟨M - 1, by omega⟩
    have hL := hp.2.2.2.1
    have hP' := hs.1.1
    unfold isP at hP'
    rw [sgNs_e]
    obtain ⟨v1, x1, e1, F1, o1⟩ := x_mk (X := X) (B := B) (w0 := w0) hs ok hp
    have start : ∀ z, (if v1 = -1 then some (0, rg_p lX B w0 x1) else if v1 = 217 then some (0, rg_p lX B w0 x1) else (gO (rg_p lX B w0 x1) (B + 40) 8).bind fun o13 => (fX8_readSegment X (rg_p lX B w0 x1) (B + 40) v1).bind fun q14 => if q14.1 = 0 then some (0, q14.2) else if v1 = 218 then some (1, q14.2) else fX8_nextScan_2 X M (B + 40) (nI (turn + 1)) q14.2) = z → fX8_nextScan_2 X (M + 1) (B + 40) (nI turn) (rg_p lX B w0 x) = z := by
      intro z hz
      rw [fX8_nextScan_2.eq_2]
      refine ob_v (rg_I rfl rfl) (ei_t hp.2.1 (ei_n (nI_ge (b := 16384) (by omega) (by omega)) (ob_v (rg_O rfl) (ob_v e1 ?_))))
      rw [nI_1]
      exact hz
    rcases o1 with ⟨f, r1, r2, r3⟩ | ⟨u, q, r1, r2, r3, r4⟩
    · rw [r1]
      exact ⟨0, x1, start _ (ei_t r2 rfl), F1.sg, Or.inl ⟨f, rfl, rfl, r3⟩⟩
    obtain ⟨a, m1, m2⟩ := sgB_i r1
    have m3 : sgCs a.1 s ∧ a = (u, q) := by
      split at m2
      · exact ⟨by assumption, Sum.inr.inj m2⟩
      · cases m2
    obtain ⟨m3, m4⟩ := m3
    rw [m4] at m1 m3
    have mp := sgMk_p m1
    have m3 : sgCs u s := m3
    have nv : ¬ v1 = -1 := by rw [r2]; exact ne1 (by omega)
    rw [r1]
    show ∃ v x', _ ∧ _ ∧ ((∃ f, (if u = 217 then .inr (false, (uG s.1 0 q, s.2)) else sgB (sgSg D L u (uG s.1 0 q, s.2)) fun s2 => if u = 218 then .inr (true, s2) else sgNs D L r s2) = .inl f ∧ _) ∨ ∃ o, (if u = 217 then .inr (false, (uG s.1 0 q, s.2)) else sgB (sgSg D L u (uG s.1 0 q, s.2)) fun s2 => if u = 218 then .inr (true, s2) else sgNs D L r s2) = .inr o ∧ _)
    have f1 : fsX x1 P (uG s.1 0 q, s.2) := hs.fp F1 (fun k a _ => uG_n _ _ (by omega))
    have h1 : hX x1 P ln (uG s.1 0 q, s.2) := ⟨by rw [F1.1 _ _ (by omega)]; exact hh.1, by rw [F1.1 _ _ (by omega)]; exact hh.2⟩
    by_cases c17 : u = 217
    · rw [if_pos c17]
      refine ⟨0, x1, start _ (ei_n nv (ei_t (by rw [r2, c17]; rfl) rfl)), F1.sg, Or.inr ⟨_, rfl, rfl, r4, f1, ok, ?_, fun _ => ⟨rfl, rfl, rfl, rfl, rfl, fun _ => rfl⟩, mp.1, (fun z => by cases z), fun _ => ?_, rfl, ln, h1, Or.inl rfl, fun z => z⟩⟩
      · obtain ⟨o1', oq, o3, o4, o5, o6, o7, o8, o9, o10⟩ := o2
        have := mp.1
        exact ⟨o1', oq, o3, o4, o5, o6, ⟨by show 4 * s.1 2 + 2 ≤ q; omega, by show 10 * s.1 8 + 2 ≤ q; omega⟩, o8, o9, o10⟩
      · unfold sgCs at m3
        rcases m3 with ⟨_, z⟩ | ⟨z0, z⟩
        · omega
        · rcases z with z | z | z | z | z
          · omega
          · omega
          · exact ⟨z0, z.1.2, z.2⟩
          · omega
          · omega
    rw [if_neg c17]
    obtain ⟨v2, x2, e2, S2, o2'⟩ := x_sg (X := X) (B := B) (w0 := w0) (x := x1) (s := (uG s.1 0 q, s.2)) (code := u) (D := D) (L := L) (ln := ln) r3 r4 (by show 2 ≤ q; omega) f1 ok m3 h1
    have start2 : ∀ z, (if v2 = 0 then some (0, rg_p lX B w0 x2) else if v1 = 218 then some (1, rg_p lX B w0 x2) else fX8_nextScan_2 X M (B + 40) (nI (turn + 1)) (rg_p lX B w0 x2)) = z → fX8_nextScan_2 X (M + 1) (B + 40) (nI turn) (rg_p lX B w0 x) = z := by
      intro z hz
      refine start _ (ei_n nv (ei_n (by rw [r2]; exact fun e => c17 ((nI_eq (b := 217) (by omega) (by omega)).mp e)) (ob_v (rg_O rfl) (ob_v (v := (v2, rg_p lX B w0 x2)) ?_ hz))))
      rw [r2]
      exact e2
    rcases o2' with ⟨f, s1, s2, s3⟩ | ⟨t, s1, s2, s3, s4, s5, s6⟩
    · rw [s1]
      exact ⟨0, x2, start2 _ (ei_t s2 rfl), F1.sg.trans S2, Or.inl ⟨f, rfl, rfl, s3⟩⟩
    obtain ⟨k1, k2, k3, k4⟩ := sgSg_ok (fun i hi => (hp.2.2.2.2 i hi).2) hL.1 ok o2 m3 mp.1 s1
    have k8 := sgSg_8 s1
    have k8 : t.1 8 = s.1 8 + (if u = 218 then 1 else 0) := k8
    have hln : (if u = 220 then t.1 5 else ln) = ln ∨ (if u = 220 then t.1 5 else ln) = t.1 5 ∧ t.1 5 ≠ 0 ∧ t.1 3 ≠ 0 := by
      by_cases z : u = 220
      · rw [if_pos z]
        rw [z] at s1
        have g := sgSg_220 s1
        refine Or.inr ⟨rfl, by omega, ?_⟩
        rw [g.2]
        show s.1 3 ≠ 0
        intro z3
        have := (ok.2.2.2.2.1 z3).2.1
        unfold sgCs at m3
        omega
      · rw [if_neg z]
        exact Or.inl rfl
    rw [s1]
    show ∃ v x', _ ∧ _ ∧ ((∃ f, (if u = 218 then .inr (true, t) else sgNs D L r t) = .inl f ∧ _) ∨ ∃ o, (if u = 218 then .inr (true, t) else sgNs D L r t) = .inr o ∧ _)
    by_cases c18 : u = 218
    · rw [if_pos c18]
      rw [if_pos c18] at k8
      exact ⟨1, x2, start2 _ (ei_n (by rw [s2]; decide) (ei_t (by rw [r2, c18]; rfl) rfl)), F1.sg.trans S2, Or.inr ⟨_, rfl, rfl, s3, s4, k1, k2, k3, by show s.1 0 + 2 ≤ t.1 0; omega, fun _ => s6 c18, (fun z => by cases z), k8, _, s5, hln, fun z => sgSg_l9 s1 z⟩⟩
    rw [if_neg c18]
    rw [if_neg c18] at k8
    have mp1 := mp.1
    obtain ⟨v3, x3, e3, S3, o3⟩ := ih (turn + 1) M _ x2 t (by omega) (by omega) (by omega) s3 s4 k1 k2 s5
    refine ⟨v3, x3, start2 _ (ei_n (by rw [s2]; decide) (ei_n (by rw [r2]; exact fun e => c18 ((nI_eq (b := 218) (by omega) (by omega)).mp e)) e3)), F1.sg.trans (S2.trans S3), ?_⟩
    rcases o3 with o3 | ⟨o, w1, w2, w3⟩
    · exact Or.inl o3
    obtain ⟨n1, n2, n3, n4, n5, n6, n7, n8, n9, ln', n10, n11, n12⟩ := w3
    refine Or.inr ⟨o, w1, w2, n1, n2, n3, n4, k3.trans n5, by omega, n7, n8, by omega, ln', n10, ?_, fun z => n12 (sgSg_l9 s1 z)⟩
    rcases n11 with z | z
    · rcases hln with y | y
      · exact Or.inl (z.trans y)
      · obtain ⟨y1, y2, y3⟩ := y
        obtain ⟨g1, _, _, _, _, g6⟩ := n5 y3
        exact Or.inr ⟨by rw [z, y1, g6 y2], by rw [g6 y2]; exact y2, by rw [g1]; exact y3⟩
    · exact Or.inr z
end
