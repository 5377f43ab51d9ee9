/-! a whole frame, an interval, lines and other contents, by the class -/
def FXf (P : Nat) (x x' : rg_S) : Prop := (∀ p k, ¬ (p = 40 ∧ (6 ≤ k ∧ k ≤ 8 ∨ k = 11 ∨ k = 12)) → ¬ (p = P ∧ k ≤ 2) → x'.1 p k = x.1 p k) ∧ x'.2.1 = x.2.1 ∧ (∀ a, a ≠ 50 → a ≠ 51 → a ≠ P + 1 → a ≠ P + 2 → x'.2.2.1 a = x.2.2.1 a) ∧ x'.2.2.2 = x.2.2.2
theorem FXf.trans {P : Nat} {x x1 x2 : rg_S} (h : FXf P x x1) (h2 : FXf P x1 x2) : FXf P x x2 := ⟨fun p k a b => (h2.1 p k a b).trans (h.1 p k a b), h2.2.1.trans h.2.1, fun a e d e' d' => (h2.2.2.1 a e d e' d').trans (h.2.2.1 a e d e' d'), h2.2.2.2.trans h.2.2.2⟩
theorem FXc.f {P : Nat} {x x' : rg_S} (h : FXc P x x') : FXf P x x' := ⟨fun p k a _ => h.1 p k (by omega), h.2.1, h.2.2.1, h.2.2.2⟩
theorem FXp.f {P : Nat} {x x' : rg_S} (h : FXp x x') : FXf P x x' := h.c.f
theorem FXf.wI {P o k : Nat} {x : rg_S} {v : Int32} (h : o = 40 ∧ (k = 11 ∨ k = 12) ∨ o = P ∧ k ≤ 2) : FXf P x (rg_wI x o k v) := ⟨fun p k' _ b => wI_n _ _ (by omega), Eq.refl _, fun _ _ _ _ _ => Eq.refl _, Eq.refl _⟩
theorem sgB_B {α β γ : Type} (o : sgF ⊕ α) (k : α → sgF ⊕ β) (k2 : β → sgF ⊕ γ) : sgB (sgB o k) k2 = sgB o fun a => sgB (k a) k2 := by
  cases o <;> rfl
theorem sgCm_s {c : sgC} {r i p : Nat} {cs : sg4} : sgCm c (r + 1) i p cs = sgB (sgCm c 1 i p cs) fun m => sgCm c r (i + 1) m.1 m.2 := by
  rw [sgCm, sgCm, sgB_B]
  congr 1
  funext a
  by_cases d : sgX cs a.1 i ≠ 0
  · rw [if_pos d, if_pos d]
    rfl
  · rw [if_neg d, if_neg d, sgB_B]
    congr 1
    funext b
    by_cases d2 : b.1 ≠ 17 ∧ b.1 ≠ 18 ∧ b.1 ≠ 33 ∧ b.1 ≠ 34
    · rw [if_pos d2, if_pos d2]
      rfl
    · rw [if_neg d2, if_neg d2, sgB_B]
      rfl
section
variable {X : px_X} {b B : Nat} {w0 w1 : px_W} {x x' : rg_S} {c : sgC} {p P : Nat} {cs : sg4}
theorem x_cms {n : Nat} {A1 A2 A3 : Int32} (hP : isP P) (hn : n ≤ 4) : ∀ (r i p M : Nat) (cs : sg4) (x : rg_S), i + r = n → r < M → x.2.1 40 1 = P → csOk i cs → kX x c p → csX x P i cs → ∃ x', FXc P x x' ∧ ((∃ f, sgCm c r i p cs = .inl f ∧ ftX x' f ∧ fX8_readFrame_67 X M (B + 40) A1 A2 A3 (nI n) (nI i) (rg_p lX B w0 x) = some (0, rg_p lX B w0 x')) ∨ ∃ p' cs', sgCm c r i p cs = .inr (p', cs') ∧ kX x' c p' ∧ csX x' P n cs' ∧ csOk n cs' ∧ fX8_readFrame_67 X M (B + 40) A1 A2 A3 (nI n) (nI i) (rg_p lX B w0 x) = fX8_readFrame_91 X (B + 40) A1 A2 A3 (nI n) (rg_p lX B w0 x')) := by
  intro r
  induction r with
  | zero =>
    intro i p M cs x hi hM hr ok h hc
    obtain rfl : i = n := by omega
    obtain ⟨M, rfl⟩ : ∃ M', M = M' + 1 := ⟨M - 1, by omega⟩
    refine ⟨x, FXc.rfl, Or.inr ⟨p, cs, rfl, h, hc, ok, ?_⟩⟩
    rw [fX8_readFrame_67.eq_2]
    exact ei_t (nI_le (Nat.le_refl _) (by omega)) rfl
  | succ r ih =>
    intro i p M cs x hi hM hr ok h hc
    obtain ⟨M, rfl⟩ : ∃ M', M = M' + 1 := ⟨M - 1, by omega⟩
    obtain ⟨v, x1, e1, F1, o1⟩ := x_fcm (X := X) (B := B) (w0 := w0) hP (show i < 4 by omega) hr ok h hc
    rw [sgCm_s]
    rcases o1 with ⟨f, r1, r2, r3⟩ | ⟨p1, cs1, r1, r2, r3, r4⟩
    · rw [r1]
      refine ⟨x1, F1, Or.inl ⟨f, rfl, r3, ?_⟩⟩
      rw [fX8_readFrame_67.eq_2]
      exact ei_n (nI_ge (by omega) (by omega)) (ob_v (rg_O rfl) (ob_v e1 (ei_t r2 rfl)))
    · have ok1 := sgCm_ok (fun i hi => (h.2.2.2.2.2.2 i hi).2) 1 i p cs ok r1
      obtain ⟨x2, F2, o2⟩ := ih (i + 1) p1 M cs1 x1 (by omega) (by omega) (by rw [F1.2.1]; exact hr) ok1 r3 r4
      have st : fX8_readFrame_67 X (M + 1) (B + 40) A1 A2 A3 (nI n) (nI i) (rg_p lX B w0 x) = fX8_readFrame_67 X M (B + 40) A1 A2 A3 (nI n) (nI (i + 1)) (rg_p lX B w0 x1) := by
        rw [fX8_readFrame_67.eq_2]
        refine ei_n (nI_ge (by omega) (by omega)) (ob_v (rg_O rfl) (ob_v e1 (ei_n (by show ¬ v = 0; rw [r2]; decide) ?_)))
        rw [nI_1]
      rw [r1, st]
      exact ⟨x2, F1.trans F2, o2⟩
theorem gP (hr : x.2.1 40 1 = P) : gR (rg_p lX B w0 x) (B + 40) 8 1 = some (B + P) := by
  have := rg_R (B := B) (w0 := w0) (s := x) (ly := lX) (o := 40) (k := 1) rfl rfl
  rw [hr] at this
  exact this
theorem x_fr {code : Nat} (hP : isP P) (hr : x.2.1 40 1 = P) (h : kX x c p) : ∃ v x', fX8_readFrame X (rg_p lX B w0 x) (B + 40) (nI code) = some (v, rg_p lX B w0 x') ∧ FXf P x x' ∧ ((∃ f, sgFr c p = .inl f ∧ v = 0 ∧ ftX x' f) ∨ ∃ hh ww n p' cs', sgFr c p = .inr (hh, ww, n, p', cs') ∧ v = 1 ∧ kX x' c p' ∧ csX x' P n cs' ∧ csOk n cs' ∧ x'.1 40 11 = nI code ∧ x'.1 40 12 = (if hh = 0 then 1 else 0) ∧ x'.1 P 0 = nI ww ∧ x'.1 P 1 = (if hh = 0 then x.1 40 14 else nI hh) ∧ x'.1 P 2 = nI n ∧ hh ≤ 64 ∧ (1 ≤ ww ∧ ww ≤ 64) ∧ 1 ≤ n ∧ n ≤ 4) := by
  have hP' := hP
  unfold isP at hP'
  unfold sgFr
  obtain ⟨v1, x1, e1, F1, o1⟩ := x_in (X := X) (B := B) (w0 := w0) (lo := 8) (hi := 8) h (by omega) (by omega)
  rcases o1 with ⟨f, r1, r2, r3⟩ | ⟨u1, p1, r1, r2, r3, r4⟩
  · rw [r1]
    refine ⟨0, x1, ?_, F1.f, Or.inl ⟨f, rfl, rfl, r3⟩⟩
    unfold fX8_readFrame
    exact ob_v (rg_O rfl) (ob_v e1 (ei_t r2 rfl))
  have nv1 : ¬ v1 = -1 := by rw [r3]; exact ne1 (by omega)
  rw [r1]
  show ∃ v x', _ ∧ _ ∧ ((∃ f, sgB (sgU c 0 64 p1) _ = .inl f ∧ _) ∨ ∃ hh ww n p' cs', sgB (sgU c 0 64 p1) _ = .inr (hh, ww, n, p', cs') ∧ _)
  obtain ⟨v2, x2, e2, F2, o2⟩ := x_tw (X := X) (B := B) (w0 := w0) (lo := 0) (hi := 64) r4 (by omega) (by omega)
  rcases o2 with ⟨f, s1, s2, s3⟩ | ⟨u2, p2, s1, s2, s3, s4⟩
  · rw [s1]
    refine ⟨0, x2, ?_, (F1.trans F2).f, Or.inl ⟨f, rfl, rfl, s3⟩⟩
    unfold fX8_readFrame
    refine ob_v (rg_O rfl) (ob_v e1 (ei_n nv1 (ob_v (rg_O rfl) (ob_v e2 (ei_t s2 ?_)))))
    unfold fX8_readFrame_38 fX8_readFrame_54
    exact ei_t rfl (ei_t rfl rfl)
  have nv2 : ¬ v2 = -1 := by rw [s3]; exact ne1 (by omega)
  rw [s1]
  show ∃ v x', _ ∧ _ ∧ ((∃ f, sgB (sgU c 1 64 p2) _ = .inl f ∧ _) ∨ ∃ hh ww n p' cs', sgB (sgU c 1 64 p2) _ = .inr (hh, ww, n, p', cs') ∧ _)
  obtain ⟨v3, x3, e3, F3, o3⟩ := x_tw (X := X) (B := B) (w0 := w0) (lo := 1) (hi := 64) s4 (by omega) (by omega)
  have st3 : ∀ z, fX8_readFrame_38 X (B + 40) (nI code) v2 v3 (rg_p lX B w0 x3) = z → fX8_readFrame X (rg_p lX B w0 x) (B + 40) (nI code) = z := by
    intro z hz
    unfold fX8_readFrame
    exact ob_v (rg_O rfl) (ob_v e1 (ei_n nv1 (ob_v (rg_O rfl) (ob_v e2 (ei_n nv2 (ob_v (rg_O rfl) (ob_v e3 hz)))))))
  rcases o3 with ⟨f, t1, t2, t3⟩ | ⟨u3, p3, t1, t2, t3, t4⟩
  · rw [t1]
    refine ⟨0, x3, st3 _ ?_, (F1.trans (F2.trans F3)).f, Or.inl ⟨f, rfl, rfl, t3⟩⟩
    unfold fX8_readFrame_38 fX8_readFrame_54
    exact ei_t t2 (ei_t rfl rfl)
  have nv3 : ¬ v3 = -1 := by rw [t3]; exact ne1 (by omega)
  rw [t1]
  show ∃ v x', _ ∧ _ ∧ ((∃ f, sgB (sgI c 1 4 p3) _ = .inl f ∧ _) ∨ ∃ hh ww n p' cs', sgB (sgI c 1 4 p3) _ = .inr (hh, ww, n, p', cs') ∧ _)
  obtain ⟨v4, x4, e4, F4, o4⟩ := x_in (X := X) (B := B) (w0 := w0) (lo := 1) (hi := 4) t4 (by omega) (by omega)
  have st4 : ∀ z, fX8_readFrame_54 X (B + 40) (nI code) v2 v3 v4 (rg_p lX B w0 x4) = z → fX8_readFrame X (rg_p lX B w0 x) (B + 40) (nI code) = z := by
    intro z hz
    refine st3 _ ?_
    unfold fX8_readFrame_38
    exact ei_n nv3 (ob_v (rg_O rfl) (ob_v e4 hz))
  have F14 := F1.trans (F2.trans (F3.trans F4))
  rcases o4 with ⟨f, q1, q2, q3⟩ | ⟨n, p4, q1, q2, q3, q4⟩
  · rw [q1]
    refine ⟨0, x4, st4 _ ?_, F14.f, Or.inl ⟨f, rfl, rfl, q3⟩⟩
    unfold fX8_readFrame_54
    exact ei_t q2 rfl
  have nv4 : ¬ v4 = -1 := by rw [q3]; exact ne1 (by omega)
  obtain ⟨n1, n2, n3, n4, n5, n6⟩ := sgI_p q1
  have bU : ∀ {lo hi p u q : Nat}, sgU c lo hi p = .inr (u, q) → lo ≤ u ∧ u ≤ hi := by
    intro lo hi p u q e
    unfold sgU at e
    cases e' : sgT c p with
    | inl f => rw [e'] at e; cases e
    | inr a =>
      rw [e'] at e
      have e : (if a.1 < lo ∨ hi < a.1 then (.inl (6, p + 1) : sgF ⊕ (Nat × Nat)) else .inr a) = .inr (u, q) := e
      split at e
      · cases e
      · rename_i hn
        have := Sum.inr.inj e
        rw [this] at hn
        have hn : ¬ (u < lo ∨ hi < u) := hn
        omega
  have b2 := bU s1
  have b3 := bU t1
  rw [q1]
  show ∃ v x', _ ∧ _ ∧ ((∃ f, sgB (sgCm c n 0 p4 (fun _ => (0, 0, 0, 0))) _ = .inl f ∧ _) ∨ ∃ hh ww n' p' cs', sgB (sgCm c n 0 p4 (fun _ => (0, 0, 0, 0))) _ = .inr (hh, ww, n', p', cs') ∧ _)
  obtain ⟨x5, F5, o5⟩ := x_cms (X := X) (B := B) (w0 := w0) (c := c) (n := n) (A1 := nI code) (A2 := v2) (A3 := v3) hP n6 n 0 p4 FU (fun _ => (0, 0, 0, 0)) x4 (by omega) (by unfold FU; omega) (by rw [F14.2]; exact hr) (fun i hi => absurd hi (Nat.not_lt_zero _)) q4 (fun i hi => absurd hi (Nat.not_lt_zero _))
  have st5 : ∀ z, fX8_readFrame_67 X FU (B + 40) (nI code) v2 v3 (nI n) (nI 0) (rg_p lX B w0 x4) = z → fX8_readFrame X (rg_p lX B w0 x) (B + 40) (nI code) = z := by
    intro z hz
    refine st4 _ ?_
    unfold fX8_readFrame_54
    refine ei_n nv4 ?_
    rw [q3]
    exact hz
  have F15 : FXf P x x5 := F14.f.trans F5.f
  rcases o5 with ⟨f, a1, a2, a3⟩ | ⟨p5, cs5, a1, a2, a3, a4, a5⟩
  · rw [a1]
    exact ⟨0, x5, st5 _ a3, F15, Or.inl ⟨f, rfl, rfl, a2⟩⟩
  rw [a1]
  show ∃ v x', _ ∧ _ ∧ ((∃ f, sgE c p5 (u2, u3, n, p5, cs5) = .inl f ∧ _) ∨ ∃ hh ww n' p' cs', sgE c p5 (u2, u3, n, p5, cs5) = .inr (hh, ww, n', p', cs') ∧ _)
  -- the fields
  generalize hw : (if u2 = 0 then (1 : Int32) else 0) = wh
  generalize hv : (if u2 = 0 then x.1 40 14 else nI u2) = hv'
  generalize hx6 : rg_wI (rg_wI (rg_wI (rg_wI (rg_wI x5 40 11 (nI code)) 40 12 wh) P 0 (nI u3)) P 1 hv') P 2 (nI n) = x6
  have F6 : FXf P x5 x6 := by
    rw [← hx6]
    exact (FXf.wI (by omega)).trans ((FXf.wI (by omega)).trans ((FXf.wI (by omega)).trans ((FXf.wI (by omega)).trans (FXf.wI (by omega)))))
  have k6 : kX x6 c p5 := by
    obtain ⟨h1, h2, h3, h4, h5, h7, h9⟩ := a2
    have w : ∀ k, k = 6 ∨ k = 8 ∨ k = 9 ∨ k = 10 → x6.1 40 k = x5.1 40 k := by
      intro k hk
      rw [← hx6, wI_n _ _ (by omega), wI_n _ _ (by omega), wI_n _ _ (by omega), wI_n _ _ (by omega), wI_n _ _ (by omega)]
    refine ⟨by rw [w 8 (by omega)]; exact h1, by rw [w 9 (by omega)]; exact h2, by rw [w 10 (by omega)]; exact h3, by rw [w 6 (by omega)]; exact h4, ?_, h7, ?_⟩
    · rw [← hx6, wI_n _ _ (by omega), wI_n _ _ (by omega), wI_n _ _ (by omega), wI_n _ _ (by omega), wI_n _ _ (by omega)]
      exact h5
    · rw [← hx6]
      exact h9
  have i14 : x5.1 40 14 = x.1 40 14 := F15.1 40 14 (by omega) (by omega)
  have r5 : x5.2.1 40 1 = P := by rw [F15.2.1]; exact hr
  obtain ⟨v7, x7, e7, F7, o7⟩ := x_ends1 (X := X) (B := B) (w0 := w0) k6
  have st7 : ∀ z, zR v7 (rg_p lX B w0 x7) = z → fX8_readFrame X (rg_p lX B w0 x) (B + 40) (nI code) = z := by
    intro z hz
    refine st5 _ (a5.trans ?_)
    have e136 : fX8_readFrame_136 X (B + 40) (nI n) hv' (B + P) (rg_p lX B w0 (rg_wI (rg_wI (rg_wI x5 40 11 (nI code)) 40 12 wh) P 0 (nI u3))) = z := by
      unfold fX8_readFrame_136
      refine ob_v (rg_pI hP.o rfl _) (ob_v (gP (by exact r5)) (ob_v (rg_pI hP.o rfl _) (ob_v (rg_O rfl) ?_)))
      rw [hx6]
      exact ob_v e7 hz
    have e106 : fX8_readFrame_106 X (B + 40) v2 v3 (nI n) wh (B + 40) (rg_p lX B w0 (rg_wI x5 40 11 (nI code))) = z := by
      unfold fX8_readFrame_106
      rw [t3]
      refine ob_v (rg_pZ rfl rfl _ (by rw [← hw]; split <;> decide)) (ob_v (gP (by exact r5)) (ob_v (rg_pI hP.o rfl _) (ob_v (gP (by exact r5)) (ob_v (rg_I rfl rfl) ?_))))
      rw [wI_n _ _ (by omega), wI_s]
      by_cases u0 : u2 = 0
      · rw [if_pos u0] at hw hv
        refine ei_n (by rw [← hw]; decide) (ob_v (rg_I rfl rfl) ?_)
        rw [wI_n _ _ (by omega), wI_n _ _ (by omega), wI_n _ _ (by omega), i14, hv]
        exact e136
      · rw [if_neg u0] at hw hv
        refine ei_t hw.symm ?_
        rw [s3, hv]
        exact e136
    unfold fX8_readFrame_91
    refine ob_v (rg_pI rfl rfl _) ?_
    by_cases u0 : u2 = 0
    · rw [if_pos u0] at hw
      refine ei_t (by rw [s3, u0]; rfl) ?_
      rw [hw]
      exact e106
    · rw [if_neg u0] at hw
      refine ei_n (by rw [s3]; exact nI_ne0 (by omega) (by omega)) ?_
      rw [hw]
      exact e106
  have F17 := F15.trans (F6.trans F7.f)
  unfold sgE
  rcases o7 with ⟨d1, d2, d3⟩ | ⟨d1, d2, d3⟩
  · rw [if_pos d1]
    rw [d3] at F17 st7
    rw [d2] at st7
    refine ⟨1, x6, st7 _ rfl, F17, Or.inr ⟨_, _, _, _, _, rfl, rfl, k6, ?_, a4, ?_, ?_, ?_, ?_, ?_, by omega, by omega, by omega, by omega⟩⟩
    · rw [← hx6]
      exact a3
    · rw [← hx6, wI_n _ _ (by omega), wI_n _ _ (by omega), wI_n _ _ (by omega), wI_n _ _ (by omega), wI_s]
    · rw [← hx6, wI_n _ _ (by omega), wI_n _ _ (by omega), wI_n _ _ (by omega), wI_s, ← hw]
    · rw [← hx6, wI_n _ _ (by omega), wI_n _ _ (by omega), wI_s]
    · rw [← hx6, wI_n _ _ (by omega), wI_s, ← hv]
    · rw [← hx6, wI_s]
  · rw [if_neg d1]
    rw [d2] at st7
    exact ⟨0, x7, st7 _ rfl, F17, Or.inl ⟨_, rfl, rfl, d3⟩⟩
/-- an interval -/
theorem x_ivl (h : kX x c p) : ∃ v x', fX8_readInterval X (rg_p lX B w0 x) (B + 40) = some (v, rg_p lX B w0 x') ∧ ((∀ q k, ¬ (q = 40 ∧ (6 ≤ k ∧ k ≤ 8 ∨ k = 4)) → x'.1 q k = x.1 q k) ∧ x'.2 = x.2) ∧ ((∃ f, sgB (sgU c 0 65535 p) (fun v => sgE c v.2 v) = .inl f ∧ v = 0 ∧ ftX x' f) ∨ ∃ u p', sgB (sgU c 0 65535 p) (fun v => sgE c v.2 v) = .inr (u, p') ∧ v = 1 ∧ u < 65536 ∧ x'.1 40 4 = nI u ∧ kX x' c p') := by
  obtain ⟨v1, x1, e1, F1, o1⟩ := x_tw (X := X) (B := B) (w0 := w0) (lo := 0) (hi := 65535) h (by omega) (by omega)
  rcases o1 with ⟨f, r1, r2, r3⟩ | ⟨u, p1, r1, r2, r3, r4⟩
  · rw [r1]
    refine ⟨0, x1, ?_, ⟨fun q k a => F1.1 q k (by omega), F1.2⟩, Or.inl ⟨f, rfl, rfl, r3⟩⟩
    unfold fX8_readInterval
    exact ob_v (rg_O rfl) (ob_v e1 (ei_t r2 rfl))
  · have nv : ¬ v1 = -1 := by rw [r3]; exact ne1 (by omega)
    have k2 : kX (rg_wI x1 40 4 (nI u)) c p1 := by
      obtain ⟨h1, h2, h3, h4, h5, h7, h9⟩ := r4
      exact ⟨by rw [wI_n _ _ (by omega)]; exact h1, by rw [wI_n _ _ (by omega)]; exact h2, by rw [wI_n _ _ (by omega)]; exact h3, by rw [wI_n _ _ (by omega)]; exact h4, by rw [wI_n _ _ (by omega)]; exact h5, h7, h9⟩
    obtain ⟨v3, x3, e3, F3, o3⟩ := x_ends1 (X := X) (B := B) (w0 := w0) k2
    rw [r1]
    show ∃ v x', _ ∧ _ ∧ ((∃ f, sgE c p1 (u, p1) = .inl f ∧ _) ∨ ∃ u' p', sgE c p1 (u, p1) = .inr (u', p') ∧ _)
    unfold sgE
    have st : ∀ z, zR v3 (rg_p lX B w0 x3) = z → fX8_readInterval X (rg_p lX B w0 x) (B + 40) = z := by
      intro z hz
      unfold fX8_readInterval
      refine ob_v (rg_O rfl) (ob_v e1 (ei_n nv ?_))
      dsimp only
      rw [r3]
      exact ob_v (rg_pI rfl rfl _) (ob_v (rg_O rfl) (ob_v e3 hz))
    have Fi : (∀ q k, ¬ (q = 40 ∧ (6 ≤ k ∧ k ≤ 8 ∨ k = 4)) → x3.1 q k = x.1 q k) ∧ x3.2 = x.2 := ⟨fun q k a => by rw [F3.1 q k (by omega), wI_n _ _ (by omega), F1.1 q k (by omega)], by rw [F3.2, wI_2, F1.2]⟩
    rcases o3 with ⟨d1, d2, d3⟩ | ⟨d1, d2, d3⟩
    · rw [if_pos d1]
      rw [d2] at st
      refine ⟨1, x3, st _ rfl, Fi, Or.inr ⟨u, p1, rfl, rfl, r2, ?_, ?_⟩⟩
      · rw [d3, wI_s]
      · rw [d3]
        exact k2
    · rw [if_neg d1]
      rw [d2] at st
      exact ⟨0, x3, st _ rfl, Fi, Or.inl ⟨_, rfl, rfl, d3⟩⟩
/-- lines -/
theorem x_lns (hP : isP P) (hr : x.2.1 40 1 = P) (h : kX x c p) : ∃ v x', fX8_readLines X (rg_p lX B w0 x) (B + 40) = some (v, rg_p lX B w0 x') ∧ ((∀ q k, ¬ (q = 40 ∧ (6 ≤ k ∧ k ≤ 8 ∨ k = 13 ∨ k = 14)) → ¬ (q = P ∧ k = 1) → x'.1 q k = x.1 q k) ∧ x'.2 = x.2) ∧ ((∃ f, sgB (sgU c 1 64 p) (fun v => sgE c v.2 v) = .inl f ∧ v = 0 ∧ ftX x' f) ∨ ∃ u p', sgB (sgU c 1 64 p) (fun v => sgE c v.2 v) = .inr (u, p') ∧ v = 1 ∧ (1 ≤ u ∧ u ≤ 64) ∧ x'.1 40 14 = nI u ∧ x'.1 P 1 = nI u ∧ x'.1 40 13 = 0 ∧ kX x' c p') := by
  have hP' := hP
  unfold isP at hP'
  obtain ⟨v1, x1, e1, F1, o1⟩ := x_tw (X := X) (B := B) (w0 := w0) (lo := 1) (hi := 64) h (by omega) (by omega)
  rcases o1 with ⟨f, r1, r2, r3⟩ | ⟨u, p1, r1, r2, r3, r4⟩
  · rw [r1]
    refine ⟨0, x1, ?_, ⟨fun q k a _ => F1.1 q k (by omega), F1.2⟩, Or.inl ⟨f, rfl, rfl, r3⟩⟩
    unfold fX8_readLines
    exact ob_v (rg_O rfl) (ob_v e1 (ei_t r2 rfl))
  · have nv : ¬ v1 = -1 := by rw [r3]; exact ne1 (by omega)
    have bu : 1 ≤ u ∧ u ≤ 64 := by
      unfold sgU at r1
      cases e' : sgT c p with
      | inl f => rw [e'] at r1; cases r1
      | inr a =>
        rw [e'] at r1
        have e : (if a.1 < 1 ∨ 64 < a.1 then (.inl (6, p + 1) : sgF ⊕ (Nat × Nat)) else .inr a) = .inr (u, p1) := r1
        split at e
        · cases e
        · rename_i hn
          have := Sum.inr.inj e
          rw [this] at hn
          have hn : ¬ (u < 1 ∨ 64 < u) := hn
          omega
    generalize hx2 : rg_wI (rg_wI (rg_wI x1 40 14 (nI u)) P 1 (nI u)) 40 13 0 = x2
    have k2 : kX x2 c p1 := by
      obtain ⟨h1, h2, h3, h4, h5, h7, h9⟩ := r4
      rw [← hx2]
      exact ⟨by rw [wI_n _ _ (by omega), wI_n _ _ (by omega), wI_n _ _ (by omega)]; exact h1, by rw [wI_n _ _ (by omega), wI_n _ _ (by omega), wI_n _ _ (by omega)]; exact h2, by rw [wI_n _ _ (by omega), wI_n _ _ (by omega), wI_n _ _ (by omega)]; exact h3, by rw [wI_n _ _ (by omega), wI_n _ _ (by omega), wI_n _ _ (by omega)]; exact h4, by rw [wI_n _ _ (by omega), wI_n _ _ (by omega), wI_n _ _ (by omega)]; exact h5, h7, h9⟩
    obtain ⟨v3, x3, e3, F3, o3⟩ := x_ends1 (X := X) (B := B) (w0 := w0) k2
    rw [r1]
    show ∃ v x', _ ∧ _ ∧ ((∃ f, sgE c p1 (u, p1) = .inl f ∧ _) ∨ ∃ u' p', sgE c p1 (u, p1) = .inr (u', p') ∧ _)
    unfold sgE
    have r1' : x1.2.1 40 1 = P := by rw [F1.2]; exact hr
    have st : ∀ z, zR v3 (rg_p lX B w0 x3) = z → fX8_readLines X (rg_p lX B w0 x) (B + 40) = z := by
      intro z hz
      unfold fX8_readLines
      refine ob_v (rg_O rfl) (ob_v e1 (ei_n nv ?_))
      dsimp only
      rw [r3]
      refine ob_v (rg_pI rfl rfl _) (ob_v (gP (by exact r1')) (ob_v (rg_pI hP.o rfl _) (ob_v (rg_pZ rfl rfl _ (Or.inl rfl)) (ob_v (rg_O rfl) ?_))))
      rw [hx2]
      exact ob_v e3 hz
    have Fi : (∀ q k, ¬ (q = 40 ∧ (6 ≤ k ∧ k ≤ 8 ∨ k = 13 ∨ k = 14)) → ¬ (q = P ∧ k = 1) → x3.1 q k = x.1 q k) ∧ x3.2 = x.2 := ⟨fun q k a b => by rw [F3.1 q k (by omega), ← hx2, wI_n _ _ (by omega), wI_n _ _ (by omega), wI_n _ _ (by omega), F1.1 q k (by omega)], by rw [F3.2, ← hx2, wI_2, wI_2, wI_2, F1.2]⟩
    rcases o3 with ⟨d1, d2, d3⟩ | ⟨d1, d2, d3⟩
    · rw [if_pos d1]
      rw [d2] at st
      refine ⟨1, x3, st _ rfl, Fi, Or.inr ⟨u, p1, rfl, rfl, bu, ?_, ?_, ?_, ?_⟩⟩
      · rw [d3, ← hx2, wI_n _ _ (by omega), wI_n _ _ (by omega), wI_s]
      · rw [d3, ← hx2, wI_n _ _ (by omega), wI_s]
      · rw [d3, ← hx2, wI_s]
      · rw [d3]
        exact k2
    · rw [if_neg d1]
      rw [d2] at st
      exact ⟨0, x3, st _ rfl, Fi, Or.inl ⟨_, rfl, rfl, d3⟩⟩
/-- other contents -/
theorem x_anyc (h : kX x c p) : ∃ v x', fX8_passOver X (rg_p lX B w0 x) (B + 40) = some (v, rg_p lX B w0 x') ∧ FXp x x' ∧ ((c.2.1 < c.2.2.1 ∧ v = 0 ∧ ftX x' (1, c.2.1)) ∨ (c.2.2.1 ≤ c.2.1 ∧ v = 1 ∧ kX x' c c.2.2.1)) := by
  have hh := h
  obtain ⟨h1, h2, h3, h4, h5, ⟨h7, h7b, h7d, h7c⟩, h9⟩ := h
  by_cases q : c.2.2.1 ≤ c.2.1
  · have F : FXp x (rg_wI x 40 8 (nI c.2.2.1)) := FXp.wI (by omega)
    refine ⟨1, rg_wI x 40 8 (nI c.2.2.1), ?_, F, Or.inr ⟨q, rfl, hh.k F (by rw [wI_n _ _ (by omega)]; exact h4) (wI_s _ _ _ _) q⟩⟩
    unfold fX8_passOver
    refine ob_v (rg_I rfl rfl) (ob_v (rg_C rfl rfl) (ob_v (rg_I rfl rfl) ?_))
    rw [h3, h5]
    refine ei_t (nI_le q (by omega)) (ob_v (rg_I rfl rfl) ?_)
    rw [h3]
    exact ob_v (rg_pI rfl rfl _) rfl
  · obtain ⟨x', e, F, f1, f2⟩ := x_fail (X := X) (B := B) (w0 := w0) (x := x) (f := 1) (q := c.2.1)
    refine ⟨0, x', ?_, F, Or.inl ⟨by omega, rfl, ftX.i f1 f2 (by decide) (by decide) (by omega)⟩⟩
    unfold fX8_passOver
    refine ob_v (rg_I rfl rfl) (ob_v (rg_C rfl rfl) (ob_v (rg_I rfl rfl) ?_))
    rw [h3, h5]
    refine ei_n (nI_ge (by omega) (by omega)) (ob_v (rg_C rfl rfl) (ob_v (rg_I rfl rfl) (ob_v (rg_O rfl) ?_)))
    rw [h5]
    exact ob_v e rfl
end
