/-! a frame read by the class -/
def FXc (P : Nat) (x x' : rg_S) : Prop := (∀ p k, ¬ (p = 40 ∧ 6 ≤ k ∧ k ≤ 8) → x'.1 p k = x.1 p k) ∧ x'.2.1 = x.2.1 ∧ (∀ a, a ≠ 50 → a ≠ 51 → a ≠ P + 1 → a ≠ P + 2 → x'.2.2.1 a = x.2.2.1 a) ∧ x'.2.2.2 = x.2.2.2
theorem FXc.rfl {P : Nat} {x : rg_S} : FXc P x x := ⟨fun _ _ _ => Eq.refl _, Eq.refl _, fun _ _ _ _ _ => Eq.refl _, Eq.refl _⟩
theorem FXc.trans {P : Nat} {x x1 x2 : rg_S} (h : FXc P x x1) (h2 : FXc P x1 x2) : FXc P x x2 := ⟨fun p k a => (h2.1 p k a).trans (h.1 p k a), h2.2.1.trans h.2.1, fun a e d e' d' => (h2.2.2.1 a e d e' d').trans (h.2.2.1 a e d e' d'), h2.2.2.2.trans h.2.2.2⟩
theorem FXp.c {P : Nat} {x x' : rg_S} (h : FXp x x') : FXc P x x' := ⟨h.1, by rw [h.2], fun _ _ _ _ _ => by rw [h.2], by rw [h.2]⟩
theorem FXc.wA {P a : Nat} {x : rg_S} {f : Nat → Int32} (h : a = 50 ∨ a = 51 ∨ a = P + 1 ∨ a = P + 2) : FXc P x (rg_wA x a f) := ⟨fun _ _ _ => Eq.refl _, Eq.refl _, fun _ _ _ _ _ => wA_n _ _ (by omega), Eq.refl _⟩
def csX (x : rg_S) (P n : Nat) (cs : sg4) : Prop := ∀ i, i < n → x.2.2.1 50 i = nI (cs i).1 ∧ x.2.2.1 (P + 1) i = nI (cs i).2.1 ∧ x.2.2.1 (P + 2) i = nI (cs i).2.2.1 ∧ x.2.2.1 51 i = nI (cs i).2.2.2
def csOk (n : Nat) (cs : sg4) : Prop := ∀ i, i < n → (cs i).1 < 256 ∧ (1 ≤ (cs i).2.1 ∧ (cs i).2.1 ≤ 2) ∧ (1 ≤ (cs i).2.2.1 ∧ (cs i).2.2.1 ≤ 2) ∧ (cs i).2.2.2 < 4 ∧ ∀ j, j < i → (cs j).1 ≠ (cs i).1
theorem sgX_0 {cs : sg4} {v : Nat} : ∀ n, sgX cs v n = 0 ↔ ∀ j, j < n → (cs j).1 ≠ v
  | 0 => ⟨fun _ j hj => absurd hj (Nat.not_lt_zero _), fun _ => rfl⟩
  | n + 1 => by
    unfold sgX
    by_cases e : (cs n).1 = v
    · rw [if_pos e]
      exact ⟨fun h => absurd h (by omega), fun h => absurd e (h n (by omega))⟩
    · rw [if_neg e, sgX_0 n]
      refine ⟨fun h j hj => ?_, fun h j hj => h j (by omega)⟩
      rcases Nat.lt_or_ge j n with z | z
      · exact h j z
      · rw [show j = n by omega]
        exact e
section
variable {c : sgC}
theorem sgCm_ok {p' : Nat} {cs' : sg4} (hD : ∀ i, i < c.2.1 → c.1 i < 256) : ∀ (r i p : Nat) (cs : sg4), csOk i cs → sgCm c r i p cs = .inr (p', cs') → csOk (i + r) cs' := by
  intro r
  induction r with
  | zero =>
    intro i p cs h e
    have := congrArg Prod.snd (Sum.inr.inj e)
    dsimp only at this
    rw [← this]
    exact h
  | succ r ih =>
    intro i p cs h e
    unfold sgCm at e
    cases e1 : sgN c p with
    | inl q => rw [e1] at e; cases e
    | inr a =>
      obtain ⟨u, p1⟩ := a
      rw [e1] at e
      have e : (if sgX cs u i ≠ 0 then .inl (6, p) else sgB (sgN c p1) fun b => if b.1 ≠ 17 ∧ b.1 ≠ 18 ∧ b.1 ≠ 33 ∧ b.1 ≠ 34 then .inl (6, p1) else sgB (sgI c 0 3 b.2) fun d => sgCm c r (i + 1) d.2 (uG cs i (u, b.1 / 16, b.1 % 16, d.1))) = .inr (p', cs') := e
      split at e
      · cases e
      · rename_i hx
        have hx := Classical.not_not.mp hx
        cases e2 : sgN c p1 with
        | inl q => rw [e2] at e; cases e
        | inr a2 =>
          obtain ⟨hv, p2⟩ := a2
          rw [e2] at e
          have e : (if hv ≠ 17 ∧ hv ≠ 18 ∧ hv ≠ 33 ∧ hv ≠ 34 then .inl (6, p1) else sgB (sgI c 0 3 p2) fun d => sgCm c r (i + 1) d.2 (uG cs i (u, hv / 16, hv % 16, d.1))) = .inr (p', cs') := e
          split at e
          · cases e
          · rename_i hh
            cases e3 : sgI c 0 3 p2 with
            | inl q => rw [e3] at e; cases e
            | inr a3 =>
              obtain ⟨tq, p3⟩ := a3
              rw [e3] at e
              have g1 := sgN_p e1
              have g3 := sgI_p e3
              have hu := hD p g1.2.2.1
              rw [show i + (r + 1) = i + 1 + r by omega]
              refine ih (i + 1) p3 _ ?_ e
              intro k hk
              have vals : 1 ≤ hv / 16 ∧ hv / 16 ≤ 2 ∧ 1 ≤ hv % 16 ∧ hv % 16 ≤ 2 := by omega
              rcases Nat.lt_or_ge k i with z | z
              · rw [uG_n _ _ (show k ≠ i by omega)]
                obtain ⟨k1, k2, k3, k4, k5⟩ := h k z
                exact ⟨k1, k2, k3, k4, fun j hj => by rw [uG_n _ _ (show j ≠ i by omega)]; exact k5 j hj⟩
              · obtain rfl : k = i := by omega
                rw [uG_s]
                refine ⟨by show u < 256; omega, ⟨vals.1, vals.2.1⟩, ⟨vals.2.2.1, vals.2.2.2⟩, by show tq < 4; omega, fun j hj => ?_⟩
                rw [uG_n _ _ (show j ≠ k by omega)]
                exact (sgX_0 k).mp hx j hj
end
section
variable {X : px_X} {b B : Nat} {w0 w1 : px_W} {x x' : rg_S} {c : sgC} {p P : Nat} {cs : sg4}
theorem kX.cc (hP : isP P) (h : kX x c p) (F : FXc P x x') (h6 : x'.1 40 6 = x.1 40 6) (h8 : x'.1 40 8 = x.1 40 8) : kX x' c p := by
  unfold isP at hP
  obtain ⟨h1, h2, h3, h4, h5, h7, h9⟩ := h
  exact ⟨h8.trans h1, by rw [F.1 _ _ (by omega)]; exact h2, by rw [F.1 _ _ (by omega)]; exact h3, h6.trans h4, by rw [F.1 _ _ (by omega)]; exact h5, h7, by rw [F.2.2.1 2 (by omega) (by omega) (by omega) (by omega)]; exact h9⟩
theorem x_c14 {i u : Nat} (hi : i < 4) (hu : u < 256) (hc : ∀ k, k < i → x.2.2.1 50 k = nI (cs k).1 ∧ (cs k).1 < 256) : ∀ (r j M : Nat), j + r = i → r < M → (∀ k, k < j → (cs k).1 ≠ u) → fX8_readComponent_14 X M (B + 40) (nI i) (nI u) (nI j) (rg_p lX B w0 x) = if sgX cs u i = 0 then fX8_readComponent_40 X (B + 40) (nI i) (nI u) (rg_p lX B w0 x) else fX8_readComponent_29 X (B + 40) (rg_p lX B w0 x) := by
  intro r
  induction r with
  | zero =>
    intro j M hj hM hk
    obtain ⟨M, rfl⟩ : ∃ M', M = M' + 1 := ⟨M - 1, by omega⟩
    rw [if_pos ((sgX_0 i).mpr (fun k h => hk k (by omega))), fX8_readComponent_14.eq_2]
    exact ei_t (nI_le (by omega) (by omega)) rfl
  | succ r ih =>
    intro j M hj hM hk
    obtain ⟨M, rfl⟩ : ∃ M', M = M' + 1 := ⟨M - 1, by omega⟩
    rw [fX8_readComponent_14.eq_2]
    refine ei_n (nI_ge (by omega) (by omega)) (ob_v (rg_C rfl rfl) (ob_v (rg_A rfl (by decide) _ (by omega) (by decide)) ?_))
    have hj2 := hc j (by omega)
    rw [hj2.1]
    by_cases e : (cs j).1 = u
    · rw [if_neg (fun z => (sgX_0 i).mp z j (by omega) e)]
      exact ei_t (by rw [e]) rfl
    · rw [nI_1]
      refine ei_n (fun z => e ((nI_eq (by omega) (by omega)).mp z)) (ih (j + 1) M (by omega) (by omega) (fun k hk2 => ?_))
      rcases Nat.lt_or_ge k j with z | z
      · exact hk k z
      · rw [show k = j by omega]
        exact e
/-- one component -/
theorem x_fcm {i : Nat} (hP : isP P) (hi : i < 4) (hr : x.2.1 40 1 = P) (ok : csOk i cs) (h : kX x c p) (hc : csX x P i cs) : ∃ v x', fX8_readComponent X (rg_p lX B w0 x) (B + 40) (nI i) = some (v, rg_p lX B w0 x') ∧ FXc P x x' ∧ ((∃ f, sgCm c 1 i p cs = .inl f ∧ v = 0 ∧ ftX x' f) ∨ ∃ p' cs', sgCm c 1 i p cs = .inr (p', cs') ∧ v = 1 ∧ kX x' c p' ∧ csX x' P (i + 1) cs') := by
  have hP' := hP
  unfold isP at hP'
  obtain ⟨v, x1, e1, F1, o1⟩ := x_nx (X := X) (B := B) (w0 := w0) h
  unfold sgCm
  rcases o1 with ⟨f, r1, r2, r3⟩ | ⟨u, p1, r1, r2, r3, r4⟩
  · rw [r1]
    refine ⟨0, x1, ?_, F1.c, Or.inl ⟨f, rfl, rfl, r3⟩⟩
    unfold fX8_readComponent
    exact ob_v (rg_O rfl) (ob_v e1 (ei_t r2 rfl))
  · have g1 := sgN_p r1
    have nv : ¬ v = -1 := by rw [r3]; exact ne1 (by omega)
    rw [r1]
    have hc1 : ∀ k, k < i → x1.2.2.1 50 k = nI (cs k).1 ∧ (cs k).1 < 256 := by
      intro k hk
      rw [F1.2]
      exact ⟨(hc k hk).1, (ok k hk).1⟩
    have e14 := x_c14 (X := X) (B := B) (w0 := w0) (x := x1) (cs := cs) (i := i) (u := u) hi r2 hc1 i 0 FU (by omega) (by unfold FU; omega) (fun k hk => absurd hk (Nat.not_lt_zero _))
    have st : ∀ z, (if sgX cs u i = 0 then fX8_readComponent_40 X (B + 40) (nI i) (nI u) (rg_p lX B w0 x1) else fX8_readComponent_29 X (B + 40) (rg_p lX B w0 x1)) = z → fX8_readComponent X (rg_p lX B w0 x) (B + 40) (nI i) = z := by
      intro z hz
      unfold fX8_readComponent
      refine ob_v (rg_O rfl) (ob_v e1 (ei_n nv ?_))
      dsimp only
      rw [r3]
      exact e14.trans hz
    show ∃ v x', _ ∧ _ ∧ ((∃ f, (if sgX cs u i ≠ 0 then .inl (6, p) else sgB (sgN c p1) fun b => if b.1 ≠ 17 ∧ b.1 ≠ 18 ∧ b.1 ≠ 33 ∧ b.1 ≠ 34 then .inl (6, p1) else sgB (sgI c 0 3 b.2) fun d => sgCm c 0 (i + 1) d.2 (uG cs i (u, b.1 / 16, b.1 % 16, d.1))) = .inl f ∧ _) ∨ ∃ p' cs', (if sgX cs u i ≠ 0 then .inl (6, p) else sgB (sgN c p1) fun b => if b.1 ≠ 17 ∧ b.1 ≠ 18 ∧ b.1 ≠ 33 ∧ b.1 ≠ 34 then .inl (6, p1) else sgB (sgI c 0 3 b.2) fun d => sgCm c 0 (i + 1) d.2 (uG cs i (u, b.1 / 16, b.1 % 16, d.1))) = .inr (p', cs') ∧ _)
    by_cases d1 : sgX cs u i = 0
    · rw [if_neg (fun e => e d1)]
      rw [if_pos d1] at st
      generalize hx2 : rg_wA x1 50 (upd (x1.2.2.1 50) i (nI u)) = x2
      have F2 : FXc P x1 x2 := by
        rw [← hx2]
        exact FXc.wA (by omega)
      have k2 : kX x2 c p1 := by
        rw [← hx2]
        exact r4.w (by decide)
      obtain ⟨v3, x3, e3, F3, o3⟩ := x_nx (X := X) (B := B) (w0 := w0) k2
      have st2 : ∀ z, (if v3 = -1 then some (0, rg_p lX B w0 x3) else if v3 = 17 then fX8_readComponent_88 X (B + 40) (nI i) v3 (rg_p lX B w0 x3) else if v3 = 18 then fX8_readComponent_88 X (B + 40) (nI i) v3 (rg_p lX B w0 x3) else if v3 = 33 then fX8_readComponent_88 X (B + 40) (nI i) v3 (rg_p lX B w0 x3) else if v3 = 34 then fX8_readComponent_88 X (B + 40) (nI i) v3 (rg_p lX B w0 x3) else (gO (rg_p lX B w0 x3) (B + 40) 8).bind fun o49 => (fX8_refuse X (rg_p lX B w0 x3) (B + 40)).bind fun q50 => zR q50.1 q50.2) = z → fX8_readComponent X (rg_p lX B w0 x) (B + 40) (nI i) = z := by
        intro z hz
        refine st _ ?_
        unfold fX8_readComponent_40
        refine ob_v (rg_C rfl rfl) (ob_v (rg_sA id rfl (by decide) _ _ hi (by decide)) (ob_v (rg_O rfl) ?_))
        rw [show rg_wA x1 50 (upd (x1.2.2.1 50) i (id (nI u))) = x2 from hx2]
        exact ob_v e3 hz
      have F123 : FXc P x x3 := F1.c.trans (F2.trans F3.c)
      rcases o3 with ⟨f, s1, s2, s3⟩ | ⟨hv, p3, s1, s2, s3, s4⟩
      · rw [s1]
        exact ⟨0, x3, st2 _ (ei_t s2 rfl), F123, Or.inl ⟨f, rfl, rfl, s3⟩⟩
      · have g3 := sgN_p s1
        have nv3 : ¬ v3 = -1 := by rw [s3]; exact ne1 (by omega)
        rw [s1]
        show ∃ v x', _ ∧ _ ∧ ((∃ f, (if hv ≠ 17 ∧ hv ≠ 18 ∧ hv ≠ 33 ∧ hv ≠ 34 then .inl (6, p1) else sgB (sgI c 0 3 p3) fun d => sgCm c 0 (i + 1) d.2 (uG cs i (u, hv / 16, hv % 16, d.1))) = .inl f ∧ _) ∨ ∃ p' cs', (if hv ≠ 17 ∧ hv ≠ 18 ∧ hv ≠ 33 ∧ hv ≠ 34 then .inl (6, p1) else sgB (sgI c 0 3 p3) fun d => sgCm c 0 (i + 1) d.2 (uG cs i (u, hv / 16, hv % 16, d.1))) = .inr (p', cs') ∧ _)
        have ne : ∀ k, k < 256 → hv ≠ k → ¬ v3 = nI k := by
          intro k hk e z
          rw [s3] at z
          exact e ((nI_eq (by omega) (by omega)).mp z)
        by_cases d2 : hv ≠ 17 ∧ hv ≠ 18 ∧ hv ≠ 33 ∧ hv ≠ 34
        · rw [if_pos d2]
          obtain ⟨x4, e4, F4, f4⟩ := x_ref (X := X) (B := B) (w0 := w0) s4 (by omega)
          rw [show (6, p3 - 1) = (6, p1) by rw [g3.1]; rfl] at f4
          exact ⟨0, x4, st2 _ (ei_n nv3 (ei_n (ne 17 (by decide) d2.1) (ei_n (ne 18 (by decide) d2.2.1) (ei_n (ne 33 (by decide) d2.2.2.1) (ei_n (ne 34 (by decide) d2.2.2.2) (ob_v (rg_O rfl) (ob_v e4 rfl))))))), F123.trans F4.c, Or.inl ⟨_, rfl, rfl, f4⟩⟩
        · rw [if_neg d2]
          have st3 : ∀ z, fX8_readComponent_88 X (B + 40) (nI i) (nI hv) (rg_p lX B w0 x3) = z → fX8_readComponent X (rg_p lX B w0 x) (B + 40) (nI i) = z := by
            intro z hz
            rw [← s3] at hz
            refine st2 _ (ei_n nv3 ?_)
            rcases (show hv = 17 ∨ hv = 18 ∨ hv = 33 ∨ hv = 34 by omega) with e | e | e | e
            · exact ei_t (by rw [s3, e]; rfl) hz
            · exact ei_n (ne 17 (by decide) (by omega)) (ei_t (by rw [s3, e]; rfl) hz)
            · exact ei_n (ne 17 (by decide) (by omega)) (ei_n (ne 18 (by decide) (by omega)) (ei_t (by rw [s3, e]; rfl) hz))
            · exact ei_n (ne 17 (by decide) (by omega)) (ei_n (ne 18 (by decide) (by omega)) (ei_n (ne 33 (by decide) (by omega)) (ei_t (by rw [s3, e]; rfl) hz)))
          generalize hx4 : rg_wA (rg_wA x3 (P + 1) (upd (x3.2.2.1 (P + 1)) i (nI (hv / 16)))) (P + 2) (upd (x3.2.2.1 (P + 2)) i (nI (hv % 16))) = x4
          have F4 : FXc P x3 x4 := by
            rw [← hx4]
            exact (FXc.wA (by omega)).trans (FXc.wA (by omega))
          have k4 : kX x4 c p3 := by
            rw [← hx4]
            exact (s4.w (by omega)).w (by omega)
          obtain ⟨v5, x5, e5, F5, o5⟩ := x_in (X := X) (B := B) (w0 := w0) (lo := 0) (hi := 3) k4 (by omega) (by omega)
          generalize hx6 : rg_wA x5 51 (upd (x5.2.2.1 51) i v5) = x6
          have F6 : FXc P x5 x6 := by
            rw [← hx6]
            exact FXc.wA (by omega)
          have rr : x3.2.1 40 1 = P := by rw [F123.2.1]; exact hr
          have rr2 : ∀ f, (rg_wA x3 (P + 1) f).2.1 40 1 = P := fun f => rr
          have gp1 : gR (rg_p lX B w0 x3) (B + 40) 8 1 = some (B + P) := by
            have := rg_R (B := B) (w0 := w0) (s := x3) (ly := lX) (o := 40) (k := 1) rfl rfl
            rw [rr] at this
            exact this
          have gp2 : ∀ f, gR (rg_p lX B w0 (rg_wA x3 (P + 1) f)) (B + 40) 8 1 = some (B + P) := by
            intro f
            have := rg_R (B := B) (w0 := w0) (s := rg_wA x3 (P + 1) f) (ly := lX) (o := 40) (k := 1) rfl rfl
            rw [rr2 f] at this
            exact this
          have st4 : ∀ z, (if x6.1 40 6 = 0 then some (1, rg_p lX B w0 x6) else some (0, rg_p lX B w0 x6)) = z → fX8_readComponent X (rg_p lX B w0 x) (B + 40) (nI i) = z := by
            intro z hz
            refine st3 _ ?_
            unfold fX8_readComponent_88
            refine ob_v gp1 (ob_v (rg_C hP.o rfl) (ob_v (dI_n (d := 16) (by omega) (by decide) (by decide)) (ob_v (rg_sA id hP.a1 (by decide) _ _ hi (by decide)) (ob_v (gp2 _) (ob_v (rg_C hP.o rfl) (ob_v (rI_n (d := 16) (by omega) (by decide) (by decide)) (ob_v (rg_sA id hP.a2 (by decide) _ _ hi (by decide)) (ob_v (rg_C rfl rfl) (ob_v (rg_O rfl) ?_)))))))))
            dsimp only [id]
            rw [wA_n _ _ (show P + 2 ≠ P + 1 by omega), hx4]
            refine ob_v e5 (ob_v (rg_sA id rfl (by decide) _ _ hi (by decide)) (ob_v (rg_I rfl rfl) ?_))
            dsimp only [id]
            rw [hx6]
            exact hz
          have Fall : FXc P x x6 := F123.trans (F4.trans (F5.c.trans F6))
          have i6 : x6.1 = x5.1 := by rw [← hx6]; rfl
          rcases o5 with ⟨f, t1, t2, t3⟩ | ⟨tq, p5, t1, t2, t3, t4⟩
          · rw [t1]
            refine ⟨0, x6, st4 _ (ei_n (by rw [i6]; exact t3.n) rfl), Fall, Or.inl ⟨f, rfl, rfl, ?_⟩⟩
            unfold ftX
            rw [i6]
            exact t3
          · rw [t1]
            refine ⟨1, x6, st4 _ (ei_t (by rw [i6]; exact t4.2.2.2.1) rfl), Fall, Or.inr ⟨p5, _, rfl, rfl, ?_, ?_⟩⟩
            · rw [← hx6]
              exact t4.w (by decide)
            · intro k hk
              rw [← hx6, wA_n _ _ (show 50 ≠ 51 by decide), wA_n _ _ (show P + 1 ≠ 51 by omega), wA_n _ _ (show P + 2 ≠ 51 by omega), wA_s, F5.2, ← hx4, wA_s, wA_n _ _ (show P + 1 ≠ P + 2 by omega), wA_s, wA_n _ _ (show 50 ≠ P + 2 by omega), wA_n _ _ (show 50 ≠ P + 1 by omega), wA_n _ _ (show 51 ≠ P + 2 by omega), wA_n _ _ (show 51 ≠ P + 1 by omega), F3.2, ← hx2, wA_s, wA_n _ _ (show P + 1 ≠ 50 by omega), wA_n _ _ (show P + 2 ≠ 50 by omega), wA_n _ _ (show 51 ≠ 50 by decide)]
              by_cases z : k = i
              · rw [z, pk_us, pk_us, pk_us, pk_us, uG_s]
                exact ⟨rfl, rfl, rfl, t3⟩
              · rw [pk_un z, pk_un z, pk_un z, pk_un z, uG_n _ _ z, F1.2]
                exact hc k (by omega)
    · rw [if_pos d1]
      rw [if_neg d1] at st
      obtain ⟨x2, e2, F2, f2⟩ := x_ref (X := X) (B := B) (w0 := w0) r4 (by omega)
      rw [show (6, p1 - 1) = (6, p) by rw [g1.1]; rfl] at f2
      refine ⟨0, x2, st _ ?_, (F1.trans F2).c, Or.inl ⟨_, rfl, rfl, f2⟩⟩
      unfold fX8_readComponent_29
      exact ob_v (rg_O rfl) (ob_v e2 rfl)
end
