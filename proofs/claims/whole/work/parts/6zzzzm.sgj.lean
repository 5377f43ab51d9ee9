/-! markers, and on to the next scan, by the class -/
theorem sgSk2_p {D : Nat → Nat} {L u q : Nat} : ∀ (r p : Nat), sgSk2 D L r p = .inr (u, q) → p + 1 ≤ q ∧ q ≤ L ∧ u = D (q - 1) ∧ u ≠ 255 ∧ (D p = 255 → p + 2 ≤ q) := by
  intro r
  induction r with
  | zero => intro p h; cases h
  | succ r ih =>
    intro p h
    unfold sgSk2 at h
    split at h
    · cases h
    · split at h
      · have := ih _ h
        exact ⟨by omega, this.2.1, this.2.2.1, this.2.2.2.1, fun _ => by omega⟩
      · rename_i d1 d2
        have h1 := congrArg Prod.fst (Sum.inr.inj h)
        have h2 := congrArg Prod.snd (Sum.inr.inj h)
        dsimp only at h1 h2
        subst h1 h2
        exact ⟨Nat.le_refl _, by omega, by rw [show p + 1 - 1 = p by omega], d2, fun z => absurd z d2⟩
theorem sgMk_p {D : Nat → Nat} {L u q p : Nat} (h : sgMk D L p = .inr (u, q)) : p + 2 ≤ q ∧ q ≤ L ∧ u = D (q - 1) ∧ u ≠ 255 := by
  unfold sgMk at h
  split at h
  · cases h
  · rename_i d
    have g := sgSk2_p _ _ h
    have : D p = 255 := by
      by_cases z : D p = 255
      · exact z
      · exact absurd ⟨by omega, z⟩ d
    exact ⟨g.2.2.2.2 this, g.2.1, g.2.2.1, g.2.2.2.1⟩
theorem sgSg_220 {D : Nat → Nat} {L : Nat} {s s2 : sgS} (e : sgSg D L 220 s = .inr s2) : 1 ≤ s2.1 5 ∧ s2.1 3 = s.1 3 := by
  rw [sgSg_e] at e
  split at e
  · cases e
  split at e
  · cases e
  unfold sgBy at e
  rw [if_neg (by decide), if_neg (by decide), if_neg (by decide), if_neg (by decide), if_neg (by decide), if_pos rfl] at e
  obtain ⟨a, e1, e2⟩ := sgB_i e
  obtain ⟨e3, e4⟩ := sgE_i e2
  have g := sgU_i (u := a.1) (q := a.2) e1
  subst e4
  exact ⟨g.2.1, rfl⟩
section
variable {X : px_X} {b B : Nat} {w0 w1 : px_W} {x x' : rg_S} {p P L ln : Nat} {s : sgS} {D : Nat → Nat}
theorem x_cs {code : Nat} (hc : code < 256) (hs : fsX x P s) (ok : sgOk s) : fX8_canStandHere X (rg_p lX B w0 x) (B + 40) (nI code) = some (if sgCs code s then 1 else 0, rg_p lX B w0 x) := by
  have hP := hs.1.1
  have ne : ∀ k, k < 256 → code ≠ k → ¬ nI code = nI k := fun k hk e z => e ((nI_eq (by omega) (by omega)).mp z)
  have k3 := ok.2.1
  have h11 := hs.1.2.2.2.2.1
  have kz : ∀ a : Option (Int32 × px_W), ∀ b : Option (Int32 × px_W), (if x.1 40 11 = 0 then a else b) = if s.1 3 = 0 then a else b := by
    intro a b
    rw [h11]
    by_cases z : s.1 3 = 0
    · rw [if_pos z, if_pos (by rw [z]; rfl)]
    · rw [if_neg z, if_neg (nI_ne0 (by omega) (by omega))]
  unfold fX8_canStandHere
  refine ob_v (rg_I rfl rfl) ?_
  rw [hs.2.1]
  by_cases l7 : s.1 7 = 0
  · rw [if_pos l7]
    refine ei_t rfl ?_
    by_cases c1 : code = 192 ∨ code = 194
    · have e : sgCs code s ↔ s.1 3 = 0 := by
        unfold sgCs
        omega
      have r : (gI (rg_p lX B w0 x) (B + 40) 8 11).bind (fun v10 => if v10 = 0 then some ((1 : Int32), rg_p lX B w0 x) else some (0, rg_p lX B w0 x)) = some (if sgCs code s then 1 else 0, rg_p lX B w0 x) := by
        refine ob_v (rg_I rfl rfl) ?_
        rw [kz]
        by_cases z : s.1 3 = 0
        · rw [if_pos z, if_pos (e.mpr z)]
        · rw [if_neg z, if_neg (fun w => z (e.mp w))]
      rcases c1 with c1 | c1
      · exact ei_t (by rw [c1]; rfl) r
      · exact ei_n (ne 192 (by decide) (by omega)) (ei_t (by rw [c1]; rfl) r)
    refine ei_n (ne 192 (by decide) (by omega)) (ei_n (ne 194 (by decide) (by omega)) ?_)
    by_cases c2 : code = 196
    · rw [if_pos (show sgCs code s by unfold sgCs; omega)]
      exact ei_t (by rw [c2]; rfl) rfl
    refine ei_n (ne 196 (by decide) c2) ?_
    by_cases c3 : code = 217
    · have e : sgCs code s ↔ s.1 3 ≠ 0 ∧ ∀ c, c < s.1 6 → s.2.2.2.1 (64 * c) ≠ 0 := by
        unfold sgCs
        refine ⟨fun h => ?_, fun h => Or.inr ⟨l7, Or.inr (Or.inr (Or.inl ⟨⟨c3, h.1⟩, h.2⟩))⟩⟩
        rcases h with ⟨z, _⟩ | ⟨_, z⟩
        · exact absurd l7 z
        · rcases z with z | z | z | z | z
          · omega
          · omega
          · exact ⟨z.1.2, z.2⟩
          · omega
          · omega
      have al := x_all (X := X) (B := B) (w0 := w0) (x := x) (P := P) (n := s.1 6) (lt := s.2.2.2.1) hP hs.1.2.1 hs.1.2.2.2.2.2.2.1 ok.2.2.1 hs.2.2.1 (s.1 6) 0 FU (by omega) (by have := ok.2.2.1; unfold FU; omega) (fun k hk => absurd hk (Nat.not_lt_zero _))
      refine ei_t (by rw [c3]; rfl) (ob_v (rg_I rfl rfl) ?_)
      rw [kz]
      by_cases z : s.1 3 = 0
      · rw [if_pos z, if_neg (fun w => (e.mp w).1 z)]
      · rw [if_neg z]
        refine ob_v (rg_O rfl) (ob_v (v := (if (∀ k, k < s.1 6 → s.2.2.2.1 (64 * k) ≠ 0) then 1 else 0, rg_p lX B w0 x)) (by unfold fX8_allWereInScans; exact al) ?_)
        dsimp only
        by_cases w : ∀ k, k < s.1 6 → s.2.2.2.1 (64 * k) ≠ 0
        · rw [if_pos w, if_pos (e.mpr ⟨z, w⟩)]
          exact ei_n (by decide) rfl
        · rw [if_neg w, if_neg (fun q => w (e.mp q).2)]
          exact ei_t rfl rfl
    refine ei_n (ne 217 (by decide) c3) ?_
    by_cases c4 : code = 218
    · have e : sgCs code s ↔ s.1 3 ≠ 0 := by
        unfold sgCs
        omega
      refine ei_t (by rw [c4]; rfl) (ob_v (rg_I rfl rfl) ?_)
      rw [kz]
      by_cases z : s.1 3 = 0
      · rw [if_pos z, if_neg (fun w => e.mp w z)]
      · rw [if_neg z, if_pos (e.mpr z)]
    refine ei_n (ne 218 (by decide) c4) ?_
    by_cases c5 : code = 219
    · rw [if_pos (show sgCs code s by unfold sgCs; omega)]
      exact ei_t (by rw [c5]; rfl) rfl
    refine ei_n (ne 219 (by decide) c5) ?_
    by_cases c6 : code = 221
    · rw [if_pos (show sgCs code s by unfold sgCs; omega)]
      exact ei_t (by rw [c6]; rfl) rfl
    refine ei_n (ne 221 (by decide) c6) ?_
    by_cases c7 : code = 254
    · rw [if_pos (show sgCs code s by unfold sgCs; omega)]
      exact ei_t (by rw [c7]; rfl) rfl
    refine ei_n (ne 254 (by decide) c7) ?_
    by_cases c8 : code < 224
    · rw [if_neg (show ¬ sgCs code s by unfold sgCs; omega)]
      exact ei_t (nI_lt (b := 224) c8 (by omega)) rfl
    refine ei_n (nI_nlt (b := 224) (by omega) (by omega)) ?_
    by_cases c9 : 239 < code
    · rw [if_neg (show ¬ sgCs code s by unfold sgCs; omega)]
      exact ei_t (nI_lt (a := 239) c9 (by omega)) rfl
    · rw [if_pos (show sgCs code s by unfold sgCs; omega)]
      exact ei_n (nI_nlt (a := 239) (by omega) (by omega)) rfl
  · rw [if_neg l7]
    refine ei_n (by decide) ?_
    by_cases c1 : code = 220
    · rw [if_pos (show sgCs code s from Or.inl ⟨l7, c1⟩)]
      exact ei_t (by rw [c1]; rfl) rfl
    · rw [if_neg (show ¬ sgCs code s from fun h => h.elim (fun z => c1 z.2) (fun z => l7 z.1))]
      exact ei_n (ne 220 (by decide) c1) rfl
theorem fpX.f (h : fpX x D L p) (F : FXp x x') (h6 : x'.1 40 6 = 0) {p' : Nat} (h8 : x'.1 40 8 = nI p') (hp : p' ≤ L) : fpX x' D L p' := ⟨h8, h6, by rw [F.1 _ _ (by omega)]; exact h.2.2.1, ⟨h.2.2.2.1.1, hp⟩, by rw [F.2]; exact h.2.2.2.2⟩
theorem fsX.fp {v : Nat → Nat} (h : fsX x P s) (F : FXp x x') (ev : ∀ k, 1 ≤ k → k ≤ 9 → v k = s.1 k) : fsX x' P (v, s.2) := by
  have hP' := h.1.1
  unfold isP at hP'
  exact h.i F.2 (fun t k _ => F.1 _ _ (by omega)) (by rw [F.1 _ _ (by omega), ev 1 (by omega) (by omega)]; exact h.1.2.2.1) (by rw [F.1 _ _ (by omega), ev 2 (by omega) (by omega)]; exact h.1.2.2.2.1) (F.1 _ _ (by omega)) (F.1 _ _ (by omega)) (by rw [F.1 _ _ (by omega), ev 7 (by omega) (by omega)]; exact h.2.1) (F.1 _ _ (by omega)) (F.1 _ _ (by omega)) (fun k hk => ev k (by omega) (by omega))
/-- a marker -/
theorem x_mk (hs : fsX x P s) (ok : sgOk s) (hp : fpX x D L (s.1 0)) : ∃ v x', fX8_readMarker X (rg_p lX B w0 x) (B + 40) = some (v, rg_p lX B w0 x') ∧ FXp x x' ∧ ((∃ f, sgB (sgMk D L (s.1 0)) (fun a => if sgCs a.1 s then .inr a else .inl (4, a.2 - 1)) = .inl f ∧ v = -1 ∧ ftX x' f) ∨ ∃ u q, sgB (sgMk D L (s.1 0)) (fun a => if sgCs a.1 s then .inr a else .inl (4, a.2 - 1)) = .inr (u, q) ∧ v = nI u ∧ u < 256 ∧ fpX x' D L q) := by
  generalize s.1 0 = p at *
  have hL := hp.2.2.2.1
  -- the end
  have e85 : ∀ (y : rg_S) (q : Nat), FXp x y → fpX y D L q → q < L → D q ≠ 255 → ∃ v x', fX8_readMarker_85 X (B + 40) (rg_p lX B w0 y) = some (v, rg_p lX B w0 x') ∧ FXp x x' ∧ ((∃ f, (if sgCs (D q) s then (.inr (D q, q + 1) : sgF ⊕ (Nat × Nat)) else .inl (4, q)) = .inl f ∧ v = -1 ∧ ftX x' f) ∨ ∃ u q', (if sgCs (D q) s then (.inr (D q, q + 1) : sgF ⊕ (Nat × Nat)) else .inl (4, q)) = .inr (u, q') ∧ v = nI u ∧ u < 256 ∧ fpX x' D L q') := by
    intro y q Fy hy hq hn
    have Dq := hy.2.2.2.2 q hq
    have sy : fsX y P (s.1, s.2) := hs.fp Fy (fun _ _ _ => rfl)
    have cs := x_cs (X := X) (B := B) (w0 := w0) (x := y) (code := D q) Dq.2 (show fsX y P s from sy) ok
    have start : ∀ z, (if (if sgCs (D q) s then (1 : Int32) else 0) = 0 then (gI (rg_p lX B w0 y) (B + 40) 8 8).bind fun v51 => (gO (rg_p lX B w0 y) (B + 40) 8).bind fun o52 => (fX8_fail X (rg_p lX B w0 y) (B + 40) 4 v51).bind fun q53 => some (q53.1, q53.2) else (gI (rg_p lX B w0 y) (B + 40) 8 8).bind fun v49 => (pV (rg_p lX B w0 y) (B + 40) 8 8 (.int (v49 + 1))).bind fun w50 => some (nI (D q), w50)) = z → fX8_readMarker_85 X (B + 40) (rg_p lX B w0 y) = z := by
      intro z hz
      unfold fX8_readMarker_85
      refine ob_v (rg_I rfl rfl) (ob_v (rg_C rfl rfl) (ob_v (rg_I rfl rfl) ?_))
      rw [hy.1, hy.2.2.1]
      refine ei_t (nI_lt hq (by omega)) (ob_v (rg_C rfl rfl) (ob_v (rg_I rfl rfl) (ob_v (rg_O rfl) ?_)))
      rw [hy.1]
      refine ob_v (x_at (o := 1) (n := L) (k := q) (Or.inl rfl) hy.2.2.1 hL.1 hq) (ob_v (rg_O rfl) ?_)
      dsimp only
      rw [Dq.1]
      exact ob_v cs hz
    by_cases z : sgCs (D q) s
    · rw [if_pos z] at start ⊢
      have F : FXp y (rg_wI y 40 8 (nI (q + 1))) := FXp.wI (by omega)
      refine ⟨_, _, start _ (ei_n (by decide) (ob_v (rg_I rfl rfl) ?_)), Fy.trans F, Or.inr ⟨_, _, rfl, rfl, Dq.2, hy.f F (by rw [wI_n _ _ (by omega)]; exact hy.2.1) (wI_s _ _ _ _) (by omega)⟩⟩
      rw [hy.1, nI_1]
      exact ob_v (rg_pI rfl rfl _) rfl
    · rw [if_neg z] at start ⊢
      obtain ⟨x2, e2, F2, f1, f2⟩ := x_fail (X := X) (B := B) (w0 := w0) (x := y) (f := 4) (q := q)
      refine ⟨_, x2, start _ (ei_t rfl (ob_v (rg_I rfl rfl) (ob_v (rg_O rfl) ?_))), Fy.trans F2, Or.inl ⟨_, rfl, rfl, ftX.i f1 f2 (by decide) (by decide) (by omega)⟩⟩
      rw [hy.1]
      exact ob_v e2 rfl
  -- bytes that fill
  have skip : ∀ (r q M : Nat) (y : rg_S), L < q + r → r < M → FXp x y → fpX y D L q → ∃ v x', fX8_readMarker_41 X M (B + 40) (rg_p lX B w0 y) = some (v, rg_p lX B w0 x') ∧ FXp x x' ∧ ((∃ f, sgB (sgSk2 D L r q) (fun a => if sgCs a.1 s then (.inr a : sgF ⊕ (Nat × Nat)) else .inl (4, a.2 - 1)) = .inl f ∧ v = -1 ∧ ftX x' f) ∨ ∃ u q', sgB (sgSk2 D L r q) (fun a => if sgCs a.1 s then (.inr a : sgF ⊕ (Nat × Nat)) else .inl (4, a.2 - 1)) = .inr (u, q') ∧ v = nI u ∧ u < 256 ∧ fpX x' D L q') := by
    intro r
    induction r with
    | zero =>
      intro q M y hr _ _ hy
      have := hy.2.2.2.1.2
      omega
    | succ r ih =>
      intro q M y hr hM Fy hy
      have hqL := hy.2.2.2.1.2
      obtain ⟨M, rfl⟩ : ∃ M', M = M' + 1 := ⟨M - 1, by omega⟩
      unfold sgSk2
      by_cases d1 : L ≤ q
      · rw [if_pos d1]
        obtain ⟨x2, e2, F2, f1, f2⟩ := x_fail (X := X) (B := B) (w0 := w0) (x := y) (f := 1) (q := L)
        refine ⟨_, x2, ?_, Fy.trans F2, Or.inl ⟨_, rfl, rfl, ftX.i f1 f2 (by decide) (by decide) (by omega)⟩⟩
        rw [fX8_readMarker_41.eq_2]
        refine ob_v (rg_I rfl rfl) (ob_v (rg_C rfl rfl) (ob_v (rg_I rfl rfl) ?_))
        rw [hy.1, hy.2.2.1]
        refine ei_t (nI_le d1 (by omega)) ?_
        unfold fX8_readMarker_85
        refine ob_v (rg_I rfl rfl) (ob_v (rg_C rfl rfl) (ob_v (rg_I rfl rfl) ?_))
        rw [hy.1, hy.2.2.1]
        refine ei_n (nI_nlt d1 (by omega)) (ob_v (rg_C rfl rfl) (ob_v (rg_I rfl rfl) (ob_v (rg_O rfl) ?_)))
        rw [hy.2.2.1]
        exact ob_v e2 rfl
      rw [if_neg d1]
      have Dq := hy.2.2.2.2 q (by omega)
      have start : ∀ z, (if nI (D q) = 255 then (gI (rg_p lX B w0 y) (B + 40) 8 8).bind fun v67 => (pV (rg_p lX B w0 y) (B + 40) 8 8 (.int (v67 + 1))).bind fun w68 => fX8_readMarker_41 X M (B + 40) w68 else fX8_readMarker_85 X (B + 40) (rg_p lX B w0 y)) = z → fX8_readMarker_41 X (M + 1) (B + 40) (rg_p lX B w0 y) = z := by
        intro z hz
        rw [fX8_readMarker_41.eq_2]
        refine ob_v (rg_I rfl rfl) (ob_v (rg_C rfl rfl) (ob_v (rg_I rfl rfl) ?_))
        rw [hy.1, hy.2.2.1]
        refine ei_n (nI_ge (by omega) (by omega)) (ob_v (rg_C rfl rfl) (ob_v (rg_I rfl rfl) (ob_v (rg_O rfl) ?_)))
        rw [hy.1]
        refine ob_v (x_at (o := 1) (n := L) (k := q) (Or.inl rfl) hy.2.2.1 hL.1 (by omega)) ?_
        dsimp only
        rw [Dq.1]
        exact hz
      by_cases d2 : D q = 255
      · rw [if_pos d2]
        have F : FXp y (rg_wI y 40 8 (nI (q + 1))) := FXp.wI (by omega)
        obtain ⟨v, x2, e2, o2⟩ := ih (q + 1) M (rg_wI y 40 8 (nI (q + 1))) (by omega) (by omega) (Fy.trans F) (hy.f F (by rw [wI_n _ _ (by omega)]; exact hy.2.1) (wI_s _ _ _ _) (by omega))
        refine ⟨v, x2, start _ (ei_t (by rw [d2]; rfl) (ob_v (rg_I rfl rfl) ?_)), o2⟩
        rw [hy.1, nI_1]
        exact ob_v (rg_pI rfl rfl _) e2
      · rw [if_neg d2]
        obtain ⟨v, x2, e2, o2⟩ := e85 y q Fy hy (by omega) d2
        exact ⟨v, x2, start _ (ei_n (fun e => d2 ((nI_eq (b := 255) (by omega) (by omega)).mp e)) e2), o2⟩
  unfold sgMk fX8_readMarker
  by_cases d0 : p < L
  · have Dp := hp.2.2.2.2 p d0
    by_cases d1 : D p = 255
    · rw [if_neg (fun e => e.2 d1)]
      obtain ⟨v, x2, e2, o2⟩ := skip (L + 1) p FU x (by omega) (by unfold FU; omega) FXp.rfl hp
      refine ⟨v, x2, ?_, o2⟩
      refine ob_v (rg_I rfl rfl) (ob_v (rg_C rfl rfl) (ob_v (rg_I rfl rfl) ?_))
      rw [hp.1, hp.2.2.1]
      refine ei_n (nI_ge d0 (by omega)) (ob_v (rg_C rfl rfl) (ob_v (rg_I rfl rfl) (ob_v (rg_O rfl) ?_)))
      rw [hp.1]
      refine ob_v (x_at (o := 1) (n := L) (k := p) (Or.inl rfl) hp.2.2.1 hL.1 d0) ?_
      dsimp only
      rw [Dp.1]
      exact ei_t (by rw [d1]; rfl) e2
    · rw [if_pos ⟨d0, d1⟩]
      obtain ⟨x2, e2, F2, f1, f2⟩ := x_fail (X := X) (B := B) (w0 := w0) (x := x) (f := 3) (q := p)
      refine ⟨_, x2, ?_, F2, Or.inl ⟨_, rfl, rfl, ftX.i f1 f2 (by decide) (by decide) (by omega)⟩⟩
      refine ob_v (rg_I rfl rfl) (ob_v (rg_C rfl rfl) (ob_v (rg_I rfl rfl) ?_))
      rw [hp.1, hp.2.2.1]
      refine ei_n (nI_ge d0 (by omega)) (ob_v (rg_C rfl rfl) (ob_v (rg_I rfl rfl) (ob_v (rg_O rfl) ?_)))
      rw [hp.1]
      refine ob_v (x_at (o := 1) (n := L) (k := p) (Or.inl rfl) hp.2.2.1 hL.1 d0) ?_
      dsimp only
      rw [Dp.1]
      refine ei_n (fun e => d1 ((nI_eq (b := 255) (by omega) (by omega)).mp e)) (ob_v (rg_I rfl rfl) (ob_v (rg_O rfl) ?_))
      rw [hp.1]
      exact ob_v e2 rfl
  · rw [if_neg (fun e => d0 e.1)]
    obtain ⟨v, x2, e2, o2⟩ := skip (L + 1) p FU x (by omega) (by unfold FU; omega) FXp.rfl hp
    refine ⟨v, x2, ?_, o2⟩
    refine ob_v (rg_I rfl rfl) (ob_v (rg_C rfl rfl) (ob_v (rg_I rfl rfl) ?_))
    rw [hp.1, hp.2.2.1]
    exact ei_t (nI_le (by omega) (by omega)) e2
end
