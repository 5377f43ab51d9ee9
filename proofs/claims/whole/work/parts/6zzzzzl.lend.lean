/-! the reference lends a table to the reader of scans -/
theorem aW_v {S : List Nat} {g : Nat → Nat} {o : Nat} {Z : Nat → Int32} {i : Nat} : ∀ {d : Nat}, i < d → (∀ i j, i < d → j < i → S.getD i 0 ≠ S.getD j 0) → aW S g o Z d (o + S.getD i 0) = nI (g i) := by
  intro d
  induction d with
  | zero => intro h _; exact absurd h (Nat.not_lt_zero _)
  | succ d ih =>
    intro h nd
    rw [aW.eq_2]
    by_cases e : i = d
    · rw [e, pk_us]
    · rw [pk_un (by have := nd d i (by omega) (by omega); omega)]
      exact ih (by omega) (fun i j hi hj => nd i j (by omega) hj)
theorem aW_z {S : List Nat} {g : Nat → Nat} {o : Nat} {Z : Nat → Int32} {s : Nat} : ∀ {d : Nat}, (∀ i, i < d → S.getD i 0 ≠ s) → aW S g o Z d (o + s) = Z (o + s) := by
  intro d
  induction d with
  | zero => intro _; rfl
  | succ d ih =>
    intro nd
    rw [aW.eq_2, pk_un (by have := nd d (by omega); omega)]
    exact ih (fun i hi => nd i (by omega))
def FYl (y y' : rg_S) : Prop := (∀ p k, ¬ (p = 24 ∧ k = 16) → y'.1 p k = y.1 p k) ∧ y'.2.1 = y.2.1 ∧ (∀ a, ¬ (34 ≤ a ∧ a ≤ 38) → y'.2.2.1 a = y.2.2.1 a) ∧ y'.2.2.2 = y.2.2.2
theorem FYl.rfl {y : rg_S} : FYl y y := ⟨fun _ _ _ => Eq.refl _, Eq.refl _, fun _ _ => Eq.refl _, Eq.refl _⟩
theorem FYl.trans {y y1 y2 : rg_S} (h : FYl y y1) (h2 : FYl y1 y2) : FYl y y2 := ⟨fun p k a => (h2.1 p k a).trans (h.1 p k a), h2.2.1.trans h.2.1, fun a e => (h2.2.2.1 a e).trans (h.2.2.1 a e), h2.2.2.2.trans h.2.2.2⟩
section
variable {X : px_X} {b B : Nat} {w0 w1 : px_W} {y y' : rg_S} {t m : Nat} {c : Nat → Nat} {S : List Nat} {T : sgW}
theorem rT_mk (h : yD y c S m) : rT (yMk y c S t m) t c S m := by
  obtain ⟨h256, hm, hd, hc, hcl, hx, hS, hnd⟩ := h
  intro s hs
  have e37 : (yMk y c S t m).2.2.1 37 = aW S (gL c 16) (256 * t) (fZ (256 * t) 256 (y.2.2.1 37)) m := by
    unfold yMk
    rw [wA_n _ _ (by decide), wA_n _ _ (by decide), wA_s]
  have e38 : (yMk y c S t m).2.2.1 38 = aW S (gW c) (256 * t) (y.2.2.1 38) m := by
    unfold yMk
    rw [wA_n _ _ (by decide), wA_s]
  rw [e37, e38]
  by_cases q : ∃ i, i < m ∧ S.getD i 0 = s
  · obtain ⟨i, hi, e⟩ := q
    refine Or.inl ⟨i, hi, e, ?_, ?_⟩
    · rw [← e]
      exact aW_v hi (fun i j a d => hnd i j a d)
    · rw [← e]
      exact aW_v hi (fun i j a d => hnd i j a d)
  · have q' : ∀ i, i < m → S.getD i 0 ≠ s := fun i hi e => q ⟨i, hi, e⟩
    refine Or.inr ⟨q', ?_⟩
    rw [aW_z q']
    unfold fZ
    rw [if_pos (by omega)]
theorem yMk_o (h : yD y c S m) {i : Nat} (hi : ¬ (256 * t ≤ i ∧ i < 256 * t + 256)) : (yMk y c S t m).2.2.1 37 i = y.2.2.1 37 i ∧ (yMk y c S t m).2.2.1 38 i = y.2.2.1 38 i := by
  obtain ⟨h256, hm, hd, hc, hcl, hx, hS, hnd⟩ := h
  have e37 : (yMk y c S t m).2.2.1 37 = aW S (gL c 16) (256 * t) (fZ (256 * t) 256 (y.2.2.1 37)) m := by
    unfold yMk
    rw [wA_n _ _ (by decide), wA_n _ _ (by decide), wA_s]
  have e38 : (yMk y c S t m).2.2.1 38 = aW S (gW c) (256 * t) (y.2.2.1 38) m := by
    unfold yMk
    rw [wA_n _ _ (by decide), wA_s]
  rw [e37, e38, aW_out hi (fun j hj => (hS j hj).2), aW_out hi (fun j hj => (hS j hj).2)]
  refine ⟨?_, rfl⟩
  unfold fZ
  rw [if_neg hi]
theorem m_lend {W : (Nat → Nat) × List Nat} (ht : t < 8) (hT : wsY y T) (hW : T t = some W) (hO : tbOk W.1 W.2 W.2.length) : ∃ y', fX15_lend X (rg_p lM b w0 y) (b + 0) (b + 4) (nI t) = some (rg_p lM b w0 y') ∧ FYl y y' ∧ rT y' t W.1 W.2 W.2.length ∧ ∀ i, ¬ (256 * t ≤ i ∧ i < 256 * t + 256) → y'.2.2.1 37 i = y.2.2.1 37 i ∧ y'.2.2.1 38 i = y.2.2.1 38 i := by
  have hw : (∀ l, 1 ≤ l → l ≤ 16 → y.2.2.1 14 (17 * t + l) = nI (W.1 l)) ∧ y.2.2.1 16 t = nI W.2.length ∧ ∀ i, i < W.2.length → y.2.2.1 15 (256 * t + i) = nI (W.2.getD i 0) := by
    rcases hT t ht with ⟨g1, _⟩ | ⟨W', g1, _, g3, g4, g5⟩
    · rw [hW] at g1; cases g1
    · rw [hW] at g1
      have := Option.some.inj g1
      subst this
      exact ⟨g3, g4, g5⟩
  obtain ⟨w1', w2', w3'⟩ := hw
  obtain ⟨o1, o2, o3, o4, o5, o6⟩ := hO
  generalize hy1 : rg_wA y 34 (fU 17 (fun l => if l = 0 then y.2.2.1 34 0 else nI (W.1 l)) (y.2.2.1 34)) = y1
  have e2 : fX15_lend X (rg_p lM b w0 y) (b + 0) (b + 4) (nI t) = fX15_lend_34 X (b + 0) (b + 4) (nI t) (rg_p lM b w0 y1) := by
    unfold fX15_lend
    have e := rg_lpF (F := fun M (s : Int32 × rg_S) => fX15_lend_2 X M (b + 0) (b + 4) (nI t) s.1 (rg_p lM b w0 s.2)) 16 (fun i => (nI (i + 1), rg_wA y 34 (fU (i + 1) (fun l => if l = 0 then y.2.2.1 34 0 else nI (W.1 l)) (y.2.2.1 34)))) (r := fX15_lend_34 X (b + 0) (b + 4) (nI t) (rg_p lM b w0 y1)) (by omega) ?_ ?_
    · dsimp only at e
      rw [← fU_same (by rfl), fU_0, wA_id rfl] at e
      exact e
    · intro M i hi
      dsimp only
      rw [fX15_lend_2.eq_2]
      refine ei_n (nI_ge (b := 17) (by omega) (by omega)) (ob_v (rg_C rfl rfl) (ob_v (rg_C rfl rfl) (ob_v (rg_C rfl rfl) ?_)))
      rw [show (17 : Int32) * nI t + nI (i + 1) = nI (17 * t + (i + 1)) from by rw [show (17 : Int32) = nI 17 from rfl, pk_mul, nI_add]]
      refine ob_v (rg_A rfl (by decide) _ (by omega) (by decide)) ?_
      rw [wA_n _ _ (by decide), w1' (i + 1) (by omega) (by omega)]
      refine ob_v (rg_sA id rfl (by decide) _ _ (by omega) (by decide)) ?_
      rw [wA_s, wA_wA, nI_1, ← fU_s (i + 1) (fun l => if l = 0 then y.2.2.1 34 0 else nI (W.1 l)) (y.2.2.1 34), if_neg (by omega)]
      rfl
    · intro M
      dsimp only
      rw [fX15_lend_2.eq_2, hy1]
      exact ei_t (by decide) rfl
  generalize hy2 : rg_wI y1 24 16 (nI W.2.length) = y2
  have a1 : ∀ a, a ≠ 34 → y1.2.2.1 a = y.2.2.1 a := fun a ha => by rw [← hy1, wA_n _ _ ha]
  have a2 : ∀ a, a ≠ 34 → y2.2.2.1 a = y.2.2.1 a := fun a ha => by rw [← hy2, wI_2, a1 a ha]
  generalize hy3 : rg_wA y2 35 (fU W.2.length (fun i => nI (W.2.getD i 0)) (y2.2.2.1 35)) = y3
  have e3 : fX15_lend_34 X (b + 0) (b + 4) (nI t) (rg_p lM b w0 y1) = fX15_lend_87 X (b + 0) (nI t) (rg_p lM b w0 y3) := by
    unfold fX15_lend_34
    refine ob_v (rg_C rfl rfl) (ob_v (rg_C rfl rfl) (ob_v (rg_A rfl (by decide) _ ht (by decide)) ?_))
    rw [a1 16 (by decide), w2']
    refine ob_v (rg_pI rfl rfl _) ?_
    rw [hy2]
    have e := rg_lpF (F := fun M (s : Int32 × rg_S) => fX15_lend_49 X M (b + 0) (b + 4) (nI t) s.1 (rg_p lM b w0 s.2)) W.2.length (fun i => (nI i, rg_wA y2 35 (fU i (fun i => nI (W.2.getD i 0)) (y2.2.2.1 35)))) (r := fX15_lend_87 X (b + 0) (nI t) (rg_p lM b w0 y3)) (by omega) ?_ ?_
    · dsimp only at e
      rw [fU_0, wA_id rfl] at e
      exact e
    · intro M i hi
      dsimp only
      rw [fX15_lend_49.eq_2]
      refine ob_v (rg_C rfl rfl) (ob_v (rg_I rfl rfl) ?_)
      rw [wA_1, show y2.1 24 16 = nI W.2.length by rw [← hy2, wI_s]]
      refine ei_n (nI_ge hi (by omega)) (ob_v (rg_C rfl rfl) (ob_v (rg_C rfl rfl) (ob_v (rg_C rfl rfl) ?_)))
      rw [show (256 : Int32) * nI t + nI i = nI (256 * t + i) from by rw [show (256 : Int32) = nI 256 from rfl, pk_mul, nI_add]]
      refine ob_v (rg_A rfl (by decide) _ (by omega) (by decide)) ?_
      rw [wA_n _ _ (by decide), a2 15 (by decide), w3' i hi]
      refine ob_v (rg_sA id rfl (by decide) _ _ (by omega) (by decide)) ?_
      rw [wA_s, wA_wA, nI_1, ← fU_s i (fun i => nI (W.2.getD i 0)) (y2.2.2.1 35)]
      rfl
    · intro M
      dsimp only
      rw [fX15_lend_49.eq_2]
      refine ob_v (rg_C rfl rfl) (ob_v (rg_I rfl rfl) ?_)
      rw [wA_1, show y2.1 24 16 = nI W.2.length by rw [← hy2, wI_s], hy3]
      exact ei_t (nI_le (Nat.le_refl _) (by omega)) rfl
  have D3 : yD y3 W.1 W.2 W.2.length := by
    refine ⟨o1, ?_, o2, fun l h1 h2 => ?_, o3, o4, fun i hi => ⟨?_, o5 i hi⟩, o6⟩
    · rw [← hy3, wA_1, ← hy2, wI_s]
    · rw [← hy3, wA_n _ _ (by decide), ← hy2, wI_2, ← hy1, wA_s, fU_lt (by omega), if_neg (by omega)]
    · rw [← hy3, wA_s, fU_lt hi]
  have a3 : ∀ a, a ≠ 34 → a ≠ 35 → y3.2.2.1 a = y.2.2.1 a := fun a h1 h2 => by rw [← hy3, wA_n _ _ h2, a2 a h1]
  refine ⟨yMk y3 W.1 W.2 t W.2.length, ?_, ⟨fun p k hk => ?_, ?_, fun a ha => ?_, ?_⟩, rT_mk D3, fun i hi => ?_⟩
  · rw [e2, e3]
    unfold fX15_lend_87
    exact ob_v (rg_C rfl rfl) (ob_v (rg_O rfl) (ob_v (m_smake ht D3) rfl))
  · show y3.1 p k = y.1 p k
    rw [← hy3, wA_1, ← hy2, wI_n _ _ (by omega), ← hy1, wA_1]
  · show y3.2.1 = y.2.1
    rw [← hy3, wA_2, ← hy2, wI_2, ← hy1, wA_2]
  · unfold yMk
    rw [wA_n _ _ (by omega), wA_n _ _ (by omega), wA_n _ _ (by omega), a3 a (by omega) (by omega)]
  · show y3.2.2.2 = y.2.2.2
    rw [← hy3, wA_4, ← hy2, wI_2, ← hy1, wA_4]
  · have := yMk_o (t := t) D3 hi
    rw [a3 37 (by decide) (by decide), a3 38 (by decide) (by decide)] at this
    exact this
/-- all tables that were told are lent -/
theorem m_lends {A2 A3 : Int32} (hO : TOk T) : ∀ (r t M : Nat) (y : rg_S), t + r = 8 → r < M → wsY y T → (∀ k, k < t → ∀ W, T k = some W → rT y k W.1 W.2 W.2.length) → ∃ y', fX15_scanned_31 X M (b + 0) (b + 4) A2 A3 (nI t) (rg_p lM b w0 y) = fX15_scanned_61 X (b + 0) (b + 4) A2 A3 (rg_p lM b w0 y') ∧ FYl y y' ∧ ∀ k, k < 8 → ∀ W, T k = some W → rT y' k W.1 W.2 W.2.length := by
  intro r
  induction r with
  | zero =>
    intro t M y ht hM hT hk
    obtain ⟨M, rfl⟩ : ∃ M', M = M' + 1 := ⟨M - 1, by omega⟩
    refine ⟨y, ?_, FYl.rfl, fun k h => hk k (by omega)⟩
    rw [fX15_scanned_31.eq_2, show t = 8 by omega]
    exact ei_t (by decide) rfl
  | succ r ih =>
    intro t M y ht hM hT hk
    obtain ⟨M, rfl⟩ : ∃ M', M = M' + 1 := ⟨M - 1, by omega⟩
    have st : ∀ z, (if y.2.2.1 13 t = 0 then fX15_scanned_31 X M (b + 0) (b + 4) A2 A3 (nI (t + 1)) (rg_p lM b w0 y) else (fX15_lend X (rg_p lM b w0 y) (b + 0) (b + 4) (nI t)).bind fun q127 => fX15_scanned_31 X M (b + 0) (b + 4) A2 A3 (nI (t + 1)) q127) = z → fX15_scanned_31 X (M + 1) (b + 0) (b + 4) A2 A3 (nI t) (rg_p lM b w0 y) = z := by
      intro z hz
      rw [fX15_scanned_31.eq_2]
      refine ei_n (nI_ge (b := 8) (by omega) (by omega)) (ob_v (rg_C rfl rfl) (ob_v (rg_A rfl (by decide) _ (by omega) (by decide)) ?_))
      unfold fX15_scanned_55
      rw [nI_1]
      by_cases c : y.2.2.1 13 t = 0
      · rw [if_pos c] at hz
        exact ei_t c hz
      · rw [if_neg c] at hz
        exact ei_n c (ob_v (rg_O rfl) hz)
    rcases hT t (by omega) with ⟨g1, g2⟩ | ⟨W, g1, g2, _⟩
    · obtain ⟨y1, e1, F1, h1⟩ := ih (t + 1) M y (by omega) (by omega) hT (fun k hk' W hW => by
        by_cases e : k = t
        · rw [e, g1] at hW; cases hW
        · exact hk k (by omega) W hW)
      exact ⟨y1, st _ (ei_t g2 e1), F1, h1⟩
    · have ok := hO t W g1
      obtain ⟨y1, e1, F1, h1, h2⟩ := m_lend (X := X) (b := b) (w0 := w0) (show t < 8 by omega) hT g1 ok.1
      obtain ⟨y2, e2, F2, h3⟩ := ih (t + 1) M y1 (by omega) (by omega) (by
        unfold wsY
        rw [F1.2.2.1 13 (by omega), F1.2.2.1 14 (by omega), F1.2.2.1 15 (by omega), F1.2.2.1 16 (by omega)]
        exact hT) (fun k hk' W' hW' => by
        by_cases e : k = t
        · rw [e, g1] at hW'
          have := Option.some.inj hW'
          subst this
          rw [e]
          exact h1
        · intro s hs
          have q := h2 (256 * k + s) (by omega)
          rw [q.1, q.2]
          exact hk k (by omega) W' hW' s hs)
      exact ⟨y2, st _ (ei_n (by rw [g2]; decide) (ob_v e1 e2)), F1.trans F2, h3⟩
end
