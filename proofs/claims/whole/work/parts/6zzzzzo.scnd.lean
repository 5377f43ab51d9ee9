/-! a scan that was told is read, by the reference -/
def fO (o n : Nat) (f g : Nat → Int32) : Nat → Int32 := fun j => if o ≤ j ∧ j < o + n then f (j - o) else g j
theorem fO_0 (o : Nat) (f g : Nat → Int32) : fO o 0 f g = g := by
  funext j
  unfold fO
  rw [if_neg (by omega)]
theorem fO_s (o n : Nat) (f g : Nat → Int32) : upd (fO o n f g) (o + n) (f n) = fO o (n + 1) f g := by
  funext j
  unfold upd fO
  by_cases e : j = o + n
  · rw [if_pos e, if_pos (by omega), e, Nat.add_sub_cancel_left]
  · rw [if_neg e]
    by_cases h : o ≤ j ∧ j < o + n
    · rw [if_pos h, if_pos (by omega)]
    · rw [if_neg h, if_neg (by omega)]
def FYt (y y' : rg_S) : Prop := y'.1 = y.1 ∧ y'.2.1 = y.2.1 ∧ (∀ a, a ≠ 39 → a ≠ 40 → a ≠ 56 → a ≠ 57 → y'.2.2.1 a = y.2.2.1 a) ∧ y'.2.2.2 = y.2.2.2
theorem FYt.rfl {y : rg_S} : FYt y y := ⟨Eq.refl _, Eq.refl _, fun _ _ _ _ _ => Eq.refl _, Eq.refl _⟩
theorem FYt.trans {y y1 y2 : rg_S} (h : FYt y y1) (h2 : FYt y1 y2) : FYt y y2 := ⟨h2.1.trans h.1, h2.2.1.trans h.2.1, fun a e1 e2 e3 e4 => (h2.2.2.1 a e1 e2 e3 e4).trans (h.2.2.1 a e1 e2 e3 e4), h2.2.2.2.trans h.2.2.2⟩
section
variable {X : px_X} {b B : Nat} {w0 w1 : px_W} {y y' : rg_S} {c tq i nn n K fi la bf bb fr iv : Nat} {mb cs : sg4} {A2 A3 A4 : Int32}
theorem m_st142 {k64 : Nat → Nat → Int32 → Int32 → Int32 → px_W → Option (Int32 × px_W)} (hc : c < 4) (ht : tq < 4) (h10 : y.2.2.1 10 c = nI tq) : ∃ y', fX15_scanned_142 X k64 FU (b + 0) (b + 4) A2 A3 A4 (nI c) 0 (rg_p lM b w0 y) = k64 (b + 0) (b + 4) A2 A3 (A4 + 1) (rg_p lM b w0 y') ∧ FYt y y' ∧ y'.2.2.1 39 = y.2.2.1 39 ∧ y'.2.2.1 40 = y.2.2.1 40 ∧ y'.2.2.1 57 = upd (y.2.2.1 57) c 1 ∧ y'.2.2.1 56 = if y.2.2.1 57 c = 0 then fO (64 * c) 64 (fun k => y.2.2.1 12 (64 * tq + k)) (y.2.2.1 56) else y.2.2.1 56 := by
  have e196 : ∀ (z : rg_S), fX15_scanned_196 X k64 (b + 0) (b + 4) A2 A3 A4 (nI c) (rg_p lM b w0 z) = k64 (b + 0) (b + 4) A2 A3 (A4 + 1) (rg_p lM b w0 (rg_wA z 57 (upd (z.2.2.1 57) c 1))) := by
    intro z
    unfold fX15_scanned_196
    exact ob_v (rg_C rfl rfl) (ob_v (rg_sA (vp_nar .boolean) rfl (by decide) _ _ hc (by decide)) rfl)
  by_cases s0 : y.2.2.1 57 c = 0
  · generalize hy1 : rg_wA y 56 (fO (64 * c) 64 (fun k => y.2.2.1 12 (64 * tq + k)) (y.2.2.1 56)) = y1
    refine ⟨rg_wA y1 57 (upd (y1.2.2.1 57) c 1), ?_, ⟨?_, ?_, fun a h1 h2 h3 h4 => ?_, ?_⟩, ?_, ?_, ?_, ?_⟩
    · have e := rg_lpF (F := fun M (s : Int32 × rg_S) => fX15_scanned_142 X k64 M (b + 0) (b + 4) A2 A3 A4 (nI c) s.1 (rg_p lM b w0 s.2)) 64 (fun i => (nI i, rg_wA y 56 (fO (64 * c) i (fun k => y.2.2.1 12 (64 * tq + k)) (y.2.2.1 56)))) (r := k64 (b + 0) (b + 4) A2 A3 (A4 + 1) (rg_p lM b w0 (rg_wA y1 57 (upd (y1.2.2.1 57) c 1)))) (by omega) ?_ ?_
      · dsimp only at e
        rw [fO_0, wA_id rfl] at e
        exact e
      · intro M i hi
        dsimp only
        rw [fX15_scanned_142.eq_2]
        refine ei_n (nI_ge (b := 64) (by omega) (by omega)) (ob_v (rg_C rfl rfl) (ob_v (rg_A rfl (by decide) _ hc (by decide)) ?_))
        rw [wA_n _ _ (by decide)]
        refine ei_t s0 (ob_v (rg_C rfl rfl) (ob_v (rg_C rfl rfl) (ob_v (rg_C rfl rfl) (ob_v (rg_A rfl (by decide) _ hc (by decide)) ?_))))
        rw [wA_n _ _ (by decide), h10, show (64 : Int32) * nI tq + nI i = nI (64 * tq + i) from by rw [show (64 : Int32) = nI 64 from rfl, pk_mul, nI_add], show (64 : Int32) * nI c + nI i = nI (64 * c + i) from by rw [show (64 : Int32) = nI 64 from rfl, pk_mul, nI_add]]
        refine ob_v (rg_A rfl (by decide) _ (by omega) (by decide)) ?_
        rw [wA_n _ _ (by decide)]
        refine ob_v (rg_sA id rfl (by decide) _ _ (by omega) (by decide)) ?_
        rw [wA_s, wA_wA, nI_1, ← fO_s (64 * c) i (fun k => y.2.2.1 12 (64 * tq + k)) (y.2.2.1 56)]
        rfl
      · intro M
        dsimp only
        rw [fX15_scanned_142.eq_2, hy1]
        exact ei_t (by decide) (e196 y1)
    · rw [wA_1, ← hy1, wA_1]
    · rw [wA_2, ← hy1, wA_2]
    · rw [wA_n _ _ h4, ← hy1, wA_n _ _ h3]
    · rw [wA_4, ← hy1, wA_4]
    · rw [wA_n _ _ (by decide), ← hy1, wA_n _ _ (by decide)]
    · rw [wA_n _ _ (by decide), ← hy1, wA_n _ _ (by decide)]
    · rw [wA_s, ← hy1, wA_n _ _ (by decide)]
    · rw [if_pos s0, wA_n _ _ (by decide), ← hy1, wA_s]
  · refine ⟨rg_wA y 57 (upd (y.2.2.1 57) c 1), ?_, ⟨rfl, rfl, fun a h1 h2 h3 h4 => wA_n _ _ h4, rfl⟩, wA_n _ _ (by decide), wA_n _ _ (by decide), wA_s _ _ _, ?_⟩
    · rw [show FU = 3999999 + 1 from rfl, fX15_scanned_142.eq_2]
      exact ei_n (by decide) (ob_v (rg_C rfl rfl) (ob_v (rg_A rfl (by decide) _ hc (by decide)) (ei_n s0 (e196 y))))
    · rw [if_neg s0, wA_n _ _ (by decide)]
/-- the members of a scan: tables, steps and the mask -/
theorem m_mem (nn4 : nn ≤ 4) (n4 : n ≤ 4) (hK : K + 29 < 61440) (hm : mmOk n cs mb nn) (ok : csOk n cs) : ∀ (r i M : Nat) (y : rg_S), i + r = nn → r < M → y.1 24 2 = nI n → scR y K nn fi la bf bb fr iv → scM y K mb nn → csY y n cs → ∃ y', fX15_scanned_64 X M (b + 0) (b + 4) (nI K) (nI (mkN (fun i => (mb i).1) i)) (nI i) (rg_p lM b w0 y) = fX15_scanned_210 X (b + 0) (b + 4) (nI K) (nI (mkN (fun i => (mb i).1) nn)) (rg_p lM b w0 y') ∧ FYt y y' ∧ (∀ j, i ≤ j → j < nn → y'.2.2.1 39 (mb j).1 = nI (mb j).2.1 ∧ y'.2.2.1 40 (mb j).1 = nI (4 + (mb j).2.2.1)) ∧ (∀ c, (∀ j, i ≤ j → j < nn → (mb j).1 ≠ c) → y'.2.2.1 39 c = y.2.2.1 39 c ∧ y'.2.2.1 40 c = y.2.2.1 40 c ∧ y'.2.2.1 57 c = y.2.2.1 57 c ∧ ∀ k, k < 64 → y'.2.2.1 56 (64 * c + k) = y.2.2.1 56 (64 * c + k)) ∧ ∀ j, i ≤ j → j < nn → y'.2.2.1 57 (mb j).1 = 1 ∧ ∀ k, k < 64 → y'.2.2.1 56 (64 * (mb j).1 + k) = if y.2.2.1 57 (mb j).1 = 0 then y.2.2.1 12 (64 * (cs (mb j).1).2.2.2 + k) else y.2.2.1 56 (64 * (mb j).1 + k) := by
  intro r
  induction r with
  | zero =>
    intro i M y hi hM h2 hR hS hc
    obtain ⟨M, rfl⟩ : ∃ M', M = M' + 1 := ⟨M - 1, by omega⟩
    have : i = nn := by omega
    subst this
    refine ⟨y, ?_, FYt.rfl, fun j h1 h2 => by omega, fun c _ => ⟨rfl, rfl, rfl, fun _ _ => rfl⟩, fun j h1 h2 => by omega⟩
    rw [fX15_scanned_64.eq_2]
    refine ob_v (rg_C rfl rfl) (ob_v (rg_A rfl (by decide) _ (by omega) (by decide)) ?_)
    rw [hR.1]
    exact ei_t (nI_le (Nat.le_refl _) (by omega)) rfl
  | succ r ih =>
    intro i M y hi hM h2 hR hS hc
    obtain ⟨M, rfl⟩ : ∃ M', M = M' + 1 := ⟨M - 1, by omega⟩
    have mi := hm.1 i (by omega)
    have si := hS i (by omega)
    have okc := ok _ mi.1
    have c10 := (hc _ mi.1).2.2.2
    generalize hy1 : wRa (wRa y 39 (mb i).1 (nI (mb i).2.1)) 40 (mb i).1 (nI (4 + (mb i).2.2.1)) = y1
    have a1 : ∀ a, a ≠ 39 → a ≠ 40 → y1.2.2.1 a = y.2.2.1 a := fun a h1 h2 => by rw [← hy1, wRa_n h2, wRa_n h1]
    have i1 : y1.1 = y.1 := by rw [← hy1]; rfl
    obtain ⟨y2, e2, F2, q39, q40, q57, q56⟩ := m_st142 (X := X) (b := b) (w0 := w0) (y := y1) (c := (mb i).1) (tq := (cs (mb i).1).2.2.2) (A2 := nI K) (A3 := nI (mkN (fun i => (mb i).1) (i + 1))) (A4 := nI i) (k64 := fX15_scanned_64 X M) (by omega) okc.2.2.2.1 (by rw [a1 10 (by decide) (by decide)]; exact c10)
    have F1 : FYt y y1 := ⟨i1, by rw [← hy1]; rfl, fun a h1 h2 _ _ => a1 a h1 h2, by rw [← hy1]; rfl⟩
    have F := F1.trans F2
    have st : fX15_scanned_64 X (M + 1) (b + 0) (b + 4) (nI K) (nI (mkN (fun i => (mb i).1) i)) (nI i) (rg_p lM b w0 y) = fX15_scanned_64 X M (b + 0) (b + 4) (nI K) (nI (mkN (fun i => (mb i).1) (i + 1))) (nI (i + 1)) (rg_p lM b w0 y2) := by
      rw [fX15_scanned_64.eq_2]
      refine ob_v (rg_C rfl rfl) (ob_v (rg_A rfl (by decide) _ (by omega) (by decide)) ?_)
      rw [hR.1, show (4 : Int32) * nI i = nI (4 * i) from by rw [show (4 : Int32) = nI 4 from rfl, pk_mul], show nI K + 10 = nI (K + 10) from nI_add _ 10, show nI K + 11 = nI (K + 11) from nI_add _ 11, show nI K + 12 = nI (K + 12) from nI_add _ 12, nI_add, nI_add, nI_add]
      refine ei_n (nI_ge (by omega) (by omega)) (ob_v (rg_C rfl rfl) (ob_v (rg_A rfl (by decide) _ (by omega) (by decide)) (ob_v (rg_C rfl rfl) (ob_v (rg_C rfl rfl) (ob_v (rg_A rfl (by decide) _ (by omega) (by decide)) (ob_v (rg_C rfl rfl) (ob_v (rg_A rfl (by decide) _ (by omega) (by decide)) (ob_v (rg_O rfl) ?_))))))))
      rw [si.1, si.2.1, si.2.2, show (4 : Int32) + nI (mb i).2.2.1 = nI (4 + (mb i).2.2.1) from nI_add 4 _]
      refine ob_v (m_tabsR h2 mi.1 n4 mi.2.1 mi.2.2.1) ?_
      rw [hy1, mkN_s (cm := fun i => (mb i).1) (i := i) n4 (fun j hj => (hm.1 j (by omega)).1)]
      refine e2.trans ?_
      rw [nI_1]
    obtain ⟨y3, e3, F3, t1, t2, t3⟩ := ih (i + 1) M y2 (by omega) (by omega) (by rw [F.1]; exact h2) (by
      unfold scR
      rw [F.2.2.1 17 (by decide) (by decide) (by decide) (by decide)]
      exact hR) (by
      unfold scM
      rw [F.2.2.1 17 (by decide) (by decide) (by decide) (by decide)]
      exact hS) (by
      unfold csY
      rw [F.2.2.1 7 (by decide) (by decide) (by decide) (by decide), F.2.2.1 8 (by decide) (by decide) (by decide) (by decide), F.2.2.1 9 (by decide) (by decide) (by decide) (by decide), F.2.2.1 10 (by decide) (by decide) (by decide) (by decide)]
      exact hc)
    have own := t2 (mb i).1 (fun j h1 h2 => by have := hm.2.1 i j (by omega) h2; omega)
    have oth : ∀ c, c ≠ (mb i).1 → y2.2.2.1 39 c = y.2.2.1 39 c ∧ y2.2.2.1 40 c = y.2.2.1 40 c ∧ y2.2.2.1 57 c = y.2.2.1 57 c ∧ ∀ k, k < 64 → y2.2.2.1 56 (64 * c + k) = y.2.2.1 56 (64 * c + k) := by
      intro c hne
      refine ⟨?_, ?_, ?_, fun k hk => ?_⟩
      · rw [q39, ← hy1, wRa_n (by decide), wRa_s, if_neg hne]
      · rw [q40, ← hy1, wRa_s, if_neg hne, wRa_n (by decide)]
      · rw [q57, a1 57 (by decide) (by decide)]
        exact pk_un hne
      · rw [q56, a1 57 (by decide) (by decide), a1 56 (by decide) (by decide)]
        by_cases z : y.2.2.1 57 (mb i).1 = 0
        · rw [if_pos z]
          unfold fO
          rw [if_neg (by omega)]
        · rw [if_neg z]
    refine ⟨y3, st.trans e3, F.trans F3, fun j h1 h2 => ?_, fun c hc' => ?_, fun j h1 h2 => ?_⟩
    · by_cases e : j = i
      · rw [e, own.1, own.2.1, q39, q40, ← hy1]
        refine ⟨?_, ?_⟩
        · rw [wRa_n (by decide), wRa_s, if_pos rfl]
        · rw [wRa_s, if_pos rfl]
      · exact t1 j (by omega) h2
    · have hne := hc' i (Nat.le_refl _) (by omega)
      have o := oth c (fun e => hne e.symm)
      have t := t2 c (fun j h1 h2 => hc' j (by omega) h2)
      exact ⟨t.1.trans o.1, t.2.1.trans o.2.1, t.2.2.1.trans o.2.2.1, fun k hk => (t.2.2.2 k hk).trans (o.2.2.2 k hk)⟩
    · by_cases e : j = i
      · rw [e]
        refine ⟨?_, fun k hk => ?_⟩
        · rw [own.2.2.1, q57]
          exact pk_us
        · rw [own.2.2.2 k hk, q56, a1 57 (by decide) (by decide), a1 56 (by decide) (by decide), a1 12 (by decide) (by decide)]
          by_cases z : y.2.2.1 57 (mb i).1 = 0
          · rw [if_pos z, if_pos z]
            unfold fO
            rw [if_pos (by omega), Nat.add_sub_cancel_left]
          · rw [if_neg z, if_neg z]
      · have hne : (mb j).1 ≠ (mb i).1 := by have := hm.2.1 i j (by omega) h2; omega
        obtain ⟨s1, s2⟩ := t3 j (by omega) h2
        have o := oth _ hne
        refine ⟨s1, fun k hk => ?_⟩
        rw [s2 k hk, o.2.2.1, o.2.2.2 k hk, F.2.2.1 12 (by decide) (by decide) (by decide) (by decide)]
/-- a scan's bytes are copied -/
theorem m_dat {sz L : Nat} {D : Nat → Nat} (hK : K + 29 < 61440) (hsz : fr + sz ≤ 16384) (h5 : y.2.2.1 17 (K + 5) = nI fr) (h6 : y.2.2.1 17 (K + 6) = nI sz) {s0 : Int32} : fX15_scanned_277 X (b + 0) (b + 4) (nI K) s0 (rg_p lM b w0 y) = fX15_scanned_342 X (b + 0) (rg_p lM b w0 (rg_wA (rg_wI y 24 29 (nI sz)) 41 (fU sz (fun i => bt (y.2.2.1 5 (fr + i))) (y.2.2.1 41)))) := by
  unfold fX15_scanned_277
  rw [show nI K + 6 = nI (K + 6) from nI_add _ 6]
  refine ob_v (rg_C rfl rfl) (ob_v (rg_C rfl rfl) (ob_v (rg_A rfl (by decide) _ (by omega) (by decide)) ?_))
  rw [h6]
  refine ob_v (rg_pI rfl rfl _) ?_
  generalize hy1 : rg_wI y 24 29 (nI sz) = y1
  have a1 : y1.2 = y.2 := by rw [← hy1]; rfl
  have i29 : y1.1 24 29 = nI sz := by rw [← hy1, wI_s]
  have e := rg_lpF (F := fun M (s : Int32 × rg_S) => fX15_scanned_298 X M (b + 0) (b + 4) (nI K) s.1 (rg_p lM b w0 s.2)) sz (fun i => (nI i, rg_wA y1 41 (fU i (fun i => bt (y.2.2.1 5 (fr + i))) (y.2.2.1 41)))) (r := fX15_scanned_342 X (b + 0) (rg_p lM b w0 (rg_wA y1 41 (fU sz (fun i => bt (y.2.2.1 5 (fr + i))) (y.2.2.1 41))))) (by omega) ?_ ?_
  · dsimp only at e
    rw [fU_0, wA_id (by rw [a1])] at e
    exact e
  · intro M i hi
    dsimp only
    rw [fX15_scanned_298.eq_2]
    refine ob_v (rg_C rfl rfl) (ob_v (rg_I rfl rfl) ?_)
    rw [wA_1, i29, show nI K + 5 = nI (K + 5) from nI_add _ 5]
    refine ei_n (nI_ge hi (by omega)) (ob_v (rg_C rfl rfl) (ob_v (rg_C rfl rfl) (ob_v (rg_C rfl rfl) (ob_v (rg_C rfl rfl) (ob_v (rg_A rfl (by decide) _ (by omega) (by decide)) ?_)))))
    rw [wA_n _ _ (by decide), a1, h5, nI_add]
    refine ob_v (rg_A rfl (by decide) _ (by omega) (by decide)) ?_
    rw [wA_n _ _ (by decide), a1]
    refine ob_v (rg_sA (vp_nar .byte) rfl (by decide) _ _ (by omega) (by decide)) ?_
    rw [wA_s, wA_wA, nI_1, ← fU_s i (fun i => bt (y.2.2.1 5 (fr + i))) (y.2.2.1 41)]
    rfl
  · intro M
    dsimp only
    rw [fX15_scanned_298.eq_2]
    refine ob_v (rg_C rfl rfl) (ob_v (rg_I rfl rfl) ?_)
    rw [wA_1, i29]
    exact ei_t (nI_le (Nat.le_refl _) (by omega)) rfl
end
