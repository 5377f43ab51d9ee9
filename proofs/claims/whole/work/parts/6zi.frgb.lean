/-! Forge whole -/
/-- what a forged table holds -/
def yTb (y : rg_S) (f : Nat → Nat) : Prop := y.1 48 2 = nI (cn f 256) ∧ (∀ l, 1 ≤ l → l ≤ 16 → y.2.2.1 49 l = nI (bC f l)) ∧ ∀ i, i < cn f 256 → y.2.2.1 50 i = nI ((bO f).getD i 0)
theorem bB_at {f : Nat → Nat} (h : f 256 = 1) {p : Nat} (hp : p < 257) (hf : 0 < f p) : bB f (cn f p) = (rS f (cn f 256)).2.2 p := by
  have hlt := cn_lt (f := f) (p := 257) (q := p) hp hf
  have e := ((rS_R h (Nat.le_refl _)).2 _ hlt).2.2.2
  rw [ps_at hp hf] at e
  exact e
section
variable {X : px_X} {b B : Nat} {w0 w1 : px_W} {x y : rg_S} {f : Nat → Nat}
theorem m_shorten (h256 : f 256 = 1) (hf : ∀ p, p < 256 → y.2.2.1 51 p = nI (f p) ∧ f p < 2 ^ 31) (hb : ∀ p, p < 257 → y.2.2.1 54 p = nI ((rS f (cn f 256)).2.2 p)) : fX12_shorten X (rg_p lM b w0 y) (b + 48) = some (rg_p lM b w0 (rg_wA y 55 (cA 300 (bC f) (y.2.2.1 55)))) := by
  unfold fX12_shorten
  have e := rg_lpF (F := fun u (t : Int32 × px_W) => fX12_shorten_2 X u (b + 48) t.1 t.2) 300 (fun l => (nI l, rg_p lM b w0 (rg_wA y 55 (fU l (fun _ => nI 0) (y.2.2.1 55))))) (r := fX12_shorten_22 X (b + 48) (rg_p lM b w0 (rg_wA y 55 (fU 300 (fun _ => nI 0) (y.2.2.1 55))))) (by omega) ?_ ?_
  · have e' : fX12_shorten_2 X FU (b + 48) 0 (rg_p lM b w0 y) = fX12_shorten_22 X (b + 48) (rg_p lM b w0 (rg_wA y 55 (fU 300 (fun _ => nI 0) (y.2.2.1 55)))) := by
      refine Eq.trans ?_ e
      dsimp only
      rw [fU_0, wA_id rfl, nI_0]
    refine e'.trans ?_
    unfold fX12_shorten_22
    have e2 := rg_lpF (F := fun u (t : Int32 × px_W) => fX12_shorten_24 X u (b + 48) t.1 t.2) 257 (fun p => (nI p, rg_p lM b w0 (rg_wA y 55 (cA 300 (hN (bB f) (cn f p)) (y.2.2.1 55))))) (r := some (rg_p lM b w0 (rg_wA y 55 (cA 300 (bC f) (y.2.2.1 55))))) (by omega) ?_ ?_
    · exact e2
    · intro m p hp
      dsimp only
      have cb := cn_b f p
      have f47 : 0 < f p → fX12_shorten_47 X (fX12_shorten_24 X m) (b + 48) (nI p) (rg_p lM b w0 (rg_wA y 55 (cA 300 (hN (bB f) (cn f p)) (y.2.2.1 55)))) = fX12_shorten_24 X m (b + 48) (nI (p + 1)) (rg_p lM b w0 (rg_wA y 55 (cA 300 (hN (bB f) (cn f (p + 1))) (y.2.2.1 55)))) := by
        intro z
        have eb := bB_at h256 hp z
        have hl := bB_le h256 (cn_lt (f := f) (p := 257) (q := p) hp z)
        rw [eb] at hl
        unfold fX12_shorten_47
        refine ob_v (rg_C rfl rfl) (ob_v (rg_C rfl rfl) (ob_v (rg_A rfl (by decide) p (by omega) (by decide)) ?_))
        rw [wA_n _ _ (by decide), hb p hp]
        refine ob_v (rg_A rfl (by decide) _ (by omega) (by decide)) (ob_v (rg_sA _ rfl (by decide) _ _ (by omega) (by decide)) ?_)
        rw [wA_wA, wA_s, cA_at (by omega), nI_1, id, cA_u (by omega), cn_s1 z, hN_s, eb, fX12_shorten_62, nI_1]
      rw [fX12_shorten_24.eq_2]
      refine ei_n (nI_nlt (a := 256) (by omega) (by omega)) ?_
      by_cases e : p = 256
      · exact ei_t (by rw [e]; rfl) (f47 (by rw [e, h256]; decide))
      · obtain ⟨h1, h2⟩ := hf p (by omega)
        refine ei_n (fun h => e ((nI_eq (b := 256) (by omega) (by omega)).mp h)) (ob_v (rg_C rfl rfl) (ob_v (rg_A rfl (by decide) p (by omega) (by decide)) ?_))
        rw [wA_n _ _ (by decide), h1]
        by_cases z : 0 < f p
        · exact ei_n (nI_ge (a := 0) z (by omega)) (f47 z)
        · refine ei_t (by rw [show f p = 0 by omega]; decide) ?_
          rw [fX12_shorten_62, nI_1, cn_s0 z]
    · intro m
      dsimp only
      rw [fX12_shorten_24.eq_2]
      refine ei_t (by decide) ?_
      rw [m_sh68 (y := rg_wA y 55 (cA 300 (hN (bB f) (cn f 257)) (y.2.2.1 55))) (bKI h256) (wA_s _ _ _), wA_wA]
      rfl
  · intro m l hl
    dsimp only
    rw [fX12_shorten_2.eq_2]
    refine ei_n (nI_ge (b := 300) hl (by omega)) (ob_v (rg_C rfl rfl) (ob_v (rg_sA _ rfl (by decide) l _ hl (by decide)) ?_))
    rw [wA_wA, wA_s, nI_1, ← fU_s]
    rfl
  · intro m
    dsimp only
    rw [fX12_shorten_2.eq_2]
    exact ei_t (by decide) rfl
/-- the symbols in order -/
theorem m_syms (h256 : f 256 = 1) (hf : ∀ p, p < 256 → y.2.2.1 51 p = nI (f p) ∧ f p < 2 ^ 31) (hb : ∀ p, p < 257 → y.2.2.1 54 p = nI ((rS f (cn f 256)).2.2 p)) (hw : y.1 48 2 = 0) : fX12_best_68 X (b + 48) (rg_p lM b w0 y) = some (rg_p lM b w0 (rg_wI (rg_wA y 50 (sL (bO f) (y.2.2.1 50))) 48 2 (nI (cn f 256)))) := by
  have hMb := cn_b f 256
  have hNs := bN_s h256
  have full := bO_len h256
  have all : hO (bB f) (ps f 257) (cn f 256) 299 = bO f := hO_stop (n := 256) full 43
  have bl : ∀ n k, k ≤ cn f 256 → (hO (bB f) (ps f 257) (cn f 256) n ++ hO1 (bB f) (ps f 257) (n + 1) k).length ≤ 256 := by
    intro n k hk
    have h1 := hO_le (bB f) (ps f 257) (cn f 256) (n + 1)
    have e : hO (bB f) (ps f 257) (cn f 256) (n + 1) = hO (bB f) (ps f 257) (cn f 256) n ++ hO1 (bB f) (ps f 257) (n + 1) (cn f 256) := rfl
    rw [e, List.length_append, hO1_len] at h1
    rw [List.length_append, hO1_len]
    have mono : ∀ a c, a ≤ c → hN (bB f) a (n + 1) ≤ hN (bB f) c (n + 1) := by
      intro a c hac
      induction c with
      | zero => rw [Nat.le_zero.mp hac]; exact Nat.le_refl _
      | succ c ihc =>
        by_cases ea : a = c + 1
        · rw [ea]; exact Nat.le_refl _
        · have := ihc (by omega)
          show _ ≤ hN (bB f) c (n + 1) + _
          omega
    have := mono k (cn f 256) hk
    omega
  unfold fX12_best_68
  have e := rg_lpF (F := fun u (t : Int32 × px_W) => fX12_best_70 X u (b + 48) t.1 t.2) 299 (fun n => (nI (n + 1), rg_p lM b w0 (rg_wI (rg_wA y 50 (sL (hO (bB f) (ps f 257) (cn f 256) n) (y.2.2.1 50))) 48 2 (nI (hO (bB f) (ps f 257) (cn f 256) n).length)))) (r := some (rg_p lM b w0 (rg_wI (rg_wA y 50 (sL (bO f) (y.2.2.1 50))) 48 2 (nI (cn f 256))))) (by omega) ?_ ?_
  · refine Eq.trans ?_ e
    dsimp only
    rw [show rg_wA y 50 (sL (hO (bB f) (ps f 257) (cn f 256) 0) (y.2.2.1 50)) = y from wA_id (by
      funext i
      unfold sL
      rw [if_neg (by show ¬ i < 0; omega)]), show rg_wI y 48 2 (nI (hO (bB f) (ps f 257) (cn f 256) 0).length) = y from wI_id (by rw [hw]; rfl)]
    rfl
  · intro m n hn
    dsimp only
    rw [fX12_best_70.eq_2]
    refine ei_n (nI_ge (b := 300) (by omega) (by omega)) ?_
    have e := rg_lpF (F := fun u (t : Int32 × px_W) => fX12_best_79 X (fX12_best_70 X m) u (b + 48) (nI (n + 1)) t.1 t.2) 256 (fun p => (nI p, rg_p lM b w0 (rg_wI (rg_wA y 50 (sL (hO (bB f) (ps f 257) (cn f 256) n ++ hO1 (bB f) (ps f 257) (n + 1) (cn f p)) (y.2.2.1 50))) 48 2 (nI (hO (bB f) (ps f 257) (cn f 256) n ++ hO1 (bB f) (ps f 257) (n + 1) (cn f p)).length)))) (r := fX12_best_70 X m (b + 48) (nI (n + 1 + 1)) (rg_p lM b w0 (rg_wI (rg_wA y 50 (sL (hO (bB f) (ps f 257) (cn f 256) (n + 1)) (y.2.2.1 50))) 48 2 (nI (hO (bB f) (ps f 257) (cn f 256) (n + 1)).length)))) (by omega) ?_ ?_
    · refine Eq.trans ?_ e
      dsimp only
      rw [show hO1 (bB f) (ps f 257) (n + 1) (cn f 0) = [] from rfl, List.append_nil, nI_0]
    · intro u p hp
      dsimp only
      obtain ⟨h1, h2⟩ := hf p hp
      have cle := cn_le (f := f) (p := 256) (q := p + 1) (by omega)
      have bl1 := bl n (cn f (p + 1)) cle
      rw [fX12_best_79.eq_2]
      refine ei_n (nI_ge (b := 256) hp (by omega)) (ob_v (rg_C rfl rfl) (ob_v (rg_A rfl (by decide) p (by omega) (by decide)) ?_))
      rw [wI_2, wA_n _ _ (by decide), h1]
      by_cases z : 0 < f p
      · have eb := bB_at h256 (p := p) (by omega) z
        have hl := bB_le h256 (cn_lt (f := f) (p := 257) (q := p) (by omega) z)
        rw [eb] at hl
        refine ei_n (nI_ge (a := 0) z (by omega)) (ob_v (rg_C rfl rfl) (ob_v (rg_A rfl (by decide) p (by omega) (by decide)) ?_))
        rw [wI_2, wA_n _ _ (by decide), hb p (by omega)]
        have es : hO1 (bB f) (ps f 257) (n + 1) (cn f (p + 1)) = hO1 (bB f) (ps f 257) (n + 1) (cn f p) ++ (if (rS f (cn f 256)).2.2 p = n + 1 then [p] else []) := by
          rw [cn_s1 z, ← eb]
          show hO1 (bB f) (ps f 257) (n + 1) (cn f p) ++ (if bB f (cn f p) = n + 1 then [ps f 257 (cn f p)] else []) = _
          rw [ps_at (by omega) z]
        by_cases e : (rS f (cn f 256)).2.2 p = n + 1
        · rw [if_pos e] at es
          rw [es, ← List.append_assoc] at bl1 ⊢
          rw [List.length_append, List.length_singleton] at bl1
          refine ei_t (by rw [e]) (ob_v (rg_C rfl rfl) (ob_v (rg_I rfl rfl) ?_))
          rw [wI_s]
          refine ob_v (rg_sA _ rfl (by decide) _ _ (by omega) (by decide)) (ob_v (rg_I rfl rfl) (ob_v (rg_pI rfl rfl _) ?_))
          rw [wA_1, wI_s, wI_2, wA_s, id, sL_s, nI_1, fX12_best_125, nI_1, List.length_append (bs := [p]), List.length_singleton, wI_wA, wI_wI, wA_wA]
        · rw [if_neg e, List.append_nil] at es
          rw [es]
          refine ei_n (fun h => e ((nI_eq (by omega) (by omega)).mp h)) ?_
          rw [fX12_best_125, nI_1]
      · refine ei_t (by rw [show f p = 0 by omega]; decide) ?_
        rw [cn_s0 z, fX12_best_125, nI_1]
    · intro u
      dsimp only
      rw [fX12_best_79.eq_2]
      refine ei_t (by decide) ?_
      rw [fX12_best_131, nI_1]
      rfl
  · intro m
    dsimp only
    rw [fX12_best_70.eq_2, all, full]
    exact ei_t (by decide) rfl
theorem m_best (h256 : f 256 = 1) (hs : sumN f 257 < 2 ^ 31) (hf : ∀ p, p < 256 → y.2.2.1 51 p = nI (f p)) (ht : y.1 48 4 = nI (sumN f 256)) : ∃ y', fX12_best X (rg_p lM b w0 y) (b + 48) = some (rg_p lM b w0 y') ∧ FF y y' ∧ yTb y' f := by
  have hMb := cn_b f 256
  have fb : ∀ p, p < 256 → f p < 2 ^ 31 := fun p hp => by
    have := sumN_ge (f := f) (show p < 257 by omega)
    omega
  have hs2 : sumN f 256 + f 256 = sumN f 257 := rfl
  generalize hy1 : rg_wA (rg_wI y 48 2 0) 49 (fU 17 (fun _ => nI 0) (y.2.2.1 49)) = y1
  have F1 : FF y y1 := by
    rw [← hy1]
    exact ⟨fun o k hk => by rw [wA_1, wI_n _ _ hk], rfl, fun o ho => by rw [wA_n _ _ (by omega), wI_2], rfl⟩
  have w1 : y1.1 48 2 = 0 := by rw [← hy1]; rfl
  have c1 : ∀ l, l < 17 → y1.2.2.1 49 l = nI 0 := fun l hl => by rw [← hy1, wA_s, fU_lt hl]
  have start : ∀ r, fX12_best_26 X (b + 48) (rg_p lM b w0 y1) = r → fX12_best X (rg_p lM b w0 y) (b + 48) = r := by
    intro r hr
    unfold fX12_best
    refine ob_v (rg_pI rfl rfl _) ?_
    rw [← hr]
    have e := rg_lpF (F := fun u (t : Int32 × px_W) => fX12_best_7 X u (b + 48) t.1 t.2) 17 (fun l => (nI l, rg_p lM b w0 (rg_wA (rg_wI y 48 2 0) 49 (fU l (fun _ => nI 0) (y.2.2.1 49))))) (r := fX12_best_26 X (b + 48) (rg_p lM b w0 y1)) (by omega) ?_ ?_
    · refine Eq.trans ?_ e
      dsimp only
      rw [fU_0, show rg_wA (rg_wI y 48 2 0) 49 (y.2.2.1 49) = rg_wI y 48 2 0 from wA_id rfl, nI_0]
    · intro m l hl
      dsimp only
      rw [fX12_best_7.eq_2]
      refine ei_n (nI_ge (b := 17) hl (by omega)) (ob_v (rg_C rfl rfl) (ob_v (rg_sA _ rfl (by decide) l _ hl (by decide)) ?_))
      rw [wA_wA, wA_s, nI_1, ← fU_s]
      rfl
    · intro m
      dsimp only
      rw [fX12_best_7.eq_2, hy1]
      exact ei_t (by decide) rfl
  by_cases z : sumN f 256 = 0
  · have f0 : ∀ p, p < 256 → f p = 0 := fun p hp => by
      have := sumN_ge (f := f) hp
      omega
    have m0 : cn f 256 = 0 := by
      unfold cn
      rw [sumN_cong (g := fun _ => 0) (fun p hp => if_neg (by rw [f0 p hp]; decide)), sumN_0]
    have b0 : ∀ l, 1 ≤ l → l ≤ 16 → bC f l = 0 := by
      intro l h1 h2
      have t := bC_tot h256
      rw [m0] at t
      obtain ⟨l', rfl⟩ : ∃ l', l = l' + 1 := ⟨l - 1, by omega⟩
      have a := dn_le (c := bC f) (n := l' + 1) (m := 16) h2
      have e : dn (bC f) (l' + 1) = dn (bC f) l' + bC f (l' + 1) := rfl
      omega
    refine ⟨y1, start _ ?_, F1, by rw [w1, m0]; rfl, fun l h1 h2 => by rw [c1 l (by omega), b0 l h1 h2], fun i hi => absurd hi (by omega)⟩
    unfold fX12_best_26
    refine ob_v (rg_I rfl rfl) ?_
    rw [F1.1 48 4 (by omega), ht, z]
    exact ei_t rfl rfl
  · obtain ⟨y2, e2, G2, F2⟩ := m_join (X := X) (b := b) (w0 := w0) (y := y1) h256 hs (fun p hp => by rw [F1.2.2.2]; exact hf p hp)
    have F12 := F1.trans F2.f
    have hf2 : ∀ p, p < 256 → y2.2.2.1 51 p = nI (f p) ∧ f p < 2 ^ 31 := fun p hp => ⟨by rw [F12.2.2.2]; exact hf p hp, fb p hp⟩
    have hb2 : ∀ p, p < 257 → y2.2.2.1 54 p = nI ((rS f (cn f 256)).2.2 p) := fun p hp => (G2 p hp).2.2
    have e3 := m_shorten (X := X) (b := b) (w0 := w0) (y := y2) h256 hf2 hb2
    generalize hy3 : rg_wA y2 55 (cA 300 (bC f) (y2.2.2.1 55)) = y3 at e3
    generalize hy4 : rg_wA y3 49 (fU 17 (fun l => if l = 0 then y3.2.2.1 49 0 else nI (bC f l)) (y3.2.2.1 49)) = y4
    have n4 : ∀ o, o ≠ 49 → o ≠ 55 → y4.2.2.1 o = y2.2.2.1 o := fun o o1 o2 => by rw [← hy4, wA_n _ _ o1, ← hy3, wA_n _ _ o2]
    have i4 : y4.1 = y1.1 := by rw [← hy4, wA_1, ← hy3, wA_1, F2.1]
    have e5 := m_syms (X := X) (b := b) (w0 := w0) (y := y4) h256 (fun p hp => by rw [n4 51 (by decide) (by decide)]; exact hf2 p hp) (fun p hp => by rw [n4 54 (by decide) (by decide)]; exact hb2 p hp) (by rw [i4]; exact w1)
    refine ⟨rg_wI (rg_wA y4 50 (sL (bO f) (y4.2.2.1 50))) 48 2 (nI (cn f 256)), start _ ?_, ?_, ?_, ?_, ?_⟩
    · unfold fX12_best_26
      refine ob_v (rg_I rfl rfl) ?_
      rw [F1.1 48 4 (by omega), ht]
      refine ei_n (nI_ne0 (by omega) (by omega)) (ob_v (rg_O rfl) (ob_v e2 (ob_v (rg_O rfl) (ob_v e3 ?_))))
      rw [← e5]
      have e := rg_lpF (F := fun u (t : Int32 × px_W) => fX12_best_44 X u (b + 48) t.1 t.2) 16 (fun l => (nI (l + 1), rg_p lM b w0 (rg_wA y3 49 (fU (l + 1) (fun l => if l = 0 then y3.2.2.1 49 0 else nI (bC f l)) (y3.2.2.1 49))))) (r := fX12_best_68 X (b + 48) (rg_p lM b w0 y4)) (by omega) ?_ ?_
      · refine Eq.trans ?_ e
        dsimp only
        rw [← fU_same (n := 0) (f := fun l => if l = 0 then y3.2.2.1 49 0 else nI (bC f l)) (g := y3.2.2.1 49) (if_pos rfl).symm, fU_0, wA_id rfl]
        rfl
      · intro m l hl
        dsimp only
        rw [fX12_best_44.eq_2]
        refine ei_n (nI_nlt (a := 16) (by omega) (by omega)) (ob_v (rg_C rfl rfl) (ob_v (rg_C rfl rfl) (ob_v (rg_A rfl (by decide) _ (by omega) (by decide)) (ob_v (rg_sA _ rfl (by decide) (l + 1) _ (by omega) (by decide)) ?_))))
        have r55 : (rg_wA y3 49 (fU (l + 1) (fun l => if l = 0 then y3.2.2.1 49 0 else nI (bC f l)) (y3.2.2.1 49))).2.2.1 55 (l + 1) = nI (bC f (l + 1)) := by
          rw [wA_n _ _ (by decide), ← hy3, wA_s, cA_at (by omega)]
        have e1 := fU_s (l + 1) (fun l => if l = 0 then y3.2.2.1 49 0 else nI (bC f l)) (y3.2.2.1 49)
        rw [if_neg (show ¬ l + 1 = 0 by omega)] at e1
        rw [r55, wA_wA, wA_s, id, nI_1, e1]
      · intro m
        dsimp only
        rw [fX12_best_44.eq_2, hy4]
        exact ei_t (by decide) rfl
    · refine F12.trans ⟨fun o k hk => ?_, ?_, fun o ho => ?_, ?_⟩
      · rw [wI_n _ _ hk, wA_1, i4, F2.1]
      · rw [wI_2, wA_2, ← hy4, wA_2, ← hy3, wA_2]
      · rw [wI_2, wA_n _ _ (by omega), n4 o (by omega) (by omega)]
      · rw [wI_2, wA_n _ _ (by omega), n4 51 (by decide) (by decide)]
    · exact wI_s _ _ _ _
    · intro l h1 h2
      rw [wI_2, wA_n _ _ (by decide), ← hy4, wA_s, fU_lt (by omega), if_neg (by omega)]
    · intro i hi
      rw [wI_2, wA_s]
      have := bO_len h256
      exact if_pos (show i < (bO f).length by omega)
end
