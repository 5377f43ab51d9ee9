/-! Forge joins -/
def yG (y : rg_S) (s : hS) : Prop := ∀ p, p < 257 → y.2.2.1 52 p = nI (s.1 p) ∧ y.2.2.1 53 p = nI (s.2.1 p) ∧ y.2.2.1 54 p = nI (s.2.2 p)
def FF (y y' : rg_S) : Prop := (∀ o k, o ≠ 48 ∨ k ≠ 2 → y'.1 o k = y.1 o k) ∧ y'.2.1 = y.2.1 ∧ (∀ o, ¬ (49 ≤ o ∧ o ≤ 55) → y'.2.2.1 o = y.2.2.1 o) ∧ y'.2.2.1 51 = y.2.2.1 51
theorem FF.rfl {y : rg_S} : FF y y := ⟨fun _ _ _ => Eq.refl _, Eq.refl _, fun _ _ => Eq.refl _, Eq.refl _⟩
theorem FF.trans {y y1 y2 : rg_S} (h : FF y y1) (h2 : FF y1 y2) : FF y y2 := ⟨fun o k a => (h2.1 o k a).trans (h.1 o k a), h2.2.1.trans h.2.1, fun o a => (h2.2.2.1 o a).trans (h.2.2.1 o a), h2.2.2.2.trans h.2.2.2⟩
/-- .. when only the groups change -/
def FK (y y' : rg_S) : Prop := y'.1 = y.1 ∧ y'.2.1 = y.2.1 ∧ ∀ o, ¬ (52 ≤ o ∧ o ≤ 54) → y'.2.2.1 o = y.2.2.1 o
theorem FK.trans {y y1 y2 : rg_S} (h : FK y y1) (h2 : FK y1 y2) : FK y y2 := ⟨h2.1.trans h.1, h2.2.1.trans h.2.1, fun o a => (h2.2.2 o a).trans (h.2.2 o a)⟩
theorem FK.f {y y' : rg_S} (h : FK y y') : FF y y' := ⟨fun o k _ => by rw [h.1], h.2.1, fun o ho => h.2.2 o (by omega), h.2.2 51 (by omega)⟩
/-- the reference's groups after j joins -/
def rS (f : Nat → Nat) (j : Nat) : hS := hG 257 (f, fun k => k, fun _ => 0) j
theorem rS_R {f : Nat → Nat} (h : f 256 = 1) : ∀ {j : Nat}, j ≤ cn f 256 → hR f (rS f j) (hG (cn f 257) (bS f) j) := by
  intro j
  induction j with
  | zero => intro _; exact hR_0 f
  | succ j ih =>
    intro hj
    have i := ih (by omega)
    have hN := bN_s h
    have iv := (hG_I (N := cn f 257) (num := (bS f).1) (m := j) (cn_b f 257) (fun k hk => bS_pos hk) (by omega)).1
    obtain ⟨a, c, ha, hc⟩ := hI_two iv (by have := iv.2.2.2; omega)
    have la := hL_some ha
    have lc := hL_some hc
    have e1 := hL_tr (f := f) (num := (rS f j).1) (num' := (hG (cn f 257) (bS f) j).1) i.1 (fun k hk => (i.2 k hk).1) (q := none) (fun k hk => by cases hk) (p := 257) (Nat.le_refl _)
    have e2 := hL_tr (f := f) (num := (rS f j).1) (num' := (hG (cn f 257) (bS f) j).1) i.1 (fun k hk => (i.2 k hk).1) (q := some a) (fun k hk => by cases hk; exact la.1) (p := 257) (Nat.le_refl _)
    have ha' : hL (hG (cn f 257) (bS f) j).1 none (cn f 257) = some a := ha
    have hc' : hL (hG (cn f 257) (bS f) j).1 (some a) (cn f 257) = some c := hc
    rw [ha'] at e1
    rw [hc'] at e2
    have e1' : hL (rS f j).1 none 257 = some (ps f 257 a) := e1
    have e2' : hL (rS f j).1 (some (ps f 257 a)) 257 = some (ps f 257 c) := e2
    have s1 : rS f (j + 1) = hJ (ps f 257 a) (ps f 257 c) (rS f j) := by
      show hJ ((hL (rS f j).1 none 257).getD 0) ((hL (rS f j).1 (some ((hL (rS f j).1 none 257).getD 0)) 257).getD 0) (rS f j) = _
      rw [e1', Option.getD_some, e2', Option.getD_some]
    have s2 : hG (cn f 257) (bS f) (j + 1) = hJ a c (hG (cn f 257) (bS f) j) := by
      show hJ ((hL (hG (cn f 257) (bS f) j).1 none (cn f 257)).getD 0) ((hL (hG (cn f 257) (bS f) j).1 (some ((hL (hG (cn f 257) (bS f) j).1 none (cn f 257)).getD 0)) (cn f 257)).getD 0) (hG (cn f 257) (bS f) j) = _
      rw [ha', Option.getD_some, hc', Option.getD_some]
    rw [s1, s2]
    exact hR_J i la.1 lc.1
/-- the two least of the reference: both there before the last, then one -/
theorem rS_two {f : Nat → Nat} (h : f 256 = 1) {j : Nat} (hj : j < cn f 256) : ∃ a c, a < 257 ∧ c < 257 ∧ hL (rS f j).1 none 257 = some a ∧ hL (rS f j).1 (some a) 257 = some c ∧ rS f (j + 1) = hJ a c (rS f j) := by
  have i := rS_R h (j := j) (by omega)
  have hN := bN_s h
  have iv := (hG_I (N := cn f 257) (num := (bS f).1) (m := j) (cn_b f 257) (fun k hk => bS_pos hk) (by omega)).1
  obtain ⟨a, c, ha, hc⟩ := hI_two iv (by have := iv.2.2.2; omega)
  have la := hL_some ha
  have lc := hL_some hc
  have e1 := hL_tr (f := f) (num := (rS f j).1) (num' := (hG (cn f 257) (bS f) j).1) i.1 (fun k hk => (i.2 k hk).1) (q := none) (fun k hk => by cases hk) (p := 257) (Nat.le_refl _)
  have e2 := hL_tr (f := f) (num := (rS f j).1) (num' := (hG (cn f 257) (bS f) j).1) i.1 (fun k hk => (i.2 k hk).1) (q := some a) (fun k hk => by cases hk; exact la.1) (p := 257) (Nat.le_refl _)
  have ha' : hL (hG (cn f 257) (bS f) j).1 none (cn f 257) = some a := ha
  have hc' : hL (hG (cn f 257) (bS f) j).1 (some a) (cn f 257) = some c := hc
  rw [ha'] at e1
  rw [hc'] at e2
  have e1' : hL (rS f j).1 none 257 = some (ps f 257 a) := e1
  have e2' : hL (rS f j).1 (some (ps f 257 a)) 257 = some (ps f 257 c) := e2
  refine ⟨ps f 257 a, ps f 257 c, (ps_in la.1).1, (ps_in lc.1).1, e1', e2', ?_⟩
  show hJ ((hL (rS f j).1 none 257).getD 0) ((hL (rS f j).1 (some ((hL (rS f j).1 none 257).getD 0)) 257).getD 0) (rS f j) = _
  rw [e1', Option.getD_some, e2', Option.getD_some]
theorem rS_end {f : Nat → Nat} (h : f 256 = 1) : hL (rS f (cn f 256)).1 (hL (rS f (cn f 256)).1 none 257) 257 = none := by
  have i := rS_R h (j := cn f 256) (Nat.le_refl _)
  have hN := bN_s h
  have iv := bI h
  have one : hC (hG (cn f 257) (bS f) (cn f 256)) (cn f 257) = 1 := by have := iv.2.2.2; omega
  have e1 := hL_tr (f := f) (num := (rS f (cn f 256)).1) (num' := (hG (cn f 257) (bS f) (cn f 256)).1) i.1 (fun k hk => (i.2 k hk).1) (q := none) (fun k hk => by cases hk) (p := 257) (Nat.le_refl _)
  have e1' : hL (rS f (cn f 256)).1 none 257 = (hL (hG (cn f 257) (bS f) (cn f 256)).1 none (cn f 257)).map (ps f 257) := e1
  rw [e1']
  have e2 := hL_tr (f := f) (num := (rS f (cn f 256)).1) (num' := (hG (cn f 257) (bS f) (cn f 256)).1) i.1 (fun k hk => (i.2 k hk).1) (q := hL (hG (cn f 257) (bS f) (cn f 256)).1 none (cn f 257)) (fun k hk => (hL_some hk).1) (p := 257) (Nat.le_refl _)
  rw [e2]
  cases ha : hL (hG (cn f 257) (bS f) (cn f 256)).1 none (cn f 257) with
  | none =>
    rw [ha]
    rfl
  | some a =>
    cases hc : hL (hG (cn f 257) (bS f) (cn f 256)).1 (some a) (cn f 257) with
    | none => rfl
    | some c =>
      have la := hL_some ha
      have lc := hL_some hc
      have t := sumN_two (f := fun k => if 0 < (hG (cn f 257) (bS f) (cn f 256)).1 k then 1 else 0) (a := a) (b := c) (fun e => lc.2.2 (by rw [e])) la.1 lc.1
      rw [if_pos la.2.1, if_pos lc.2.1] at t
      unfold hC at one
      omega
theorem rS_b {f : Nat → Nat} (h : f 256 = 1) (hs : sumN f 257 < 2 ^ 31) {j p : Nat} (hj : j ≤ cn f 256) (hp : p < 257) : (rS f j).1 p < 2 ^ 31 := by
  have i := rS_R h hj
  have hN := bN_s h
  by_cases z : 0 < (rS f j).1 p
  · have fp := i.1 p hp z
    have hlt := cn_lt (f := f) (p := 257) (q := p) hp fp
    have e := (i.2 _ hlt).1
    rw [ps_at hp fp] at e
    have e2 := (hG_I (N := cn f 257) (num := (bS f).1) (m := j) (cn_b f 257) (fun k hk => bS_pos hk) (by omega)).2
    have e3 := sumN_ge (f := (hG (cn f 257) (bS f) j).1) hlt
    have e4 : sumN (hG (cn f 257) (bS f) j).1 (cn f 257) = sumN (bS f).1 (cn f 257) := e2
    have e5 := sum_ps (f := f) (g := f) (n := 257) (Nat.le_refl _)
    have e6 : sumN (fun p => if 0 < f p then f p else 0) 257 = sumN f 257 := sumN_cong (fun p _ => by split <;> omega)
    have e7 : sumN (bS f).1 (cn f 257) = sumN (fun k => f (ps f 257 k)) (cn f 257) := rfl
    omega
  · omega
section
variable {X : px_X} {b B : Nat} {w0 w1 : px_W} {x y : rg_S} {s : hS} {f : Nat → Nat}
theorem m_join70 {k64 : Nat → Int32 → Int32 → px_W → Option px_W} {a c : Nat} (hG : yG y s) (hg : ∀ p, p < 257 → s.2.1 p < 1000) (ha : a < 257) (hc : c < 257) (hb : ∀ p, p < 257 → (hJ a c s).1 p < 2 ^ 31) :
    ∃ y', fX12_join_70 X k64 FU (b + 48) (nI a) (nI c) 0 (rg_p lM b w0 y) = k64 (b + 48) (enc (hL (hJ a c s).1 none 257)) (enc (hL (hJ a c s).1 (hL (hJ a c s).1 none 257) 257)) (rg_p lM b w0 y') ∧ yG y' (hJ a c s) ∧ FK y y' := by
  generalize h7 : upd (upd (y.2.2.1 52) a (nI (s.1 a) + nI (s.1 c))) c 0 = f7
  generalize hy2 : rg_wA (rg_wA (rg_wA y 54 (fU 257 (fun i => nI ((hJ a c s).2.2 i)) (y.2.2.1 54))) 53 (fU 257 (fun i => nI ((hJ a c s).2.1 i)) (y.2.2.1 53))) 52 f7 = y2
  have G2 : yG y2 (hJ a c s) := by
    intro p hp
    rw [← hy2]
    refine ⟨?_, ?_, ?_⟩
    · rw [wA_s, ← h7]
      show upd _ c 0 p = nI (if p = c then 0 else if p = a then s.1 a + s.1 c else s.1 p)
      by_cases kc : p = c
      · rw [kc, pk_us, if_pos rfl]
        rfl
      · rw [pk_un kc, if_neg kc]
        by_cases ka : p = a
        · rw [ka, pk_us, if_pos rfl, nI_add]
        · rw [pk_un ka, if_neg ka]
          exact (hG p hp).1
    · rw [wA_n _ _ (by omega), wA_s, fU_lt hp]
    · rw [wA_n _ _ (by omega), wA_n _ _ (by omega), wA_s, fU_lt hp]
  refine ⟨y2, ?_, G2, ?_⟩
  · have e := rg_lpF (F := fun u (t : Int32 × px_W) => fX12_join_70 X k64 u (b + 48) (nI a) (nI c) t.1 t.2) 257 (fun p => (nI p, rg_p lM b w0 (rg_wA (rg_wA y 54 (fU p (fun i => nI ((hJ a c s).2.2 i)) (y.2.2.1 54))) 53 (fU p (fun i => nI ((hJ a c s).2.1 i)) (y.2.2.1 53))))) (r := fX12_join_120 X k64 (b + 48) (nI a) (nI c) (rg_p lM b w0 (rg_wA (rg_wA y 54 (fU 257 (fun i => nI ((hJ a c s).2.2 i)) (y.2.2.1 54))) 53 (fU 257 (fun i => nI ((hJ a c s).2.1 i)) (y.2.2.1 53))))) (by omega) ?_ ?_
    · have e' : fX12_join_70 X k64 FU (b + 48) (nI a) (nI c) 0 (rg_p lM b w0 y) = fX12_join_120 X k64 (b + 48) (nI a) (nI c) (rg_p lM b w0 (rg_wA (rg_wA y 54 (fU 257 (fun i => nI ((hJ a c s).2.2 i)) (y.2.2.1 54))) 53 (fU 257 (fun i => nI ((hJ a c s).2.1 i)) (y.2.2.1 53)))) := by
        refine Eq.trans ?_ e
        dsimp only
        rw [fU_0, fU_0, wA_id (s := y) (o := 54) rfl, wA_id (s := y) (o := 53) rfl, nI_0]
      refine e'.trans ?_
      unfold fX12_join_120
      refine ob_v (rg_C rfl rfl) (ob_v (rg_A rfl (by decide) a (by omega) (by decide)) (ob_v (rg_C rfl rfl) (ob_v (rg_A rfl (by decide) c (by omega) (by decide)) (ob_v (rg_sA _ rfl (by decide) a _ (by omega) (by decide)) (ob_v (rg_C rfl rfl) (ob_v (rg_sA _ rfl (by decide) c _ (by omega) (by decide)) ?_))))))
      have r52 : (rg_wA (rg_wA y 54 (fU 257 (fun i => nI ((hJ a c s).2.2 i)) (y.2.2.1 54))) 53 (fU 257 (fun i => nI ((hJ a c s).2.1 i)) (y.2.2.1 53))).2.2.1 52 = y.2.2.1 52 := rfl
      rw [wA_wA, wA_s, r52, (hG a ha).1, (hG c hc).1, id, id, h7, hy2]
      have nb : ∀ p, p < 257 → y2.2.2.1 52 p = nI ((hJ a c s).1 p) ∧ (hJ a c s).1 p < 2 ^ 31 := fun p hp => ⟨(G2 p hp).1, hb p hp⟩
      exact ob_v (rg_O rfl) (ob_v (m_least (q := none) nb (fun k hk => by cases hk)) (ob_v (rg_O rfl) (ob_v (m_least nb (fun k hk => (hL_some hk).1)) rfl)))
    · intro m p hp
      dsimp only
      obtain ⟨_, g8, g9⟩ := hG p hp
      have hgp := hg p hp
      have r53 : (rg_wA (rg_wA y 54 (fU p (fun i => nI ((hJ a c s).2.2 i)) (y.2.2.1 54))) 53 (fU p (fun i => nI ((hJ a c s).2.1 i)) (y.2.2.1 53))).2.2.1 53 p = nI (s.2.1 p) := by
        rw [wA_s, fU_ge (Nat.le_refl p), g8]
      have f97 : (s.2.1 p = a ∨ s.2.1 p = c) → fX12_join_97 X k64 (fX12_join_70 X k64 m) (b + 48) (nI a) (nI c) (nI p) (rg_p lM b w0 (rg_wA (rg_wA y 54 (fU p (fun i => nI ((hJ a c s).2.2 i)) (y.2.2.1 54))) 53 (fU p (fun i => nI ((hJ a c s).2.1 i)) (y.2.2.1 53)))) = fX12_join_70 X k64 m (b + 48) (nI a) (nI c) (nI (p + 1)) (rg_p lM b w0 (rg_wA (rg_wA y 54 (fU (p + 1) (fun i => nI ((hJ a c s).2.2 i)) (y.2.2.1 54))) 53 (fU (p + 1) (fun i => nI ((hJ a c s).2.1 i)) (y.2.2.1 53)))) := by
        intro e
        have e8 : (hJ a c s).2.1 p = a := if_pos e
        have e9 : (hJ a c s).2.2 p = s.2.2 p + 1 := if_pos e
        unfold fX12_join_97 fX12_join_114
        refine ob_v (rg_C rfl rfl) (ob_v (rg_A rfl (by decide) p (by omega) (by decide)) (ob_v (rg_sA _ rfl (by decide) p _ (by omega) (by decide)) (ob_v (rg_C rfl rfl) (ob_v (rg_sA _ rfl (by decide) p _ (by omega) (by decide)) ?_))))
        rw [wA_n _ _ (show 54 ≠ 53 by decide), wA_s, wA_n _ _ (show 53 ≠ 54 by decide), wA_s, fU_ge (Nat.le_refl p), g9, nI_1, nI_1, id, id, ← fU_s, ← fU_s, e8, e9]
        congr 2
        refine S_ext rfl rfl (fun o => ?_) rfl
        simp only [wA_3]
        by_cases o3 : o = 53
        · rw [if_pos o3, if_pos o3]
        · rw [if_neg o3, if_neg o3]
          by_cases o4 : o = 54
          · rw [if_pos o4, if_pos o4, if_neg o3]
          · rw [if_neg o4, if_neg o3, if_neg o4, if_neg o4]
      rw [fX12_join_70.eq_2]
      refine ei_n (nI_nlt (a := 256) (by omega) (by omega)) (ob_v (rg_C rfl rfl) (ob_v (rg_A rfl (by decide) p (by omega) (by decide)) ?_))
      rw [r53]
      by_cases ea : s.2.1 p = a
      · exact ei_t (by rw [ea]) (f97 (Or.inl ea))
      · refine ei_n (fun h => ea ((nI_eq (by omega) (by omega)).mp h)) (ob_v (rg_C rfl rfl) (ob_v (rg_A rfl (by decide) p (by omega) (by decide)) ?_))
        rw [r53]
        by_cases ec : s.2.1 p = c
        · exact ei_t (by rw [ec]) (f97 (Or.inr ec))
        · refine ei_n (fun h => ec ((nI_eq (by omega) (by omega)).mp h)) ?_
          have e0 : ¬ (s.2.1 p = a ∨ s.2.1 p = c) := fun h => by rcases h with h | h; { exact ea h }; exact ec h
          have e8 : (hJ a c s).2.1 p = s.2.1 p := if_neg e0
          have e9 : (hJ a c s).2.2 p = s.2.2 p := if_neg e0
          rw [fX12_join_114, nI_1, fU_same (n := p) (f := fun i => nI ((hJ a c s).2.1 i)) (by rw [e8, g8]), fU_same (n := p) (f := fun i => nI ((hJ a c s).2.2 i)) (by rw [e9, g9])]
    · intro m
      dsimp only
      rw [fX12_join_70.eq_2]
      exact ei_t (by decide) rfl
  · rw [← hy2]
    exact ⟨rfl, rfl, fun o ho => by rw [wA_n _ _ (by omega), wA_n _ _ (by omega), wA_n _ _ (by omega)]⟩
end
