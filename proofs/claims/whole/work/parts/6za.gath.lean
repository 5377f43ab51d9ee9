/-! the places that occur; gathering them; all joins -/
def cn (f : Nat → Nat) (p : Nat) : Nat := sumN (fun q => if 0 < f q then 1 else 0) p
def ps (f : Nat → Nat) : Nat → Nat → Nat
  | 0, _ => 0
  | n + 1, k => if 0 < f n ∧ k = cn f n then n else ps f n k
theorem cn_s1 {f : Nat → Nat} {p : Nat} (h : 0 < f p) : cn f (p + 1) = cn f p + 1 := by
  show cn f p + (if 0 < f p then 1 else 0) = _
  rw [if_pos h]
theorem cn_s0 {f : Nat → Nat} {p : Nat} (h : ¬ 0 < f p) : cn f (p + 1) = cn f p := by
  show cn f p + (if 0 < f p then 1 else 0) = _
  rw [if_neg h, Nat.add_zero]
theorem cn_le {f : Nat → Nat} : ∀ {p q : Nat}, q ≤ p → cn f q ≤ cn f p := by
  intro p
  induction p with
  | zero => intro q h; rw [Nat.le_zero.mp h]; exact Nat.le_refl _
  | succ p ih =>
    intro q h
    by_cases e : q = p + 1
    · rw [e]; exact Nat.le_refl _
    · have := ih (q := q) (by omega)
      by_cases z : 0 < f p
      · rw [cn_s1 z]; omega
      · rw [cn_s0 z]; exact this
theorem cn_lt {f : Nat → Nat} {p q : Nat} (h : q < p) (hq : 0 < f q) : cn f q < cn f p := by
  have := cn_le (f := f) (p := p) (q := q + 1) (by omega)
  rw [cn_s1 hq] at this
  omega
theorem cn_b (f : Nat → Nat) : ∀ p, cn f p ≤ p := by
  intro p
  induction p with
  | zero => exact Nat.le_refl 0
  | succ p ih =>
    by_cases z : 0 < f p
    · rw [cn_s1 z]; omega
    · rw [cn_s0 z]; omega
theorem ps_at {f : Nat → Nat} : ∀ {n q : Nat}, q < n → 0 < f q → ps f n (cn f q) = q := by
  intro n
  induction n with
  | zero => intro q h; exact absurd h (Nat.not_lt_zero q)
  | succ n ih =>
    intro q h hq
    unfold ps
    by_cases e : q = n
    · subst e
      rw [if_pos ⟨hq, rfl⟩]
    · have := cn_lt (f := f) (p := n) (q := q) (by omega) hq
      rw [if_neg (by omega)]
      exact ih (by omega) hq
theorem ps_sur {f : Nat → Nat} : ∀ {n k : Nat}, k < cn f n → ∃ q, q < n ∧ 0 < f q ∧ cn f q = k := by
  intro n
  induction n with
  | zero => intro k h; exact absurd h (Nat.not_lt_zero k)
  | succ n ih =>
    intro k h
    by_cases z : 0 < f n
    · rw [cn_s1 z] at h
      by_cases e : k = cn f n
      · exact ⟨n, by omega, z, e.symm⟩
      · obtain ⟨q, h1, h2⟩ := ih (k := k) (by omega)
        exact ⟨q, by omega, h2⟩
    · rw [cn_s0 z] at h
      obtain ⟨q, h1, h2⟩ := ih h
      exact ⟨q, by omega, h2⟩
theorem ps_in {f : Nat → Nat} {n k : Nat} (h : k < cn f n) : ps f n k < n ∧ 0 < f (ps f n k) ∧ cn f (ps f n k) = k := by
  obtain ⟨q, h1, h2, h3⟩ := ps_sur h
  rw [← h3, ps_at h1 h2]
  exact ⟨h1, h2, rfl⟩
/-- m joins -/
def hG (N : Nat) (s : hS) : Nat → hS
  | 0 => s
  | m + 1 => hJ ((hL (hG N s m).1 none N).getD 0) ((hL (hG N s m).1 (some ((hL (hG N s m).1 none N).getD 0)) N).getD 0) (hG N s m)
theorem hJ_sum {N a b : Nat} {s : hS} (hab : a ≠ b) (ha : a < N) (hb : b < N) : sumN (hJ a b s).1 N = sumN s.1 N := by
  have e1 := sumN_pt (f := s.1) (f' := uN s.1 a (s.1 a + s.1 b)) (b := a) (fun k hk => uN_n hk) ha
  have e2 := sumN_pt (f := uN s.1 a (s.1 a + s.1 b)) (f' := uN (uN s.1 a (s.1 a + s.1 b)) b 0) (b := b) (fun k hk => uN_n hk) hb
  rw [uN_s] at e1
  rw [uN_s, uN_n (fun h => hab h.symm)] at e2
  have e3 : (hJ a b s).1 = uN (uN s.1 a (s.1 a + s.1 b)) b 0 := rfl
  rw [e3]
  omega
theorem hG_I {N : Nat} {num : Nat → Nat} (hN : N ≤ 257) (hp : ∀ k, k < N → 0 < num k) : ∀ {m : Nat}, m < N → hI N (hG N (num, fun k => k, fun _ => 0) m) m ∧ sumN (hG N (num, fun k => k, fun _ => 0) m).1 N = sumN num N := by
  intro m
  induction m with
  | zero => intro _; exact ⟨hI_0 hp, rfl⟩
  | succ m ih =>
    intro hm
    obtain ⟨i1, i2⟩ := ih (by omega)
    obtain ⟨a, b, ha, hb⟩ := hI_two i1 (by have := i1.2.2.2; omega)
    have a1 := hL_some ha
    have b1 := hL_some hb
    have ab : a ≠ b := fun e => b1.2.2 (by rw [e])
    unfold hG
    rw [ha, Option.getD_some, hb, Option.getD_some]
    exact ⟨hI_s i1 hN ab a1.1 b1.1 a1.2.1 b1.2.1, (hJ_sum ab a1.1 b1.1).trans i2⟩
section
variable {X : px_X} {b B : Nat} {w0 w1 : px_W} {x y : rg_S} {T N : Nat} {f : Nat → Nat}
theorem x_addPlace {q : Nat} {v n : Int32} (hT : isT T) (hq : x.1 T 5 = nI q) (h : q < 257) : ∃ x', fX0_addPlace X (rg_p lX B w0 x) (B + T) v n = some (rg_p lX B w0 x') ∧ x'.1 T 5 = nI (q + 1) ∧ FT T x x' ∧ (∀ k, k ≠ q → x'.2.2.1 (T + 6) k = x.2.2.1 (T + 6) k ∧ x'.2.2.1 (T + 7) k = x.2.2.1 (T + 7) k ∧ x'.2.2.1 (T + 8) k = x.2.2.1 (T + 8) k ∧ x'.2.2.1 (T + 9) k = x.2.2.1 (T + 9) k) ∧ x'.2.2.1 (T + 6) q = v ∧ x'.2.2.1 (T + 7) q = n ∧ x'.2.2.1 (T + 8) q = nI q ∧ x'.2.2.1 (T + 9) q = 0 := by
  refine ⟨rg_wI (rg_wA (rg_wA (rg_wA (rg_wA x (T + 6) (upd (x.2.2.1 (T + 6)) q v)) (T + 7) (upd (x.2.2.1 (T + 7)) q n)) (T + 8) (upd (x.2.2.1 (T + 8)) q (nI q))) (T + 9) (upd (x.2.2.1 (T + 9)) q 0)) T 5 (nI (q + 1)), ?_, wI_s _ _ _ _, ⟨fun o k ho => wI_n _ _ (Or.inl ho), rfl, fun o ho => ?_, ?_⟩, fun k hk => ⟨?_, ?_, ?_, ?_⟩, ?_, ?_, ?_, ?_⟩
  · unfold fX0_addPlace
    have h5 : ∀ {r : Option px_W} {g : Int32 → Option px_W} {x1 : rg_S}, x1.1 = x.1 → g (nI q) = r → (gI (rg_p lX B w0 x1) (B + T) 0 5).bind g = r := fun e1 hg => ob_v (rg_I hT.o rfl) (by rw [e1, hq]; exact hg)
    refine ob_v (rg_C hT.o rfl) (h5 rfl (ob_v (rg_sA _ hT.a6 (by decide) q _ h (by decide)) (ob_v (rg_C hT.o rfl) (h5 rfl (ob_v (rg_sA _ hT.a7 (by decide) q _ h (by decide)) (ob_v (rg_C hT.o rfl) (h5 rfl (h5 rfl (ob_v (rg_sA _ hT.a8 (by decide) q _ h (by decide)) (ob_v (rg_C hT.o rfl) (h5 rfl (ob_v (rg_sA _ hT.a9 (by decide) q _ h (by decide)) (h5 rfl (ob_v (rg_pI hT.o rfl _) ?_))))))))))))))
    rw [nI_1]
    congr 2
    refine S_ext rfl rfl (fun o => ?_) rfl
    simp only [wI_2, wA_3, id]
    rw [if_neg (show ¬ T + 7 = T + 6 by omega), if_neg (show ¬ T + 8 = T + 7 by omega), if_neg (show ¬ T + 8 = T + 6 by omega), if_neg (show ¬ T + 9 = T + 8 by omega), if_neg (show ¬ T + 9 = T + 7 by omega), if_neg (show ¬ T + 9 = T + 6 by omega)]
  · rw [wI_2, wA_n _ _ (by omega), wA_n _ _ (by omega), wA_n _ _ (by omega), wA_n _ _ (by omega)]
  · rw [wI_2, wA_n _ _ (by omega), wA_n _ _ (by omega), wA_n _ _ (by omega), wA_n _ _ (by omega)]
  · rw [wI_2, wA_n _ _ (by omega), wA_n _ _ (by omega), wA_n _ _ (by omega), wA_s, pk_un hk]
  · rw [wI_2, wA_n _ _ (by omega), wA_n _ _ (by omega), wA_s, pk_un hk]
  · rw [wI_2, wA_n _ _ (by omega), wA_s, pk_un hk]
  · rw [wI_2, wA_s, pk_un hk]
  · rw [wI_2, wA_n _ _ (by omega), wA_n _ _ (by omega), wA_n _ _ (by omega), wA_s, pk_us]
  · rw [wI_2, wA_n _ _ (by omega), wA_n _ _ (by omega), wA_s, pk_us]
  · rw [wI_2, wA_n _ _ (by omega), wA_s, pk_us]
  · rw [wI_2, wA_s, pk_us]
/-- what gathering makes -/
def xGa (x : rg_S) (T : Nat) (f : Nat → Nat) (m : Nat) : Prop := ∀ k, k < m → x.2.2.1 (T + 6) k = nI (ps f 257 k) ∧ x.2.2.1 (T + 7) k = nI (f (ps f 257 k)) ∧ x.2.2.1 (T + 8) k = nI k ∧ x.2.2.1 (T + 9) k = nI 0
theorem xGa_s {x x' : rg_S} {p : Nat} (h : xGa x T f (cn f p)) (hp : p < 257) (hf : 0 < f p) (e1 : ∀ k, k ≠ cn f p → x'.2.2.1 (T + 6) k = x.2.2.1 (T + 6) k ∧ x'.2.2.1 (T + 7) k = x.2.2.1 (T + 7) k ∧ x'.2.2.1 (T + 8) k = x.2.2.1 (T + 8) k ∧ x'.2.2.1 (T + 9) k = x.2.2.1 (T + 9) k) (e6 : x'.2.2.1 (T + 6) (cn f p) = nI p) (e7 : x'.2.2.1 (T + 7) (cn f p) = nI (f p)) (e8 : x'.2.2.1 (T + 8) (cn f p) = nI (cn f p)) (e9 : x'.2.2.1 (T + 9) (cn f p) = 0) : xGa x' T f (cn f (p + 1)) := by
  rw [cn_s1 hf]
  intro k hk
  by_cases e : k = cn f p
  · rw [e, ps_at hp hf, e6, e7, e8, e9]
    exact ⟨rfl, rfl, rfl, rfl⟩
  · obtain ⟨d1, d2, d3, d4⟩ := e1 k e
    rw [d1, d2, d3, d4]
    exact h k (by omega)
theorem x_gather (hT : isT T) (hf : ∀ p, p < 256 → x.2.2.1 (T + 1) p = nI (f p)) (hb : ∀ p, f p < 2 ^ 31) (h256 : f 256 = 1) : ∃ x', fX0_gatherPlaces X (rg_p lX B w0 x) (B + T) = some (rg_p lX B w0 x') ∧ x'.1 T 5 = nI (cn f 257 - 1) ∧ FT T x x' ∧ xGa x' T f (cn f 257) := by
  unfold fX0_gatherPlaces
  obtain ⟨q, e, _, q5, qF, qG⟩ := rg_lpE (F := fun u (t : Int32 × rg_S) => fX0_gatherPlaces_7 X u (B + T) t.1 (rg_p lX B w0 t.2)) (E := fun t => fX0_gatherPlaces_40 X (B + T) (rg_p lX B w0 t.2)) (n := 256) (fun p t => t.1 = nI p ∧ t.2.1 T 5 = nI (cn f p) ∧ FT T x t.2 ∧ xGa t.2 T f (cn f p)) (by
    rintro m p ⟨p', x1⟩ hp ⟨e1, l5, lF, lG⟩
    dsimp only at e1 l5 lF lG ⊢
    subst e1
    have hfp := hb p
    have cb := cn_b f p
    have o1 : ∀ {r : Option px_W} {g : Int32 → Option px_W}, g (nI (f p)) = r → (aN (rg_p lX B w0 x1) 0 (B + (T + 1)) (nI p)).bind g = r := fun hg => ob_v (rg_A hT.a1 (by decide) p hp (by decide)) (by rw [lF.2.2.2, hf p hp]; exact hg)
    by_cases z : 0 < f p
    · obtain ⟨x2, ea, m5, mF, mk, m6, m7, m8, m9⟩ := x_addPlace (X := X) (B := B) (w0 := w0) (x := x1) (v := nI p) (n := nI (f p)) hT l5 (by omega)
      refine ⟨(nI (p + 1), x2), ?_, rfl, by rw [cn_s1 z]; exact m5, lF.trans mF, xGa_s lG (by omega) z mk m6 m7 m8 m9⟩
      rw [fX0_gatherPlaces_7.eq_2]
      refine ei_n (nI_ge (b := 256) hp (by omega)) (ob_v (rg_C hT.o rfl) (o1 (ei_n (nI_ge (a := 0) z (by omega)) (ob_v (rg_C hT.o rfl) (o1 (ob_v (rg_O hT.o) (ob_v ea ?_)))))))
      rw [fX0_gatherPlaces_34, nI_1]
    · refine ⟨(nI (p + 1), x1), ?_, rfl, by rw [cn_s0 z]; exact l5, lF, by rw [cn_s0 z]; exact lG⟩
      rw [fX0_gatherPlaces_7.eq_2]
      refine ei_n (nI_ge (b := 256) hp (by omega)) (ob_v (rg_C hT.o rfl) (o1 (ei_t (by rw [show f p = 0 by omega]; decide) ?_)))
      rw [fX0_gatherPlaces_34, nI_1]) (by
    rintro m ⟨p', x1⟩ ⟨e1, l5, lF, lG⟩
    dsimp only at e1 ⊢
    subst e1
    rw [fX0_gatherPlaces_7.eq_2]
    exact ei_t (by decide) rfl) 256 FU 0 (0, rg_wI x T 5 0) (by omega) (by unfold FU; omega) ⟨rfl, wI_s _ _ _ _, ⟨fun o k ho => wI_n _ _ (Or.inl ho), rfl, fun _ _ => rfl, rfl⟩, fun k hk => absurd hk (Nat.not_lt_zero k)⟩
  have z : 0 < f 256 := by rw [h256]; decide
  have cb := cn_b f 256
  obtain ⟨x2, ea, m5, mF, mk, m6, m7, m8, m9⟩ := x_addPlace (X := X) (B := B) (w0 := w0) (x := q.2) (v := 256) (n := 1) hT q5 (by omega)
  refine ⟨rg_wI x2 T 5 (nI (cn f 257 - 1)), ?_, wI_s _ _ _ _, (qF.trans mF).trans ⟨fun o k ho => wI_n _ _ (Or.inl ho), rfl, fun _ _ => rfl, rfl⟩, xGa_s (x' := rg_wI x2 T 5 (nI (cn f 257 - 1))) qG (by decide) z mk m6 (by rw [h256]; exact m7) m8 m9⟩
  refine ob_v (rg_pI hT.o rfl _) (e.trans ?_)
  unfold fX0_gatherPlaces_40
  refine ob_v (rg_O hT.o) (ob_v ea (ob_v (rg_I hT.o rfl) (ob_v (rg_pI hT.o rfl _) ?_)))
  rw [m5, show nI (cn f 256 + 1) - 1 = nI (cn f 257 - 1) by rw [cn_s1 z]; exact pk_sub (b := 1) (by omega)]
/-- all joins -/
theorem x_joins {s : hS} {num : Nat → Nat} (hT : isT T) (n1 : 1 ≤ N) (n2 : N ≤ 257) (hm : x.1 T 5 = nI (N - 1)) (hG0 : xG x T N (num, fun k => k, fun _ => 0)) (hp : ∀ k, k < N → 0 < num k) (hs : sumN num N < 2 ^ 31) : ∃ x', fX0_settle_6 X FU (B + T) 0 (rg_p lX B w0 x) = fX0_settle_24 X (B + T) (rg_p lX B w0 x') ∧ xG x' T N (hG N (num, fun k => k, fun _ => 0) (N - 1)) ∧ FT T x x' ∧ x'.1 = x.1 ∧ x'.2.2.1 (T + 6) = x.2.2.1 (T + 6) := by
  obtain ⟨q, e, _, qG, qF, q1, q6⟩ := rg_lpE (F := fun u (t : Int32 × rg_S) => fX0_settle_6 X u (B + T) t.1 (rg_p lX B w0 t.2)) (E := fun t => fX0_settle_24 X (B + T) (rg_p lX B w0 t.2)) (n := N - 1) (fun m t => t.1 = nI m ∧ xG t.2 T N (hG N (num, fun k => k, fun _ => 0) m) ∧ FT T x t.2 ∧ t.2.1 = x.1 ∧ t.2.2.2.1 (T + 6) = x.2.2.1 (T + 6)) (by
    rintro u m ⟨m', x1⟩ hlt ⟨e1, lG, lF, l1, l6⟩
    dsimp only at e1 lG lF l1 l6 ⊢
    subst e1
    obtain ⟨i1, i2⟩ := hG_I (m := m) n2 hp (by omega)
    obtain ⟨a, c, ha, hc⟩ := hI_two i1 (by have := i1.2.2.2; omega)
    obtain ⟨x2, ej, mG, mF, m1, m6⟩ := x_join (X := X) (B := B) (w0 := w0) (x := x1) hT (by rw [l1]; exact hm) n1 n2 lG (fun k hk => by
      have := sumN_ge (f := (hG N (num, fun k => k, fun _ => 0) m).1) hk
      omega) (fun k hk => (i1.1 k hk).1) (fun k hk => by have := i1.2.2.1 k hk; omega) ha hc
    refine ⟨(nI (m + 1), x2), ?_, rfl, ?_, lF.trans mF, m1.trans l1, m6.trans l6⟩
    · rw [fX0_settle_6.eq_2]
      refine ob_v (rg_I hT.o rfl) ?_
      rw [l1, hm]
      refine ei_n (nI_ge hlt (by omega)) (ob_v (rg_O hT.o) (ob_v ej ?_))
      rw [nI_1]
    · unfold hG
      rw [ha, Option.getD_some, hc, Option.getD_some]
      exact mG) (by
    rintro u ⟨m', x1⟩ ⟨e1, lG, lF, l1, l6⟩
    dsimp only at e1 l1 ⊢
    subst e1
    rw [fX0_settle_6.eq_2]
    refine ob_v (rg_I hT.o rfl) ?_
    rw [l1, hm]
    exact ei_t (nI_le (Nat.le_refl _) (by omega)) rfl) (N - 1) FU 0 (0, x) (by omega) (by unfold FU; omega) ⟨rfl, hG0, FT.rfl, rfl, rfl⟩
  exact ⟨q.2, e, qG, qF, q1, q6⟩
end
