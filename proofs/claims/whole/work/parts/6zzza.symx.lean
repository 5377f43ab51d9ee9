/-! symbols read: pure, and the class -/
def sy (D : Nat → Nat) (n : Nat) (c : Nat → Nat) : Nat → Nat → Nat → bSt → Nat ⊕ (Nat × bSt)
  | 0, _, _, _ => .inl 2
  | j + 1, l, v, s => if 0 < lgst c 16 ∧ l ≤ lgst c 16 ∧ v ≤ (nx c (lgst c 16) - 1) / 2 ^ (lgst c 16 - l) then (match tB D n s with
    | none => .inl 1
    | some (e, s') => if 2 * v + e < nx c (l + 1) then .inr (dn c l + (2 * v + e - 2 * nx c l), s') else sy D n c j (l + 1) (2 * v + e) s') else .inl 2
/-- a table to read by -/
def tbOk (c : Nat → Nat) (S : List Nat) (m : Nat) : Prop := m ≤ 256 ∧ dn c 16 = m ∧ (∀ l, c l ≤ 257) ∧ (∀ k, k ≤ 16 → nx c k < 2 ^ k) ∧ (∀ i, i < m → S.getD i 0 < 256) ∧ ∀ i j, i < m → j < i → S.getD i 0 ≠ S.getD j 0
def wX (x : rg_S) (t : Nat) (c : Nat → Nat) (S : List Nat) (m : Nat) : Prop := x.1 (55 + 5 * t) 4 = nI (lgst c 16) ∧ (0 < lgst c 16 → x.1 (55 + 5 * t) 5 = nI (nx c (lgst c 16) - 1)) ∧ (∀ l, 1 ≤ l → l ≤ 16 → x.2.2.1 (55 + 5 * t + 1) l = nI (c l) ∧ x.2.2.1 (55 + 5 * t + 2) l = nI (2 * nx c (l - 1)) ∧ x.2.2.1 (55 + 5 * t + 3) l = nI (dn c (l - 1))) ∧ ∀ i, i < m → x.2.2.1 (55 + 5 * t + 4) i = nI (S.getD i 0)
theorem wd_o {t : Nat} (h : t < 8) : lX (55 + 5 * t) = some (.inl (10, [(1, 55 + 5 * t + 1), (1, 55 + 5 * t + 2), (1, 55 + 5 * t + 3), (1, 55 + 5 * t + 4), (0, 0), (0, 0)])) := by
  rcases (show t = 0 ∨ t = 1 ∨ t = 2 ∨ t = 3 ∨ t = 4 ∨ t = 5 ∨ t = 6 ∨ t = 7 by omega) with rfl | rfl | rfl | rfl | rfl | rfl | rfl | rfl <;> rfl
theorem wd_a {t j : Nat} (h : t < 8) (j1 : 1 ≤ j) (j4 : j ≤ 4) : lX (55 + 5 * t + j) = some (.inr (0, if j ≤ 3 then 17 else 256, fun _ => none)) := by
  rcases (show t = 0 ∨ t = 1 ∨ t = 2 ∨ t = 3 ∨ t = 4 ∨ t = 5 ∨ t = 6 ∨ t = 7 by omega) with rfl | rfl | rfl | rfl | rfl | rfl | rfl | rfl <;> rcases (show j = 1 ∨ j = 2 ∨ j = 3 ∨ j = 4 by omega) with rfl | rfl | rfl | rfl <;> rfl
theorem sm_16 {n : Nat} (h : n ≤ 16) : ((nI n &&& 31).toBitVec.smod 32).toNat = n := by
  rcases (show n ≤ 8 ∨ n = 9 ∨ n = 10 ∨ n = 11 ∨ n = 12 ∨ n = 13 ∨ n = 14 ∨ n = 15 ∨ n = 16 by omega) with h | rfl | rfl | rfl | rfl | rfl | rfl | rfl | rfl
  · exact sm_8 h
  all_goals decide
theorem nx_16 {c : Nat → Nat} {S : List Nat} {m k : Nat} (h : tbOk c S m) (hk : k ≤ 16) : nx c k < 65536 := by
  have := h.2.2.2.1 k hk
  have : 2 ^ k ≤ 2 ^ 16 := Nat.pow_le_pow_right (by decide) hk
  omega
theorem dn_16 {c : Nat → Nat} {S : List Nat} {m k : Nat} (h : tbOk c S m) (hk : k ≤ 16) : dn c k ≤ m := by
  have := dn_le (c := c) hk
  have := h.2.1
  omega
section
variable {X : px_X} {b B : Nat} {w0 w1 : px_W} {x x' : rg_S} {D : Nat → Nat} {n d0 t m : Nat} {s s' : bSt} {c : Nat → Nat} {S : List Nat}
theorem x_begins (ht : t < 8) (hT : tbOk c S m) (h : wX x t c S m) {v l : Nat} (hv : v < 65536) (hl : l ≤ 16) : fX10_begins X (rg_p lX B w0 x) (B + (55 + 5 * t)) (nI v) (nI l) = some (if 0 < lgst c 16 ∧ l ≤ lgst c 16 ∧ v ≤ (nx c (lgst c 16) - 1) / 2 ^ (lgst c 16 - l) then 1 else 0, rg_p lX B w0 x) := by
  obtain ⟨h1, h2, h3, h4⟩ := h
  have hL := lgst_le (c := c) 16
  have hn := nx_16 hT hL
  have r0 : ∀ (q : Prop) [Decidable q], ¬ q → (if q then (1 : Int32) else 0) = 0 := fun q _ hq => if_neg hq
  have r1 : ∀ (q : Prop) [Decidable q], q → (if q then (1 : Int32) else 0) = 1 := fun q _ hq => if_pos hq
  unfold fX10_begins
  refine ob_v (rg_I (wd_o ht) rfl) ?_
  rw [h1]
  by_cases z : 0 < lgst c 16
  · refine ei_n (nI_nle z (by omega)) (ob_v (rg_I (wd_o ht) rfl) ?_)
    rw [h1]
    by_cases q : l ≤ lgst c 16
    · refine ei_n (nI_nlt q (by omega)) (ob_v (rg_I (wd_o ht) rfl) (ob_v (rg_I (wd_o ht) rfl) ?_))
      rw [h2 z, h1, pk_sub q, pk_shrN (by omega) _ (lgst c 16 - l) (sm_16 (by omega))]
      have hd : (nx c (lgst c 16) - 1) / 2 ^ (lgst c 16 - l) < 65536 := Nat.lt_of_le_of_lt (Nat.div_le_self _ _) (by omega)
      by_cases r : v ≤ (nx c (lgst c 16) - 1) / 2 ^ (lgst c 16 - l)
      · rw [r1 _ ⟨z, q, r⟩]
        exact ei_n (nI_nlt r (by omega)) rfl
      · rw [r0 _ (fun e => r e.2.2)]
        exact ei_t (nI_lt (by omega) (by omega)) rfl
    · rw [r0 _ (fun e => q e.2.1)]
      exact ei_t (nI_lt (by omega) (by omega)) rfl
  · rw [r0 _ (fun e => z e.1)]
    exact ei_t (by rw [show lgst c 16 = 0 by omega]; decide) rfl
theorem x_symOf (ht : t < 8) (hT : tbOk c S m) (h : wX x t c S m) {v l : Nat} (hl : l < 16) (hv : 2 * nx c l ≤ v) (hv2 : v < 131072) : fX10_symbolOf X (rg_p lX B w0 x) (B + (55 + 5 * t)) (nI v) (nI (l + 1)) = some (if v < nx c (l + 1) then nI (S.getD (dn c l + (v - 2 * nx c l)) 0) else -1, rg_p lX B w0 x) := by
  obtain ⟨h1, h2, h3, h4⟩ := h
  obtain ⟨a1, a2, a3⟩ := h3 (l + 1) (by omega) (by omega)
  rw [show l + 1 - 1 = l by omega] at a2 a3
  have hn : nx c (l + 1) = 2 * nx c l + c (l + 1) := rfl
  have hd : dn c (l + 1) = dn c l + c (l + 1) := rfl
  have hd2 := dn_16 hT (show l + 1 ≤ 16 by omega)
  have cl := hT.2.2.1 (l + 1)
  have m256 := hT.1
  unfold fX10_symbolOf
  refine ob_v (rg_C (wd_o ht) rfl) (ob_v (rg_A (wd_a ht (by decide) (by decide)) (by decide) (l + 1) (by rw [if_pos (by decide)]; omega) (by decide)) ?_)
  rw [a2, pk_sub hv]
  refine ei_n (nI_nlt (b := 0) (by omega) (by omega)) (ob_v (rg_C (wd_o ht) rfl) (ob_v (rg_A (wd_a ht (by decide) (by decide)) (by decide) (l + 1) (by rw [if_pos (by decide)]; omega) (by decide)) ?_))
  rw [a1]
  by_cases q : v < nx c (l + 1)
  · rw [show (if v < nx c (l + 1) then nI (S.getD (dn c l + (v - 2 * nx c l)) 0) else (-1 : Int32)) = nI (S.getD (dn c l + (v - 2 * nx c l)) 0) from if_pos q]
    refine ei_t (nI_lt (by omega) (by omega)) (ob_v (rg_C (wd_o ht) rfl) (ob_v (rg_C (wd_o ht) rfl) (ob_v (rg_A (wd_a ht (by decide) (by decide)) (by decide) (l + 1) (by rw [if_pos (by decide)]; omega) (by decide)) ?_)))
    rw [a3, nI_add]
    refine ob_v (rg_A (wd_a ht (by decide) (by decide)) (by decide) (dn c l + (v - 2 * nx c l)) (by rw [if_neg (by decide)]; omega) (by decide)) ?_
    rw [h4 _ (by omega)]
  · rw [show (if v < nx c (l + 1) then nI (S.getD (dn c l + (v - 2 * nx c l)) 0) else (-1 : Int32)) = -1 from if_neg q]
    exact ei_n (nI_nlt (by omega) (by omega)) rfl
theorem wX.r (h : wX x t c S m) (F : FXr x x') (ht : t < 8) : wX x' t c S m := by
  unfold wX at *
  rw [F.1 _ _ (by omega), F.1 _ _ (by omega), F.2]
  exact h
theorem x_sy (ht : t < 8) (hT : tbOk c S m) : ∀ (j l v M : Nat) (x : rg_S) (s : bSt), l + j = 16 → j < M → nx c l ≤ v → v < 2 ^ l → xR x D n d0 s → wX x t c S m → ∃ u x', fX6_takeSymbol_4 X M (B + 95) (B + (55 + 5 * t)) (nI v) (nI l) (rg_p lX B w0 x) = some (u, rg_p lX B w0 x') ∧ FXr x x' ∧ ((∃ f, sy D n c j l v s = .inl f ∧ (f = 1 ∨ f = 2) ∧ x'.1 95 6 = nI f ∧ u = -1) ∨ ∃ i s', sy D n c j l v s = .inr (i, s') ∧ i < m ∧ u = nI (S.getD i 0) ∧ xR x' D n d0 s') := by
  intro j
  induction j with
  | zero =>
    intro l v M x s hl hM hv hv2 h hw
    obtain rfl : l = 16 := by omega
    obtain ⟨M, rfl⟩ : ∃ M', M = M' + 1 := ⟨M - 1, by omega⟩
    refine ⟨-1, rg_wI x 95 6 2, ?_, ⟨fun p k hk => wI_n _ _ (by omega), rfl⟩, Or.inl ⟨2, rfl, Or.inr rfl, wI_s _ _ _ _, rfl⟩⟩
    rw [fX6_takeSymbol_4.eq_2]
    refine ei_t (by decide) ?_
    unfold fX6_takeSymbol_62
    exact ob_v (rg_pI rfl rfl _) rfl
  | succ j ih =>
    intro l v M x s hl hM hv hv2 h hw
    obtain ⟨M, rfl⟩ : ∃ M', M = M' + 1 := ⟨M - 1, by omega⟩
    have p16 : 2 ^ l ≤ 2 ^ 16 := Nat.pow_le_pow_right (by decide) (by omega)
    have eb' := x_begins (X := X) (B := B) (w0 := w0) ht hT hw (v := v) (l := l) (by omega) (by omega)
    rw [fX6_takeSymbol_4.eq_2, sy.eq_2]
    by_cases bg' : 0 < lgst c 16 ∧ l ≤ lgst c 16 ∧ v ≤ (nx c (lgst c 16) - 1) / 2 ^ (lgst c 16 - l)
    · rw [if_pos bg'] at eb' ⊢
      obtain ⟨w, x1, e1, F1, h1⟩ := x_tB (X := X) (B := B) (w0 := w0) h
      rcases h1 with ⟨t1, t2, t3⟩ | ⟨u, s1, t1, t2, t3⟩
      · refine ⟨-1, x1, ei_n (nI_ge (b := 16) (by omega) (by omega)) (ob_v (rg_O (wd_o ht)) (ob_v eb' (ei_n n10 (ob_v (rg_O rfl) (ob_v e1 (ob_v (rg_I rfl rfl) (ei_n (by rw [t2]; exact n10) rfl))))))), F1, Or.inl ⟨1, ?_, Or.inl rfl, t2, rfl⟩⟩
        rw [t1]
      · have u2 := (tB_ok h.2.2.2.2.2.2.2.2.1 h.2.2.2.2.2.2.2.2.2 t1).2
        have w1 := hw.r F1 ht
        have pe : 2 ^ (l + 1) = 2 ^ l * 2 := Nat.pow_succ _ _
        have es := x_symOf (X := X) (B := B) (w0 := w0) ht hT w1 (v := 2 * v + u) (l := l) (by omega) (by omega) (by omega)
        have st : ∀ r, (if (if 2 * v + u < nx c (l + 1) then nI (S.getD (dn c l + (2 * v + u - 2 * nx c l)) 0) else (-1 : Int32)) = -1 then fX6_takeSymbol_4 X M (B + 95) (B + (55 + 5 * t)) (nI (2 * v + u)) (nI (l + 1)) (rg_p lX B w0 x1) else some (if 2 * v + u < nx c (l + 1) then nI (S.getD (dn c l + (2 * v + u - 2 * nx c l)) 0) else (-1 : Int32), rg_p lX B w0 x1)) = r → (if (16 : Int32) ≤ nI l then fX6_takeSymbol_62 X (B + 95) (rg_p lX B w0 x) else (gO (rg_p lX B w0 x) (B + (55 + 5 * t)) 10).bind fun o11 => (fX10_begins X (rg_p lX B w0 x) (B + (55 + 5 * t)) (nI v) (nI l)).bind fun q12 => if q12.1 = 0 then fX6_takeSymbol_62 X (B + 95) q12.2 else (gO q12.2 (B + 95) 6).bind fun o14 => (fX6_takeBit X q12.2 (B + 95)).bind fun q15 => (gI q15.2 (B + 95) 6 6).bind fun v16 => if v16 = 0 then (gO q15.2 (B + (55 + 5 * t)) 10).bind fun o18 => (fX10_symbolOf X q15.2 (B + (55 + 5 * t)) ((2 * nI v) + q15.1) (nI l + 1)).bind fun q19 => if q19.1 = ((-1)) then fX6_takeSymbol_4 X M (B + 95) (B + (55 + 5 * t)) ((2 * nI v) + q15.1) (nI l + 1) q19.2 else some (q19.1, q19.2) else some ((-1), q15.2)) = r := by
          intro r hr
          refine ei_n (nI_ge (b := 16) (by omega) (by omega)) (ob_v (rg_O (wd_o ht)) (ob_v eb' (ei_n n10 (ob_v (rg_O rfl) (ob_v e1 (ob_v (rg_I rfl rfl) (ei_t t3.2.2.2.1 (ob_v (rg_O (wd_o ht)) ?_))))))))
          dsimp only
          rw [t2, nI_2, nI_add, nI_1]
          exact ob_v es hr
        by_cases q : 2 * v + u < nx c (l + 1)
        · rw [if_pos q] at st
          have hd : dn c (l + 1) = dn c l + c (l + 1) := rfl
          have hn : nx c (l + 1) = 2 * nx c l + c (l + 1) := rfl
          have hd2 := dn_16 hT (show l + 1 ≤ 16 by omega)
          have s256 := hT.2.2.2.2.1 (dn c l + (2 * v + u - 2 * nx c l)) (by omega)
          refine ⟨_, x1, st _ (ei_n (fun e => ?_) rfl), F1, Or.inr ⟨dn c l + (2 * v + u - 2 * nx c l), s1, ?_, by omega, rfl, t3⟩⟩
          · have : ¬ nI (S.getD (dn c l + (2 * v + u - 2 * nx c l)) 0) < 0 := nI_nlt (b := 0) (by omega) (by omega)
            rw [e] at this
            exact this (by decide)
          · rw [t1]
            show (if 2 * v + u < nx c (l + 1) then _ else _) = _
            rw [if_pos q]
        · rw [if_neg q] at st
          obtain ⟨u2', x2, e2, F2, h2⟩ := ih (l + 1) (2 * v + u) M x1 s1 (by omega) (by omega) (by omega) (by omega) t3 w1
          refine ⟨u2', x2, st _ (ei_t rfl e2), F1.trans F2, ?_⟩
          rw [t1]
          show (∃ f, (if 2 * v + u < nx c (l + 1) then _ else _) = _ ∧ _) ∨ ∃ i s', (if 2 * v + u < nx c (l + 1) then _ else _) = _ ∧ _
          rw [if_neg q]
          exact h2
    · rw [if_neg bg'] at eb' ⊢
      refine ⟨-1, rg_wI x 95 6 2, ei_n (nI_ge (b := 16) (by omega) (by omega)) (ob_v (rg_O (wd_o ht)) (ob_v eb' (ei_t rfl ?_))), ⟨fun p k hk => wI_n _ _ (by omega), rfl⟩, Or.inl ⟨2, rfl, Or.inr rfl, wI_s _ _ _ _, rfl⟩⟩
      unfold fX6_takeSymbol_62
      exact ob_v (rg_pI rfl rfl _) rfl
end
