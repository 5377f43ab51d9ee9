/-! symbols read: the reference -/
theorem gL_in {c : Nat → Nat} {i : Nat} : ∀ {k : Nat}, i < dn c k → 1 ≤ gL c k i ∧ gL c k i ≤ k ∧ dn c (gL c k i - 1) ≤ i ∧ i < dn c (gL c k i)
  | 0, h => absurd h (Nat.not_lt_zero _)
  | k + 1, h => by
    rw [gL.eq_2]
    split
    · rename_i q
      exact ⟨by omega, Nat.le_refl _, q, h⟩
    · rename_i q
      have := gL_in (c := c) (i := i) (k := k) (by omega)
      exact ⟨this.1, by omega, this.2.2⟩
def rT (y : rg_S) (t : Nat) (c : Nat → Nat) (S : List Nat) (m : Nat) : Prop := ∀ s, s < 256 → (∃ i, i < m ∧ S.getD i 0 = s ∧ y.2.2.1 37 (256 * t + s) = nI (gL c 16 i) ∧ y.2.2.1 38 (256 * t + s) = nI (gW c i)) ∨ (∀ i, i < m → S.getD i 0 ≠ s) ∧ y.2.2.1 37 (256 * t + s) = 0
section
variable {X : px_X} {b B : Nat} {w0 w1 : px_W} {y y' : rg_S} {D : Nat → Nat} {n t m l v : Nat} {s s' : bSt} {c : Nat → Nat} {S : List Nat}
theorem gW_b (hT : tbOk c S m) {i : Nat} (hi : i < m) : gW c i < nx c (gL c 16 i) ∧ 2 * nx c (gL c 16 i - 1) ≤ gW c i ∧ gW c i < 65536 := by
  have hm := hT.2.1
  obtain ⟨g1, g2, g3, g4⟩ := gL_in (c := c) (i := i) (k := 16) (by omega)
  have := nx_16 hT g2
  obtain ⟨q, hq⟩ : ∃ q, gL c 16 i = q + 1 := ⟨gL c 16 i - 1, by omega⟩
  unfold gW
  rw [hq] at g3 g4 this ⊢
  rw [show q + 1 - 1 = q by omega] at *
  have e1 : nx c (q + 1) = 2 * nx c q + c (q + 1) := rfl
  have e2 : dn c (q + 1) = dn c q + c (q + 1) := rfl
  omega
theorem bg_i (hT : tbOk c S m) : bg c v l ↔ ∃ i, i < m ∧ l < gL c 16 i ∧ gW c i / 2 ^ (gL c 16 i - l) = v := by
  have hm := hT.2.1
  constructor
  · rintro ⟨n, i, h1, h2, h3, h4, h5⟩
    have hi : i < m := by
      have := dn_le (c := c) h2
      omega
    have eg : gL c 16 i = n := by
      have := gL_at (c := c) (m := 16) (n := n - 1) (i := i) (by omega) h3 (by rw [show n - 1 + 1 = n by omega]; exact h4)
      rw [this]
      omega
    refine ⟨i, hi, by rw [eg]; exact h1, ?_⟩
    unfold gW
    rw [eg]
    exact h5
  · rintro ⟨i, hi, h1, h2⟩
    obtain ⟨g1, g2, g3, g4⟩ := gL_in (c := c) (i := i) (k := 16) (by omega)
    exact ⟨gL c 16 i, i, h1, g2, g3, g4, h2⟩
/-- no word is these bits: the search goes through, and finds whether one begins so -/
theorem m_23n (ht : t < 8) (hT : tbOk c S m) (hr : rT y t c S m) (hv : nx c l ≤ v) (hv2 : v < 131072) (hl : l ≤ 16) {k4 : Nat → Int32 → Int32 → Int32 → px_W → Option (Int32 × px_W)} : ∀ (k M q : Nat) (fl : Int32), q + k = 256 → k < M → fl = 0 ∨ fl = 1 → ∃ fl', (fl' = 0 ∨ fl' = 1) ∧ (fl' = 1 ↔ fl = 1 ∨ ∃ i, i < m ∧ q ≤ S.getD i 0 ∧ l < gL c 16 i ∧ gW c i / 2 ^ (gL c 16 i - l) = v) ∧ fX13_symbol_23 X k4 M (b + 24) (nI t) (nI v) (nI l) fl (nI q) (rg_p lM b w0 y) = fX13_symbol_123 X k4 (b + 24) (nI t) (nI v) (nI l) fl' (rg_p lM b w0 y) := by
  have s256 := hT.2.2.2.2.1
  have snd := hT.2.2.2.2.2
  intro k
  induction k with
  | zero =>
    intro M q fl hq hM hf
    obtain rfl : q = 256 := by omega
    obtain ⟨M, rfl⟩ : ∃ M', M = M' + 1 := ⟨M - 1, by omega⟩
    refine ⟨fl, hf, ⟨Or.inl, fun e => e.elim id (fun ⟨i, hi, h1, _⟩ => absurd (s256 i hi) (by omega))⟩, ?_⟩
    rw [fX13_symbol_23.eq_2]
    exact ei_t (by decide) rfl
  | succ k ih =>
    intro M q fl hq hM hf
    obtain ⟨M, rfl⟩ : ∃ M', M = M' + 1 := ⟨M - 1, by omega⟩
    have n256 : (256 : Int32) * nI t + nI q = nI (256 * t + q) := by rw [show (256 : Int32) = nI 256 from rfl, pk_mul, nI_add]
    have step : ∀ (fl1 : Int32) (P : Prop), (fl1 = 0 ∨ fl1 = 1) → (fl1 = 1 ↔ fl = 1 ∨ P) → (P ↔ ∃ i, i < m ∧ S.getD i 0 = q ∧ l < gL c 16 i ∧ gW c i / 2 ^ (gL c 16 i - l) = v) → ∃ fl', (fl' = 0 ∨ fl' = 1) ∧ (fl' = 1 ↔ fl = 1 ∨ ∃ i, i < m ∧ q ≤ S.getD i 0 ∧ l < gL c 16 i ∧ gW c i / 2 ^ (gL c 16 i - l) = v) ∧ fX13_symbol_23 X k4 M (b + 24) (nI t) (nI v) (nI l) fl1 (nI (q + 1)) (rg_p lM b w0 y) = fX13_symbol_123 X k4 (b + 24) (nI t) (nI v) (nI l) fl' (rg_p lM b w0 y) := by
      intro fl1 P hf1 hP hP2
      obtain ⟨fl', f1, f2, f3⟩ := ih M (q + 1) fl1 (by omega) (by omega) hf1
      refine ⟨fl', f1, f2.trans ⟨?_, ?_⟩, f3⟩
      · rintro (e | ⟨i, hi, h1, h2⟩)
        · rcases hP.mp e with e | e
          · exact Or.inl e
          · obtain ⟨i, hi, h1, h2⟩ := hP2.mp e
            exact Or.inr ⟨i, hi, by omega, h2⟩
        · exact Or.inr ⟨i, hi, by omega, h2⟩
      · rintro (e | ⟨i, hi, h1, h2⟩)
        · exact Or.inl (hP.mpr (Or.inl e))
        · by_cases eq : S.getD i 0 = q
          · exact Or.inl (hP.mpr (Or.inr (hP2.mpr ⟨i, hi, eq, h2⟩)))
          · exact Or.inr ⟨i, hi, by omega, h2⟩
    have e114 : ∀ r, fX13_symbol_23 X k4 M (b + 24) (nI t) (nI v) (nI l) 0 (nI (q + 1)) (rg_p lM b w0 y) = r → fX13_symbol_114 X k4 (fX13_symbol_23 X k4 M) (b + 24) (nI t) (nI v) (nI l) (nI q) (rg_p lM b w0 y) = r := by
      intro r hr
      unfold fX13_symbol_114 fX13_symbol_115
      rw [nI_1]
      exact hr
    have e110 : ∀ r, fX13_symbol_23 X k4 M (b + 24) (nI t) (nI v) (nI l) 1 (nI (q + 1)) (rg_p lM b w0 y) = r → fX13_symbol_110 X k4 (fX13_symbol_23 X k4 M) (b + 24) (nI t) (nI v) (nI l) (nI q) (rg_p lM b w0 y) = r := by
      intro r hr
      unfold fX13_symbol_110 fX13_symbol_115
      rw [nI_1]
      exact hr
    have st : ∀ r N, y.2.2.1 37 (256 * t + q) = N → (if N ≤ 0 then fX13_symbol_77 X k4 (fX13_symbol_23 X k4 M) (b + 24) (nI t) (nI v) (nI l) fl (nI q) N (rg_p lM b w0 y) else if N = nI l then (gR (rg_p lM b w0 y) (b + 24) 13 19).bind fun v27 => (aN (rg_p lM b w0 y) 0 v27 (nI (256 * t + q))).bind fun v28 => if v28 = nI v then some (nI q, rg_p lM b w0 y) else fX13_symbol_77 X k4 (fX13_symbol_23 X k4 M) (b + 24) (nI t) (nI v) (nI l) fl (nI q) N (rg_p lM b w0 y) else fX13_symbol_77 X k4 (fX13_symbol_23 X k4 M) (b + 24) (nI t) (nI v) (nI l) fl (nI q) N (rg_p lM b w0 y)) = r → fX13_symbol_23 X k4 (M + 1) (b + 24) (nI t) (nI v) (nI l) fl (nI q) (rg_p lM b w0 y) = r := by
      intro r N hN hr
      rw [fX13_symbol_23.eq_2, n256]
      refine ei_n (nI_ge (b := 256) (by omega) (by omega)) (ob_v (rg_C rfl rfl) (ob_v (rg_A rfl (by decide) _ (by omega) (by decide)) ?_))
      rw [hN]
      exact hr
    rcases hr q (by omega) with ⟨i, hi, hs, a1, a2⟩ | ⟨hno, a1⟩
    · obtain ⟨g1, g2, g3, g4⟩ := gL_in (c := c) (i := i) (k := 16) (by have := hT.2.1; omega)
      obtain ⟨w1, w2, w3⟩ := gW_b hT hi
      have uniq : ∀ j, j < m → S.getD j 0 = q → j = i := by
        intro j hj e
        rcases Nat.lt_trichotomy j i with q1 | q1 | q1
        · exact absurd (hs.trans e.symm) (snd i j hi q1)
        · exact q1
        · exact absurd (e.trans hs.symm) (snd j i hj q1)
      have P2 : (l < gL c 16 i ∧ gW c i / 2 ^ (gL c 16 i - l) = v) ↔ ∃ i, i < m ∧ S.getD i 0 = q ∧ l < gL c 16 i ∧ gW c i / 2 ^ (gL c 16 i - l) = v := ⟨fun e => ⟨i, hi, hs, e⟩, fun ⟨j, hj, e1, e2⟩ => by rw [uniq j hj e1] at e2; exact e2⟩
      have e77 : ∃ fl', (fl' = 0 ∨ fl' = 1) ∧ (fl' = 1 ↔ fl = 1 ∨ ∃ i, i < m ∧ q ≤ S.getD i 0 ∧ l < gL c 16 i ∧ gW c i / 2 ^ (gL c 16 i - l) = v) ∧ fX13_symbol_77 X k4 (fX13_symbol_23 X k4 M) (b + 24) (nI t) (nI v) (nI l) fl (nI q) (nI (gL c 16 i)) (rg_p lM b w0 y) = fX13_symbol_123 X k4 (b + 24) (nI t) (nI v) (nI l) fl' (rg_p lM b w0 y) := by
        unfold fX13_symbol_77
        rw [n256]
        rcases hf with e0 | e1
        · by_cases le : gL c 16 i ≤ l
          · obtain ⟨fl', f1, f2, f3⟩ := step 0 _ (Or.inl rfl) ⟨fun e => absurd e (by decide), fun e => e.elim (fun e => absurd (e0.symm.trans e) (by decide)) (fun e => absurd e.1 (by omega))⟩ P2
            exact ⟨fl', f1, f2, ei_t e0 (ei_t (nI_le le (by omega)) (e114 _ f3))⟩
          · by_cases ev : gW c i / 2 ^ (gL c 16 i - l) = v
            · obtain ⟨fl', f1, f2, f3⟩ := step 1 _ (Or.inr rfl) ⟨fun _ => Or.inr ⟨by omega, ev⟩, fun _ => rfl⟩ P2
              refine ⟨fl', f1, f2, ei_t e0 (ei_n (nI_ge (by omega) (by omega)) (ob_v (rg_C rfl rfl) (ob_v (rg_A rfl (by decide) _ (by omega) (by decide)) ?_)))⟩
              rw [a2, pk_sub (by omega), pk_shrN (by omega) _ (gL c 16 i - l) (sm_16 (by omega)), ev]
              exact ei_t rfl (e110 _ f3)
            · obtain ⟨fl', f1, f2, f3⟩ := step 0 _ (Or.inl rfl) ⟨fun e => absurd e (by decide), fun e => e.elim (fun e => absurd (e0.symm.trans e) (by decide)) (fun e => absurd e.2 ev)⟩ P2
              refine ⟨fl', f1, f2, ei_t e0 (ei_n (nI_ge (by omega) (by omega)) (ob_v (rg_C rfl rfl) (ob_v (rg_A rfl (by decide) _ (by omega) (by decide)) ?_)))⟩
              have db : gW c i / 2 ^ (gL c 16 i - l) < 65536 := Nat.lt_of_le_of_lt (Nat.div_le_self _ _) w3
              rw [a2, pk_sub (by omega), pk_shrN (by omega) _ (gL c 16 i - l) (sm_16 (by omega))]
              exact ei_n (fun e => ev ((nI_eq (by omega) (by omega)).mp e)) (e114 _ f3)
        · obtain ⟨fl', f1, f2, f3⟩ := step 1 _ (Or.inr rfl) ⟨fun _ => Or.inl e1, fun _ => rfl⟩ P2
          exact ⟨fl', f1, f2, ei_n (by rw [e1]; exact n10) (e110 _ f3)⟩
      obtain ⟨fl', f1, f2, f3⟩ := e77
      refine ⟨fl', f1, f2, st _ _ a1 (ei_n (nI_nle (by omega) (by omega)) ?_)⟩
      by_cases el : gL c 16 i = l
      · refine ei_t (by rw [el]) (ob_v (rg_C rfl rfl) (ob_v (rg_A rfl (by decide) _ (by omega) (by decide)) ?_))
        rw [a2]
        rw [el] at w1
        exact ei_n (fun e => by have := (nI_eq (by omega) (by omega)).mp e; omega) f3
      · exact ei_n (fun e => el ((nI_eq (by omega) (by omega)).mp e)) f3
    · have P2 : False ↔ ∃ i, i < m ∧ S.getD i 0 = q ∧ l < gL c 16 i ∧ gW c i / 2 ^ (gL c 16 i - l) = v := ⟨False.elim, fun ⟨j, hj, e1, _⟩ => hno j hj e1⟩
      rcases hf with e0 | e1
      · obtain ⟨fl', f1, f2, f3⟩ := step 0 _ (Or.inl rfl) ⟨fun e => absurd e (by decide), fun e => e.elim (fun e => absurd (e0.symm.trans e) (by decide)) False.elim⟩ P2
        refine ⟨fl', f1, f2, st _ _ a1 (ei_t (by decide) ?_)⟩
        unfold fX13_symbol_77
        exact ei_t e0 (ei_t (nI_le (a := 0) (by omega) (by omega)) (e114 _ f3))
      · obtain ⟨fl', f1, f2, f3⟩ := step 1 _ (Or.inr rfl) ⟨fun _ => Or.inl e1, fun _ => rfl⟩ P2
        refine ⟨fl', f1, f2, st _ _ a1 (ei_t (by decide) ?_)⟩
        unfold fX13_symbol_77
        exact ei_n (by rw [e1]; exact n10) (e110 _ f3)
end
