/-! what stays true from segment to segment -/
def sgBy (code : Nat) (c : sgC) (s1 : sgS) (p : Nat) : sgF ⊕ sgS :=
    if code = 219 then sgB (sgQs c 16384 p s1.2.1) fun a => .inr (uG s1.1 0 a.1, a.2, s1.2.2)
    else if code = 196 then sgB (sgWs c 16384 p s1.2.2.1) fun a => .inr (uG s1.1 0 a.1, s1.2.1, a.2, s1.2.2.2)
    else if code = 221 then sgB (sgU c 0 65535 p) fun v => sgE c v.2 (uG (uG s1.1 0 v.2) 1 v.1, s1.2)
    else if code = 192 ∨ code = 194 then sgB (sgFr c p) fun f => .inr (fun k => if k = 0 then f.2.2.2.1 else if k = 3 then code else if k = 4 then f.2.1 else if k = 5 then f.1 else if k = 6 then f.2.2.1 else if k = 9 then (if f.1 = 0 then 1 else 0) else s1.1 k, s1.2.1, s1.2.2.1, s1.2.2.2.1, f.2.2.2.2, s1.2.2.2.2.2)
    else if code = 218 then sgB (sgSc c s1 p) fun s2 => sgB (sgDt c.1 c.2.1 (s1.1 1) (c.2.1 + 1) (s2.1 0) 0) fun e => .inr (sgEd s2 e)
    else if code = 220 then sgB (sgU c 1 64 p) fun v => sgE c v.2 (uG (uG (uG s1.1 0 v.2) 5 v.1) 7 0, s1.2)
    else if c.2.1 < c.2.2.1 then .inl (1, c.2.1) else .inr (uG s1.1 0 c.2.2.1, s1.2)
theorem sgSg_e {D : Nat → Nat} {L code : Nat} {s : sgS} : sgSg D L code s = if L ≤ s.1 0 + 1 then .inl (1, L) else if 256 * D (s.1 0) + D (s.1 0 + 1) < 2 then .inl (5, s.1 0) else sgBy code (D, L, s.1 0 + (256 * D (s.1 0) + D (s.1 0 + 1)), s.1 0) (uG s.1 2 (s.1 2 + 1), s.2) (s.1 0 + 2) := rfl
section
variable {c : sgC}
theorem sgB_i {α β : Type} {o : sgF ⊕ α} {k : α → sgF ⊕ β} {z : β} (e : sgB o k = .inr z) : ∃ a, o = .inr a ∧ k a = .inr z := by
  cases o with
  | inl f => cases e
  | inr a => exact ⟨a, rfl, e⟩
theorem sgE_i {α : Type} {p : Nat} {a z : α} (e : sgE c p a = .inr z) : p = c.2.2.1 ∧ z = a := by
  unfold sgE at e
  split at e
  · exact ⟨by assumption, (Sum.inr.inj e).symm⟩
  · cases e
theorem sgU_i {lo hi p u q : Nat} (e : sgU c lo hi p = .inr (u, q)) : q = p + 2 ∧ lo ≤ u ∧ u ≤ hi ∧ p + 1 < c.2.2.1 ∧ p + 1 < c.2.1 := by
  unfold sgU sgT at e
  obtain ⟨a, e1, e2⟩ := sgB_i e
  obtain ⟨a1, e3, e4⟩ := sgB_i e1
  obtain ⟨a2, e5, e6⟩ := sgB_i e4
  have g1 := sgN_p (u := a1.1) (q := a1.2) e3
  have g2 := sgN_p (u := a2.1) (q := a2.2) e5
  have h6 := Sum.inr.inj e6
  split at e2
  · cases e2
  · have h2 := Sum.inr.inj e2
    subst h2
    have h7 := congrArg Prod.fst h6
    have h8 := congrArg Prod.snd h6
    dsimp only at *
    omega
theorem sgQk_ok {t p' : Nat} {q' : Nat → Nat} : ∀ (r k p : Nat) (q : Nat → Nat), (∀ i, q i ≤ 255) → sgQk c t r k p q = .inr (p', q') → (∀ i, q' i ≤ 255) ∧ p' = p + r ∧ (∀ j, k ≤ j → j < k + r → 1 ≤ q' (64 * t + j)) ∧ ∀ i, (i < 64 * t + k ∨ 64 * t + k + r ≤ i) → q' i = q i := by
  intro r
  induction r with
  | zero =>
    intro k p q h e
    have e1 := congrArg Prod.fst (Sum.inr.inj e)
    have e2 := congrArg Prod.snd (Sum.inr.inj e)
    dsimp only at e1 e2
    subst e1 e2
    exact ⟨h, rfl, fun j a b => absurd b (by omega), fun _ _ => rfl⟩
  | succ r ih =>
    intro k p q h e
    unfold sgQk at e
    obtain ⟨v, e1, e2⟩ := sgB_i e
    have g := sgI_p (u := v.1) (q := v.2) e1
    obtain ⟨i1, i2, i3, i4⟩ := ih (k + 1) v.2 _ (by
      intro i
      by_cases z : i = 64 * t + k
      · rw [z, uG_s]
        omega
      · rw [uG_n _ _ z]
        exact h i) e2
    refine ⟨i1, by omega, fun j a b => ?_, fun i hi => ?_⟩
    · by_cases z : j = k
      · rw [z, i4 (64 * t + k) (by omega), uG_s]
        omega
      · exact i3 j (by omega) (by omega)
    · rw [i4 i (by omega), uG_n _ _ (by omega)]
theorem sgQs_ok {p' : Nat} {q' : Nat → Nat} : ∀ (r p : Nat) (q : Nat → Nat), (∀ i, q i ≤ 255) → sgQs c r p q = .inr (p', q') → (∀ i, q' i ≤ 255) ∧ p ≤ p' := by
  intro r
  induction r with
  | zero =>
    intro p q h e
    have e1 := congrArg Prod.fst (Sum.inr.inj e)
    have e2 := congrArg Prod.snd (Sum.inr.inj e)
    dsimp only at e1 e2
    subst e1 e2
    exact ⟨h, Nat.le_refl _⟩
  | succ r ih =>
    intro p q h e
    unfold sgQs at e
    obtain ⟨t, e1, e2⟩ := sgB_i e
    obtain ⟨a, e3, e4⟩ := sgB_i e2
    have g := sgI_p (u := t.1) (q := t.2) e1
    obtain ⟨j1, j2, _⟩ := sgQk_ok (p' := a.1) (q' := a.2) 64 0 t.2 q h e3
    split at e4
    · obtain ⟨i1, i2⟩ := ih a.1 a.2 j1 e4
      exact ⟨i1, by omega⟩
    · have h4 := Sum.inr.inj e4
      have h5 := congrArg Prod.fst h4
      have h6 := congrArg Prod.snd h4
      dsimp only at h5 h6
      rw [← h5, ← h6]
      exact ⟨j1, by omega⟩
theorem sgWs_p {p' : Nat} {T' : sgW} (hD : ∀ i, i < c.2.1 → c.1 i < 256) : ∀ (r p : Nat) (T : sgW), sgWs c r p T = .inr (p', T') → p ≤ p' := by
  intro r
  induction r with
  | zero =>
    intro p T e
    have e1 := congrArg Prod.fst (Sum.inr.inj e)
    dsimp only at e1
    omega
  | succ r ih =>
    intro p T e
    unfold sgWs at e
    obtain ⟨t, e1, e2⟩ := sgB_i e
    have g := sgI_p (u := t.1) (q := t.2) e1
    split at e2
    · cases e2
    · obtain ⟨a, e3, e4⟩ := sgB_i e2
      obtain ⟨d, e5, e6⟩ := sgB_i e4
      have h1 := (sgCk_ok (p' := a.1) (s' := a.2.1) (f' := a.2.2) hD 16 1 t.2 0 0 (fun _ => 0) (by omega) (by omega) rfl rfl (fun k hk => by rw [show k = 0 by omega]; decide) (fun _ => Nat.zero_le _) (by omega) e3).2.2.2.2
      have h2 := (sgSk_ok (p' := d.1) (S' := d.2) (by split <;> decide) a.2.1 a.1 [] (fun i hi => absurd hi (by rw [List.length_nil]; omega)) (fun i j hi => absurd hi (by rw [List.length_nil]; omega)) e5).2.2.2
      split at e6
      · have := ih d.1 _ e6
        omega
      · have h5 := congrArg Prod.fst (Sum.inr.inj e6)
        dsimp only at h5
        omega
theorem sgCm_p {p' : Nat} {cs' : sg4} : ∀ (r i p : Nat) (cs : sg4), sgCm c r i p cs = .inr (p', cs') → p' = p + 3 * r := by
  intro r
  induction r with
  | zero =>
    intro i p cs e
    have e1 := congrArg Prod.fst (Sum.inr.inj e)
    dsimp only at e1
    omega
  | succ r ih =>
    intro i p cs e
    unfold sgCm at e
    obtain ⟨a, e1, e2⟩ := sgB_i e
    have g1 := sgN_p (u := a.1) (q := a.2) e1
    split at e2
    · cases e2
    · obtain ⟨a2, e3, e4⟩ := sgB_i e2
      have g2 := sgN_p (u := a2.1) (q := a2.2) e3
      split at e4
      · cases e4
      · obtain ⟨a3, e5, e6⟩ := sgB_i e4
        have g3 := sgI_p (u := a3.1) (q := a3.2) e5
        have := ih (i + 1) a3.2 _ e6
        omega
theorem sgFr_ok {p h w n p' : Nat} {cs : sg4} (hD : ∀ i, i < c.2.1 → c.1 i < 256) (e : sgFr c p = .inr (h, w, n, p', cs)) : h ≤ 64 ∧ (1 ≤ w ∧ w ≤ 64) ∧ (1 ≤ n ∧ n ≤ 4) ∧ csOk n cs ∧ p' = c.2.2.1 ∧ p + 6 ≤ p' := by
  unfold sgFr at e
  obtain ⟨a1, e1, f1⟩ := sgB_i e
  obtain ⟨a2, e2, f2⟩ := sgB_i f1
  obtain ⟨a3, e3, f3⟩ := sgB_i f2
  obtain ⟨a4, e4, f4⟩ := sgB_i f3
  obtain ⟨a5, e5, f5⟩ := sgB_i f4
  obtain ⟨g1, g2⟩ := sgE_i f5
  have E1 := congrArg (fun z => z.1) g2
  have E2 := congrArg (fun z => z.2.1) g2
  have E3 := congrArg (fun z => z.2.2.1) g2
  have E4 := congrArg (fun z => z.2.2.2.1) g2
  have E5 := congrArg (fun z => z.2.2.2.2) g2
  dsimp only at E1 E2 E3 E4 E5
  have k1 := sgI_p (u := a1.1) (q := a1.2) e1
  have k2 := sgU_i (u := a2.1) (q := a2.2) e2
  have k3 := sgU_i (u := a3.1) (q := a3.2) e3
  have k4 := sgI_p (u := a4.1) (q := a4.2) e4
  have k5 := sgCm_ok (p' := a5.1) (cs' := a5.2) hD a4.1 0 a4.2 _ (fun i hi => absurd hi (Nat.not_lt_zero _)) e5
  have k6 := sgCm_p (p' := a5.1) (cs' := a5.2) a4.1 0 a4.2 _ e5
  rw [Nat.zero_add] at k5
  subst E1 E2 E3 E4 E5
  exact ⟨by omega, by omega, by omega, k5, by omega, by omega⟩
theorem sgDt_p {D : Nat → Nat} {L iv e : Nat} : ∀ (r p t : Nat), sgDt D L iv r p t = .inr e → p ≤ e ∧ e + 1 < L ∧ D e = 255 ∧ D (e + 1) ≠ 0 := by
  intro r
  induction r with
  | zero => intro p t h; cases h
  | succ r ih =>
    intro p t h
    unfold sgDt at h
    split at h
    · cases h
    · split at h
      · have := ih _ _ h
        exact ⟨by omega, this.2⟩
      · rename_i d2
        have d2 := Classical.not_not.mp d2
        split at h
        · have := ih _ _ h
          exact ⟨by omega, this.2⟩
        · rename_i d3
          split at h
          · have := ih _ _ h
            exact ⟨by omega, this.2⟩
          · have := Sum.inr.inj h
            subst this
            exact ⟨Nat.le_refl _, by omega, d2, d3⟩
end
theorem sgFt_i {kd fi la bf pl : Nat} {lt : Nat → Nat} {mb : sg4} : ∀ (r i : Nat), sgFt kd fi la bf lt mb pl r i = .inr () → ∀ k, i ≤ k → k < i + r → ¬ (if kd = 192 then lt (64 * (mb k).1) ≠ 0 else 0 < fi ∧ lt (64 * (mb k).1) = 0) ∧ ∀ j, j < 64 → fi ≤ j → j ≤ la → lt (64 * (mb k).1 + j) = (if bf = 0 then 0 else bf + 1) := by
  intro r
  induction r with
  | zero => intro i _ k a b; omega
  | succ r ih =>
    intro i e k a b
    unfold sgFt at e
    by_cases d1 : (if kd = 192 then lt (64 * (mb i).1) ≠ 0 else 0 < fi ∧ lt (64 * (mb i).1) = 0)
    · rw [if_pos d1] at e
      cases e
    · rw [if_neg d1] at e
      by_cases d2 : ∀ k, k < 64 → fi ≤ k → k ≤ la → lt (64 * (mb i).1 + k) = (if bf = 0 then 0 else bf + 1)
      · rw [if_pos d2] at e
        rcases Nat.eq_or_lt_of_le a with z | z
        · rw [← z]
          exact ⟨d1, d2⟩
        · exact ih (i + 1) e k (by omega) (by omega)
      · rw [if_neg d2] at e
        cases e
theorem sgNo_le {s : sgS} {fi la bb : Nat} {mb : sg4} (hb : bb ≤ 13) (hl : ∀ i, s.2.2.2.1 i ≤ 14) : ∀ (n i : Nat), (sgNo s fi la bb mb n).1 i ≤ 14
  | 0, i => hl i
  | n + 1, i => by
    unfold sgNo
    dsimp only
    split
    · omega
    · exact sgNo_le hb hl n i
theorem sgNo_n {s : sgS} {fi la bb : Nat} {mb : sg4} {j : Nat} : ∀ (n : Nat), s.2.2.2.1 j ≠ 0 → (sgNo s fi la bb mb n).1 j ≠ 0
  | 0, h => h
  | n + 1, h => by
    unfold sgNo
    dsimp only
    split
    · omega
    · exact sgNo_n n h
theorem sgNo_f {s : sgS} {fi la bb : Nat} {mb : sg4} {n i : Nat} (hi : i < n) {j : Nat} (h : 64 * (mb i).1 + fi ≤ j ∧ j ≤ 64 * (mb i).1 + la) : (sgNo s fi la bb mb n).1 j = bb + 1 ∨ (sgNo s fi la bb mb n).1 j ≠ 0 := by
  induction n with
  | zero => omega
  | succ n ih =>
    unfold sgNo
    dsimp only
    split
    · exact Or.inl rfl
    · rename_i d
      rcases Nat.lt_or_ge i n with z | z
      · exact ih z
      · rw [show i = n by omega] at h
        exact absurd h d
