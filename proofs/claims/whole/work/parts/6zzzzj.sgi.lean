/-! every segment keeps what holds of a state -/
def TOk (T : sgW) : Prop := ∀ t W, T t = some W → tbOk W.1 W.2 W.2.length ∧ 0 < W.2.length
def sgO2 (s : sgS) : Prop := (s.1 3 = 0 → ∀ i, s.2.2.2.1 i = 0) ∧ (s.1 3 ≠ 194 → ∀ cc j, j < 64 → s.2.2.2.1 (64 * cc) = 0 → s.2.2.2.1 (64 * cc + j) = 0) ∧ (s.1 3 ≠ 0 → s.1 5 = 0 → s.1 9 ≠ 0 ∧ (s.1 8 = 0 ∨ s.1 7 ≠ 0)) ∧ (s.1 3 ≠ 0 → s.1 8 = 0 → s.1 9 ≠ 0 → s.1 5 = 0) ∧ (s.1 7 ≠ 0 → s.1 8 ≠ 0 ∧ s.1 5 = 0) ∧ (s.1 3 ≠ 0 → (1 ≤ s.1 4 ∧ s.1 4 ≤ 64) ∧ s.1 5 ≤ 64) ∧ (4 * s.1 2 + 2 ≤ s.1 0 ∧ 10 * s.1 8 + 2 ≤ s.1 0) ∧ TOk s.2.2.1 ∧ (∀ t k, k < 64 → s.2.1 (64 * t) ≠ 0 → s.2.1 (64 * t + k) ≠ 0) ∧ (∀ cc, s.2.2.2.1 (64 * cc) ≠ 0 → ∀ j, j < 64 → 1 ≤ s.2.2.2.2.2.2 (64 * cc + j) ∧ s.2.2.2.2.2.2 (64 * cc + j) ≤ 255)
section
variable {c : sgC} {s s' : sgS} {p : Nat}
theorem sgQs_o {p' : Nat} {q' : Nat → Nat} : ∀ (r p : Nat) (q : Nat → Nat), (∀ i, q i ≤ 255) → (∀ t k, k < 64 → q (64 * t) ≠ 0 → q (64 * t + k) ≠ 0) → sgQs c r p q = .inr (p', q') → ∀ t k, k < 64 → q' (64 * t) ≠ 0 → q' (64 * t + k) ≠ 0 := by
  intro r
  induction r with
  | zero =>
    intro p q _ h e
    have e2 := congrArg Prod.snd (Sum.inr.inj e)
    dsimp only at e2
    subst e2
    exact h
  | succ r ih =>
    intro p q hb h e
    unfold sgQs at e
    obtain ⟨t, e1, e2⟩ := sgB_i e
    obtain ⟨a, e3, e4⟩ := sgB_i e2
    obtain ⟨j1, j2, j3, j4⟩ := sgQk_ok (p' := a.1) (q' := a.2) 64 0 t.2 q hb e3
    have h' : ∀ t k, k < 64 → a.2 (64 * t) ≠ 0 → a.2 (64 * t + k) ≠ 0 := by
      intro t' k hk hn
      by_cases z : t' = t.1
      · rw [z]
        have := j3 k (by omega) (by omega)
        omega
      · rw [j4 _ (by omega)]
        rw [j4 _ (by omega)] at hn
        exact h t' k hk hn
    split at e4
    · exact ih a.1 a.2 j1 h' e4
    · have h6 := congrArg Prod.snd (Sum.inr.inj e4)
      dsimp only at h6
      rw [← h6]
      exact h'
theorem sgWs_o {p' : Nat} {T' : sgW} (hD : ∀ i, i < c.2.1 → c.1 i < 256) : ∀ (r p : Nat) (T : sgW), TOk T → sgWs c r p T = .inr (p', T') → TOk T' := by
  intro r
  induction r with
  | zero =>
    intro p T h e
    have e1 := congrArg Prod.snd (Sum.inr.inj e)
    dsimp only at e1
    rw [← e1]
    exact h
  | succ r ih =>
    intro p T h e
    unfold sgWs at e
    obtain ⟨t, e1, e2⟩ := sgB_i e
    have g := sgI_p (u := t.1) (q := t.2) e1
    split at e2
    · cases e2
    · obtain ⟨a, e3, e4⟩ := sgB_i e2
      obtain ⟨d, e5, e6⟩ := sgB_i e4
      obtain ⟨⟨d1, d2, d3⟩, d4, d5, d6, d7⟩ := sgCk_ok (p' := a.1) (s' := a.2.1) (f' := a.2.2) hD 16 1 t.2 0 0 (fun _ => 0) (by omega) (by omega) rfl rfl (fun k hk => by rw [show k = 0 by omega]; decide) (fun _ => Nat.zero_le _) (by omega) e3
      obtain ⟨t1, t2, t3, t4⟩ := sgSk_ok (p' := d.1) (S' := d.2) (by split <;> decide) a.2.1 a.1 [] (fun i hi => absurd hi (by rw [List.length_nil]; omega)) (fun i j hi => absurd hi (by rw [List.length_nil]; omega)) e5
      rw [List.length_nil, Nat.zero_add] at t1
      have h' : TOk (fun j => if j = (if t.1 < 4 then t.1 else t.1 - 12) then some (a.2.2, d.2) else T j) := by
        intro j W hW
        by_cases z : j = (if t.1 < 4 then t.1 else t.1 - 12)
        · have hW : (if j = (if t.1 < 4 then t.1 else t.1 - 12) then some (a.2.2, d.2) else T j) = some W := hW
          rw [if_pos z] at hW
          have := Option.some.inj hW
          subst this
          exact ⟨⟨by show d.2.length ≤ 256; omega, by show dn a.2.2 16 = d.2.length; omega, fun l => by show a.2.2 l ≤ 257; have := d5 l; omega, d4, t2, t3⟩, by show 0 < d.2.length; omega⟩
        · have hW : (if j = (if t.1 < 4 then t.1 else t.1 - 12) then some (a.2.2, d.2) else T j) = some W := hW
          rw [if_neg z] at hW
          exact h j W hW
      split at e6
      · exact ih d.1 _ h' e6
      · have h5 := congrArg Prod.snd (Sum.inr.inj e6)
        dsimp only at h5
        rw [← h5]
        exact h'
theorem sgTb_i {fi la bf : Nat} {q : Nat → Nat} {T : sgW} {cs mb : sg4} : ∀ (r i : Nat), sgTb fi la bf q T cs mb r i = .inr () → ∀ k, i ≤ k → k < i + r → q (64 * (cs (mb k).1).2.2.2) ≠ 0 ∧ (fi = 0 → bf = 0 → ∃ W, T (mb k).2.1 = some W) ∧ (0 < la → ∃ W, T (4 + (mb k).2.2.1) = some W) := by
  intro r
  induction r with
  | zero => intro i _ k a b; omega
  | succ r ih =>
    intro i e k a b
    unfold sgTb at e
    by_cases d1 : q (64 * (cs (mb i).1).2.2.2) = 0
    · rw [if_pos d1] at e
      cases e
    · rw [if_neg d1] at e
      by_cases d2 : ((fi = 0 ∧ bf = 0) ∧ (T (mb i).2.1).isNone = true) ∨ (0 < la ∧ (T (4 + (mb i).2.2.1)).isNone = true)
      · rw [if_pos d2] at e
        cases e
      · rw [if_neg d2] at e
        rcases Nat.eq_or_lt_of_le a with z | z
        · rw [← z]
          refine ⟨d1, fun f0 b0 => ?_, fun l0 => ?_⟩
          · cases hT : T (mb i).2.1 with
            | none => exact absurd (Or.inl ⟨⟨f0, b0⟩, by rw [hT]; rfl⟩) d2
            | some W => exact ⟨W, rfl⟩
          · cases hT : T (4 + (mb i).2.2.1) with
            | none => exact absurd (Or.inr ⟨l0, by rw [hT]; rfl⟩) d2
            | some W => exact ⟨W, rfl⟩
        · exact ih (i + 1) e k (by omega) (by omega)
/-- all that a scan's segment says -/
theorem sgSc_i (e : sgSc c s p = .inr s') : ∃ nn mb fi la bf bb p1 p2 p3, sgI c 1 4 p = .inr (nn, p1) ∧ sgMb c s.2.2.2.2.1 (s.1 6) nn 0 0 0 p1 (fun _ => (0, 0, 0, 0)) = .inr (p2, mb) ∧ sgBn c (s.1 3) nn p2 = .inr (fi, la, bf, bb, p3) ∧ sgFt (s.1 3) fi la bf s.2.2.2.1 mb (p3 - 1) nn 0 = .inr () ∧ sgTb fi la bf s.2.1 s.2.2.1 s.2.2.2.2.1 mb nn 0 = .inr () ∧ p3 = c.2.2.1 ∧ s' = (fun k => if k = 0 then p3 else if k = 7 then (if s.1 9 ≠ 0 ∧ s.1 8 = 0 then 1 else 0) else if k = 8 then s.1 8 + 1 else if k = 10 then nn else if k = 11 then fi else if k = 12 then la else if k = 13 then bf else if k = 14 then bb else if k = 15 then p3 else s.1 k, s.2.1, s.2.2.1, (sgNo s fi la bb mb nn).1, s.2.2.2.2.1, mb, (sgNo s fi la bb mb nn).2) := by
  unfold sgSc at e
  obtain ⟨a1, e1, f1⟩ := sgB_i e
  obtain ⟨a2, e2, f2⟩ := sgB_i f1
  obtain ⟨a3, e3, f3⟩ := sgB_i f2
  obtain ⟨a4, e4, f4⟩ := sgB_i f3
  obtain ⟨a5, e5, f5⟩ := sgB_i f4
  obtain ⟨g1, g2⟩ := sgE_i f5
  exact ⟨a1.1, a2.2, a3.1, a3.2.1, a3.2.2.1, a3.2.2.2.1, a1.2, a2.1, a3.2.2.2.2, e1, e2, e3, e4, e5, g1, g2⟩
/-- steps of a component that was sent -/
theorem sgNo_st {fi la bb n6 : Nat} {mb : sg4} (hq : ∀ i, s.2.1 i ≤ 255) (hq2 : ∀ t k, k < 64 → s.2.1 (64 * t) ≠ 0 → s.2.1 (64 * t + k) ≠ 0) (fl : fi ≤ la) (l6 : la ≤ 63) (hf : ∀ i, i < n6 → s.2.1 (64 * (s.2.2.2.2.1 (mb i).1).2.2.2) ≠ 0) (h : ∀ cc, s.2.2.2.1 (64 * cc) ≠ 0 → ∀ j, j < 64 → 1 ≤ s.2.2.2.2.2.2 (64 * cc + j) ∧ s.2.2.2.2.2.2 (64 * cc + j) ≤ 255) : ∀ n, n ≤ n6 → ∀ cc, (sgNo s fi la bb mb n).1 (64 * cc) ≠ 0 → ∀ j, j < 64 → 1 ≤ (sgNo s fi la bb mb n).2 (64 * cc + j) ∧ (sgNo s fi la bb mb n).2 (64 * cc + j) ≤ 255 := by
  intro n
  induction n with
  | zero => exact fun _ => h
  | succ n ih =>
    intro hn cc hne j hj
    have ih := ih (by omega)
    unfold sgNo at hne ⊢
    dsimp only at hne ⊢
    by_cases d : (sgNo s fi la bb mb n).1 (64 * (mb n).1) = 0 ∧ 64 * (mb n).1 ≤ 64 * cc + j ∧ 64 * cc + j < 64 * (mb n).1 + 64
    · rw [if_pos d]
      have e : cc = (mb n).1 := by omega
      have := hq2 (s.2.2.2.2.1 (mb n).1).2.2.2 (64 * cc + j - 64 * (mb n).1) (by omega) (hf n (by omega))
      exact ⟨by omega, hq _⟩
    · rw [if_neg d]
      refine ih cc ?_ j hj
      by_cases e : cc = (mb n).1
      · rw [e]
        exact fun z => d ⟨z, by omega, by omega⟩
      · rw [if_neg (by omega)] at hne
        exact hne
theorem sgNo_sq {bb n6 : Nat} {mb : sg4} (h : ∀ cc j, j < 64 → s.2.2.2.1 (64 * cc) = 0 → s.2.2.2.1 (64 * cc + j) = 0) : ∀ n cc j, j < 64 → (sgNo s 0 63 bb mb n).1 (64 * cc) = 0 → (sgNo s 0 63 bb mb n).1 (64 * cc + j) = 0 := by
  intro n
  induction n with
  | zero => exact h
  | succ n ih =>
    intro cc j hj hz
    unfold sgNo at hz ⊢
    dsimp only at hz ⊢
    by_cases e : cc = (mb n).1
    · rw [if_pos (by omega)] at hz
      omega
    · rw [if_neg (by omega)] at hz
      rw [if_neg (by omega)]
      exact ih cc j hj hz
end
