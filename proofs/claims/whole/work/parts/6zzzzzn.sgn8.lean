/-! what a scan's segment notes, pure -/
def sgN8 (lt st : Nat → Nat) (s2 : sgS) : Prop := (∀ j, s2.2.2.2.1 j = 0 → lt j = 0 ∧ ∀ i, i < s2.1 10 → ¬ (64 * (s2.2.2.2.2.2.1 i).1 + s2.1 11 ≤ j ∧ j ≤ 64 * (s2.2.2.2.2.2.1 i).1 + s2.1 12)) ∧ (∀ c, (∀ i, i < s2.1 10 → (s2.2.2.2.2.2.1 i).1 ≠ c) → ∀ k, k < 64 → s2.2.2.2.1 (64 * c + k) = lt (64 * c + k) ∧ s2.2.2.2.2.2.2 (64 * c + k) = st (64 * c + k)) ∧ ∀ i, i < s2.1 10 → s2.2.2.2.1 (64 * (s2.2.2.2.2.2.1 i).1) ≠ 0 ∧ ∀ k, k < 64 → s2.2.2.2.2.2.2 (64 * (s2.2.2.2.2.2.1 i).1 + k) = if lt (64 * (s2.2.2.2.2.2.1 i).1) = 0 then s2.2.1 (64 * (s2.2.2.2.2.1 (s2.2.2.2.2.2.1 i).1).2.2.2 + k) else st (64 * (s2.2.2.2.2.2.1 i).1 + k)
theorem sgNo_8 {s : sgS} {fi la bb nn : Nat} {mb : sg4} (l6 : la ≤ 63) (inc : ∀ j k, j < k → k < nn → (mb j).1 < (mb k).1) (hf : ∀ i, i < nn → 0 < fi → s.2.2.2.1 (64 * (mb i).1) ≠ 0) : ∀ n, n ≤ nn → (∀ j, (sgNo s fi la bb mb n).1 j = 0 → s.2.2.2.1 j = 0 ∧ ∀ i, i < n → ¬ (64 * (mb i).1 + fi ≤ j ∧ j ≤ 64 * (mb i).1 + la)) ∧ (∀ c, (∀ i, i < n → (mb i).1 ≠ c) → ∀ k, k < 64 → (sgNo s fi la bb mb n).1 (64 * c + k) = s.2.2.2.1 (64 * c + k) ∧ (sgNo s fi la bb mb n).2 (64 * c + k) = s.2.2.2.2.2.2 (64 * c + k)) ∧ ∀ i, i < n → (sgNo s fi la bb mb n).1 (64 * (mb i).1) ≠ 0 ∧ ∀ k, k < 64 → (sgNo s fi la bb mb n).2 (64 * (mb i).1 + k) = if s.2.2.2.1 (64 * (mb i).1) = 0 then s.2.1 (64 * (s.2.2.2.2.1 (mb i).1).2.2.2 + k) else s.2.2.2.2.2.2 (64 * (mb i).1 + k) := by
  intro n
  induction n with
  | zero =>
    intro _
    exact ⟨fun j h => ⟨h, fun i hi => absurd hi (Nat.not_lt_zero _)⟩, fun c _ k _ => ⟨rfl, rfl⟩, fun i hi => absurd hi (Nat.not_lt_zero _)⟩
  | succ n ih =>
    intro hn
    obtain ⟨i1, i2, i3⟩ := ih (by omega)
    have e1 : ∀ j, (sgNo s fi la bb mb (n + 1)).1 j = if 64 * (mb n).1 + fi ≤ j ∧ j ≤ 64 * (mb n).1 + la then bb + 1 else (sgNo s fi la bb mb n).1 j := fun j => rfl
    have e2 : ∀ j, (sgNo s fi la bb mb (n + 1)).2 j = if (sgNo s fi la bb mb n).1 (64 * (mb n).1) = 0 ∧ 64 * (mb n).1 ≤ j ∧ j < 64 * (mb n).1 + 64 then s.2.1 (64 * (s.2.2.2.2.1 (mb n).1).2.2.2 + (j - 64 * (mb n).1)) else (sgNo s fi la bb mb n).2 j := fun j => rfl
    have own := i2 (mb n).1 (fun i hi e => by have := inc i n hi (by omega); omega)
    have own0 := (own 0 (by decide)).1
    rw [Nat.add_zero] at own0
    refine ⟨fun j h => ?_, fun c hc k hk => ?_, fun i hi => ?_⟩
    · rw [e1] at h
      by_cases q : 64 * (mb n).1 + fi ≤ j ∧ j ≤ 64 * (mb n).1 + la
      · rw [if_pos q] at h
        omega
      · rw [if_neg q] at h
        obtain ⟨a1, a2⟩ := i1 j h
        refine ⟨a1, fun i hi => ?_⟩
        by_cases e : i = n
        · rw [e]; exact q
        · exact a2 i (by omega)
    · have hne := hc n (by omega)
      rw [e1, e2, if_neg (by omega), if_neg (by omega)]
      exact i2 c (fun i hi => hc i (by omega)) k hk
    · by_cases e : i = n
      · rw [e]
        refine ⟨?_, fun k hk => ?_⟩
        · rw [e1]
          by_cases q : 64 * (mb n).1 + fi ≤ 64 * (mb n).1 ∧ 64 * (mb n).1 ≤ 64 * (mb n).1 + la
          · rw [if_pos q]
            omega
          · rw [if_neg q, own0]
            exact hf n (by omega) (by omega)
        · rw [e2, own0, Nat.add_sub_cancel_left]
          by_cases q : s.2.2.2.1 (64 * (mb n).1) = 0
          · rw [if_pos ⟨q, by omega, by omega⟩, if_pos q]
          · rw [if_neg (fun z => q z.1), if_neg q]
            exact (own k hk).2
      · have hne := inc i n (by omega) (by omega)
        obtain ⟨a1, a2⟩ := i3 i (by omega)
        refine ⟨?_, fun k hk => ?_⟩
        · rw [e1]
          by_cases q : 64 * (mb n).1 + fi ≤ 64 * (mb i).1 ∧ 64 * (mb i).1 ≤ 64 * (mb n).1 + la
          · omega
          · rw [if_neg q]
            exact a1
        · rw [e2, if_neg (by omega)]
          exact a2 k hk
theorem sgSg_n8 {D : Nat → Nat} {L : Nat} {s s2 : sgS} (hL : L ≤ 16384) (ok : sgOk s) (hk : s.1 3 ≠ 0) (e : sgSg D L 218 s = .inr s2) : sgN8 s.2.2.2.1 s.2.2.2.2.2.2 s2 := by
  rw [sgSg_e] at e
  split at e
  · cases e
  split at e
  · cases e
  rename_i d1 d2
  generalize hc : ((D, L, s.1 0 + (256 * D (s.1 0) + D (s.1 0 + 1)), s.1 0) : sgC) = c at e
  generalize hs1 : ((uG s.1 2 (s.1 2 + 1), s.2) : sgS) = s1 at e
  have v1 : ∀ k, k ≠ 2 → s1.1 k = s.1 k := by
    intro k b
    rw [← hs1]
    exact uG_n _ _ b
  have w1 : s1.2 = s.2 := by rw [← hs1]
  have cD : c.1 = D ∧ c.2.1 = L := by rw [← hc]; exact ⟨rfl, rfl⟩
  unfold sgBy at e
  rw [if_neg (by decide), if_neg (by decide), if_neg (by decide), if_neg (by decide), if_pos rfl] at e
  obtain ⟨s3, e1, e2⟩ := sgB_i e
  obtain ⟨ed, e3, e4⟩ := sgB_i e2
  have E := Sum.inr.inj e4
  obtain ⟨nn, mb, fi, la, bf, bb, p1, p2, p3, f1, f2, f3, f4, f5, f6, f7⟩ := sgSc_i e1
  have t3 : s1.1 3 = s.1 3 := v1 3 (by decide)
  have t6 : s1.1 6 = s.1 6 := v1 6 (by decide)
  rw [w1, t6] at f2
  rw [t3] at f3 f4
  rw [w1] at f4
  have k3 := ok.2.1
  have hkd : s.1 3 = 192 ∨ s.1 3 = 194 := by omega
  obtain ⟨mok, mp⟩ := sgMb_ok (by rw [cD.2]; exact hL) nn 0 0 0 p1 (fun _ => (0, 0, 0, 0)) ⟨fun k hk => absurd hk (Nat.not_lt_zero _), fun j k _ hk => absurd hk (Nat.not_lt_zero _), by show 0 ≤ 10; decide⟩ (fun k hk => absurd hk (Nat.not_lt_zero _)) rfl f2
  rw [Nat.zero_add] at mok
  obtain ⟨b1, b2, b3, b4, b5, b6, b7, b8, b9⟩ := sgBn_ok hkd f3
  have u10 : s2.1 10 = nn := by rw [← E, f7]; rfl
  have u11 : s2.1 11 = fi := by rw [← E, f7]; rfl
  have u12 : s2.1 12 = la := by rw [← E, f7]; rfl
  have xm : s2.2.2.2.2.2.1 = mb := by rw [← E, f7]; rfl
  have xc : s2.2.2.2.2.1 = s.2.2.2.2.1 := by rw [← E, f7]; show s1.2.2.2.2.1 = _; rw [w1]
  have xq : s2.2.1 = s.2.1 := by rw [← E, f7]; show s1.2.1 = _; rw [w1]
  have nos : ∀ n, sgNo s1 fi la bb mb n = sgNo s fi la bb mb n := by
    intro n
    induction n with
    | zero => unfold sgNo; rw [w1]
    | succ n ih => unfold sgNo; rw [ih, w1]
  have x3 : s2.2.2.2.1 = (sgNo s fi la bb mb nn).1 := by rw [← E, f7, ← nos]; rfl
  have x4 : s2.2.2.2.2.2.2 = (sgNo s fi la bb mb nn).2 := by rw [← E, f7, ← nos]; rfl
  unfold sgN8
  rw [u10, u11, u12, xm, xc, xq, x3, x4]
  refine sgNo_8 b2 mok.2.1 (fun i hi f0 => ?_) nn (Nat.le_refl _)
  have := (sgFt_i nn 0 f4 i (Nat.zero_le _) (by omega)).1
  by_cases z : s.1 3 = 192
  · have := (b7 z).1
    omega
  · rw [if_neg z] at this
    exact fun q => this ⟨f0, q⟩
theorem sgNs_n8 {D : Nat → Nat} {L : Nat} (hD : ∀ i, D i < 256) (hL : L ≤ 16384) : ∀ (r : Nat) (s s2 : sgS), sgOk s → sgO2 s → sgNs D L r s = .inr (true, s2) → sgN8 s.2.2.2.1 s.2.2.2.2.2.2 s2 := by
  intro r
  induction r with
  | zero => intro s o _ _ h; cases h
  | succ r ih =>
    intro s o ok o2 h
    rw [sgNs_e] at h
    obtain ⟨a, e1, e2⟩ := sgB_i h
    obtain ⟨a', e3, e4⟩ := sgB_i e1
    have e4' : sgCs a'.1 s ∧ a' = a := by
      split at e4
      · exact ⟨by assumption, Sum.inr.inj e4⟩
      · cases e4
    obtain ⟨hcs, rfl⟩ := e4'
    have mp := sgMk_p (u := a'.1) (q := a'.2) e3
    by_cases c17 : a'.1 = 217
    · rw [if_pos c17] at e2
      have := congrArg Prod.fst (Sum.inr.inj e2)
      cases this
    · rw [if_neg c17] at e2
      obtain ⟨s2, e5, e6⟩ := sgB_i e2
      by_cases c18 : a'.1 = 218
      · rw [if_pos c18] at e6
        have := congrArg Prod.snd (Sum.inr.inj e6)
        have : s2 = o := this
        subst this
        rw [c18] at e5 hcs
        have kn : s.1 3 ≠ 0 := by
          unfold sgCs at hcs
          rcases hcs with ⟨_, z⟩ | ⟨z0, z⟩
          · omega
          · rcases z with z | z | z | z | z
            · omega
            · exact z.2
            all_goals omega
        exact sgSg_n8 hL (s := (uG s.1 0 a'.2, s.2)) ok kn e5
      · rw [if_neg c18] at e6
        obtain ⟨k1, k2, k3, k4⟩ := sgSg_ok (fun i _ => hD i) hL ok o2 hcs mp.1 e5
        obtain ⟨l1, l2⟩ := sgSg_la c18 e5
        have i1 := ih s2 o k1 k2 e6
        have l1 : s2.2.2.2.1 = s.2.2.2.1 := l1
        have l2 : s2.2.2.2.2.2.2 = s.2.2.2.2.2.2 := l2
        rw [l1, l2] at i1
        exact i1
