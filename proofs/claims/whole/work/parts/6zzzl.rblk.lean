/-! one block read -/
def zBd (o : Nat ⊕ zS) (k : zS → Nat ⊕ zS) : Nat ⊕ zS := match o with
  | .inl f => .inl f
  | .inr a => k a
def zBlk (D : Nat → Nat) (n : Nat) (Wd Wa : zT) (first last bf b c T : Nat) (a : zS) : Nat ⊕ zS := zBd (if first = 0 then zDir D n Wd bf b c (64 * T) a else .inr a) fun a1 => if last = 0 then .inr a1 else if bf = 0 then zOt D n Wa first last b (64 * T) a1 else zMr D n Wa first last b (64 * T) a1
/-- no other block is touched -/
def zSm (T : Nat) (Q Q' : Nat → Int32) : Prop := ∀ i, ¬ (64 * T ≤ i ∧ i < 64 * T + 64) → Q' i = Q i
theorem zSm.rfl {T : Nat} {Q : Nat → Int32} : zSm T Q Q := fun _ _ => Eq.refl _
theorem zSm.trans {T : Nat} {Q Q1 Q2 : Nat → Int32} (h : zSm T Q Q1) (h2 : zSm T Q1 Q2) : zSm T Q Q2 := fun i hi => (h2 i hi).trans (h i hi)
theorem zSm.u {T k : Nat} {Q : Nat → Int32} {v : Int32} (h : k < 64) : zSm T Q (upd Q (64 * T + k) v) := fun i hi => pk_un (by omega)
section
variable {D : Nat → Nat} {n T first last bf b c : Nat} {W Wd Wa : zT} {a a' : zS}
theorem zDir_s (h : zDir D n W bf b c (64 * T) a = .inr a') : zSm T a.2.2.2 a'.2.2.2 ∧ a'.2.1 = a.2.1 := by
  unfold zDir at h
  by_cases q0 : 0 < bf
  · rw [if_pos q0] at h
    cases e : tB D n a.1 with
    | none => rw [e] at h; cases h
    | some p =>
      rw [e] at h
      have := Sum.inr.inj h
      rw [← this]
      refine ⟨?_, rfl⟩
      show zSm T a.2.2.2 (if p.1 = 1 then upd a.2.2.2 (64 * T) (orB b (a.2.2.2 (64 * T))) else a.2.2.2)
      by_cases u : p.1 = 1
      · rw [if_pos u]
        exact zSm.u (k := 0) (by decide)
      · rw [if_neg u]
        exact zSm.rfl
  · rw [if_neg q0] at h
    cases e : zSy D n W a.1 with
    | inl f => rw [e] at h; cases h
    | inr p =>
      rw [e] at h
      change (if 11 < p.1 then _ else _) = _ at h
      by_cases u : 11 < p.1
      · rw [if_pos u] at h
        cases h
      · rw [if_neg u] at h
        cases e2 : tN D n p.1 0 p.2 with
        | none => rw [e2] at h; cases h
        | some r =>
          rw [e2] at h
          change (if -1024 ≤ (a.2.2.1 c + nmb p.1 r.1) * 2 ^ b ∧ (a.2.2.1 c + nmb p.1 r.1) * 2 ^ b ≤ 1023 then _ else _) = _ at h
          by_cases g : -1024 ≤ (a.2.2.1 c + nmb p.1 r.1) * 2 ^ b ∧ (a.2.2.1 c + nmb p.1 r.1) * 2 ^ b ≤ 1023
          · rw [if_pos g] at h
            have := Sum.inr.inj h
            rw [← this]
            exact ⟨zSm.u (k := 0) (by decide), rfl⟩
          · rw [if_neg g] at h
            cases h
theorem zDir_o {i : Nat} (h : zDir D n W bf b c (64 * T) a = .inr a') (hi : i ≠ 0) : a'.2.2.2 (64 * T + i) = a.2.2.2 (64 * T + i) := by
  unfold zDir at h
  by_cases q0 : 0 < bf
  · rw [if_pos q0] at h
    cases e : tB D n a.1 with
    | none => rw [e] at h; cases h
    | some p =>
      rw [e] at h
      have := Sum.inr.inj h
      rw [← this]
      show (if p.1 = 1 then upd a.2.2.2 (64 * T) (orB b (a.2.2.2 (64 * T))) else a.2.2.2) _ = _
      by_cases u : p.1 = 1
      · rw [if_pos u]
        exact pk_un (by omega)
      · rw [if_neg u]
  · rw [if_neg q0] at h
    cases e : zSy D n W a.1 with
    | inl f => rw [e] at h; cases h
    | inr p =>
      rw [e] at h
      change (if 11 < p.1 then _ else _) = _ at h
      by_cases u : 11 < p.1
      · rw [if_pos u] at h
        cases h
      · rw [if_neg u] at h
        cases e2 : tN D n p.1 0 p.2 with
        | none => rw [e2] at h; cases h
        | some r =>
          rw [e2] at h
          change (if -1024 ≤ (a.2.2.1 c + nmb p.1 r.1) * 2 ^ b ∧ (a.2.2.1 c + nmb p.1 r.1) * 2 ^ b ≤ 1023 then _ else _) = _ at h
          by_cases g : -1024 ≤ (a.2.2.1 c + nmb p.1 r.1) * 2 ^ b ∧ (a.2.2.1 c + nmb p.1 r.1) * 2 ^ b ≤ 1023
          · rw [if_pos g] at h
            have := Sum.inr.inj h
            rw [← this]
            exact pk_un (by omega)
          · rw [if_neg g] at h
            cases h
theorem zEnd_s {r : Nat} (h : zEnd D n first r a = .inr a') : a'.2.2.2 = a.2.2.2 ∧ (first = 0 → a'.2.1 = a.2.1) := by
  unfold zEnd at h
  by_cases f : first = 0
  · rw [if_pos f] at h
    by_cases r0 : r = 0
    · rw [if_pos r0] at h
      have := Sum.inr.inj h
      rw [this]
      exact ⟨rfl, fun _ => rfl⟩
    · rw [if_neg r0] at h
      cases h
  · rw [if_neg f] at h
    cases e : tN D n r 0 a.1 with
    | none => rw [e] at h; cases h
    | some p =>
      rw [e] at h
      have := Sum.inr.inj h
      rw [← this]
      exact ⟨rfl, fun e => absurd e f⟩
theorem zOth_s (l6 : last ≤ 63) : ∀ (j k : Nat) (a : zS), zOth D n W first last b (64 * T) j k a = .inr a' → zSm T a.2.2.2 a'.2.2.2 ∧ (first = 0 → a'.2.1 = a.2.1) := by
  intro j
  induction j with
  | zero =>
    intro k a h
    have := Sum.inr.inj h
    rw [this]
    exact ⟨zSm.rfl, fun _ => rfl⟩
  | succ j ih =>
    intro k a h
    unfold zOth at h
    by_cases q0 : last < k
    · rw [if_pos q0] at h
      have := Sum.inr.inj h
      rw [this]
      exact ⟨zSm.rfl, fun _ => rfl⟩
    · rw [if_neg q0] at h
      cases e : zSy D n W a.1 with
      | inl f => rw [e] at h; cases h
      | inr p =>
        rw [e] at h
        change (if p.1 % 16 = 0 ∧ p.1 / 16 < 15 then _ else _) = _ at h
        by_cases qe : p.1 % 16 = 0 ∧ p.1 / 16 < 15
        · rw [if_pos qe] at h
          have := zEnd_s h
          exact ⟨fun i _ => by rw [this.1], this.2⟩
        · rw [if_neg qe] at h
          by_cases q3 : 10 < p.1 % 16 ∨ last < k + p.1 / 16
          · rw [if_pos q3] at h
            cases h
          · rw [if_neg q3] at h
            by_cases z0 : p.1 % 16 = 0
            · rw [if_pos z0] at h
              exact ih _ (p.2, a.2) h
            · rw [if_neg z0] at h
              cases e2 : tN D n (p.1 % 16) 0 p.2 with
              | none => rw [e2] at h; cases h
              | some r =>
                rw [e2] at h
                change (if -1023 ≤ nmb (p.1 % 16) r.1 * 2 ^ b ∧ nmb (p.1 % 16) r.1 * 2 ^ b ≤ 1023 then _ else _) = _ at h
                by_cases g : -1023 ≤ nmb (p.1 % 16) r.1 * 2 ^ b ∧ nmb (p.1 % 16) r.1 * 2 ^ b ≤ 1023
                · rw [if_pos g] at h
                  have := ih _ _ h
                  exact ⟨(zSm.u (by omega)).trans this.1, this.2⟩
                · rw [if_neg g] at h
                  cases h
theorem zOt_s (l6 : last ≤ 63) (h : zOt D n W first last b (64 * T) a = .inr a') : zSm T a.2.2.2 a'.2.2.2 ∧ (first = 0 → a.2.1 = 0 → a'.2.1 = 0) := by
  unfold zOt at h
  by_cases q0 : 0 < a.2.1
  · rw [if_pos q0] at h
    have := Sum.inr.inj h
    rw [← this]
    exact ⟨zSm.rfl, fun _ e => by omega⟩
  · rw [if_neg q0] at h
    have := zOth_s l6 _ _ _ h
    exact ⟨this.1, fun f e => (this.2 f).trans e⟩
theorem zUp_s {z : Nat} {s' : bSt} {Q' : Nat → Int32} {k' : Nat} (l6 : last ≤ 63) : ∀ (j k z : Nat) (s : bSt) (Q : Nat → Int32), k + j = last + 1 → zUp D n b (64 * T) j k z s Q = .inr (k', s', Q') → zSm T Q Q' := by
  intro j
  induction j with
  | zero =>
    intro k z s Q hk e
    have := Sum.inr.inj e
    have e2 : Q = Q' := congrArg (fun p : zQ => p.2.2) this
    rw [e2]
    exact zSm.rfl
  | succ j ih =>
    intro k z s Q hk e
    unfold zUp at e
    by_cases q : Q (64 * T + k) = 0
    · rw [if_pos q] at e
      by_cases z0 : z = 0
      · rw [if_pos z0] at e
        have := Sum.inr.inj e
        have e2 : Q = Q' := congrArg (fun p : zQ => p.2.2) this
        rw [e2]
        exact zSm.rfl
      · rw [if_neg z0] at e
        exact ih _ _ _ _ (by omega) e
    · rw [if_neg q] at e
      cases ht : tB D n s with
      | none =>
        rw [ht] at e
        cases e
      | some p =>
        rw [ht] at e
        have := ih (k + 1) z p.2 _ (by omega) e
        refine zSm.trans ?_ this
        by_cases u : p.1 = 1
        · rw [if_pos u]
          exact zSm.u (by omega)
        · rw [if_neg u]
          exact zSm.rfl
theorem zTl_s {k : Nat} (l6 : last ≤ 63) (k2 : k ≤ last + 1) (h : zTl D n last b (64 * T) k a = .inr a') : zSm T a.2.2.2 a'.2.2.2 := by
  unfold zTl at h
  cases e : zUp D n b (64 * T) (last + 1 - k) k 64 a.1 a.2.2.2 with
  | inl f => rw [e] at h; cases h
  | inr p =>
    rw [e] at h
    have := Sum.inr.inj h
    rw [← this]
    exact zUp_s (z := 0) (k' := p.1) (s' := p.2.1) l6 _ _ _ _ _ (by omega) e
theorem zMo_s (l6 : last ≤ 63) : ∀ (j k : Nat) (a : zS), zMo D n W last b (64 * T) j k a = .inr a' → zSm T a.2.2.2 a'.2.2.2 := by
  intro j
  induction j with
  | zero =>
    intro k a h
    have := Sum.inr.inj h
    rw [this]
    exact zSm.rfl
  | succ j ih =>
    intro k a h
    unfold zMo at h
    by_cases q0 : last < k
    · rw [if_pos q0] at h
      have := Sum.inr.inj h
      rw [this]
      exact zSm.rfl
    · rw [if_neg q0] at h
      cases e : zSy D n W a.1 with
      | inl f => rw [e] at h; cases h
      | inr p =>
        rw [e] at h
        change (if 1 < p.1 % 16 then _ else _) = _ at h
        by_cases q1 : 1 < p.1 % 16
        · rw [if_pos q1] at h
          cases h
        · rw [if_neg q1] at h
          by_cases qe : p.1 % 16 = 0 ∧ p.1 / 16 < 15
          · rw [if_pos qe] at h
            cases e2 : tN D n (p.1 / 16) 0 p.2 with
            | none => rw [e2] at h; cases h
            | some r =>
              rw [e2] at h
              exact zTl_s (a := (r.2, 2 ^ (p.1 / 16) + r.1, a.2.2)) l6 (by omega) h
          · rw [if_neg qe] at h
            have go : ∀ (v : Int32) (s2 : bSt), (zUb (zUp D n b (64 * T) (last + 1 - k) k (p.1 / 16) s2 a.2.2.2) fun k' s3 Q => if last < k' then .inl 3 else zMo D n W last b (64 * T) j (k' + 1) (s3, a.2.1, a.2.2.1, upd Q (64 * T + k') v)) = .inr a' → zSm T a.2.2.2 a'.2.2.2 := by
              intro v s2 hh
              cases e3 : zUp D n b (64 * T) (last + 1 - k) k (p.1 / 16) s2 a.2.2.2 with
              | inl f => rw [e3] at hh; cases hh
              | inr r =>
                rw [e3] at hh
                change (if last < r.1 then _ else _) = _ at hh
                by_cases q5 : last < r.1
                · rw [if_pos q5] at hh
                  cases hh
                · rw [if_neg q5] at hh
                  exact (zUp_s (z := 0) (k' := r.1) (s' := r.2.1) (Q' := r.2.2) l6 _ _ _ _ _ (by omega) e3).trans ((zSm.u (by omega)).trans (ih _ _ hh))
            unfold zSg at h
            by_cases z0 : p.1 % 16 = 0
            · rw [if_pos z0] at h
              exact go _ _ h
            · rw [if_neg z0] at h
              cases e4 : tB D n p.2 with
              | none => rw [e4] at h; cases h
              | some r =>
                rw [e4] at h
                exact go _ _ h
theorem zMr_s (l6 : last ≤ 63) (fl : first ≤ last) (h : zMr D n W first last b (64 * T) a = .inr a') : zSm T a.2.2.2 a'.2.2.2 := by
  unfold zMr at h
  by_cases q0 : 0 < a.2.1
  · rw [if_pos q0] at h
    exact zTl_s l6 (by omega) h
  · rw [if_neg q0] at h
    exact zMo_s l6 _ _ _ h
theorem zBlk_s (l6 : last ≤ 63) (fl : first ≤ last) (hff : first = 0 → 0 < last → bf = 0) (h : zBlk D n Wd Wa first last bf b c T a = .inr a') : zSm T a.2.2.2 a'.2.2.2 ∧ (first = 0 → a.2.1 = 0 → a'.2.1 = 0) := by
  have tail : ∀ a1 : zS, (if last = 0 then .inr a1 else if bf = 0 then zOt D n Wa first last b (64 * T) a1 else zMr D n Wa first last b (64 * T) a1) = .inr a' → zSm T a1.2.2.2 a'.2.2.2 ∧ (first = 0 → a1.2.1 = 0 → a'.2.1 = 0) := by
    intro a1 h
    by_cases l0 : last = 0
    · rw [if_pos l0] at h
      have := Sum.inr.inj h
      rw [this]
      exact ⟨zSm.rfl, fun _ e => e⟩
    · rw [if_neg l0] at h
      by_cases b0 : bf = 0
      · rw [if_pos b0] at h
        exact zOt_s l6 h
      · rw [if_neg b0] at h
        exact ⟨zMr_s l6 fl h, fun f _ => absurd (hff f (by omega)) b0⟩
  unfold zBlk at h
  by_cases f0 : first = 0
  · rw [if_pos f0] at h
    cases e : zDir D n Wd bf b c (64 * T) a with
    | inl f => rw [e] at h; cases h
    | inr a1 =>
      rw [e] at h
      have h1 := zDir_s e
      have h2 := tail a1 h
      exact ⟨h1.1.trans h2.1, fun f e => h2.2 f (h1.2.trans e)⟩
  · rw [if_neg f0] at h
    exact tail a h
end
