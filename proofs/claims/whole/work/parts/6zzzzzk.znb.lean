/-! a scan changes nothing outside its band -/
def zBn (T f l : Nat) (Q Q' : Nat → Int32) : Prop := ∀ i, ¬ (64 * T + f ≤ i ∧ i ≤ 64 * T + l) → Q' i = Q i
theorem zBn.rfl {T f l : Nat} {Q : Nat → Int32} : zBn T f l Q Q := fun _ _ => Eq.refl _
theorem zBn.trans {T f l : Nat} {Q Q1 Q2 : Nat → Int32} (h : zBn T f l Q Q1) (h2 : zBn T f l Q1 Q2) : zBn T f l Q Q2 := fun i hi => (h2 i hi).trans (h i hi)
theorem zBn.u {T f l k : Nat} {Q : Nat → Int32} {v : Int32} (h : f ≤ k) (h2 : k ≤ l) : zBn T f l Q (upd Q (64 * T + k) v) := fun i hi => pk_un (by omega)
section
variable {D : Nat → Nat} {n T first last bf b c fi : Nat} {W Wd Wa : zT} {a a' : zS}
theorem zOth_b : ∀ (j k : Nat) (a : zS), fi ≤ k → zOth D n W first last b (64 * T) j k a = .inr a' → zBn T fi last a.2.2.2 a'.2.2.2 := by
  intro j
  induction j with
  | zero =>
    intro k a _ h
    have := Sum.inr.inj h
    rw [this]
    exact zBn.rfl
  | succ j ih =>
    intro k a hk h
    unfold zOth at h
    by_cases q0 : last < k
    · rw [if_pos q0] at h
      have := Sum.inr.inj h
      rw [this]
      exact zBn.rfl
    · rw [if_neg q0] at h
      cases e : zSy D n W a.1 with
      | inl f => rw [e] at h; cases h
      | inr p =>
        rw [e] at h
        change (if p.1 % 16 = 0 ∧ p.1 / 16 < 15 then _ else _) = _ at h
        by_cases qe : p.1 % 16 = 0 ∧ p.1 / 16 < 15
        · rw [if_pos qe] at h
          have := zEnd_s h
          exact fun i _ => by rw [this.1]
        · rw [if_neg qe] at h
          by_cases q3 : 10 < p.1 % 16 ∨ last < k + p.1 / 16
          · rw [if_pos q3] at h
            cases h
          · rw [if_neg q3] at h
            by_cases z0 : p.1 % 16 = 0
            · rw [if_pos z0] at h
              exact ih _ (p.2, a.2) (by omega) h
            · rw [if_neg z0] at h
              cases e2 : tN D n (p.1 % 16) 0 p.2 with
              | none => rw [e2] at h; cases h
              | some r =>
                rw [e2] at h
                change (if -1023 ≤ nmb (p.1 % 16) r.1 * 2 ^ b ∧ nmb (p.1 % 16) r.1 * 2 ^ b ≤ 1023 then _ else _) = _ at h
                by_cases g : -1023 ≤ nmb (p.1 % 16) r.1 * 2 ^ b ∧ nmb (p.1 % 16) r.1 * 2 ^ b ≤ 1023
                · rw [if_pos g] at h
                  have := ih _ _ (by omega) h
                  exact (zBn.u (by omega) (by omega)).trans this
                · rw [if_neg g] at h
                  cases h
theorem zOt_b (h : zOt D n W first last b (64 * T) a = .inr a') : zBn T first last a.2.2.2 a'.2.2.2 := by
  unfold zOt at h
  by_cases q0 : 0 < a.2.1
  · rw [if_pos q0] at h
    have := Sum.inr.inj h
    rw [← this]
    exact zBn.rfl
  · rw [if_neg q0] at h
    exact zOth_b _ _ _ (by omega) h
theorem zUp_b {s' : bSt} {Q' : Nat → Int32} {k' : Nat} : ∀ (j k z : Nat) (s : bSt) (Q : Nat → Int32), k + j = last + 1 → fi ≤ k → zUp D n b (64 * T) j k z s Q = .inr (k', s', Q') → zBn T fi last Q Q' ∧ k ≤ k' := by
  intro j
  induction j with
  | zero =>
    intro k z s Q hk _ e
    have := Sum.inr.inj e
    have e2 : Q = Q' := congrArg (fun p : zQ => p.2.2) this
    have e1 : k = k' := congrArg (fun p : zQ => p.1) this
    rw [e2]
    exact ⟨zBn.rfl, by omega⟩
  | succ j ih =>
    intro k z s Q hk hf e
    unfold zUp at e
    by_cases q : Q (64 * T + k) = 0
    · rw [if_pos q] at e
      by_cases z0 : z = 0
      · rw [if_pos z0] at e
        have := Sum.inr.inj e
        have e2 : Q = Q' := congrArg (fun p : zQ => p.2.2) this
        have e1 : k = k' := congrArg (fun p : zQ => p.1) this
        rw [e2]
        exact ⟨zBn.rfl, by omega⟩
      · rw [if_neg z0] at e
        have := ih _ _ _ _ (by omega) (by omega) e
        exact ⟨this.1, by omega⟩
    · rw [if_neg q] at e
      cases ht : tB D n s with
      | none =>
        rw [ht] at e
        cases e
      | some p =>
        rw [ht] at e
        have := ih (k + 1) z p.2 _ (by omega) (by omega) e
        refine ⟨zBn.trans ?_ this.1, by omega⟩
        by_cases u : p.1 = 1
        · rw [if_pos u]
          exact zBn.u (by omega) (by omega)
        · rw [if_neg u]
          exact zBn.rfl
theorem zTl_b {k : Nat} (k2 : k ≤ last + 1) (hf : fi ≤ k) (h : zTl D n last b (64 * T) k a = .inr a') : zBn T fi last a.2.2.2 a'.2.2.2 := by
  unfold zTl at h
  cases e : zUp D n b (64 * T) (last + 1 - k) k 64 a.1 a.2.2.2 with
  | inl f => rw [e] at h; cases h
  | inr p =>
    rw [e] at h
    have := Sum.inr.inj h
    rw [← this]
    exact (zUp_b (k' := p.1) (s' := p.2.1) _ _ _ _ _ (by omega) hf e).1
theorem zMo_b : ∀ (j k : Nat) (a : zS), fi ≤ k → zMo D n W last b (64 * T) j k a = .inr a' → zBn T fi last a.2.2.2 a'.2.2.2 := by
  intro j
  induction j with
  | zero =>
    intro k a _ h
    have := Sum.inr.inj h
    rw [this]
    exact zBn.rfl
  | succ j ih =>
    intro k a hk h
    unfold zMo at h
    by_cases q0 : last < k
    · rw [if_pos q0] at h
      have := Sum.inr.inj h
      rw [this]
      exact zBn.rfl
    · rw [if_neg q0] at h
      cases e : zSy D n W a.1 with
      | inl f => rw [e] at h; cases h
      | inr p =>
        rw [e] at h
        change (if 1 < p.1 % 16 then _ else _) = _ at h
        by_cases q1 : 1 < p.1 % 16
        · rw [if_pos q1] at h
          cases h
        · rw [if_neg q1] at h
          by_cases qe : p.1 % 16 = 0 ∧ p.1 / 16 < 15
          · rw [if_pos qe] at h
            cases e2 : tN D n (p.1 / 16) 0 p.2 with
            | none => rw [e2] at h; cases h
            | some r =>
              rw [e2] at h
              exact zTl_b (a := (r.2, 2 ^ (p.1 / 16) + r.1, a.2.2)) (by omega) hk h
          · rw [if_neg qe] at h
            have go : ∀ (v : Int32) (s2 : bSt), (zUb (zUp D n b (64 * T) (last + 1 - k) k (p.1 / 16) s2 a.2.2.2) fun k' s3 Q => if last < k' then .inl 3 else zMo D n W last b (64 * T) j (k' + 1) (s3, a.2.1, a.2.2.1, upd Q (64 * T + k') v)) = .inr a' → zBn T fi last a.2.2.2 a'.2.2.2 := by
              intro v s2 hh
              cases e3 : zUp D n b (64 * T) (last + 1 - k) k (p.1 / 16) s2 a.2.2.2 with
              | inl f => rw [e3] at hh; cases hh
              | inr r =>
                rw [e3] at hh
                change (if last < r.1 then _ else _) = _ at hh
                by_cases q5 : last < r.1
                · rw [if_pos q5] at hh
                  cases hh
                · rw [if_neg q5] at hh
                  have u := zUp_b (last := last) (fi := fi) (k' := r.1) (s' := r.2.1) (Q' := r.2.2) _ _ _ _ _ (by omega) hk e3
                  exact u.1.trans ((zBn.u (by omega) (by omega)).trans (ih _ _ (by omega) hh))
            unfold zSg at h
            by_cases z0 : p.1 % 16 = 0
            · rw [if_pos z0] at h
              exact go _ _ h
            · rw [if_neg z0] at h
              cases e4 : tB D n p.2 with
              | none => rw [e4] at h; cases h
              | some r =>
                rw [e4] at h
                exact go _ _ h
theorem zMr_b (fl : first ≤ last) (h : zMr D n W first last b (64 * T) a = .inr a') : zBn T first last a.2.2.2 a'.2.2.2 := by
  unfold zMr at h
  by_cases q0 : 0 < a.2.1
  · rw [if_pos q0] at h
    exact zTl_b (by omega) (Nat.le_refl _) h
  · rw [if_neg q0] at h
    exact zMo_b _ _ _ (Nat.le_refl _) h
theorem zBlk_b (fl : first ≤ last) (h : zBlk D n Wd Wa first last bf b c T a = .inr a') : zBn T first last a.2.2.2 a'.2.2.2 := by
  have tail : ∀ a1 : zS, (if last = 0 then .inr a1 else if bf = 0 then zOt D n Wa first last b (64 * T) a1 else zMr D n Wa first last b (64 * T) a1) = .inr a' → zBn T first last a1.2.2.2 a'.2.2.2 := by
    intro a1 h
    by_cases l0 : last = 0
    · rw [if_pos l0] at h
      have := Sum.inr.inj h
      rw [this]
      exact zBn.rfl
    · rw [if_neg l0] at h
      by_cases b0 : bf = 0
      · rw [if_pos b0] at h
        exact zOt_b h
      · rw [if_neg b0] at h
        exact zMr_b fl h
  unfold zBlk at h
  by_cases f0 : first = 0
  · rw [if_pos f0] at h
    cases e : zDir D n Wd bf b c (64 * T) a with
    | inl f => rw [e] at h; cases h
    | inr a1 =>
      rw [e] at h
      have h1 := (zDir_s e).1
      refine zBn.trans (fun i hi => ?_) (tail a1 h)
      by_cases z : 64 * T ≤ i ∧ i < 64 * T + 64
      · obtain ⟨d, rfl⟩ := Nat.exists_eq_add_of_le z.1
        exact zDir_o e (by omega)
      · exact h1 i z
  · rw [if_neg f0] at h
    exact tail a h
end
/-- coefficients that no block of the scan holds in its band -/
def zFar (g : gG) (cm : Nat → Nat) (mm first last i : Nat) : Prop := ∀ u k j, u < uU g cm mm → k < mm → j < uB g mm (cm k) → ¬ (64 * uT g mm u (cm k) j + first ≤ i ∧ i ≤ 64 * uT g mm u (cm k) j + last)
section
variable {D : Nat → Nat} {n first last bf b mm iv x : Nat} {Wd Wa : Nat → zT} {g : gG} {cm : Nat → Nat} {Q : Nat → Int32} {a' : zS}
theorem zBd_i {o : Nat ⊕ zS} {k : zS → Nat ⊕ zS} (h : zBd o k = .inr a') : ∃ a1, o = .inr a1 ∧ k a1 = .inr a' := by
  cases o with
  | inl f => cases h
  | inr a1 => exact ⟨a1, rfl, h⟩
theorem zJs_b (fl : first ≤ last) {u k : Nat} (hu : u < uU g cm mm) (hk : k < mm) (hx : zFar g cm mm first last x) : ∀ (r j : Nat) (a : zS), j + r ≤ uB g mm (cm k) → zJs (zBk D n Wd Wa first last bf b g mm u) (cm k) r j a = .inr a' → a'.2.2.2 x = a.2.2.2 x := by
  intro r
  induction r with
  | zero =>
    intro j a _ h
    rw [Sum.inr.inj h]
  | succ r ih =>
    intro j a hj h
    unfold zJs at h
    obtain ⟨a1, h1, h2⟩ := zBd_i h
    rw [ih _ _ (by omega) h2]
    exact zBlk_b fl h1 x (hx u k j hu hk (by omega))
theorem zIs_b (fl : first ≤ last) {u : Nat} (hu : u < uU g cm mm) (hx : zFar g cm mm first last x) : ∀ (r k : Nat) (a : zS), k + r ≤ mm → zIs (zBk D n Wd Wa first last bf b g mm u) cm (uB g mm) r k a = .inr a' → a'.2.2.2 x = a.2.2.2 x := by
  intro r
  induction r with
  | zero =>
    intro k a _ h
    rw [Sum.inr.inj h]
  | succ r ih =>
    intro k a hk h
    unfold zIs at h
    obtain ⟨a1, h1, h2⟩ := zBd_i h
    rw [ih _ _ (by omega) h2]
    exact zJs_b fl hu (by omega) hx _ _ _ (by omega) h1
theorem zUn_b (fl : first ≤ last) (hx : zFar g cm mm first last x) : ∀ (r u : Nat) (a : zS), u + r ≤ uU g cm mm → zUn (zBk D n Wd Wa first last bf b g mm) (zRs D n iv) cm (uB g mm) mm r u a = .inr a' → a'.2.2.2 x = a.2.2.2 x := by
  intro r
  induction r with
  | zero =>
    intro u a _ h
    rw [Sum.inr.inj h]
  | succ r ih =>
    intro u a hu h
    unfold zUn at h
    obtain ⟨a1, h1, h2⟩ := zBd_i h
    obtain ⟨a2, h3, h4⟩ := zBd_i h2
    rw [ih _ _ (by omega) h4, zIs_b fl (by omega) hx _ _ _ (by omega) h3]
    unfold zRs at h1
    split at h1
    · split at h1
      · rw [← Sum.inr.inj h1]
      · cases h1
    · rw [Sum.inr.inj h1]
theorem zSc_b {h0 : Nat} (fl : first ≤ last) (hx : zFar g cm mm first last x) (h : zSc D n Wd Wa first last bf b g cm mm iv Q h0 = .inr a') : a'.2.2.2 x = Q x := by
  unfold zSc at h
  obtain ⟨a1, h1, h2⟩ := zBd_i h
  have e : a1 = a' := by
    unfold zFn at h2
    split at h2
    · exact Sum.inr.inj h2
    · cases h2
  rw [← e, zUn_b fl hx _ _ _ (by omega) h1]
end
