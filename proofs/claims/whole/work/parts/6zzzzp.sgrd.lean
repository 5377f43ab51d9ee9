/-! the scans of a second pass, pure -/
def mIx (mb : sg4) (c : Nat) : Nat → Nat
  | 0 => 0
  | n + 1 => if (mb n).1 = c then n else mIx mb c n
theorem mIx_i {n nn i : Nat} {cs mb : sg4} (h : mmOk n cs mb nn) (hi : i < nn) : mIx mb (mb i).1 nn = i := by
  have key : ∀ m, m ≤ nn → i < m → mIx mb (mb i).1 m = i := by
    intro m
    induction m with
    | zero => intro _ h; omega
    | succ m ih =>
      intro hm him
      unfold mIx
      by_cases z : i = m
      · rw [if_pos (by rw [z]), z]
      · have := h.2.1 i m (by omega) (by omega)
        rw [if_neg (by omega)]
        exact ih (by omega) (by omega)
  exact key nn (Nat.le_refl _) hi
def wOf (o : Option ((Nat → Nat) × List Nat)) : zT := match o with
  | none => (fun _ => 0, [], 0)
  | some W => (W.1, W.2, W.2.length)
def sgTd (s : sgS) (c : Nat) : Nat := (s.2.2.2.2.2.1 (mIx s.2.2.2.2.2.1 c (s.1 10))).2.1
def sgTa (s : sgS) (c : Nat) : Nat := (s.2.2.2.2.2.1 (mIx s.2.2.2.2.2.1 c (s.1 10))).2.2.1
def sgR (D : Nat → Nat) (g : gG) (s : sgS) (Q : Nat → Int32) : Nat ⊕ zS := zSc (fun i => D (s.1 15 + i)) (s.1 16 - s.1 15) (fun c => wOf (s.2.2.1 (sgTd s c))) (fun c => wOf (s.2.2.1 (4 + sgTa s c))) (s.1 11) (s.1 12) (s.1 13) (s.1 14) g (fun i => (s.2.2.2.2.2.1 i).1) (s.1 10) (s.1 1) Q 0
def sgRd (D : Nat → Nat) (L : Nat) (g : gG) : Nat → sgS → (Nat → Int32) → (Nat × Nat) ⊕ (Nat → Int32)
  | 0, _, Q => .inr Q
  | r + 1, s, Q => match sgNs D L (L + 1) s with
    | .inr (true, s2) => if 9 < s2.1 14 then .inl (10, s.1 8) else (match sgR D g s2 Q with
      | .inl f => .inl (10 + f, s.1 8)
      | .inr a => sgRd D L g r s2 a.2.2.2)
    | _ => .inr Q
/-- what holds of a scan that was told -/
def sgA (D : Nat → Nat) (L : Nat) (lt : Nat → Nat) (s : sgS) : Prop := (1 ≤ s.1 10 ∧ s.1 10 ≤ 4) ∧ mmOk (s.1 6) s.2.2.2.2.1 s.2.2.2.2.2.1 (s.1 10) ∧ (s.1 11 ≤ s.1 12 ∧ s.1 12 ≤ 63 ∧ s.1 14 ≤ 13 ∧ (s.1 13 = 0 ∨ s.1 13 = s.1 14 + 1) ∧ (s.1 11 = 0 → 0 < s.1 12 → s.1 13 = 0) ∧ (0 < s.1 11 → s.1 10 = 1)) ∧ (∀ i, i < s.1 10 → (s.1 11 = 0 → s.1 13 = 0 → ∃ W, s.2.2.1 (s.2.2.2.2.2.1 i).2.1 = some W) ∧ (0 < s.1 12 → ∃ W, s.2.2.1 (4 + (s.2.2.2.2.2.1 i).2.2.1) = some W)) ∧ (s.1 15 ≤ s.1 16 ∧ s.1 16 + 1 < L ∧ s.1 0 = s.1 16 ∧ D (s.1 16) = 255 ∧ D (s.1 16 + 1) ≠ 0) ∧ dOk (fun i => D (s.1 15 + i)) (s.1 16 - s.1 15) ∧ (∀ i, i < s.1 10 → ∀ j, j < 64 → s.1 11 ≤ j → j ≤ s.1 12 → lt (64 * (s.2.2.2.2.2.1 i).1 + j) = (if s.1 13 = 0 then 0 else s.1 13 + 1)) ∧ s.1 3 ≠ 0 ∧ (s.1 3 = 192 → s.1 11 = 0 ∧ s.1 12 = 63 ∧ s.1 13 = 0 ∧ s.1 14 = 0) ∧ (s.1 3 = 194 → s.1 11 = 0 → s.1 12 = 0) ∧ (∀ k, k < s.1 6 → s.2.2.2.1 (64 * k) ≠ 0 → lt (64 * k) ≠ 0 ∨ ∃ i, i < s.1 10 ∧ (s.2.2.2.2.2.1 i).1 = k)
theorem bnd_a {D : Nat → Nat} {n m i : Nat} (hm : m ≤ n) (h : bnd D m i) (hi : i ≤ m) : bnd D n i := by
  intro Q h0 hs
  exact h Q h0 (fun j hj hjm => hs j hj (by omega))
/-- the data of a scan can be read byte for byte -/
theorem sgDt_ok {D : Nat → Nat} {L iv e : Nat} (hD : ∀ i, D i < 256) (hL : L ≤ 16384) : ∀ (r p t : Nat), sgDt D L iv r p t = .inr e → dOk (fun i => D (p + i)) (e - p) := by
  -- boundaries from a place on
  have key : ∀ (r p t q0 : Nat), q0 ≤ p → sgDt D L iv r p t = .inr e → (∀ i, bnd (fun i => D (q0 + i)) (e - q0) i → i < e - q0 → i < p - q0 → D (q0 + i) = 255 → i + 1 < e - q0 ∧ (D (q0 + (i + 1)) = 0 ∨ 208 ≤ D (q0 + (i + 1)) ∧ D (q0 + (i + 1)) ≤ 215)) → (∀ i, bnd (fun i => D (q0 + i)) (e - q0) i → i < p - q0 ∨ p - q0 ≤ i) → True := fun _ _ _ _ _ _ _ _ => trivial
  -- every boundary is met by the walk
  have walk : ∀ (r p t q0 : Nat), q0 ≤ p → sgDt D L iv r p t = .inr e → ∃ R : Nat → Prop, R (p - q0) ∧ (∀ i, R i → p - q0 ≤ i) ∧ (∀ i, R i → i < e - q0 → R (if D (q0 + i) = 255 then i + 2 else i + 1)) ∧ ∀ i, R i → i < e - q0 → D (q0 + i) = 255 → i + 1 < e - q0 ∧ (D (q0 + (i + 1)) = 0 ∨ 208 ≤ D (q0 + (i + 1)) ∧ D (q0 + (i + 1)) ≤ 215) := by
    intro r
    induction r with
    | zero => intro p t q0 _ h; cases h
    | succ r ih =>
      intro p t q0 hq h
      unfold sgDt at h
      split at h
      · cases h
      split at h
      · rename_i d1 d2
        have ge := (sgDt_p _ _ _ h).1
        obtain ⟨R, r1, r2, r3, r4⟩ := ih (p + 1) t q0 (by omega) h
        refine ⟨fun i => i = p - q0 ∨ R i, Or.inl rfl, fun i hi => hi.elim (fun z => by omega) (fun z => by have := r2 i z; omega), fun i hi hl => ?_, fun i hi hl h255 => ?_⟩
        · rcases hi with z | z
          · rw [z, show q0 + (p - q0) = p by omega, if_neg d2]
            exact Or.inr (by rw [show p - q0 + 1 = p + 1 - q0 by omega]; exact r1)
          · exact Or.inr (r3 i z hl)
        · rcases hi with z | z
          · rw [z, show q0 + (p - q0) = p by omega] at h255
            exact absurd h255 d2
          · exact r4 i z hl h255
      · rename_i d1 d2
        have d2 := Classical.not_not.mp d2
        have two : ∀ t', sgDt D L iv r (p + 2) t' = .inr e → (D (p + 1) = 0 ∨ 208 ≤ D (p + 1) ∧ D (p + 1) ≤ 215) → ∃ R : Nat → Prop, R (p - q0) ∧ (∀ i, R i → p - q0 ≤ i) ∧ (∀ i, R i → i < e - q0 → R (if D (q0 + i) = 255 then i + 2 else i + 1)) ∧ ∀ i, R i → i < e - q0 → D (q0 + i) = 255 → i + 1 < e - q0 ∧ (D (q0 + (i + 1)) = 0 ∨ 208 ≤ D (q0 + (i + 1)) ∧ D (q0 + (i + 1)) ≤ 215) := by
          intro t' h' hc
          have ge := (sgDt_p _ _ _ h').1
          obtain ⟨R, r1, r2, r3, r4⟩ := ih (p + 2) t' q0 (by omega) h'
          refine ⟨fun i => i = p - q0 ∨ R i, Or.inl rfl, fun i hi => hi.elim (fun z => by omega) (fun z => by have := r2 i z; omega), fun i hi hl => ?_, fun i hi hl h255 => ?_⟩
          · rcases hi with z | z
            · rw [z, show q0 + (p - q0) = p by omega, if_pos d2]
              exact Or.inr (by rw [show p - q0 + 2 = p + 2 - q0 by omega]; exact r1)
            · exact Or.inr (r3 i z hl)
          · rcases hi with z | z
            · rw [z, show q0 + (p - q0 + 1) = p + 1 by omega]
              exact ⟨by omega, hc⟩
            · exact r4 i z hl h255
        split at h
        · exact two t h (Or.inl (by assumption))
        · split at h
          · rename_i d3 d4
            exact two (t + 1) h (Or.inr (by omega))
          · have := Sum.inr.inj h
            subst this
            exact ⟨fun i => p - q0 ≤ i, Nat.le_refl _, fun i hi => hi, fun i hi hl => by omega, fun i hi hl => by omega⟩
  intro r p t h
  obtain ⟨R, r1, r2, r3, r4⟩ := walk r p t p (Nat.le_refl _) h
  have g := sgDt_p _ _ _ h
  refine ⟨by omega, fun i => hD _, fun i hb hi h255 => ?_⟩
  have hR : R i := hb R (by rw [Nat.sub_self] at r1; exact r1) (fun j hj hl => r3 j hj hl)
  exact r4 i hR hi h255
theorem mOk_of {g : gG} {n nn : Nat} {cs mb : sg4} (hn : g.2.2.1 = n) (hh : ∀ c, c < n → g.2.2.2.1 c = (cs c).2.1) (hv : ∀ c, c < n → g.2.2.2.2 c = (cs c).2.2.1) (n1 : 1 ≤ nn) (h : mmOk n cs mb nn) : mOk g (fun i => (mb i).1) nn := by
  have ge : ∀ i, i < nn → i ≤ (mb i).1 := by
    intro i
    induction i with
    | zero => exact fun _ => Nat.zero_le _
    | succ i ih =>
      intro hi
      have g1 := ih (by omega)
      have g2 := h.2.1 i (i + 1) (by omega) hi
      omega
  have last := ge (nn - 1) (by omega)
  have lt := (h.1 (nn - 1) (by omega)).1
  refine ⟨n1, by omega, fun i hi => by rw [hn]; exact (h.1 i hi).1, fun i j hij hj => h.2.1 i j hij hj, ?_⟩
  by_cases m1 : nn = 1
  · subst m1
    show 0 + uB g 1 (mb 0).1 ≤ 10
    unfold uB
    rw [if_pos rfl]
    decide
  · have : ∀ i, i ≤ nn → uO g (fun i => (mb i).1) nn i = sumN (fun k => (cs (mb k).1).2.1 * (cs (mb k).1).2.2.1) i := by
      intro i
      induction i with
      | zero => exact fun _ => rfl
      | succ i ih =>
        intro hi
        show uO g (fun i => (mb i).1) nn i + uB g nn (mb i).1 = _
        have hc := (h.1 i (by omega)).1
        rw [ih (by omega), sumN.eq_2]
        unfold uB
        rw [if_neg m1, hh _ hc, hv _ hc]
    rw [this nn (Nat.le_refl _)]
    exact h.2.2
theorem sgSg_la {D : Nat → Nat} {L code : Nat} {s s2 : sgS} (hc : code ≠ 218) (e : sgSg D L code s = .inr s2) : s2.2.2.2.1 = s.2.2.2.1 ∧ s2.2.2.2.2.2.2 = s.2.2.2.2.2.2 := by
  rw [sgSg_e] at e
  split at e
  · cases e
  split at e
  · cases e
  unfold sgBy at e
  by_cases c1 : code = 219
  · rw [if_pos c1] at e
    obtain ⟨a, e1, e2⟩ := sgB_i e
    rw [← Sum.inr.inj e2]
    exact ⟨rfl, rfl⟩
  rw [if_neg c1] at e
  by_cases c2 : code = 196
  · rw [if_pos c2] at e
    obtain ⟨a, e1, e2⟩ := sgB_i e
    rw [← Sum.inr.inj e2]
    exact ⟨rfl, rfl⟩
  rw [if_neg c2] at e
  by_cases c3 : code = 221
  · rw [if_pos c3] at e
    obtain ⟨a, e1, e2⟩ := sgB_i e
    obtain ⟨e3, e4⟩ := sgE_i e2
    rw [e4]
    exact ⟨rfl, rfl⟩
  rw [if_neg c3] at e
  by_cases c4 : code = 192 ∨ code = 194
  · rw [if_pos c4] at e
    obtain ⟨a, e1, e2⟩ := sgB_i e
    rw [← Sum.inr.inj e2]
    exact ⟨rfl, rfl⟩
  rw [if_neg c4, if_neg hc] at e
  by_cases c6 : code = 220
  · rw [if_pos c6] at e
    obtain ⟨a, e1, e2⟩ := sgB_i e
    obtain ⟨e3, e4⟩ := sgE_i e2
    rw [e4]
    exact ⟨rfl, rfl⟩
  rw [if_neg c6] at e
  split at e
  · cases e
  · rw [← Sum.inr.inj e]
    exact ⟨rfl, rfl⟩
theorem sgNo_o {s : sgS} {fi la bb : Nat} {mb : sg4} {k : Nat} (l6 : la ≤ 63) : ∀ n, (sgNo s fi la bb mb n).1 (64 * k) ≠ 0 → s.2.2.2.1 (64 * k) ≠ 0 ∨ ∃ i, i < n ∧ (mb i).1 = k
  | 0, h => Or.inl h
  | n + 1, h => by
    unfold sgNo at h
    dsimp only at h
    split at h
    · exact Or.inr ⟨n, by omega, by omega⟩
    · rcases sgNo_o l6 n h with z | ⟨i, z1, z2⟩
      · exact Or.inl z
      · exact Or.inr ⟨i, by omega, z2⟩
theorem sgSg_a {D : Nat → Nat} {L : Nat} {s s2 : sgS} (hD : ∀ i, D i < 256) (hL : L ≤ 16384) (ok : sgOk s) (hk : s.1 3 ≠ 0) (e : sgSg D L 218 s = .inr s2) : sgA D L s.2.2.2.1 s2 := by
  rw [sgSg_e] at e
  split at e
  · cases e
  split at e
  · cases e
  rename_i d1 d2
  generalize hc : ((D, L, s.1 0 + (256 * D (s.1 0) + D (s.1 0 + 1)), s.1 0) : sgC) = c at e
  generalize hs1 : ((uG s.1 2 (s.1 2 + 1), s.2) : sgS) = s1 at e
  have v1 : ∀ k, k ≠ 2 → s1.1 k = s.1 k := by
    intro k b
    rw [← hs1]
    exact uG_n _ _ b
  have w1 : s1.2 = s.2 := by rw [← hs1]
  have cD : c.1 = D ∧ c.2.1 = L := by rw [← hc]; exact ⟨rfl, rfl⟩
  unfold sgBy at e
  rw [if_neg (by decide), if_neg (by decide), if_neg (by decide), if_neg (by decide), if_pos rfl] at e
  obtain ⟨s3, e1, e2⟩ := sgB_i e
  obtain ⟨ed, e3, e4⟩ := sgB_i e2
  have E := Sum.inr.inj e4
  obtain ⟨nn, mb, fi, la, bf, bb, p1, p2, p3, f1, f2, f3, f4, f5, f6, f7⟩ := sgSc_i e1
  have t3 : s1.1 3 = s.1 3 := v1 3 (by decide)
  have t6 : s1.1 6 = s.1 6 := v1 6 (by decide)
  rw [w1, t6] at f2
  rw [t3] at f3 f4
  rw [w1] at f4 f5
  have k3 := ok.2.1
  have hkd : s.1 3 = 192 ∨ s.1 3 = 194 := by omega
  have g1 := sgI_p f1
  obtain ⟨mok, mp⟩ := sgMb_ok (by rw [cD.2]; exact hL) nn 0 0 0 p1 (fun _ => (0, 0, 0, 0)) ⟨fun k hk => absurd hk (Nat.not_lt_zero _), fun j k _ hk => absurd hk (Nat.not_lt_zero _), by show 0 ≤ 10; decide⟩ (fun k hk => absurd hk (Nat.not_lt_zero _)) rfl f2
  rw [Nat.zero_add] at mok
  obtain ⟨b1, b2, b3, b4, b5, b6, b7, b8, b9⟩ := sgBn_ok hkd f3
  rw [cD.1, cD.2] at e3
  have s30 : s3.1 0 = p3 := by rw [f7]; rfl
  rw [s30] at e3
  have g5 := sgDt_p _ _ _ e3
  have g6 := sgDt_ok hD hL _ _ _ e3
  have u0 : s2.1 0 = ed := by rw [← E]; rfl
  have u16 : s2.1 16 = ed := by rw [← E]; rfl
  have u15 : s2.1 15 = p3 := by rw [← E, f7]; rfl
  have u10 : s2.1 10 = nn := by rw [← E, f7]; rfl
  have u11 : s2.1 11 = fi := by rw [← E, f7]; rfl
  have u12 : s2.1 12 = la := by rw [← E, f7]; rfl
  have u13 : s2.1 13 = bf := by rw [← E, f7]; rfl
  have u14 : s2.1 14 = bb := by rw [← E, f7]; rfl
  have u6 : s2.1 6 = s.1 6 := by rw [← E, f7]; exact t6
  have u3 : s2.1 3 = s.1 3 := by rw [← E, f7]; exact t3
  have xm : s2.2.2.2.2.2.1 = mb := by rw [← E, f7]; rfl
  have xc : s2.2.2.2.2.1 = s.2.2.2.2.1 := by rw [← E, f7]; show s1.2.2.2.2.1 = _; rw [w1]
  have xT : s2.2.2.1 = s.2.2.1 := by rw [← E, f7]; show s1.2.2.1 = _; rw [w1]
  have nos : ∀ n, sgNo s1 fi la bb mb n = sgNo s fi la bb mb n := by
    intro n
    induction n with
    | zero => unfold sgNo; rw [w1]
    | succ n ih => unfold sgNo; rw [ih, w1]
  have x3 : s2.2.2.2.1 = (sgNo s fi la bb mb nn).1 := by rw [← E, f7, ← nos]; rfl
  unfold sgA
  rw [u0, u3, u6, u10, u11, u12, u13, u14, u15, u16, xm, xc, xT, x3]
  refine ⟨⟨g1.2.2.2.2.1, g1.2.2.2.2.2⟩, mok, ⟨b1, b2, b3, b4, b5, b6⟩, fun i hi => (sgTb_i nn 0 f5 i (Nat.zero_le _) (by omega)).2, ⟨g5.1, g5.2.1, rfl, g5.2.2⟩, g6, fun i hi j hj ja jb => (sgFt_i nn 0 f4 i (Nat.zero_le _) (by omega)).2 j hj ja jb, hk, b7, b8, fun k _ hne => sgNo_o b2 nn hne⟩
/-- of a scan that was reached -/
theorem sgNs_a {D : Nat → Nat} {L : Nat} (hD : ∀ i, D i < 256) (hL : L ≤ 16384) : ∀ (r : Nat) (s : sgS) (o : Bool × sgS), sgOk s → sgO2 s → sgNs D L r s = .inr o → (o.1 = true → sgA D L s.2.2.2.1 o.2) ∧ (o.1 = false → o.2.2.2.2.1 = s.2.2.2.1 ∧ o.2.2.2.2.2.2.2 = s.2.2.2.2.2.2) := by
  intro r
  induction r with
  | zero => intro s o _ _ h; cases h
  | succ r ih =>
    intro s o ok o2 h
    rw [sgNs_e] at h
    obtain ⟨a, e1, e2⟩ := sgB_i h
    obtain ⟨a', e3, e4⟩ := sgB_i e1
    have e4' : sgCs a'.1 s ∧ a' = a := by
      split at e4
      · exact ⟨by assumption, Sum.inr.inj e4⟩
      · cases e4
    obtain ⟨hcs, rfl⟩ := e4'
    have mp := sgMk_p (u := a'.1) (q := a'.2) e3
    by_cases c17 : a'.1 = 217
    · rw [if_pos c17] at e2
      have := Sum.inr.inj e2
      subst this
      exact ⟨fun z => (by cases z), fun _ => ⟨rfl, rfl⟩⟩
    · rw [if_neg c17] at e2
      obtain ⟨s2, e5, e6⟩ := sgB_i e2
      by_cases c18 : a'.1 = 218
      · rw [if_pos c18] at e6
        have := Sum.inr.inj e6
        subst this
        refine ⟨fun _ => ?_, fun z => (by cases z)⟩
        rw [c18] at e5 hcs
        have kn : s.1 3 ≠ 0 := by
          unfold sgCs at hcs
          rcases hcs with ⟨_, z⟩ | ⟨z0, z⟩
          · omega
          · rcases z with z | z | z | z | z
            · omega
            · exact z.2
            all_goals omega
        exact sgSg_a hD hL (s := (uG s.1 0 a'.2, s.2)) ok kn e5
      · rw [if_neg c18] at e6
        obtain ⟨k1, k2, k3, k4⟩ := sgSg_ok (fun i _ => hD i) hL ok o2 hcs mp.1 e5
        obtain ⟨l1, l2⟩ := sgSg_la c18 e5
        obtain ⟨i1, i2⟩ := ih s2 o k1 k2 e6
        have l1 : s2.2.2.2.1 = s.2.2.2.1 := l1
        have l2 : s2.2.2.2.2.2.2 = s.2.2.2.2.2.2 := l2
        rw [l1] at i1 i2
        rw [l2] at i2
        exact ⟨i1, i2⟩
