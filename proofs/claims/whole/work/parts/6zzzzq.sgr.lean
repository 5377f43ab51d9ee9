/-! the second pass over a file, by the class -/
def gOf (s : sgS) (H : Nat) : gG := (s.1 4, H, s.1 6, fun c => (s.2.2.2.2.1 c).2.1, fun c => (s.2.2.2.2.1 c).2.2.1)
def xGeo (x : rg_S) (P : Nat) (g : gG) : Prop := x.1 P 3 = nI (gH g) ∧ x.1 P 4 = nI (gV_ g) ∧ x.1 P 5 = nI (gBs g g.2.2.1) ∧ ∀ c, c < g.2.2.1 → x.2.2.1 (P + 3) c = nI (gAc g c) ∧ x.2.2.1 (P + 4) c = nI (gDn g c) ∧ x.2.2.1 (P + 5) c = nI (gBs g c)
def FXop (P : Nat) (x x' : rg_S) : Prop := (∀ p k, ¬ (40 ≤ p ∧ p ≤ 104) → p ≠ P → x'.1 p k = x.1 p k) ∧ (∀ p k, ¬ (40 ≤ p ∧ p ≤ 104) → x'.2.1 p k = x.2.1 p k) ∧ (∀ a, ¬ (40 ≤ a ∧ a ≤ 104) → ¬ (P < a ∧ a ≤ P + 7) → x'.2.2.1 a = x.2.2.1 a) ∧ x'.2.2.2 = x.2.2.2
theorem FXop.rfl {P : Nat} {x : rg_S} : FXop P x x := ⟨fun _ _ _ _ => Eq.refl _, fun _ _ _ => Eq.refl _, fun _ _ _ => Eq.refl _, Eq.refl _⟩
theorem FXop.trans {P : Nat} {x x1 x2 : rg_S} (h : FXop P x x1) (h2 : FXop P x1 x2) : FXop P x x2 := ⟨fun p k a b => (h2.1 p k a b).trans (h.1 p k a b), fun p k a => (h2.2.1 p k a).trans (h.2.1 p k a), fun a e d => (h2.2.2.1 a e d).trans (h.2.2.1 a e d), h2.2.2.2.trans h.2.2.2⟩
theorem FXsg.op {P : Nat} {x x' : rg_S} (h : FXsg P x x') : FXop P x x' := ⟨fun p k a b => h.1 p k (by omega) (by omega), fun p k _ => by rw [h.2.1], fun a e d => h.2.2.1 a (by omega) (by omega) (by omega) (by omega), h.2.2.2⟩
theorem FXrd.op {P : Nat} {x x' : rg_S} (h : FXrd P x x') : FXop P x x' := ⟨fun p k a b => h.1 p k (by omega) (by omega), fun p k a => h.2.1 p k (by omega), fun a e d => h.2.2.1 a (by omega) (by omega) (by omega), h.2.2.2⟩
section
variable {X : px_X} {b B : Nat} {w0 w1 : px_W} {x x' : rg_S} {p P L ln : Nat} {s sf : sgS} {D : Nat → Nat} {g : gG}
theorem fsX.rd (h : fsX x P s) (F : FXrd P x x') : fsX x' P s := by
  obtain ⟨⟨h1, h2, h3, h4, h5, h6, h7, h8, h9, h10, h11⟩, h12, h13, h14⟩ := h
  have hP' := h1
  unfold isP at hP'
  refine ⟨⟨h1, by rw [F.2.1 _ _ (by omega)]; exact h2, by rw [F.1 _ _ (by omega) (by omega)]; exact h3, by rw [F.1 _ _ (by omega) (by omega)]; exact h4, by rw [F.1 _ _ (by omega) (by omega)]; exact h5, by rw [F.1 _ _ (by omega) (by omega)]; exact h6, by rw [F.1 _ _ (by omega) (by omega)]; exact h7, fun e => by rw [F.1 _ _ (by omega) (by omega)]; exact h8 e, ?_, ?_, ?_⟩, by rw [F.1 _ _ (by omega) (by omega)]; exact h12, ?_, ?_⟩
  · unfold qX
    rw [F.2.2.1 52 (by omega) (by omega) (by omega)]
    exact h9
  · intro t ht
    rcases h10 t ht with ⟨g1, g2⟩ | ⟨W, g1, g2, g3, g4⟩
    · exact Or.inl ⟨g1, by rw [F.1 _ _ (by omega) (by omega)]; exact g2⟩
    · refine Or.inr ⟨W, g1, g2, g3, ?_⟩
      unfold wX
      rw [F.1 _ _ (by omega) (by omega), F.1 _ _ (by omega) (by omega), F.2.2.1 (55 + 5 * t + 1) (by omega) (by omega) (by omega), F.2.2.1 (55 + 5 * t + 2) (by omega) (by omega) (by omega), F.2.2.1 (55 + 5 * t + 3) (by omega) (by omega) (by omega), F.2.2.1 (55 + 5 * t + 4) (by omega) (by omega) (by omega)]
      exact g4
  · unfold csX
    rw [F.2.2.1 50 (by omega) (by omega) (by omega), F.2.2.1 51 (by omega) (by omega) (by omega), F.2.2.1 (P + 1) (by omega) (by omega) (by omega), F.2.2.1 (P + 2) (by omega) (by omega) (by omega)]
    exact h11
  · unfold laX
    rw [F.2.2.1 53 (by omega) (by omega) (by omega)]
    exact h13
  · unfold stX
    rw [F.2.2.1 (P + 7) (by omega) (by omega) (by omega)]
    exact h14
theorem gOf_k {H : Nat} (h : sgKp s sf) (k : s.1 3 ≠ 0) : gOf sf H = gOf s H := by
  obtain ⟨a1, a2, a3, a4, a5, a6⟩ := h k
  unfold gOf
  rw [a2, a3, a5]
theorem xPic_of {H : Nat} (hs : fsX x P s) (hh : hX x P ln s) (k : s.1 3 ≠ 0) (hl : s.1 5 = 0 → ln = H) (h5 : s.1 5 = 0 ∨ s.1 5 = H) (G : xGeo x P (gOf s H)) : xPic x P (gOf s H) := by
  refine ⟨⟨hs.1.2.2.2.2.2.2.2.1 k, ?_, hs.1.2.2.2.2.2.2.1, fun c hc => (hs.1.2.2.2.2.2.2.2.2.2.2 c hc).2.1, fun c hc => (hs.1.2.2.2.2.2.2.2.2.2.2 c hc).2.2.1⟩, G⟩
  rw [hh.2 k]
  show _ = nI H
  by_cases z : s.1 5 = 0
  · rw [if_pos z, hl z]
  · rw [if_neg z, h5.resolve_left z]
/-- a scan that was told is ready to be read -/
theorem rdX_of {H : Nat} {lt0 : Nat → Nat} {Q : Nat → Int32} (hD : ∀ i, D i < 256) (hp : fpX x D L (s.1 0)) (hz : ∀ i, i < L → (x.2.2.1 2 i = 0 ↔ D i = 0)) (hs : fsX x P s) (sc : scX x s) (hA : sgA D L lt0 s) (o2 : sgO2 s) (pic : xPic x P (gOf s H)) (b9 : s.1 14 ≤ 9) (hQ : ∀ i, i < 12288 → x.2.2.1 (P + 6) i = Q i) (hQ2 : ∀ i, i < 12288 → cfOk (i % 64) (Q i)) : rdX x P (s.1 11) (s.1 12) (s.1 13) (s.1 14) (gOf s H) (fun i => (s.2.2.2.2.2.1 i).1) (s.1 10) (sgTd s) (sgTa s) (fun c => wOf (s.2.2.1 (sgTd s c))) (fun c => wOf (s.2.2.1 (4 + sgTa s c))) (fun i => D (s.1 15 + i)) (s.1 16 - s.1 15) (s.1 15) L Q := by
  obtain ⟨c0, c1, c2, c3, c4, c9, c10, cm⟩ := sc
  obtain ⟨a1, a2, ⟨a3, a4, a5, a6, a7, a8⟩, a9, ⟨a10, a11, a12, a12b⟩, a13, a14, a15, a16, a17⟩ := hA
  have hp4 := hp.2.2.2.1
  refine ⟨hs.1.1, ⟨pic, c0, fun i hi => (cm i hi).1⟩, ⟨c1, c2, c3, c4⟩, ⟨a3, a4, by omega, b9, a7⟩, fun i hi => ?_, ⟨c9, by rw [c10]; congr 1; omega, hp.2.2.1, hp4.1, by omega⟩, fun i hi => ⟨(hp.2.2.2.2 _ (by omega)).1, hz _ (by omega)⟩, a13, hQ, hQ2⟩
  have ix := mIx_i a2 hi
  have etd : sgTd s (s.2.2.2.2.2.1 i).1 = (s.2.2.2.2.2.1 i).2.1 := by unfold sgTd; rw [ix]
  have eta : sgTa s (s.2.2.2.2.2.1 i).1 = (s.2.2.2.2.2.1 i).2.2.1 := by unfold sgTa; rw [ix]
  have mo := a2.1 i hi
  show zTx x i (sgTd s (s.2.2.2.2.2.1 i).1) (sgTa s (s.2.2.2.2.2.1 i).1) (s.1 11) (s.1 12) (s.1 13) (wOf (s.2.2.1 (sgTd s (s.2.2.2.2.2.1 i).1))) (wOf (s.2.2.1 (4 + sgTa s (s.2.2.2.2.2.1 i).1)))
  rw [etd, eta]
  have ws : ∀ t W, t < 8 → s.2.2.1 t = some W → tbOk (wOf (s.2.2.1 t)).1 (wOf (s.2.2.1 t)).2.1 (wOf (s.2.2.1 t)).2.2 ∧ wX x t (wOf (s.2.2.1 t)).1 (wOf (s.2.2.1 t)).2.1 (wOf (s.2.2.1 t)).2.2 := by
    intro t W ht hW
    rcases hs.1.2.2.2.2.2.2.2.2.2.1 t ht with ⟨g1, _⟩ | ⟨W', g1, g2, g3, g4⟩
    · rw [g1] at hW
      cases hW
    · rw [g1]
      exact ⟨g2, g4⟩
  refine ⟨(cm i hi).2.1, (cm i hi).2.2.1, mo.2.1, mo.2.2.1, fun f0 b0 => ?_, fun l0 => ?_⟩
  · obtain ⟨W, hW⟩ := (a9 i hi).1 f0 b0
    exact ws _ W (by omega) hW
  · obtain ⟨W, hW⟩ := (a9 i hi).2 l0
    exact ws _ W (by omega) hW
theorem x_rd {H : Nat} {A2 : Int32} (hD : ∀ i, D i < 256) (hg : gOk (gOf sf H)) (hb : gBs (gOf sf H) (gOf sf H).2.2.1 ≤ 192) (hH : H = sf.1 5) (hH0 : sf.1 5 ≠ 0) (hf8 : sf.1 8 < 20000) : ∀ (r M r' ln : Nat) (x : rg_S) (s : sgS) (Q : Nat → Int32), (sf.1 9 ≠ 0 → ln = H) → s.1 8 + r = sf.1 8 → r < M → sgPs D L r' s = .inr sf → sgKp s sf → x.2.1 0 5 = P → fpX x D L (s.1 0) → (∀ i, i < L → (x.2.2.1 2 i = 0 ↔ D i = 0)) → fsX x P s → sgOk s → sgO2 s → hX x P ln s → xGeo x P (gOf sf H) → (∀ i, i < 12288 → x.2.2.1 (P + 6) i = Q i) → (∀ i, i < 12288 → cfOk (i % 64) (Q i)) → ∃ x', FXop P x x' ∧ ((∃ f k, sgRd D L (gOf sf H) r s Q = .inl (f, k) ∧ 0 < f ∧ f < 200 ∧ fX11_openInput_121 X M (B + 0) (nI (sf.1 8)) A2 (nI (s.1 8)) (rg_p lX B w0 x) = fX11_openInput_195 X (B + 0) (nI k) (nI f) (rg_p lX B w0 x')) ∨ ∃ Q', sgRd D L (gOf sf H) r s Q = .inr Q' ∧ fX11_openInput_121 X M (B + 0) (nI (sf.1 8)) A2 (nI (s.1 8)) (rg_p lX B w0 x) = fX11_openInput_209 X (B + 0) (nI (sf.1 8)) A2 (rg_p lX B w0 x') ∧ (s.1 8 + r ≠ 0 → xPic x' P (gOf sf H)) ∧ stX x' P sf.2.2.2.1 sf.2.2.2.2.2.2 ∧ (∀ i, i < 12288 → x'.2.2.1 (P + 6) i = Q' i) ∧ ∀ i, i < 12288 → cfOk (i % 64) (Q' i)) := by
  intro r
  induction r with
  | zero =>
    intro M r' ln x s Q hlH h8 hM hps kp hr hp hz hs ok o2 hh G hQ hQ2
    obtain ⟨M, rfl⟩ : ∃ M', M = M' + 1 := ⟨M - 1, by omega⟩
    have oc := o2.2.2.2.2.2.2.1
    have hp4 := hp.2.2.2.1
    cases r' with
    | zero => cases hps
    | succ r' =>
      unfold sgPs at hps
      obtain ⟨o, e1, e2⟩ := sgB_i hps
      have na := sgNs_a hD hp4.1 _ _ _ ok o2 e1
      obtain ⟨v1, x1', e1x, _, o1x⟩ := x_ns (X := X) (B := B) (w0 := w0) (P := P) (D := D) (L := L) (L + 1) 0 FU ln x s (by omega) (by omega) (by unfold FU; omega) hp hs ok o2 hh
      have o8 : o.2.1 8 = s.1 8 + (if o.1 = true then 1 else 0) ∧ sgKp s o.2 := by
        rcases o1x with ⟨f, r1, _⟩ | ⟨o', r1, _, r3⟩
        · rw [e1] at r1; cases r1
        · rw [e1] at r1
          have := Sum.inr.inj r1
          subst this
          exact ⟨r3.2.2.2.2.2.2.2.2.1, r3.2.2.2.2.1⟩
      have of : o.1 = false ∧ o.2 = sf := by
        by_cases z : o.1 = true
        · rw [if_pos z] at o8 e2
          -- a scan more than were told
          have : o.2.1 8 ≤ sf.1 8 := by
            have mono : ∀ (r : Nat) (s : sgS) (sf : sgS), (∀ (r : Nat) (s : sgS) (o : Bool × sgS), sgNs D L r s = .inr o → s.1 8 ≤ o.2.1 8) → sgPs D L r s = .inr sf → s.1 8 ≤ sf.1 8 := by
              intro r
              induction r with
              | zero => intro s sf _ h; cases h
              | succ r ih =>
                intro s sf hn h
                unfold sgPs at h
                obtain ⟨o, h1, h2⟩ := sgB_i h
                have g1 := hn _ _ _ h1
                split at h2
                · have := ih _ _ hn h2
                  omega
                · rw [← Sum.inr.inj h2]
                  exact g1
            refine mono _ _ _ ?_ e2
            intro r
            induction r with
            | zero => intro s o h; cases h
            | succ r ih =>
              intro s o h
              rw [sgNs_e] at h
              obtain ⟨a, h1, h2⟩ := sgB_i h
              split at h2
              · rw [← Sum.inr.inj h2]
                exact Nat.le_refl _
              · obtain ⟨s2, h3, h4⟩ := sgB_i h2
                have g1 := sgSg_8 h3
                have g1 : s2.1 8 = s.1 8 + _ := g1
                split at h4
                · rw [← Sum.inr.inj h4]
                  show s.1 8 ≤ s2.1 8
                  omega
                · have := ih _ _ h4
                  omega
          omega
        · rw [if_neg z] at e2
          refine ⟨?_, Sum.inr.inj e2⟩
          cases h : o.1
          · rfl
          · exact absurd h z
      obtain ⟨of1, of2⟩ := of
      obtain ⟨l1, l2⟩ := na.2 of1
      rw [of2] at l1 l2
      refine ⟨x, FXop.rfl, Or.inr ⟨Q, rfl, ?_, fun hne => ?_, ?_, hQ, hQ2⟩⟩
      · rw [fX11_openInput_121.eq_2]
        exact ei_t (nI_le (by omega) (by omega)) rfl
      · have kn : s.1 3 ≠ 0 := fun z => by
          have := (ok.2.2.2.2.1 z).2.2
          omega
        rw [gOf_k kp kn] at G ⊢
        obtain ⟨_, _, _, a4, _, a6⟩ := kp kn
        refine xPic_of hs hh kn (fun z => hlH (by rw [a4]; exact (o2.2.2.1 kn z).1)) ?_ G
        by_cases z : s.1 5 = 0
        · exact Or.inl z
        · exact Or.inr (by rw [hH, a6 z])
      · rw [l1, l2]
        exact hs.2.2.2
  | succ r ih =>
    intro M r' ln x s Q hlH h8 hM hps kp hr hp hz hs ok o2 hh G hQ hQ2
    obtain ⟨M, rfl⟩ : ∃ M', M = M' + 1 := ⟨M - 1, by omega⟩
    have oc := o2.2.2.2.2.2.2.1
    have hp4 := hp.2.2.2.1
    have hP := hs.1.1
    have hP' := hP
    unfold isP at hP'
    cases r' with
    | zero => cases hps
    | succ r' =>
    unfold sgPs at hps
    obtain ⟨o, e1, e2⟩ := sgB_i hps
    have na := sgNs_a hD hp4.1 _ _ _ ok o2 e1
    obtain ⟨v1, x1, e1x, S1, o1x⟩ := x_ns (X := X) (B := B) (w0 := w0) (P := P) (D := D) (L := L) (L + 1) 0 FU ln x s (by omega) (by omega) (by unfold FU; omega) hp hs ok o2 hh
    have o1x : v1 = (if o.1 = true then 1 else 0) ∧ nsX x1 P D L ln s o := by
      rcases o1x with ⟨f, r1, _⟩ | ⟨o', r1, r2, r3⟩
      · rw [e1] at r1; cases r1
      · rw [e1] at r1
        have := Sum.inr.inj r1
        subst this
        exact ⟨r2, r3⟩
    obtain ⟨ev, n1, n2, n3, n4, n5, n6, n7, n8, n9, ln', n10, n11, _⟩ := o1x
    have ot : o.1 = true := by
      by_cases z : o.1 = true
      · exact z
      · rw [if_neg z] at e2 n9
        rw [← Sum.inr.inj e2] at h8
        omega
    rw [if_pos ot] at e2 n9 ev
    obtain ⟨ob, s2⟩ := o
    obtain rfl : ob = true := ot
    have A := na.1 rfl
    have A : sgA D L s.2.2.2.1 s2 := A
    have kn : s2.1 3 ≠ 0 := A.2.2.2.2.2.2.2.1
    have n5 : sgKp s s2 := n5
    have n9 : s2.1 8 = s.1 8 + 1 := n9
    have n10 : hX x1 P ln' s2 := n10
    -- what the pass goes on to
    have kp2 : sgKp s2 sf := by
      have mono : ∀ (r : Nat) (s : sgS) (sf : sgS), sgOk s → sgO2 s → sgPs D L r s = .inr sf → sgKp s sf := by
        have one : ∀ (r : Nat) (s : sgS) (o : Bool × sgS), sgOk s → sgO2 s → sgNs D L r s = .inr o → sgKp s o.2 ∧ sgOk o.2 ∧ sgO2 o.2 := by
          intro r
          induction r with
          | zero => intro s o _ _ h; cases h
          | succ r ih =>
            intro s o ok o2 h
            rw [sgNs_e] at h
            obtain ⟨a, h1, h2⟩ := sgB_i h
            obtain ⟨a', h1a, h1b⟩ := sgB_i h1
            have h1c : sgCs a'.1 s ∧ a' = a := by
              split at h1b
              · exact ⟨by assumption, Sum.inr.inj h1b⟩
              · cases h1b
            obtain ⟨hcs, rfl⟩ := h1c
            have mp := sgMk_p (u := a'.1) (q := a'.2) h1a
            split at h2
            · rw [← Sum.inr.inj h2]
              obtain ⟨o1', oq, o3, o4, o5, o6, o7, o8, o9, o10⟩ := o2
              exact ⟨fun _ => ⟨rfl, rfl, rfl, rfl, rfl, fun _ => rfl⟩, ok, o1', oq, o3, o4, o5, o6, ⟨by show 4 * s.1 2 + 2 ≤ a'.2; omega, by show 10 * s.1 8 + 2 ≤ a'.2; omega⟩, o8, o9, o10⟩
            · obtain ⟨s2, h3, h4⟩ := sgB_i h2
              obtain ⟨k1, k2, k3, _⟩ := sgSg_ok (fun i _ => hD i) hp4.1 ok o2 hcs mp.1 h3
              split at h4
              · rw [← Sum.inr.inj h4]
                exact ⟨k3, k1, k2⟩
              · obtain ⟨j1, j2⟩ := ih _ _ k1 k2 h4
                exact ⟨k3.trans j1, j2⟩
        intro r
        induction r with
        | zero => intro s sf _ _ h; cases h
        | succ r ih =>
          intro s sf ok o2 h
          unfold sgPs at h
          obtain ⟨o, h1, h2⟩ := sgB_i h
          obtain ⟨j1, j2, j3⟩ := one _ _ _ ok o2 h1
          split at h2
          · exact j1.trans (ih _ _ j2 j3 h2)
          · rw [← Sum.inr.inj h2]
            exact j1
      exact mono r' s2 sf n3 n4 e2
    obtain ⟨q1, q2, q3, q4, q5, q6⟩ := kp2 kn
    have hlH2 : sf.1 9 ≠ 0 → ln' = H := by
      intro z9
      rcases n11 with z | ⟨z1, z2, z3⟩
      · rw [z]
        exact hlH z9
      · have z2 : s2.1 5 ≠ 0 := z2
        have z1 : ln' = s2.1 5 := z1
        rw [z1, hH, q6 z2]
    have n10H : s2.1 5 = 0 → ln' = H := fun z => hlH2 (by rw [q4]; exact (n4.2.2.1 kn z).1)
    have G1 : xGeo x1 P (gOf sf H) := by
      unfold xGeo
      rw [S1.1 P 3 (by omega) (by omega), S1.1 P 4 (by omega) (by omega), S1.1 P 5 (by omega) (by omega), S1.2.2.1 (P + 3) (by omega) (by omega) (by omega) (by omega), S1.2.2.1 (P + 4) (by omega) (by omega) (by omega) (by omega), S1.2.2.1 (P + 5) (by omega) (by omega) (by omega) (by omega)]
      exact G
    have Q1 : ∀ i, i < 12288 → x1.2.2.1 (P + 6) i = Q i := by
      rw [S1.2.2.1 (P + 6) (by omega) (by omega) (by omega) (by omega)]
      exact hQ
    have hz1 : ∀ i, i < L → (x1.2.2.1 2 i = 0 ↔ D i = 0) := by
      rw [S1.2.2.1 2 (by omega) (by omega) (by omega) (by omega)]
      exact hz
    have r1 : x1.2.1 0 5 = P := by rw [S1.2.1]; exact hr
    have ge : gOf sf H = gOf s2 H := gOf_k kp2 kn
    have pic : xPic x1 P (gOf s2 H) := by
      rw [ge] at G1
      refine xPic_of n2 n10 kn n10H ?_ G1
      by_cases z : s2.1 5 = 0
      · exact Or.inl z
      · exact Or.inr (by rw [hH, q6 z])
    have sc := n7 rfl
    have sc : scX x1 s2 := sc
    have c4 := sc.2.2.2.2.1
    have b13 := A.2.2.1.2.2.1
    have start : ∀ z, (if nI (s2.1 14) ≤ 9 then (fX6_read X (rg_p lX B w0 x1) (B + 95) (B + P) (B + 41) (B + 49) (nI (s2.1 1))).bind fun q86 => fX11_openInput_188 X (fX11_openInput_121 X M) (B + 0) (nI (sf.1 8)) A2 (nI (s.1 8)) q86.1 q86.2 else fX11_openInput_188 X (fX11_openInput_121 X M) (B + 0) (nI (sf.1 8)) A2 (nI (s.1 8)) 10 (rg_p lX B w0 x1)) = z → fX11_openInput_121 X (M + 1) (B + 0) (nI (sf.1 8)) A2 (nI (s.1 8)) (rg_p lX B w0 x) = z := by
      intro z hz'
      rw [fX11_openInput_121.eq_2]
      refine ei_n (nI_ge (by omega) (by omega)) (ob_v (rg_C rfl rfl) (ob_v (rg_O rfl) (ob_v (v := (v1, rg_p lX B w0 x1)) (by unfold fX8_nextScan; exact e1x) (ei_n (by show ¬ v1 = 0; rw [ev]; decide) (ob_v (rg_C rfl rfl) (ob_v (rg_C rfl rfl) (ob_v (rg_I rfl rfl) ?_)))))))
      dsimp only
      rw [c4]
      by_cases z9 : nI (s2.1 14) ≤ 9
      · rw [if_pos z9] at hz'
        refine ei_t z9 (ob_v (rg_C rfl rfl) (ob_v (rg_R rfl rfl) ?_))
        rw [r1]
        refine ob_v (rg_C rfl rfl) (ob_v (rg_C rfl rfl) (ob_v (rg_C rfl rfl) (ob_v (rg_C rfl rfl) (ob_v (rg_C rfl rfl) (ob_v (rg_I rfl rfl) (ob_v (rg_O rfl) ?_))))))
        rw [n2.1.2.2.1]
        exact hz'
      · rw [if_neg z9] at hz'
        exact ei_n z9 hz'
    have e188 : ∀ (f : Nat) (z : rg_S), 0 < f → f < 200 → fX11_openInput_188 X (fX11_openInput_121 X M) (B + 0) (nI (sf.1 8)) A2 (nI (s.1 8)) (nI f) (rg_p lX B w0 z) = fX11_openInput_195 X (B + 0) (nI (s.1 8)) (nI f) (rg_p lX B w0 z) := by
      intro f z f0 f2
      unfold fX11_openInput_188
      exact ei_n (nI_ne0 f0 (by omega)) rfl
    unfold sgRd
    rw [e1]
    dsimp only
    by_cases b9 : 9 < s2.1 14
    · rw [if_pos b9]
      refine ⟨x1, S1.op, Or.inl ⟨10, s.1 8, rfl, by decide, by decide, start _ (ei_n (show ¬ nI (s2.1 14) ≤ nI 9 from nI_ge b9 (by omega)) (e188 10 x1 (by decide) (by decide)))⟩⟩
    rw [if_neg b9]
    have R := rdX_of hD n1 hz1 n2 sc A n4 pic (Nat.le_of_not_lt b9) Q1 hQ2
    have mk : mOk (gOf s2 H) (fun i => (s2.2.2.2.2.2.1 i).1) (s2.1 10) := mOk_of rfl (fun _ _ => rfl) (fun _ _ => rfl) A.1.1 A.2.1
    have hg2 : gOk (gOf s2 H) := by rw [← ge]; exact hg
    have hb2 : gBs (gOf s2 H) (gOf s2 H).2.2.1 ≤ 192 := by rw [← ge]; exact hb
    have iv := n3.1
    obtain ⟨x2, e2x, F2, o2x⟩ := x_read (X := X) (B := B) (w0 := w0) (iv := s2.1 1) hg2 mk hb2 iv R
    have eR : sgR D (gOf sf H) s2 Q = zSc (fun i => D (s2.1 15 + i)) (s2.1 16 - s2.1 15) (fun c => wOf (s2.2.2.1 (sgTd s2 c))) (fun c => wOf (s2.2.2.1 (4 + sgTa s2 c))) (s2.1 11) (s2.1 12) (s2.1 13) (s2.1 14) (gOf s2 H) (fun i => (s2.2.2.2.2.2.1 i).1) (s2.1 10) (s2.1 1) Q 0 := by
      unfold sgR
      rw [ge]
    rw [← eR] at e2x o2x
    obtain ⟨oQ, of1, of2⟩ := o2x
    have start2 : ∀ z, fX11_openInput_188 X (fX11_openInput_121 X M) (B + 0) (nI (sf.1 8)) A2 (nI (s.1 8)) (match sgR D (gOf sf H) s2 Q with | .inl f => nI (10 + f) | .inr _ => 0) (rg_p lX B w0 x2) = z → fX11_openInput_121 X (M + 1) (B + 0) (nI (sf.1 8)) A2 (nI (s.1 8)) (rg_p lX B w0 x) = z := fun z hz' => start _ (ei_t (show nI (s2.1 14) ≤ nI 9 from nI_le (by omega) (by omega)) (ob_v e2x hz'))
    have S2 : FXop P x x2 := S1.op.trans F2.op
    cases hR : sgR D (gOf sf H) s2 Q with
    | inl f =>
      have f9 := of1 f hR
      rw [hR] at start2
      exact ⟨x2, S2, Or.inl ⟨10 + f, s.1 8, rfl, by omega, by omega, start2 _ (e188 (10 + f) x2 (by omega) (by omega))⟩⟩
    | inr a =>
      rw [hR] at start2
      have oka := of2 a hR
      obtain ⟨x3, S3, o3⟩ := ih M r' ln' x2 s2 a.2.2.2 hlH2 (by omega) (by omega) e2 kp2 (by rw [F2.2.1 _ _ (by omega)]; exact r1) ⟨by rw [F2.1 _ _ (by omega) (by omega)]; exact n1.1, by rw [F2.1 _ _ (by omega) (by omega)]; exact n1.2.1, by rw [F2.1 _ _ (by omega) (by omega)]; exact n1.2.2.1, n1.2.2.2.1, by rw [F2.2.2.1 2 (by omega) (by omega) (by omega)]; exact n1.2.2.2.2⟩ (by rw [F2.2.2.1 2 (by omega) (by omega) (by omega)]; exact hz1) (n2.rd F2) n3 n4 ⟨by rw [F2.1 _ _ (by omega) (by omega)]; exact n10.1, by rw [F2.1 _ _ (by omega) (by omega)]; exact n10.2⟩ (by
        unfold xGeo
        rw [F2.1 P 3 (by omega) (by omega), F2.1 P 4 (by omega) (by omega), F2.1 P 5 (by omega) (by omega), F2.2.2.1 (P + 3) (by omega) (by omega) (by omega), F2.2.2.1 (P + 4) (by omega) (by omega) (by omega), F2.2.2.1 (P + 5) (by omega) (by omega) (by omega)]
        exact G1) (oQ a hR) oka.2.2
      rw [n9] at o3
      have st3 : fX11_openInput_121 X (M + 1) (B + 0) (nI (sf.1 8)) A2 (nI (s.1 8)) (rg_p lX B w0 x) = fX11_openInput_121 X M (B + 0) (nI (sf.1 8)) A2 (nI (s.1 8 + 1)) (rg_p lX B w0 x2) := by
        refine start2 _ ?_
        unfold fX11_openInput_188
        rw [nI_1]
        exact ei_t rfl rfl
      rw [st3]
      refine ⟨x3, S2.trans S3, ?_⟩
      rcases o3 with o3 | ⟨Q', w1, w2, w3, w4⟩
      · exact Or.inl o3
      · exact Or.inr ⟨Q', w1, w2, fun _ => w3 (by omega), w4⟩
end
