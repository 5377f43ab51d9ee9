/-! openInput keeps the relation -/
theorem by_255 (v : Int32) : (v &&& 255).toBitVec.toNat < 256 := by
  rw [Int32.toBitVec_and, BitVec.toNat_and]
  exact Nat.lt_of_le_of_lt Nat.and_le_right (by decide)
theorem by_0 {v : Int32} (h : bt v = v) : v = 0 ↔ (v &&& 255).toBitVec.toNat = 0 := by
  constructor
  · rintro rfl
    decide
  · intro e
    have e1 : v &&& 255 = 0 := by
      rw [nI_sur (v &&& 255), e]
      rfl
    rw [← h, ← bt_and, e1]
    decide
section
variable {X : px_X} {b B : Nat} {w0 w1 : px_W} {x y x' y' : rg_S} {P Q : Nat}
theorem Rel.opn (h : Rel x y) (hP : isP P) (F : FXO P x x') (G : FYO y y') (h3' : r3 x' y') (h5' : r5 x' y') : Rel x' y' := by
  have hP' : P = 7 ∨ P = 15 := hP
  obtain ⟨h1, h2, h3, h4, h4b, h5, h6⟩ := h
  refine ⟨h1.c (F.1 _ _ (by omega) (by omega) (by omega)) (F.2.2 2 (by omega) (by omega)) (G.1 1 (by omega)) (G.2.2 1 (by omega)), h2.c ⟨F.2.1 _ _ (by omega) (by omega), F.2.1 _ _ (by omega) (by omega)⟩ (fun o ho => F.1 _ _ (by omega) (by omega) (by omega)) (fun o ho => F.2.2 _ (by omega) (by omega)) (G.1 3 (by omega)) (G.2.2 2 (by omega)), h3', h4.c (fun p k hp hk => F.1 _ _ (by omega) (by omega) (by omega)) (fun p hp => F.2.2 _ (by omega) (by omega)) (fun o o1 o2 => G.2.2 o (by omega)), h4b.c (G.2.2 72 (by omega)), h5', h6.c (F.2.2 37 (by omega) (by omega)) (fun o o1 o2 => G.2.2 o (by omega)) (fun k => F.1 195 k (by omega) (by omega) (by omega)) G.2.1⟩
theorem Rel.opf {v v' : Int32} {f : Nat} {pl : Int32} (h : Rel x y) (hP : isP P) (hd : x.2.1 0 5 = P) (F : FXO P x x') (G : FYO y y') (o : opF x x' v f pl) (o' : opG y y' v' f pl) : Rel x' y' := by
  have hP' : P = 7 ∨ P = 15 := hP
  have h0 := h
  obtain ⟨h1, h2, ⟨_, _, t1, t2, t3⟩, h4, h4b, ⟨Q, q1, q2, q3⟩, h6⟩ := h
  obtain ⟨a1, a2, a3, a4, a5, a6⟩ := o
  obtain ⟨c1, c2, c3, c4, c5⟩ := o'
  refine h0.opn hP F G ⟨by rw [a2, c2], by rw [a3, c3], by rw [a4 15 (by omega), c4 9 (by omega)]; exact t1, by rw [a4 16 (by omega), c4 10 (by omega)]; exact t2, by rw [a4 17 (by omega), c4 11 (by omega)]; exact t3⟩ ⟨Q, by rw [a6]; exact q1, by rw [a5]; exact q2, ?_⟩
  rw [a4 3 (by omega), c4 17 (by omega)]
  rcases q3 with q3 | ⟨u1, u2, g, hg⟩
  · exact Or.inl q3
  · refine Or.inr ⟨u1, u2, g, hg.c (fun k hk => F.1 _ _ (by omega) (by omega) (by omega)) (fun j j1 j2 => F.2.2 _ (by omega) (by omega)) (fun k k1 k2 => c4 k (by omega)) (fun o o1 o2 => c5 o o1 o2)⟩
theorem o_open (hr : Rel x y) : op2' B b (fun w => fX11_openInput X w (B + 0)) (fun w => fX15_openInput X w (b + 0)) x y := by
  intro w0
  have hr0 := hr
  obtain ⟨⟨L, ⟨hL, hB⟩, hx, hy⟩, h2, ⟨_, _, t1, t2, t3⟩, h4, h4b, ⟨Q, q1, q2, q3⟩, h6⟩ := hr
  obtain ⟨P, hP, hQ, hPQ, hR'⟩ : ∃ P, isP P ∧ isP Q ∧ P ≠ Q ∧ x.2.1 0 5 = P := by
    rcases q1 with ⟨e1, e2⟩ | ⟨e1, e2⟩
    · exact ⟨15, Or.inr rfl, Or.inl e1, by omega, e2⟩
    · exact ⟨7, Or.inl rfl, Or.inr e1, by omega, e2⟩
  have hP' : P = 7 ∨ P = 15 := hP
  have hQ' : Q = 7 ∨ Q = 15 := hQ
  generalize hDD : (fun i => (y.2.2.1 1 i &&& 255).toBitVec.toNat) = D
  have hD : ∀ i, D i < 256 := fun i => by rw [← hDD]; exact by_255 _
  have dy : ∀ i, i < L → y.2.2.1 1 i &&& 255 = nI (D i) := fun i _ => by rw [← hDD]; exact nI_sur _
  have dz : ∀ i, i < L → (y.2.2.1 1 i = 0 ↔ D i = 0) := fun i hi => by rw [← hDD]; exact by_0 (hB i hi).2
  obtain ⟨v, x', e1, F, o1⟩ := x_open (X := X) (B := B) (w0 := w0) (x := x) (D := D) (L := L) hP hQ hPQ q2 hR' hD hx hL (fun i hi => by rw [(hB i hi).1]; exact dy i hi) (fun i hi => by rw [(hB i hi).1]; exact dz i hi)
  refine ⟨v, x', e1, fun w1 => ?_⟩
  obtain ⟨v', y', e2, G, o2⟩ := m_openI (X := X) (b := b) (w0 := w1) (y := y) (D := D) (L := L) hD hy hL dy (fun i hi => (hB i hi).2) dz
  have key : v' = v ∧ Rel x' y' := by
    rcases o1 with ⟨f, a1, a2⟩ | ⟨sf, a1, a2, a3⟩ | ⟨sf, f, k, a1, a2, a3, a4⟩ | ⟨sf, Q', a1, a2, a3, a4, ⟨a5, a6, a7, a8, a9⟩, a10, a11, a12, a13, a14, a15⟩ <;> rcases o2 with ⟨f', c1, c2⟩ | ⟨sf', c1, c2, c3⟩ | ⟨sf', f', k', c1, c2, c3, c4⟩ | ⟨sf', Q'', c1, c2, c3, c4, ⟨c5, c6, c7, c8, c9⟩, c10, c11, c12, c13⟩ <;> rw [a1] at c1
    · have := Sum.inl.inj c1
      subst this
      exact ⟨by rw [a2.1, c2.1], hr0.opf hP hR' F G a2 c2⟩
    · cases c1
    · cases c1
    · cases c1
    · cases c1
    · exact ⟨by rw [a3.1, c3.1], hr0.opf hP hR' F G a3 c3⟩
    · have := Sum.inr.inj c1
      subst this
      exact absurd c2 a2
    · have := Sum.inr.inj c1
      subst this
      exact absurd c2 a2
    · cases c1
    · have := Sum.inr.inj c1
      subst this
      exact absurd a2 c2
    · have := Sum.inr.inj c1
      subst this
      rw [a3] at c3
      have e := Sum.inl.inj c3
      have e1 : f = f' := congrArg Prod.fst e
      have e2 : k = k' := congrArg Prod.snd e
      subst e1 e2
      exact ⟨by rw [a4.1, c4.1], hr0.opf hP hR' F G a4 c4⟩
    · have := Sum.inr.inj c1
      subst this
      rw [a3] at c3
      cases c3
    · cases c1
    · have := Sum.inr.inj c1
      subst this
      exact absurd a2 c2
    · have := Sum.inr.inj c1
      subst this
      rw [a3] at c3
      cases c3
    · have := Sum.inr.inj c1
      subst this
      rw [a3] at c3
      have := Sum.inr.inj c3
      subst this
      obtain ⟨ps, g1, g2⟩ := sgB_i a1
      have ps0 : ps = sg0 := by
        unfold sgBg at g1
        split at g1
        · cases g1
        split at g1
        · cases g1
        split at g1
        · cases g1
        split at g1
        · cases g1
        exact (Sum.inr.inj g1).symm
      rw [ps0] at g2
      obtain ⟨ok, ok2, z7, z3, zl, zL⟩ := sgPs_f hD hL _ _ _ sg0_ok.1 sg0_ok.2 g2
      obtain ⟨s5, s8, hg⟩ := sf_g ok ok2 z7 z3 zl
      have n4 := ok.2.2.1
      have g6 : (gOf sf (sf.1 5)).2.2.1 = sf.1 6 := rfl
      refine ⟨by rw [a4, c4], hr0.opn hP F G ⟨by rw [a5, c5], by rw [a6, c6], by rw [a7, c7], by rw [a8, c8], by rw [a9, c9, t3]⟩ ⟨P, by rw [a12]; omega, a11, Or.inr ⟨a10, c10, gOf sf (sf.1 5), hg, a2, a13, c11, fun i hi => ?_, fun i hi => ?_⟩⟩⟩
      · have hi' : i < 12288 := by omega
        rw [a15 i hi', (c12 i hi').1]
        exact ⟨rfl, (c12 i hi').2⟩
      · rw [g6] at hi
        have lt := zl (i / 64) (by omega)
        have bd := ok2.2.2.2.2.2.2.2.2.2 (i / 64) lt (i % 64) (by omega)
        rw [show 64 * (i / 64) + i % 64 = i by omega] at bd
        rw [a14 i (by omega) lt, c13 i hi]
        exact ⟨rfl, _, bd.1, bd.2, rfl⟩
  obtain ⟨k1, k2⟩ := key
  rw [k1] at e2
  exact ⟨y', e2, k2⟩
end
