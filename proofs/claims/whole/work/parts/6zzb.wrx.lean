/-! a scan written by the class: its units -/
section
variable {X : px_X} {b B : Nat} {w0 w1 : px_W} {x x' x0 y : rg_S} {o t s n c j T P N c0 m u iv : Nat} {p : scP} {K : kS} {L0 : List Int32} {a a' : aS} {Z : Nat → Int} {g : gG}
theorem uX.st (q : uX x0 P g c0 m) (hP : isP P) (So : o = 3 ∨ o = 5) (h : xW K o L0 x0 a x) : uX x P g c0 m := by
  unfold isP at hP
  obtain ⟨⟨f1, f2, f3, f4⟩, _⟩ := h
  have fi : ∀ p k, p = 106 ∨ p = P → x.1 p k = x0.1 p k := fun p k hp => f1 p k (by omega) (by omega)
  have fa : ∀ p, p = 107 ∨ p = 111 ∨ p = 112 ∨ p = 113 ∨ P + 1 ≤ p ∧ p ≤ P + 5 → x.2.2.1 p = x0.2.2.1 p := fun p hp => f3 p (by omega) (by omega) (by omega) (by omega) (fun t _ => by omega)
  unfold uX xPic xFr at *
  rw [fi 106 0 (by omega), fi 106 11 (by omega), fi 106 12 (by omega), fi 106 13 (by omega), fi P 0 (by omega), fi P 1 (by omega), fi P 2 (by omega), fi P 3 (by omega), fi P 4 (by omega), fi P 5 (by omega), fa 107 (by omega), fa 111 (by omega), fa 112 (by omega), fa 113 (by omega), fa (P + 1) (by omega), fa (P + 2) (by omega), fa (P + 3) (by omega), fa (P + 4) (by omega), fa (P + 5) (by omega)]
  exact q
theorem scB_c (hs : scOk g c0 m) (hj : j < scB g c0 m c) : c0 ≤ c ∧ c < c0 + m ∧ c < g.2.2.1 ∧ (m = 1 → c = c0 ∧ j = 0) := by
  unfold scB at hj
  unfold scOk at hs
  split at hj
  · split at hj
    · omega
    · omega
  · omega
theorem x_blockAt (q : uX x P g c0 m) (hP : isP P) (hg : gOk g) (hs : scOk g c0 m) (h10 : scO g c0 m g.2.2.1 ≤ 10) (hu : u < scU g c0 m) (hj : j < scB g c0 m c) : fX5_blockAt X (rg_p lX B w0 x) (B + 106) (B + P) (nI u) (nI (scO g c0 m c + j)) = some (nI (gBs g c + scQ g m u c j), rg_p lX B w0 x) := by
  obtain ⟨⟨⟨q1, q2, q3, q4, q5⟩, _, _, _, q6⟩, u0, u11, u12, u13, u107, uj⟩ := q
  obtain ⟨k1, k2, hc, k3⟩ := scB_c hs hj
  obtain ⟨j1, j2, j3⟩ := uj c j hc hj
  obtain ⟨a1, a2, a3⟩ := q6 c hc
  have hn4 := hg.2.2.2.2.2.1
  have hm4 : m ≤ 4 := by unfold scOk at hs; omega
  have hp10 : scO g c0 m c + j < 10 := by
    have := scO_mono (g := g) (c0 := c0) (m := m) (c := c + 1) (g.2.2.1 - (c + 1))
    rw [show c + 1 + (g.2.2.1 - (c + 1)) = g.2.2.1 by omega] at this
    have e : scO g c0 m (c + 1) = scO g c0 m c + scB g c0 m c := rfl
    omega
  have ec : x.2.2.1 107 (c - c0) = nI c := by
    rw [u107 _ (by omega), show c0 + (c - c0) = c by omega]
  have hu64 : u < 65536 ∧ 0 < (if m = 1 then gOA g c0 else gUA g) ∧ (if m = 1 then gOA g c0 else gUA g) < 65536 := by
    have ua := hg.ua
    have ud := hg.ud
    unfold scU at hu
    by_cases m1 : m = 1
    · rw [if_pos m1] at hu ⊢
      have oa := hg.oa (c := c0) (by unfold scOk at hs; omega)
      have od := hg.od (c := c0) (by unfold scOk at hs; omega)
      have ac := hg.ac (c := c0) (by unfold scOk at hs; omega)
      have dn := hg.dn (c := c0) (by unfold scOk at hs; omega)
      have : gOA g c0 * gOD g c0 ≤ 16 * 16 := Nat.mul_le_mul (by omega) (by omega)
      omega
    · rw [if_neg m1] at hu ⊢
      have : gUA g * gUD g ≤ 8 * 8 := Nat.mul_le_mul ua.2 ud.2
      omega
  obtain ⟨hu6, ub1, ub2⟩ := hu64
  have last : ∀ {wd tl : Nat}, fX5_blockAt_53 X (B + 106) (B + P) (nI u) (nI (scO g c0 m c + j)) (nI c) (nI wd) (nI tl) (rg_p lX B w0 x) = some (nI (gBs g c + (u / (if m = 1 then gOA g c0 else gUA g) * tl + j / g.2.2.2.1 c) * gAc g c + (u % (if m = 1 then gOA g c0 else gUA g) * wd + j % g.2.2.2.1 c)), rg_p lX B w0 x) := by
    intro wd tl
    unfold fX5_blockAt_53
    refine ob_v (rg_I rfl rfl) ?_
    rw [u12]
    refine ob_v (rI_n (by omega) ub1 (by omega)) (ob_v (rg_C rfl rfl) (ob_v (rg_A rfl (by decide) _ hp10 (by decide)) (ob_v (rg_I rfl rfl) ?_)))
    rw [u12]
    refine ob_v (dI_n (by omega) ub1 (by omega)) (ob_v (rg_C rfl rfl) (ob_v (rg_A rfl (by decide) _ hp10 (by decide)) (ob_v (rg_C hP.o rfl) (ob_v (rg_A hP.a5 (by decide) _ (by omega) (by decide)) (ob_v (rg_C hP.o rfl) (ob_v (rg_A hP.a3 (by decide) _ (by omega) (by decide)) ?_))))))
    rw [j2, j3, a1, a3, pk_mul, nI_add, pk_mul, nI_add, pk_mul, nI_add, nI_add]
  have fin : (if m = 1 then gBs g c + (u / gOA g c0 * 1 + j / g.2.2.2.1 c) * gAc g c + (u % gOA g c0 * 1 + j % g.2.2.2.1 c) else gBs g c + (u / gUA g * g.2.2.2.2 c + j / g.2.2.2.1 c) * gAc g c + (u % gUA g * g.2.2.2.1 c + j % g.2.2.2.1 c)) = gBs g c + scQ g m u c j := by
    unfold scQ
    by_cases m1 : m = 1
    · obtain ⟨e1, e2⟩ := k3 m1
      rw [if_pos m1, if_pos m1, e2, e1, Nat.zero_div, Nat.zero_mod, Nat.mul_one, Nat.mul_one, Nat.add_zero, Nat.add_zero, Nat.add_assoc]
    · rw [if_neg m1, if_neg m1, Nat.add_assoc]
  unfold fX5_blockAt
  refine ob_v (rg_C rfl rfl) (ob_v (rg_C rfl rfl) (ob_v (rg_A rfl (by decide) _ hp10 (by decide)) ?_))
  rw [j1]
  refine ob_v (rg_A rfl (by decide) _ (by omega) (by decide)) (ob_v (rg_I rfl rfl) ?_)
  rw [ec, u0]
  unfold fX5_blockAt_32
  by_cases m1 : m = 1
  · rw [if_pos m1] at fin
    refine ei_t (by rw [m1]; rfl) (ob_v (rg_I rfl rfl) ?_)
    rw [u0]
    refine ei_t (by rw [m1]; rfl) ?_
    have := last (wd := 1) (tl := 1)
    rw [if_pos m1, fin] at this
    exact this
  · rw [if_neg m1] at fin
    have nm : ¬ nI m = 1 := fun e => m1 ((nI_eq (b := 1) (by omega) (by omega)).mp e)
    refine ei_n nm (ob_v (rg_C hP.o rfl) (ob_v (rg_A hP.a1 (by decide) _ (by omega) (by decide)) (ob_v (rg_I rfl rfl) ?_)))
    rw [u0, q4 c hc]
    refine ei_n nm (ob_v (rg_C hP.o rfl) (ob_v (rg_A hP.a2 (by decide) _ (by omega) (by decide)) ?_))
    rw [q5 c hc]
    have := last (wd := g.2.2.2.1 c) (tl := g.2.2.2.2 c)
    rw [if_neg m1, fin] at this
    exact this
/-- one part of a unit -/
theorem x_part (S : sX K o x0) (pp : pX x0 P p.1 p.2.1 p.2.2.1 p.2.2.2 (64 * gBs g g.2.2.1) Z) (q : uX x0 P g c0 m) (hg : gOk g) (hs : scOk g c0 m) (h10 : scO g c0 m g.2.2.1 ≤ 10) (hff : p.1 = 0 → 0 < p.2.1 → p.2.2.1 = 0) (hU : ∀ c, c0 ≤ c → c < c0 + m → K.U c ∧ K.U (4 + c)) (hu : u < scU g c0 m) (hj : j < scB g c0 m c) (h : xW K o L0 x0 a x) (hI : aIv p.1 p.2.2.1 a) {k25 : Nat → Int32 → Int32 → px_W → Option (px_W)} {i : Int32} {M : Nat} (hE : inE K (aBlk p.1 p.2.1 p.2.2.1 p.2.2.2 c (fun k => Z (64 * (gBs g c + scQ g m u c j) + k)) a)) : ∃ x', fX7_write_73 X k25 (M + 1) (B + 195) i (nI u) (nI (scO g c0 m c + j)) (rg_p lX B w0 x) = fX7_write_73 X k25 M (B + 195) i (nI u) (nI (scO g c0 m c + (j + 1))) (rg_p lX B w0 x') ∧ xW K o L0 x0 (aBlk p.1 p.2.1 p.2.2.1 p.2.2.2 c (fun k => Z (64 * (gBs g c + scQ g m u c j) + k)) a) x' := by
  have hP := pp.1
  have qx := q.st hP S.2.1 h
  obtain ⟨k1, k2, hc, k3⟩ := scB_c hs hj
  have hT := (scQ_lt hg hs hu hj).2
  have hn4 := hg.2.2.2.2.2.1
  have eB := x_blockAt (X := X) (B := B) (w0 := w0) qx hP hg hs h10 hu hj
  obtain ⟨gp, gf, _⟩ := pp.st S h
  obtain ⟨x', e', h'⟩ := x_blk (X := X) (B := B) (w0 := w0) (T := gBs g c + scQ g m u c j) S pp h hI hff (c := c) (by omega) (by omega) (fun _ _ => (hU c k1 k2).1) (fun _ => (hU c k1 k2).2) hE (k25 := k25) (k73 := fX7_write_73 X k25 M) (i := i) (u := nI u) (j := nI (scO g c0 m c + j))
  refine ⟨x', ?_, h'⟩
  obtain ⟨_, _, _, _, u13, u107, uj⟩ := qx
  have hm1 := scO_mono (g := g) (c0 := c0) (m := m) (c := c + 1) (g.2.2.1 - (c + 1))
  rw [show c + 1 + (g.2.2.1 - (c + 1)) = g.2.2.1 by omega] at hm1
  have e : scO g c0 m (c + 1) = scO g c0 m c + scB g c0 m c := rfl
  rw [fX7_write_73.eq_2]
  refine ob_v (rg_C rfl rfl) (ob_v (rg_I rfl rfl) ?_)
  rw [u13]
  refine ei_n (nI_ge (by omega) (by omega)) (ob_v (rg_C rfl rfl) (ob_v (rg_C rfl rfl) (ob_v (rg_C rfl rfl) (ob_v (rg_C rfl rfl) (ob_v (rg_A rfl (by decide) _ (by omega) (by decide)) ?_)))))
  rw [(uj c j hc hj).1]
  refine ob_v (rg_A rfl (by decide) _ (by omega) (by decide)) (ob_v (rg_C rfl rfl) (ob_v (gPic hP gp) (ob_v (rg_O rfl) (ob_v eB (ob_v (rg_C rfl rfl) (ob_v (rg_I rfl rfl) ?_))))))
  dsimp only
  have hm' : c - c0 < m := by omega
  rw [gf, u107 _ hm', show c0 + (c - c0) = c by omega, show (64 : Int32) * nI (gBs g c + scQ g m u c j) = nI (64 * (gBs g c + scQ g m u c j)) from pk_mul 64 _]
  rw [nI_1] at e'
  exact e'
theorem x_comp (S : sX K o x0) (pp : pX x0 P p.1 p.2.1 p.2.2.1 p.2.2.2 (64 * gBs g g.2.2.1) Z) (q : uX x0 P g c0 m) (hg : gOk g) (hs : scOk g c0 m) (h10 : scO g c0 m g.2.2.1 ≤ 10) (hff : p.1 = 0 → 0 < p.2.1 → p.2.2.1 = 0) (hU : ∀ c, c0 ≤ c → c < c0 + m → K.U c ∧ K.U (4 + c)) (hZ : ∀ i, i < 64 * gBs g g.2.2.1 → -1024 ≤ Z i ∧ Z i ≤ 1023) (hu : u < scU g c0 m) (hI : aIv p.1 p.2.2.1 a) {k25 : Nat → Int32 → Int32 → px_W → Option (px_W)} {i : Int32} {M : Nat} (hE : inE K (aC g m p Z u c a (scB g c0 m c))) : ∀ (n j : Nat) (x : rg_S), j + n = scB g c0 m c → xW K o L0 x0 (aC g m p Z u c a j) x → ∃ x', fX7_write_73 X k25 (n + M) (B + 195) i (nI u) (nI (scO g c0 m c + j)) (rg_p lX B w0 x) = fX7_write_73 X k25 M (B + 195) i (nI u) (nI (scO g c0 m (c + 1))) (rg_p lX B w0 x') ∧ xW K o L0 x0 (aC g m p Z u c a (scB g c0 m c)) x' := by
  intro n
  induction n with
  | zero =>
    intro j x hj h
    obtain rfl : j = scB g c0 m c := by omega
    refine ⟨x, ?_, h⟩
    rw [Nat.zero_add]
    rfl
  | succ n ih =>
    intro j x hj h
    have g1 := gr_aC (g := g) (m := m) (p := p) (Z := Z) (u := u) (a := a) c (j + 1) n
    rw [show j + 1 + n = scB g c0 m c by omega] at g1
    obtain ⟨x1, e1, h1⟩ := x_part (X := X) (B := B) (w0 := w0) (k25 := k25) (i := i) (M := n + M) S pp q hg hs h10 hff hU hu (show j < scB g c0 m c by omega) h (aIv_c hg hs hZ hff hu hI j (by omega)) (hE.g g1)
    obtain ⟨x2, e2, h2⟩ := ih (j + 1) x1 (by omega) h1
    refine ⟨x2, ?_, h2⟩
    rw [show n + 1 + M = n + M + 1 by omega]
    exact e1.trans e2
theorem x_comps (S : sX K o x0) (pp : pX x0 P p.1 p.2.1 p.2.2.1 p.2.2.2 (64 * gBs g g.2.2.1) Z) (q : uX x0 P g c0 m) (hg : gOk g) (hs : scOk g c0 m) (h10 : scO g c0 m g.2.2.1 ≤ 10) (hff : p.1 = 0 → 0 < p.2.1 → p.2.2.1 = 0) (hU : ∀ c, c0 ≤ c → c < c0 + m → K.U c ∧ K.U (4 + c)) (hZ : ∀ i, i < 64 * gBs g g.2.2.1 → -1024 ≤ Z i ∧ Z i ≤ 1023) (hu : u < scU g c0 m) (hI : aIv p.1 p.2.2.1 a) {k25 : Nat → Int32 → Int32 → px_W → Option (px_W)} {i : Int32} {M : Nat} (hE : inE K (aUn g c0 m p Z u a g.2.2.1)) : ∀ (d c : Nat) (x : rg_S), c + d = g.2.2.1 → xW K o L0 x0 (aUn g c0 m p Z u a c) x → ∃ x', fX7_write_73 X k25 (scO g c0 m g.2.2.1 - scO g c0 m c + M) (B + 195) i (nI u) (nI (scO g c0 m c)) (rg_p lX B w0 x) = fX7_write_73 X k25 M (B + 195) i (nI u) (nI (scO g c0 m g.2.2.1)) (rg_p lX B w0 x') ∧ xW K o L0 x0 (aUn g c0 m p Z u a g.2.2.1) x' := by
  intro d
  induction d with
  | zero =>
    intro c x hc h
    obtain rfl : c = g.2.2.1 := by omega
    refine ⟨x, ?_, h⟩
    rw [Nat.sub_self, Nat.zero_add]
  | succ d ih =>
    intro c x hc h
    have g1 := gr_aUn (g := g) (c0 := c0) (m := m) (p := p) (Z := Z) (u := u) (a := a) (c + 1) d
    rw [show c + 1 + d = g.2.2.1 by omega] at g1
    have hm1 := scO_mono (g := g) (c0 := c0) (m := m) (c := c + 1) d
    rw [show c + 1 + d = g.2.2.1 by omega] at hm1
    have e : scO g c0 m (c + 1) = scO g c0 m c + scB g c0 m c := rfl
    obtain ⟨x1, e1, h1⟩ := x_comp (X := X) (B := B) (w0 := w0) (k25 := k25) (i := i) (c := c) (M := scO g c0 m g.2.2.1 - scO g c0 m (c + 1) + M) S pp q hg hs h10 hff hU hZ hu (aIv_un hg hs hZ hff hu hI c) (hE.g g1) (scB g c0 m c) 0 x (by omega) h
    obtain ⟨x2, e2, h2⟩ := ih (c + 1) x1 (by omega) h1
    refine ⟨x2, ?_, h2⟩
    rw [show scO g c0 m g.2.2.1 - scO g c0 m c + M = scB g c0 m c + (scO g c0 m g.2.2.1 - scO g c0 m (c + 1) + M) by omega]
    exact e1.trans e2
theorem x_unit (S : sX K o x0) (pp : pX x0 P p.1 p.2.1 p.2.2.1 p.2.2.2 (64 * gBs g g.2.2.1) Z) (q : uX x0 P g c0 m) (hg : gOk g) (hs : scOk g c0 m) (h10 : scO g c0 m g.2.2.1 ≤ 10) (hff : p.1 = 0 → 0 < p.2.1 → p.2.2.1 = 0) (hU : ∀ c, c0 ≤ c → c < c0 + m → K.U c ∧ K.U (4 + c)) (hZ : ∀ i, i < 64 * gBs g g.2.2.1 → -1024 ≤ Z i ∧ Z i ≤ 1023) (hu : u < scU g c0 m) (hI : aIv p.1 p.2.2.1 a) (h : xW K o L0 x0 a x) {k25 : Nat → Int32 → Int32 → px_W → Option (px_W)} {i : Int32} (hE : inE K (aUn g c0 m p Z u a g.2.2.1)) : ∃ x', fX7_write_70 X k25 (B + 195) i (nI u) (rg_p lX B w0 x) = k25 (B + 195) i (nI (u + 1)) (rg_p lX B w0 x') ∧ xW K o L0 x0 (aUn g c0 m p Z u a g.2.2.1) x' := by
  obtain ⟨x1, e1, h1⟩ := x_comps (X := X) (B := B) (w0 := w0) (k25 := k25) (i := i) (M := 4000000 - scO g c0 m g.2.2.1) S pp q hg hs h10 hff hU hZ hu hI hE g.2.2.1 0 x (by omega) h
  refine ⟨x1, ?_, h1⟩
  unfold fX7_write_70
  rw [show scO g c0 m g.2.2.1 - scO g c0 m 0 + (4000000 - scO g c0 m g.2.2.1) = FU by
    unfold FU
    show scO g c0 m g.2.2.1 - 0 + (4000000 - scO g c0 m g.2.2.1) = 4000000
    omega] at e1
  refine e1.trans ?_
  obtain ⟨M, hM⟩ : ∃ M, 4000000 - scO g c0 m g.2.2.1 = M + 1 := ⟨3999999 - scO g c0 m g.2.2.1, by omega⟩
  obtain ⟨_, _, _, _, u13, _, _⟩ := q.st pp.1 S.2.1 h1
  rw [hM, fX7_write_73.eq_2]
  refine ob_v (rg_C rfl rfl) (ob_v (rg_I rfl rfl) ?_)
  rw [u13]
  refine ei_t (nI_le (Nat.le_refl _) (by omega)) ?_
  unfold fX7_write_211
  rw [nI_1]
end
