/-! blocks of the reference: the others, made finer -/
section
variable {X : px_X} {b B : Nat} {w0 w1 : px_W} {y y' y0 : rg_S} {t n c T q first last bf bits N many : Nat} {K : kS} {a a' : aS} {Z : Nat → Int} {bs : Nat → Nat}
theorem m_amount (p : pY y0 first last bf bits N many bs Z) (h : yW K y0 a y) {k : Nat} (hc : c < many) (hq : bs c + q = T) (hT : 64 * T + 64 ≤ N) (hk : k ≤ last) : fX13_amount X (rg_p lM b w0 y) (b + 24) (nI c) (nI q) (nI k) = some (nI (am bits (Z (64 * T + k))), rg_p lM b w0 y) := by
  obtain ⟨g1, g2, g3, g4, g5, g6⟩ := p.st h
  obtain ⟨p1, p2, p3, p4, _, pl, pb, pbt, pN, p7, pm, p8⟩ := p
  have hz := p7 (64 * T + k) (by omega)
  unfold fX13_amount
  refine ob_v (rg_C rfl rfl) (ob_v (rg_C rfl rfl) (ob_v (rg_A rfl (by decide) _ (by omega) (by decide)) ?_))
  rw [(g6 c hc).1, n64' hq, nI_add]
  refine ob_v (rg_A rfl (by decide) _ (by omega) (by decide)) ?_
  rw [g5 _ (by omega)]
  generalize Z (64 * T + k) = z at *
  have hle : (0 : Int32) ≤ iI z ↔ 0 ≤ z := iI_le (a := 0) (by omega) (by omega) (by omega) (by omega)
  have fin : ∀ v, v = nI z.natAbs → fX13_amount_33 X (b + 24) v (rg_p lM b w0 y) = some (nI (am bits z), rg_p lM b w0 y) := by
    intro v hv
    unfold fX13_amount_33
    refine ob_v (rg_I rfl rfl) ?_
    rw [g4, hv, pk_shrN (by omega) _ bits (sm_k pbt)]
    rfl
  by_cases s : 0 ≤ z
  · exact ei_t (hle.mpr s) (fin _ (by rw [iI_nat s, show z.toNat = z.natAbs by omega]))
  · exact ei_n (fun e => s (hle.mp e)) (fin _ (by rw [iI_neg, iI_nat (by omega), show (-z).toNat = z.natAbs by omega]))
theorem m_last (p : pY y0 first last bf bits N many bs Z) (h : yW K y0 a y) {n : Nat} {a3 : Int32} (hc : c < many) (hq : bs c + q = T) (hT : 64 * T + 64 ≤ N) (hn : first + n = last + 1) : ∀ (j M i : Nat), i + j = n → j < M → fX13_writeMore_16 X M (b + 24) (nI c) (nI q) a3 (iI ((lNw bits (fun k => Z (64 * T + k)) first i : Int) - 1)) (nI (first + i)) (rg_p lM b w0 y) = fX13_writeMore_52 X (b + 24) (nI c) (nI q) a3 (iI ((lNw bits (fun k => Z (64 * T + k)) first n : Int) - 1)) (rg_p lM b w0 y) := by
  have g2 := (p.st h).2.1
  have pl := p.2.2.2.2.2.1
  intro j
  induction j with
  | zero =>
    intro M i hi hM
    obtain rfl : i = n := by omega
    obtain ⟨M, rfl⟩ : ∃ M', M = M' + 1 := ⟨M - 1, by omega⟩
    rw [fX13_writeMore_16.eq_2]
    refine ob_v (rg_I rfl rfl) ?_
    rw [g2]
    exact ei_t (nI_lt (by omega) (by omega)) rfl
  | succ j ih =>
    intro M i hi hM
    obtain ⟨M, rfl⟩ : ∃ M', M = M' + 1 := ⟨M - 1, by omega⟩
    rw [fX13_writeMore_16.eq_2]
    refine ob_v (rg_I rfl rfl) ?_
    rw [g2]
    refine ei_n (nI_nlt (by omega) (by omega)) (ob_v (rg_O rfl) (ob_v (m_amount p h hc hq hT (by omega)) ?_))
    have ha := am_le bits (Z (64 * T + (first + i)))
    have hz := p.2.2.2.2.2.2.2.2.2.1 (64 * T + (first + i)) (by have := p.2.2.2.2.2.2.2.2.1; omega)
    have e := ih M (i + 1) (by omega) (by omega)
    rw [lNw.eq_2] at e
    unfold fX13_writeMore_44
    by_cases q1 : am bits (Z (64 * T + (first + i))) = 1
    · rw [if_pos q1] at e
      refine ei_t (by show nI _ = 1; rw [q1]; rfl) ?_
      rw [nI_1]
      refine Eq.trans ?_ e
      congr 1
      rw [iI_n]
      congr 1
      omega
    · rw [if_neg q1] at e
      refine ei_n (fun e => q1 ((nI_eq (b := 1) (by omega) (by omega)).mp e)) ?_
      rw [nI_1]
      exact e
theorem m_m96 (S : sY K y0) (ht : t < 8) {k66 : Nat → Int32 → Int32 → Int32 → Int32 → Int32 → Int32 → px_W → Option (px_W)} {a1 a2 a4 a6 a7 : Int32} {R N' m : Nat} (hR : R ≤ 32767) (hN : N' ≤ 1024) (hm : m ≤ 64) (hk : ¬ a4 < a6) : ∀ (n M r : Nat) (a : aS) (y : rg_S), yW K y0 a y → aB R N' m a → r < 16 → n < M → n < 1000 → inE K (m16 t n a) → ∃ y', fX13_writeMore_96 X k66 M (b + 24) a1 a2 (nI t) a4 (nI (16 * n + r)) a6 a7 (rg_p lM b w0 y) = fX13_writeMore_133 X k66 (b + 24) a1 a2 (nI t) a4 (nI r) a6 a7 (rg_p lM b w0 y') ∧ yW K y0 (m16 t n a) y' := by
  intro n
  induction n with
  | zero =>
    intro M r a y h _ hr hM _ _
    obtain ⟨M, rfl⟩ : ∃ M', M = M' + 1 := ⟨M - 1, by omega⟩
    refine ⟨y, ?_, h⟩
    rw [fX13_writeMore_96.eq_2, Nat.mul_zero, Nat.zero_add]
    exact ei_t (nI_le (b := 15) (by omega) (by omega)) rfl
  | succ n ih =>
    intro M r a y h hB hr hM hn hE
    obtain ⟨M, rfl⟩ : ∃ M', M = M' + 1 := ⟨M - 1, by omega⟩
    have g3 := gr_m16 t n (aCome (ap [eW t 240] (aSend t a)))
    obtain ⟨x1, e1, h1⟩ := m_send (X := X) (b := b) (w0 := w0) S h hR hN hB ht (hE.g ((gr_ap _ _).trans ((gr_come _).trans g3)))
    obtain ⟨x2, e2, h2⟩ := m_w (X := X) (b := b) (w0 := w0) S h1 ht (s := 240) (by decide) (hE.g ((gr_come _).trans g3))
    have b2 : aB R N' m (ap [eW t 240] (aSend t a)) := aB_ap _ (aB_send t hB)
    obtain ⟨x3, e3, h3⟩ := m_come (X := X) (b := b) (w0 := w0) S h2 hm b2
    obtain ⟨x4, e4, h4⟩ := ih M r _ x3 h3 ((aB_come b2).m (Nat.le_refl _) (Nat.le_refl _) (Nat.zero_le _)) hr (by omega) (by omega) hE
    refine ⟨x4, ?_, h4⟩
    rw [fX13_writeMore_96.eq_2]
    refine ei_n (nI_ge (a := 15) (by omega) (by omega)) (ei_n hk (ob_v (rg_O rfl) (ob_v e1 (ob_v (rg_O rfl) (ob_v e2 (ob_v (rg_O rfl) (ob_v e3 ?_)))))))
    rw [show 16 * (n + 1) + r = 16 * n + r + 16 by omega, nI_m16]
    exact e4
theorem m_mSt (S : sY K y0) (p : pY y0 first last bf bits N many bs Z) {r : Nat × aS} {k M ln m : Nat} (h : yW K y0 r.2 y) (hB : aB 32766 900 m r.2) (hm : m < 64) (hr : r.1 ≤ 64) (hc : c < many) (hq : bs c + q = T) (hT : 64 * T + 64 ≤ N) (hk : k ≤ last) (hln : ln ≤ 64) (h1n : am bits (Z (64 * T + k)) = 1 → k < ln) (ht : t < 8) (hE : inE K (mSt t bits ln k (Z (64 * T + k)) r).2) : ∃ y', fX13_writeMore_66 X (M + 1) (b + 24) (nI c) (nI q) (nI t) (iI ((ln : Int) - 1)) (nI r.1) (nI k) (rg_p lM b w0 y) = fX13_writeMore_66 X M (b + 24) (nI c) (nI q) (nI t) (iI ((ln : Int) - 1)) (nI (mSt t bits ln k (Z (64 * T + k)) r).1) (nI (k + 1)) (rg_p lM b w0 y') ∧ yW K y0 (mSt t bits ln k (Z (64 * T + k)) r).2 y' := by
  obtain ⟨g1, g2, g3, g4, g5, g6⟩ := p.st h
  have ea := m_amount (X := X) (b := b) (w0 := w0) p h hc hq hT hk
  have pst := fun y2 (h2 : yW K y0 (ap [eW t (16 * (mQ t ln k r).1 + 1)] (aSend t (mQ t ln k r).2)) y2) => p.st h2
  obtain ⟨p1, p2, p3, p4, _, pl, pb, pbt, pN, p7, pm, p8⟩ := p
  have hz := p7 (64 * T + k) (by omega)
  have ha := am_le bits (Z (64 * T + k))
  have start : ∀ s, (if nI (am bits (Z (64 * T + k))) = 0 then fX13_writeMore_221 X (fX13_writeMore_66 X M) (b + 24) (nI c) (nI q) (nI t) (iI ((ln : Int) - 1)) (nI r.1 + 1) (nI k) (rg_p lM b w0 y) else fX13_writeMore_96 X (fX13_writeMore_66 X M) FU (b + 24) (nI c) (nI q) (nI t) (iI ((ln : Int) - 1)) (nI r.1) (nI k) (nI (am bits (Z (64 * T + k)))) (rg_p lM b w0 y)) = s → fX13_writeMore_66 X (M + 1) (b + 24) (nI c) (nI q) (nI t) (iI ((ln : Int) - 1)) (nI r.1) (nI k) (rg_p lM b w0 y) = s := by
    intro s hs
    rw [fX13_writeMore_66.eq_2]
    refine ob_v (rg_I rfl rfl) ?_
    rw [g2]
    exact ei_n (nI_nlt hk (by omega)) (ob_v (rg_O rfl) (ob_v ea hs))
  have rdz : ∀ y2, yW K y0 (ap [eW t (16 * (mQ t ln k r).1 + 1)] (aSend t (mQ t ln k r).2)) y2 → y2.2.2.1 32 (64 * T + k) = iI (Z (64 * T + k)) ∧ y2.2.2.1 31 c = nI (bs c) := fun y2 h2 => ⟨(pst y2 h2).2.2.2.2.1 _ (by omega), ((pst y2 h2).2.2.2.2.2 c hc).1⟩
  clear pst
  unfold mSt at hE ⊢
  generalize Z (64 * T + k) = z at *
  obtain ⟨FU', hFU⟩ : ∃ m', FU = m' + 1 := ⟨3999999, rfl⟩
  by_cases e0 : am bits z = 0
  · rw [if_pos e0] at hE ⊢
    refine ⟨y, start _ (ei_t (by rw [e0]; rfl) ?_), h⟩
    unfold fX13_writeMore_221
    rw [nI_1, nI_1]
  · rw [if_neg e0] at hE ⊢
    have hu : 0 < am bits z := Nat.pos_of_ne_zero e0
    obtain ⟨qb, ql, q16⟩ := mQ_b (t := t) (l := ln) (k := k) hB
    have hlt : iI ((ln : Int) - 1) < nI k ↔ ¬ k < ln := by
      rw [iI_n, iI_lt (by omega) (by omega) (by omega) (by omega)]
      omega
    have gq : gr (mQ t ln k r).2 (if am bits z = 1 then (0, aCome (ap [eV (if z < 0 then nI 0 else nI 1) 1] (ap [eW t (16 * (mQ t ln k r).1 + 1)] (aSend t (mQ t ln k r).2)))) else ((mQ t ln k r).1, aPush (am bits z % 2) (mQ t ln k r).2)).2 := by
      split
      · exact (gr_send t _).trans ((gr_ap _ _).trans ((gr_ap _ _).trans (gr_come _)))
      · exact gr_push _ _
    obtain ⟨x1, e1, h1⟩ : ∃ x1, fX13_writeMore_96 X (fX13_writeMore_66 X M) FU (b + 24) (nI c) (nI q) (nI t) (iI ((ln : Int) - 1)) (nI r.1) (nI k) (nI (am bits z)) (rg_p lM b w0 y) = fX13_writeMore_133 X (fX13_writeMore_66 X M) (b + 24) (nI c) (nI q) (nI t) (iI ((ln : Int) - 1)) (nI (mQ t ln k r).1) (nI k) (nI (am bits z)) (rg_p lM b w0 x1) ∧ yW K y0 (mQ t ln k r).2 x1 := by
      have hEq := hE.g gq
      unfold mQ at hEq ⊢
      by_cases kl : k < ln
      · rw [if_pos kl] at hEq ⊢
        have := m_m96 (X := X) (b := b) (w0 := w0) S ht (k66 := fX13_writeMore_66 X M) (a1 := nI c) (a2 := nI q) (a4 := iI ((ln : Int) - 1)) (a6 := nI k) (a7 := nI (am bits z)) (R := 32766) (N' := 900) (m := m) (by decide) (by decide) (by omega) (fun e => hlt.mp e kl) (r.1 / 16) FU (r.1 % 16) r.2 y h hB (by omega) (by unfold FU; omega) (by omega) hEq
        rw [show 16 * (r.1 / 16) + r.1 % 16 = r.1 by omega] at this
        exact this
      · rw [if_neg kl]
        refine ⟨y, ?_, h⟩
        rw [hFU, fX13_writeMore_96.eq_2]
        by_cases z15 : r.1 ≤ 15
        · exact ei_t (nI_le (b := 15) z15 (by omega)) rfl
        · exact ei_n (nI_ge (a := 15) (by omega) (by omega)) (ei_t (hlt.mpr kl) rfl)
    clear gq
    generalize mQ t ln k r = s at *
    by_cases e1u : am bits z = 1
    · rw [if_pos e1u] at hE ⊢
      have r16 := q16 (h1n e1u)
      obtain ⟨x2, e2, h2⟩ := m_send (X := X) (b := b) (w0 := w0) S h1 (by decide) (by decide) qb ht (hE.g ((gr_ap _ _).trans ((gr_ap _ _).trans (gr_come _))))
      obtain ⟨x3, e3, h3⟩ := m_w (X := X) (b := b) (w0 := w0) S h2 ht (s := 16 * s.1 + 1) (by omega) (hE.g ((gr_ap _ _).trans (gr_come _)))
      obtain ⟨x4, e4, h4⟩ := m_b (X := X) (b := b) (w0 := w0) S h3 (if z < 0 then nI 0 else nI 1)
      have b4 : aB 32766 900 m (ap [eV (if z < 0 then nI 0 else nI 1) 1] (ap [eW t (16 * s.1 + 1)] (aSend t s.2))) := aB_ap _ (aB_ap _ (aB_send t qb))
      obtain ⟨x5, e5, h5⟩ := m_come (X := X) (b := b) (w0 := w0) S h4 (by omega) b4
      refine ⟨x5, start _ (ei_n (nI_ne0 hu (by omega)) (e1.trans ?_)), h5⟩
      have hle : (0 : Int32) ≤ iI z ↔ 0 ≤ z := iI_le (a := 0) (by omega) (by omega) (by omega) (by omega)
      have fin : ∀ v, v = nI (vb (if z < 0 then nI 0 else nI 1) 0) → fX13_writeMore_211 X (fX13_writeMore_66 X M) (b + 24) (nI c) (nI q) (nI t) (iI ((ln : Int) - 1)) (nI k) v (b + 24) (rg_p lM b w0 x3) = fX13_writeMore_66 X M (b + 24) (nI c) (nI q) (nI t) (iI ((ln : Int) - 1)) (nI 0) (nI (k + 1)) (rg_p lM b w0 x5) := by
        intro v hv
        unfold fX13_writeMore_211 fX13_writeMore_221
        rw [hv, nI_1]
        exact ob_v (rg_O rfl) (ob_v e4 (ob_v (rg_O rfl) (ob_v e5 rfl)))
      obtain ⟨r1, r2⟩ := rdz x3 h3
      unfold fX13_writeMore_133
      rw [e1u, show (16 : Int32) = nI 16 from rfl, pk_mul, nI_1 (16 * s.1)]
      refine ei_t (by decide) (ob_v (rg_O rfl) (ob_v e2 (ob_v (rg_O rfl) (ob_v e3 (ob_v (rg_C rfl rfl) (ob_v (rg_C rfl rfl) (ob_v (rg_A rfl (by decide) _ (by omega) (by decide)) ?_)))))))
      rw [r2, n64' hq, nI_add]
      refine ob_v (rg_A rfl (by decide) _ (by omega) (by decide)) ?_
      rw [r1]
      by_cases s : 0 ≤ z
      · exact ei_t (hle.mpr s) (fin _ (by rw [if_neg (by omega)]; decide))
      · exact ei_n (fun e => s (hle.mp e)) (fin _ (by rw [if_pos (by omega)]; decide))
    · rw [if_neg e1u] at hE ⊢
      obtain ⟨v1, v2, v3, v4, v5, v6⟩ := h1.2.2.2
      have tcl := qb.2.2.1
      have ea : nI (am bits z) &&& 1 = nI (am bits z % 2) := pk_andN (by omega) 1 (by decide)
      have eb2 : vp_nar .byte ((nI (am bits z % 2)).toInt8.toInt32) = nI (am bits z % 2) := by
        rcases (show am bits z % 2 = 0 ∨ am bits z % 2 = 1 by omega) with e | e <;> rw [e] <;> rfl
      refine ⟨rg_wI (rg_wA x1 46 (upd (x1.2.2.1 46) s.2.2.2.2.1.length (nI (am bits z % 2)))) 24 42 (nI (s.2.2.2.2.1.length + 1)), start _ (ei_n (nI_ne0 hu (by omega)) (e1.trans ?_)), ?_⟩
      · unfold fX13_writeMore_133
        refine ei_n (nI_ge (a := 1) (by omega) (by omega)) (ob_v (rg_C rfl rfl) (ob_v (rg_I rfl rfl) ?_))
        rw [v3, ea]
        refine ob_v (rg_sA _ rfl (by decide) _ _ (by omega) (by decide)) (ob_v (rg_I rfl rfl) ?_)
        rw [wA_1, v3, nI_1, eb2]
        refine ob_v (rg_pI rfl rfl _) ?_
        unfold fX13_writeMore_221
        rw [nI_1]
      · refine yW_f h1 (fun p k hp => ?_) rfl (fun p _ _ p1 => ?_) rfl rfl ⟨?_, ?_, ?_, v4, ?_, v6⟩
        · rw [wI_n _ _ (by omega), wA_1]
        · rw [wI_2, wA_n _ _ p1]
        · rw [wI_n _ _ (by omega), wA_1]; exact v1
        · rw [wI_n _ _ (by omega), wA_1]; exact v2
        · rw [wI_s]
          show _ = nI (s.2.2.2.2.1 ++ [_]).length
          rw [List.length_append, List.length_singleton]
        · show lst ((rg_wA x1 46 _).2.2.1 46) _
          rw [wA_s]
          exact lst_snoc v5
theorem m_m66 (S : sY K y0) (p : pY y0 first last bf bits N many bs Z) {n ln : Nat} (hB : aB 32766 900 0 a) (hc : c < many) (hq : bs c + q = T) (hT : 64 * T + 64 ≤ N) (hn : first + n = last + 1) (hln : lNw bits (fun k => Z (64 * T + k)) first n = ln) (ht : t < 8) (hE : inE K (mLp t bits ln (fun k => Z (64 * T + k)) first a n).2) : ∀ (j M i : Nat) (y : rg_S), i + j = n → j < M → yW K y0 (mLp t bits ln (fun k => Z (64 * T + k)) first a i).2 y → ∃ y', fX13_writeMore_66 X M (b + 24) (nI c) (nI q) (nI t) (iI ((ln : Int) - 1)) (nI (mLp t bits ln (fun k => Z (64 * T + k)) first a i).1) (nI (first + i)) (rg_p lM b w0 y) = fX13_writeMore_227 X (b + 24) (nI t) (nI (mLp t bits ln (fun k => Z (64 * T + k)) first a n).1) (rg_p lM b w0 y') ∧ yW K y0 (mLp t bits ln (fun k => Z (64 * T + k)) first a n).2 y' := by
  have pl := p.2.2.2.2.2.1
  have hlt := fun i hi => lNw_lt (bits := bits) (fr := first) (Z := fun k => Z (64 * T + k)) (n := n) (i := i) hi
  have hle := lNw_le (bits := bits) (fr := first) (Z := fun k => Z (64 * T + k)) (n := n)
  rw [hln] at hlt hle
  intro j
  induction j with
  | zero =>
    intro M i y hi hM h
    obtain rfl : i = n := by omega
    obtain ⟨M, rfl⟩ : ∃ M', M = M' + 1 := ⟨M - 1, by omega⟩
    refine ⟨y, ?_, h⟩
    rw [fX13_writeMore_66.eq_2]
    refine ob_v (rg_I rfl rfl) ?_
    rw [(p.st h).2.1]
    exact ei_t (nI_lt (by omega) (by omega)) rfl
  | succ j ih =>
    intro M i y hi hM h
    obtain ⟨M, rfl⟩ : ∃ M', M = M' + 1 := ⟨M - 1, by omega⟩
    obtain ⟨b1, b2⟩ := mLp_b (t := t) (bits := bits) (l := ln) (fr := first) (Z := fun k => Z (64 * T + k)) hB i
    have g := gr_mLp t bits ln (fun k => Z (64 * T + k)) first a (i + 1) j
    rw [show i + 1 + j = n by omega] at g
    by_cases i64 : i < 64
    · obtain ⟨x1, e1, h1⟩ := m_mSt (X := X) (b := b) (w0 := w0) (M := M) S p h b2 i64 (by omega) hc hq hT (k := first + i) (by omega) (ln := ln) (by omega) (hlt i (by omega)) ht (hE.g g)
      obtain ⟨x2, e2, h2⟩ := ih M (i + 1) x1 (by omega) (by omega) h1
      exact ⟨x2, e1.trans e2, h2⟩
    · omega
theorem m_more (S : sY K y0) (p : pY y0 first last bf bits N many bs Z) (h : yW K y0 a y) (hB : aB 32766 900 0 a) (hc : c < many) (hq : bs c + q = T) (hT : 64 * T + 64 ≤ N) (hE : inE K (aMore first last bits (4 + c) (fun k => Z (64 * T + k)) a)) : ∃ y', fX13_writeMore X (rg_p lM b w0 y) (b + 24) (nI c) (nI q) = some (rg_p lM b w0 y') ∧ yW K y0 (aMore first last bits (4 + c) (fun k => Z (64 * T + k)) a) y' := by
  have pl := p.2.2.2.2.2.1
  have pf := p.2.2.2.2.1
  have pm := p.2.2.2.2.2.2.2.2.2.2.1
  have ht : 4 + c < 8 := by omega
  obtain ⟨g1, g2, g3, g4, g5, g6⟩ := p.st h
  have eL := m_last (X := X) (b := b) (w0 := w0) p h (a3 := nI (4 + c)) hc hq hT (n := last + 1 - first) (by omega) (last + 1 - first) FU 0 (by omega) (by unfold FU; omega)
  obtain ⟨v1, v2, v3, v4, v5, v6⟩ := h.2.2.2
  have tc0 : a.2.2.2.1 = [] := List.eq_nil_of_length_eq_zero (Nat.le_zero.mp hB.2.2.1)
  rw [tc0] at v3
  have ey : rg_wI y 24 42 0 = y := wI_id v3
  obtain ⟨x1, e1, h1⟩ := m_m66 (X := X) (b := b) (w0 := w0) S p (n := last + 1 - first) hB hc hq hT (by omega) rfl ht (hE.g (gr_mEnd _ _)) _ FU 0 y (Nat.zero_add _) (by unfold FU; omega) h
  obtain ⟨b1, b2⟩ := mLp_b (t := 4 + c) (bits := bits) (l := lNw bits (fun k => Z (64 * T + k)) first (last + 1 - first)) (fr := first) (Z := fun k => Z (64 * T + k)) hB (last + 1 - first)
  have st : ∀ r, fX13_writeMore_227 X (b + 24) (nI (4 + c)) (nI (mLp (4 + c) bits (lNw bits (fun k => Z (64 * T + k)) first (last + 1 - first)) (fun k => Z (64 * T + k)) first a (last + 1 - first)).1) (rg_p lM b w0 x1) = r → fX13_writeMore X (rg_p lM b w0 y) (b + 24) (nI c) (nI q) = r := by
    intro r hr
    unfold fX13_writeMore
    refine ob_v (rg_C rfl rfl) (ob_v (rg_A rfl (by decide) _ (by omega) (by decide)) (ob_v (rg_I rfl rfl) ?_))
    rw [g1, (g6 c hc).2.2]
    refine (show fX13_writeMore_16 X FU (b + 24) (nI c) (nI q) (nI (4 + c)) (-1) (nI first) _ = _ from eL).trans ?_
    unfold fX13_writeMore_52
    refine ob_v (rg_pI rfl rfl _) (ob_v (rg_I rfl rfl) ?_)
    rw [ey, g1]
    exact e1.trans hr
  unfold aMore at hE ⊢
  generalize mLp (4 + c) bits (lNw bits (fun k => Z (64 * T + k)) first (last + 1 - first)) (fun k => Z (64 * T + k)) first a (last + 1 - first) = r at *
  have b3 : aB 32766 900 64 r.2 := b2.m (Nat.le_refl _) (Nat.le_refl _) (by omega)
  obtain ⟨v1, v2, v3, _⟩ := h1.2.2.2
  unfold mEnd at hE ⊢
  by_cases q0 : r.1 = 0 ∧ r.2.2.2.2.1 = []
  · rw [if_pos q0] at hE ⊢
    refine ⟨x1, st _ ?_, h1⟩
    unfold fX13_writeMore_227
    refine ei_n (by rw [q0.1]; decide) (ob_v (rg_I rfl rfl) ?_)
    rw [v3, q0.2]
    exact ei_t (by decide) rfl
  · rw [if_neg q0] at hE ⊢
    obtain ⟨x2, e2, h2⟩ := m_long (X := X) (b := b) (w0 := w0) S h1 b3 ht hE
    refine ⟨x2, st _ ?_, h2⟩
    unfold fX13_writeMore_227
    by_cases q1 : r.1 = 0
    · refine ei_n (by rw [q1]; decide) (ob_v (rg_I rfl rfl) ?_)
      rw [v3]
      have : 0 < r.2.2.2.2.1.length := List.length_pos_iff.mpr (fun e => q0 ⟨q1, e⟩)
      have := b3.2.2.1
      exact ei_n (nI_nle (by omega) (by omega)) e2
    · exact ei_t (nI_lt (a := 0) (by omega) (by omega)) e2
/-- a whole block -/
theorem m_blk (S : sY K y0) (p : pY y0 first last bf bits N many bs Z) (h : yW K y0 a y) (hI : aIv first bf a) (hff : first = 0 → 0 < last → bf = 0) (hc : c < many) (hq : bs c + q = T) (hT : 64 * T + 64 ≤ N) (hE : inE K (aBlk first last bf bits c (fun k => Z (64 * T + k)) a)) : ∃ y', fX13_writeBlock X (rg_p lM b w0 y) (b + 24) (nI c) (nI q) = some (rg_p lM b w0 y') ∧ yW K y0 (aBlk first last bf bits c (fun k => Z (64 * T + k)) a) y' := by
  have pl := p.2.2.2.2.2.1
  have pb := p.2.2.2.2.2.2.1
  have pN := p.2.2.2.2.2.2.2.2.1
  have pz := p.2.2.2.2.2.2.2.2.2.1 (64 * T) (by omega)
  obtain ⟨g1, g2, g3, g4, g5, g6⟩ := p.st h
  have gE : gr (if first = 0 then aDir bf bits c (Z (64 * T + 0)) a else a) (aBlk first last bf bits c (fun k => Z (64 * T + k)) a) := by
    show gr _ (if last = 0 then (if first = 0 then aDir bf bits c (Z (64 * T + 0)) a else a) else if bf = 0 then aOth first last bits (4 + c) (fun k => Z (64 * T + k)) (if first = 0 then aDir bf bits c (Z (64 * T + 0)) a else a) else aMore first last bits (4 + c) (fun k => Z (64 * T + k)) (if first = 0 then aDir bf bits c (Z (64 * T + 0)) a else a))
    generalize (if first = 0 then aDir bf bits c (Z (64 * T + 0)) a else a) = a1
    split
    · exact gr.rfl
    · split
      · exact gr_oth _ _ _ _ _ _
      · exact gr_more _ _ _ _ _ _
  have I1 : aIv first bf (if first = 0 then aDir bf bits c (Z (64 * T + 0)) a else a) := by
    split
    · refine ⟨pr_dir hI.1 (div_b bits pz.2.1 pz.2.2), fun e => ?_, fun e => ?_⟩
      · rw [dir_2.1]; exact hI.2.1 e
      · rw [dir_2.2.1]; exact hI.2.2 e
    · exact hI
  obtain ⟨x1, e1, h1⟩ : ∃ x1, fX13_writeBlock X (rg_p lM b w0 y) (b + 24) (nI c) (nI q) = fX13_writeBlock_13 X (b + 24) (nI c) (nI q) (rg_p lM b w0 x1) ∧ yW K y0 (if first = 0 then aDir bf bits c (Z (64 * T + 0)) a else a) x1 := by
    have hE1 := hE.g gE
    unfold fX13_writeBlock
    by_cases f0 : first = 0
    · rw [if_pos f0] at hE1 ⊢
      obtain ⟨x1, e1, h1⟩ := m_dir (X := X) (b := b) (w0 := w0) S p h hI.1 hc hq hT hE1
      refine ⟨x1, ob_v (rg_I rfl rfl) (ei_t (by rw [g1, f0]; rfl) (ob_v (rg_O rfl) (ob_v e1 rfl))), h1⟩
    · rw [if_neg f0]
      refine ⟨y, ob_v (rg_I rfl rfl) (ei_n ?_ rfl), h⟩
      rw [g1]
      exact nI_ne0 (by omega) (by have := p.2.2.2.2.1; omega)
  unfold aBlk at hE ⊢
  generalize (if first = 0 then aDir bf bits c (Z (64 * T + 0)) a else a) = a1 at *
  obtain ⟨k1, k2, k3, k4, k5, k6⟩ := p.st h1
  by_cases l0 : last = 0
  · rw [if_pos l0] at hE ⊢
    refine ⟨x1, e1.trans ?_, h1⟩
    unfold fX13_writeBlock_13 fX13_writeBlock_51
    refine ob_v (rg_I rfl rfl) (ei_t (by rw [k2, l0]; decide) (ob_v (rg_I rfl rfl) (ei_t (by rw [k2, l0]; decide) rfl)))
  · rw [if_neg l0] at hE ⊢
    have nl : ¬ nI last ≤ 0 := nI_nle (by omega) (by omega)
    by_cases b0 : bf = 0
    · rw [if_pos b0] at hE ⊢
      obtain ⟨x2, e2, h2⟩ := m_oth (X := X) (b := b) (w0 := w0) S p h1 I1.1 (I1.2.2 b0) I1.2.1 hc hq hT (by omega) hE
      refine ⟨x2, e1.trans ?_, h2⟩
      unfold fX13_writeBlock_13 fX13_writeBlock_45
      refine ob_v (rg_I rfl rfl) ?_
      rw [k2]
      refine ei_n nl (ob_v (rg_I rfl rfl) (ei_t (by rw [k3, b0]; rfl) (ob_v (rg_I rfl rfl) ?_)))
      rw [k1]
      by_cases f0 : first = 0
      · rw [f0] at e2 ⊢
        exact ei_t rfl (ob_v (rg_O rfl) (ob_v e2 rfl))
      · have := p.2.2.2.2.1
        rw [Nat.max_eq_right (by omega)] at e2
        refine ei_n (nI_ne0 (by omega) (by omega)) (ob_v (rg_I rfl rfl) ?_)
        rw [k1]
        exact ob_v (rg_O rfl) (ob_v e2 rfl)
    · rw [if_neg b0] at hE ⊢
      obtain ⟨x2, e2, h2⟩ := m_more (X := X) (b := b) (w0 := w0) S p h1 I1.1 hc hq hT hE
      refine ⟨x2, e1.trans ?_, h2⟩
      unfold fX13_writeBlock_13 fX13_writeBlock_51
      refine ob_v (rg_I rfl rfl) ?_
      rw [k2]
      refine ei_n nl (ob_v (rg_I rfl rfl) ?_)
      rw [k3]
      refine ei_n (nI_ne0 (by omega) (by omega)) (ob_v (rg_I rfl rfl) ?_)
      rw [k2]
      exact ei_n nl (ob_v (rg_O rfl) (ob_v e2 rfl))
end
