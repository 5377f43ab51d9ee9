/-! blocks of the class: the others, made finer; a whole block -/
section
variable {X : px_X} {b B : Nat} {w0 w1 : px_W} {x x' x0 y : rg_S} {o t s n c T P first last bf bits N : Nat} {K : kS} {L0 : List Int32} {a a' : aS} {Z : Nat → Int}
theorem x_last (S : sX K o x0) (p : pX x0 P first last bf bits N Z) (h : xW K o L0 x0 a x) (hf : 1 ≤ first) (hT : 64 * T + 64 ≤ N) : ∀ (j M : Nat), first + j ≤ last + 1 → j < M → fX7_lastNewOne_8 X M (B + 195) (nI (64 * T)) (nI (first + j - 1)) (rg_p lX B w0 x) = some (nI (max (lNw bits (fun k => Z (64 * T + k)) first j) first - 1), rg_p lX B w0 x) := by
  obtain ⟨g1, g2, g3, g4, g5, g6⟩ := p.st S h
  obtain ⟨p1, p2, p3, p4, p5, p6, _, pl, pb, pbt, pN, p7⟩ := p
  intro j
  induction j with
  | zero =>
    intro M hj hM
    obtain ⟨M, rfl⟩ : ∃ M', M = M' + 1 := ⟨M - 1, by omega⟩
    rw [fX7_lastNewOne_8.eq_2]
    refine ob_v (rg_C rfl rfl) (ob_v (rg_I rfl rfl) ?_)
    rw [g2]
    refine ei_t (nI_lt (by omega) (by omega)) ?_
    rw [show lNw bits (fun k => Z (64 * T + k)) first 0 = 0 from rfl, Nat.max_eq_right (Nat.zero_le _)]
    rfl
  | succ j ih =>
    intro M hj hM
    obtain ⟨M, rfl⟩ : ∃ M', M = M' + 1 := ⟨M - 1, by omega⟩
    have hz := p7 (64 * T + (first + j)) (by omega)
    have eam := am_x (n := bits) (z := Z (64 * T + (first + j))) (by omega) pbt
    have ha := am_le bits (Z (64 * T + (first + j)))
    rw [fX7_lastNewOne_8.eq_2, show first + (j + 1) - 1 = first + j by omega, lNw.eq_2]
    refine ob_v (rg_C rfl rfl) (ob_v (rg_I rfl rfl) ?_)
    rw [g2, nI_add]
    refine ei_n (nI_nlt (by omega) (by omega)) (ob_v (gPic p1 g1) (ob_v (rg_C p1.o rfl) (ob_v (rg_A p1.a6 (by decide) _ (by omega) (by decide)) (ob_v (rg_C rfl rfl) (ob_v (rg_I rfl rfl) ?_)))))
    rw [g6 _ (by omega), g5, eam]
    by_cases q : am bits (Z (64 * T + (first + j))) = 1
    · rw [if_pos q]
      refine ei_t (by rw [q]; rfl) ?_
      rw [Nat.max_eq_left (by omega)]
      rfl
    · rw [if_neg q]
      refine ei_n (fun e => q ((nI_eq (b := 1) (by omega) (by omega)).mp e)) ?_
      rw [nI_m1 (by omega)]
      exact ih M (by omega) (by omega)
theorem x_m59 (S : sX K o x0) (ht : t < 8) (hU : K.U t) {k18 : Nat → Int32 → Nat → Int32 → Int32 → Int32 → px_W → Option (px_W)} {a1 a6 : Int32} {l k u R N' m : Nat} (hR : R ≤ 32767) (hN : N' ≤ 1024) (hm : m ≤ 64) (hu : 0 < u) (hu2 : u < 65536) (hk : k ≤ l) (hl : l < 65536) : ∀ (n M r : Nat) (a : aS) (x : rg_S), xW K o L0 x0 a x → aB R N' m a → r < 16 → n < M → n < 1000 → inE K (m16 t n a) → ∃ x', fX7_refineOthers_59 X k18 M (B + 195) a1 (B + (115 + 10 * t)) (nI l) (nI (16 * n + r)) (nI k) a6 (nI u) (rg_p lX B w0 x) = fX7_refineOthers_100 X k18 (B + 195) a1 (B + (115 + 10 * t)) (nI l) (nI r) (nI k) a6 (nI u) (rg_p lX B w0 x') ∧ xW K o L0 x0 (m16 t n a) x' := by
  intro n
  induction n with
  | zero =>
    intro M r a x h _ hr hM _ _
    obtain ⟨M, rfl⟩ : ∃ M', M = M' + 1 := ⟨M - 1, by omega⟩
    refine ⟨x, ?_, h⟩
    rw [fX7_refineOthers_59.eq_2, Nat.mul_zero, Nat.zero_add]
    exact ei_n (nI_nle hu (by omega)) (ei_t (nI_le (b := 15) (by omega) (by omega)) rfl)
  | succ n ih =>
    intro M r a x h hB hr hM hn hE
    obtain ⟨M, rfl⟩ : ∃ M', M = M' + 1 := ⟨M - 1, by omega⟩
    have g3 := gr_m16 t n (aCome (ap [eW t 240] (aSend t a)))
    obtain ⟨x1, e1, h1⟩ := x_send (X := X) (B := B) (w0 := w0) S h hR hN hB ht hU (hE.g ((gr_ap _ _).trans ((gr_come _).trans g3)))
    obtain ⟨x2, e2, h2⟩ := x_w (X := X) (B := B) (w0 := w0) S h1 ht (s := 240) (by decide) hU (hE.g ((gr_come _).trans g3))
    have b2 : aB R N' m (ap [eW t 240] (aSend t a)) := aB_ap _ (aB_send t hB)
    obtain ⟨x3, e3, h3⟩ := x_come (X := X) (B := B) (w0 := w0) S h2 (Nat.le_trans b2.2.2.1 hm)
    obtain ⟨x4, e4, h4⟩ := ih M r _ x3 h3 ((aB_come b2).m (Nat.le_refl _) (Nat.le_refl _) (Nat.zero_le _)) hr (by omega) (by omega) hE
    refine ⟨x4, ?_, h4⟩
    rw [fX7_refineOthers_59.eq_2]
    refine ei_n (nI_nle hu (by omega)) (ei_n (nI_ge (a := 15) (by omega) (by omega)) (ei_n (nI_nlt hk (by omega)) (ob_v (rg_O rfl) (ob_v e1 (ob_v (rg_O rfl) (ob_v e2 (ob_v (rg_O rfl) (ob_v e3 ?_))))))))
    rw [show 16 * (n + 1) + r = 16 * n + r + 16 by omega, nI_m16]
    exact e4
/-- one turn; l is the place of the last new one, or one before the first -/
theorem x_mSt (S : sX K o x0) (p : pX x0 P first last bf bits N Z) {q : Nat × aS} {k M ln m : Nat} (h : xW K o L0 x0 q.2 x) (hB : aB 32766 900 m q.2) (hm : m < 64) (hq : q.1 ≤ 64) (hT : 64 * T + 64 ≤ N) (hf : first ≤ k) (hf1 : 1 ≤ first) (hk : k ≤ last) (hln : ln ≤ 64) (h1n : am bits (Z (64 * T + k)) = 1 → k < ln) (ht : t < 8) (hU : K.U t) (hE : inE K (mSt t bits ln k (Z (64 * T + k)) q).2) : ∃ x', fX7_refineOthers_18 X (M + 1) (B + 195) (nI (64 * T)) (B + (115 + 10 * t)) (nI (max ln first - 1)) (nI q.1) (nI k) (rg_p lX B w0 x) = fX7_refineOthers_18 X M (B + 195) (nI (64 * T)) (B + (115 + 10 * t)) (nI (max ln first - 1)) (nI (mSt t bits ln k (Z (64 * T + k)) q).1) (nI (k + 1)) (rg_p lX B w0 x') ∧ xW K o L0 x0 (mSt t bits ln k (Z (64 * T + k)) q).2 x' := by
  obtain ⟨g1, g2, g3, g4, g5, g6⟩ := p.st S h
  obtain ⟨p1, p2, p3, p4, p5, p6, _, pl, pb, pbt, pN, p7⟩ := p
  have hz := p7 (64 * T + k) (by omega)
  have ha := am_le bits (Z (64 * T + k))
  have eam := am_x (n := bits) (z := Z (64 * T + k)) (by omega) pbt
  have start : ∀ r, fX7_refineOthers_59 X (fX7_refineOthers_18 X M) FU (B + 195) (nI (64 * T)) (B + (115 + 10 * t)) (nI (max ln first - 1)) (nI q.1) (nI k) (iI (Z (64 * T + k))) (nI (am bits (Z (64 * T + k)))) (rg_p lX B w0 x) = r → fX7_refineOthers_18 X (M + 1) (B + 195) (nI (64 * T)) (B + (115 + 10 * t)) (nI (max ln first - 1)) (nI q.1) (nI k) (rg_p lX B w0 x) = r := by
    intro r hr
    rw [fX7_refineOthers_18.eq_2]
    refine ob_v (rg_C rfl rfl) (ob_v (rg_I rfl rfl) ?_)
    rw [g3, nI_add]
    refine ei_n (nI_nlt hk (by omega)) (ob_v (gPic p1 g1) (ob_v (rg_C p1.o rfl) (ob_v (rg_A p1.a6 (by decide) _ (by omega) (by decide)) (ob_v (rg_C rfl rfl) (ob_v (rg_I rfl rfl) ?_)))))
    rw [g6 _ (by omega), g5, eam]
    exact hr
  unfold mSt at hE ⊢
  generalize Z (64 * T + k) = z at *
  obtain ⟨FU', hFU⟩ : ∃ m', FU = m' + 1 := ⟨3999999, rfl⟩
  by_cases e0 : am bits z = 0
  · rw [if_pos e0] at hE ⊢
    refine ⟨x, start _ ?_, h⟩
    rw [hFU, fX7_refineOthers_59.eq_2, e0]
    refine ei_t (by decide) ?_
    unfold fX7_refineOthers_100 fX7_refineOthers_182
    rw [nI_1, nI_1]
    exact ei_t rfl rfl
  · rw [if_neg e0] at hE ⊢
    have hu : 0 < am bits z := Nat.pos_of_ne_zero e0
    obtain ⟨qb, ql, q16⟩ := mQ_b (t := t) (l := ln) (k := k) hB
    have gq : gr (mQ t ln k q).2 (if am bits z = 1 then (0, aCome (ap [eV (if z < 0 then nI 0 else nI 1) 1] (ap [eW t (16 * (mQ t ln k q).1 + 1)] (aSend t (mQ t ln k q).2)))) else ((mQ t ln k q).1, aPush (am bits z % 2) (mQ t ln k q).2)).2 := by
      split
      · exact (gr_send t _).trans ((gr_ap _ _).trans ((gr_ap _ _).trans (gr_come _)))
      · exact gr_push _ _
    obtain ⟨x1, e1, h1⟩ : ∃ x1, fX7_refineOthers_59 X (fX7_refineOthers_18 X M) FU (B + 195) (nI (64 * T)) (B + (115 + 10 * t)) (nI (max ln first - 1)) (nI q.1) (nI k) (iI z) (nI (am bits z)) (rg_p lX B w0 x) = fX7_refineOthers_100 X (fX7_refineOthers_18 X M) (B + 195) (nI (64 * T)) (B + (115 + 10 * t)) (nI (max ln first - 1)) (nI (mQ t ln k q).1) (nI k) (iI z) (nI (am bits z)) (rg_p lX B w0 x1) ∧ xW K o L0 x0 (mQ t ln k q).2 x1 := by
      have hEq := hE.g gq
      unfold mQ at hEq ⊢
      by_cases kl : k < ln
      · rw [if_pos kl] at hEq ⊢
        have := x_m59 (X := X) (B := B) (w0 := w0) S ht hU (k18 := fX7_refineOthers_18 X M) (a1 := nI (64 * T)) (a6 := iI z) (l := max ln first - 1) (k := k) (u := am bits z) (R := 32766) (N' := 900) (m := m) (by decide) (by decide) (by omega) hu (by omega) (by omega) (by omega) (q.1 / 16) FU (q.1 % 16) q.2 x h hB (by omega) (by unfold FU; omega) (by omega) hEq
        rw [show 16 * (q.1 / 16) + q.1 % 16 = q.1 by omega] at this
        exact this
      · rw [if_neg kl]
        refine ⟨x, ?_, h⟩
        rw [hFU, fX7_refineOthers_59.eq_2]
        refine ei_n (nI_nle hu (by omega)) ?_
        by_cases z15 : q.1 ≤ 15
        · exact ei_t (nI_le (b := 15) z15 (by omega)) rfl
        · exact ei_n (nI_ge (a := 15) (by omega) (by omega)) (ei_t (nI_lt (by omega) (by omega)) rfl)
    clear gq
    generalize mQ t ln k q = r at *
    by_cases e1u : am bits z = 1
    · rw [if_pos e1u] at hE ⊢
      have r16 := q16 (h1n e1u)
      obtain ⟨x2, e2, h2⟩ := x_send (X := X) (B := B) (w0 := w0) S h1 (by decide) (by decide) qb ht hU (hE.g ((gr_ap _ _).trans ((gr_ap _ _).trans (gr_come _))))
      obtain ⟨x3, e3, h3⟩ := x_w (X := X) (B := B) (w0 := w0) S h2 ht (s := 16 * r.1 + 1) (by omega) hU (hE.g ((gr_ap _ _).trans (gr_come _)))
      obtain ⟨x4, e4, h4⟩ := x_v (X := X) (B := B) (w0 := w0) S h3 (if z < 0 then nI 0 else nI 1) (n := 1) (by decide)
      have b4 : aB 32766 900 m (ap [eV (if z < 0 then nI 0 else nI 1) 1] (ap [eW t (16 * r.1 + 1)] (aSend t r.2))) := aB_ap _ (aB_ap _ (aB_send t qb))
      obtain ⟨x5, e5, h5⟩ := x_come (X := X) (B := B) (w0 := w0) S h4 (Nat.le_trans b4.2.2.1 (by omega))
      refine ⟨x5, start _ (e1.trans ?_), h5⟩
      have hle : (0 : Int32) ≤ iI z ↔ 0 ≤ z := iI_le (a := 0) (by omega) (by omega) (by omega) (by omega)
      have fin : ∀ v, v = (if z < 0 then nI 0 else nI 1) → fX7_refineOthers_171 X (fX7_refineOthers_18 X M) (B + 195) (nI (64 * T)) (B + (115 + 10 * t)) (nI (max ln first - 1)) (nI k) v (B + 195) (rg_p lX B w0 x3) = fX7_refineOthers_18 X M (B + 195) (nI (64 * T)) (B + (115 + 10 * t)) (nI (max ln first - 1)) (nI 0) (nI (k + 1)) (rg_p lX B w0 x5) := by
        intro v hv
        unfold fX7_refineOthers_171 fX7_refineOthers_182
        rw [hv, nI_1]
        exact ob_v (rg_O rfl) (ob_v e4 (ob_v (rg_O rfl) (ob_v e5 rfl)))
      unfold fX7_refineOthers_100
      rw [e1u, show (16 : Int32) = nI 16 from rfl, pk_mul, nI_1 (16 * r.1)]
      refine ei_n (by decide) (ei_t (by decide) (ob_v (rg_O rfl) (ob_v e2 (ob_v (rg_O rfl) (ob_v e3 ?_)))))
      by_cases s : 0 ≤ z
      · exact ei_t (hle.mpr s) (fin _ (by rw [if_neg (by omega)]; rfl))
      · exact ei_n (fun e => s (hle.mp e)) (fin _ (by rw [if_pos (by omega)]; rfl))
    · rw [if_neg e1u] at hE ⊢
      obtain ⟨v1, v2, v3, v4, v5, v6⟩ := h1.2.2.2
      have tcl := qb.2.2.1
      have ea : nI (am bits z) &&& 1 = nI (am bits z % 2) := pk_andN (by omega) 1 (by decide)
      refine ⟨rg_wI (rg_wA x1 197 (upd (x1.2.2.1 197) r.2.2.2.2.1.length (nI (am bits z % 2)))) 195 10 (nI (r.2.2.2.2.1.length + 1)), start _ (e1.trans ?_), ?_⟩
      · unfold fX7_refineOthers_100
        refine ei_n (nI_ne0 hu (by omega)) (ei_n (nI_ge (a := 1) (by omega) (by omega)) (ob_v (rg_C rfl rfl) (ob_v (rg_I rfl rfl) ?_)))
        rw [v3, ea]
        refine ob_v (rg_sA _ rfl (by decide) _ _ (by omega) (by decide)) (ob_v (rg_I rfl rfl) ?_)
        rw [wA_1, v3, nI_1]
        refine ob_v (rg_pI rfl rfl _) ?_
        unfold fX7_refineOthers_182
        rw [nI_1]
        rfl
      · refine xW_f h1 S.2.1 (fun p k hp => ?_) rfl (fun p _ p1 _ => ?_) rfl rfl ⟨?_, ?_, ?_, v4, ?_, v6⟩
        · rw [wI_n _ _ (by omega), wA_1]
        · rw [wI_2, wA_n _ _ p1]
        · rw [wI_n _ _ (by omega), wA_1]; exact v1
        · rw [wI_n _ _ (by omega), wA_1]; exact v2
        · rw [wI_s]
          show _ = nI (r.2.2.2.2.1 ++ [_]).length
          rw [List.length_append, List.length_singleton]
        · show lst ((rg_wA x1 197 _).2.2.1 197) _
          rw [wA_s]
          exact lst_snoc v5
theorem lNw_le {bits fr : Nat} {Z : Nat → Int} : ∀ {n : Nat}, lNw bits Z fr n ≤ fr + n
  | 0 => Nat.zero_le _
  | n + 1 => by
    rw [lNw.eq_2]
    split
    · omega
    · have := lNw_le (bits := bits) (fr := fr) (Z := Z) (n := n)
      omega
theorem x_m18 (S : sX K o x0) (p : pX x0 P first last bf bits N Z) {n : Nat} (hB : aB 32766 900 0 a) (hT : 64 * T + 64 ≤ N) (hf1 : 1 ≤ first) (hn : first + n = last + 1) (ht : t < 8) (hU : K.U t) (hE : inE K (mLp t bits (lNw bits (fun k => Z (64 * T + k)) first n) (fun k => Z (64 * T + k)) first a n).2) : ∀ (j M i : Nat) (x : rg_S), i + j = n → j < M → xW K o L0 x0 (mLp t bits (lNw bits (fun k => Z (64 * T + k)) first n) (fun k => Z (64 * T + k)) first a i).2 x → ∃ x', fX7_refineOthers_18 X M (B + 195) (nI (64 * T)) (B + (115 + 10 * t)) (nI (max (lNw bits (fun k => Z (64 * T + k)) first n) first - 1)) (nI (mLp t bits (lNw bits (fun k => Z (64 * T + k)) first n) (fun k => Z (64 * T + k)) first a i).1) (nI (first + i)) (rg_p lX B w0 x) = fX7_refineOthers_188 X (B + 195) (B + (115 + 10 * t)) (nI (mLp t bits (lNw bits (fun k => Z (64 * T + k)) first n) (fun k => Z (64 * T + k)) first a n).1) (rg_p lX B w0 x') ∧ xW K o L0 x0 (mLp t bits (lNw bits (fun k => Z (64 * T + k)) first n) (fun k => Z (64 * T + k)) first a n).2 x' := by
  have pl := p.2.2.2.2.2.2.2.1
  have hlt := fun i hi => lNw_lt (bits := bits) (fr := first) (Z := fun k => Z (64 * T + k)) (n := n) (i := i) hi
  have hle := lNw_le (bits := bits) (fr := first) (Z := fun k => Z (64 * T + k)) (n := n)
  generalize lNw bits (fun k => Z (64 * T + k)) first n = ln at *
  intro j
  induction j with
  | zero =>
    intro M i x hi hM h
    obtain rfl : i = n := by omega
    obtain ⟨M, rfl⟩ : ∃ M', M = M' + 1 := ⟨M - 1, by omega⟩
    refine ⟨x, ?_, h⟩
    rw [fX7_refineOthers_18.eq_2]
    refine ob_v (rg_C rfl rfl) (ob_v (rg_I rfl rfl) ?_)
    rw [(p.st S h).2.2.1]
    exact ei_t (nI_lt (by omega) (by omega)) rfl
  | succ j ih =>
    intro M i x hi hM h
    obtain ⟨M, rfl⟩ : ∃ M', M = M' + 1 := ⟨M - 1, by omega⟩
    obtain ⟨b1, b2⟩ := mLp_b (t := t) (bits := bits) (l := ln) (fr := first) (Z := fun k => Z (64 * T + k)) hB i
    have g := gr_mLp t bits ln (fun k => Z (64 * T + k)) first a (i + 1) j
    rw [show i + 1 + j = n by omega] at g
    obtain ⟨x1, e1, h1⟩ := x_mSt (X := X) (B := B) (w0 := w0) (M := M) S p h b2 (by omega) (by omega) hT (k := first + i) (by omega) hf1 (by omega) (ln := ln) (by omega) (hlt i (by omega)) ht hU (hE.g g)
    obtain ⟨x2, e2, h2⟩ := ih M (i + 1) x1 (by omega) (by omega) h1
    exact ⟨x2, e1.trans e2, h2⟩
theorem x_more (S : sX K o x0) (p : pX x0 P first last bf bits N Z) (h : xW K o L0 x0 a x) (hB : aB 32766 900 0 a) (hT : 64 * T + 64 ≤ N) (hf1 : 1 ≤ first) (ht : t < 8) (hU : K.U t) (hE : inE K (aMore first last bits t (fun k => Z (64 * T + k)) a)) : ∃ x', fX7_refineOthers X (rg_p lX B w0 x) (B + 195) (nI (64 * T)) (B + (115 + 10 * t)) = some (rg_p lX B w0 x') ∧ xW K o L0 x0 (aMore first last bits t (fun k => Z (64 * T + k)) a) x' := by
  have pl := p.2.2.2.2.2.2.2.1
  have pf := p.2.2.2.2.2.2.1
  obtain ⟨g1, g2, g3, g4, g5, g6⟩ := p.st S h
  have eL := x_last (X := X) (B := B) (w0 := w0) S p h hf1 hT (last + 1 - first) FU (by omega) (by unfold FU; omega)
  rw [show first + (last + 1 - first) - 1 = last by omega] at eL
  obtain ⟨x1, e1, h1⟩ := x_m18 (X := X) (B := B) (w0 := w0) S p (n := last + 1 - first) hB hT hf1 (by omega) ht hU (hE.g (gr_mEnd _ _)) _ FU 0 x (Nat.zero_add _) (by unfold FU; omega) h
  obtain ⟨b1, b2⟩ := mLp_b (t := t) (bits := bits) (l := lNw bits (fun k => Z (64 * T + k)) first (last + 1 - first)) (fr := first) (Z := fun k => Z (64 * T + k)) hB (last + 1 - first)
  have st : ∀ r, fX7_refineOthers_188 X (B + 195) (B + (115 + 10 * t)) (nI (mLp t bits (lNw bits (fun k => Z (64 * T + k)) first (last + 1 - first)) (fun k => Z (64 * T + k)) first a (last + 1 - first)).1) (rg_p lX B w0 x1) = r → fX7_refineOthers X (rg_p lX B w0 x) (B + 195) (nI (64 * T)) (B + (115 + 10 * t)) = r := by
    intro r hr
    unfold fX7_refineOthers fX7_lastNewOne
    refine ob_v (rg_O rfl) (ob_v (ob_v (rg_C rfl rfl) (ob_v (rg_I rfl rfl) (by rw [g3]; exact eL))) (ob_v (rg_C rfl rfl) (ob_v (rg_I rfl rfl) ?_)))
    rw [g2]
    exact e1.trans hr
  unfold aMore at hE ⊢
  generalize mLp t bits (lNw bits (fun k => Z (64 * T + k)) first (last + 1 - first)) (fun k => Z (64 * T + k)) first a (last + 1 - first) = q at *
  have b3 : aB 32766 900 64 q.2 := b2.m (Nat.le_refl _) (Nat.le_refl _) (by omega)
  obtain ⟨v1, v2, v3, _⟩ := h1.2.2.2
  have lng : inE K (aFull t (aLong q.2)) → ∃ x', fX7_refineOthers_200 X (B + 195) (B + (115 + 10 * t)) (rg_p lX B w0 x1) = some (rg_p lX B w0 x') ∧ xW K o L0 x0 (aFull t (aLong q.2)) x' := by
    intro hE
    obtain ⟨x2, e2, h2⟩ := x_long (X := X) (B := B) (w0 := w0) S h1 (N := 900) (by decide) b3
    obtain ⟨x3, e3, h3⟩ := x_f204 (X := X) (B := B) (w0 := w0) S h2 ((aB_long b3).m (by decide) (by decide) (Nat.le_refl _)) ht hU hE
    refine ⟨x3, ?_, h3⟩
    unfold fX7_refineOthers_200
    exact ob_v (rg_O rfl) (ob_v e2 e3)
  unfold mEnd at hE ⊢
  by_cases q0 : q.1 = 0 ∧ q.2.2.2.2.1 = []
  · rw [if_pos q0] at hE ⊢
    obtain ⟨x2, e2, h2⟩ := x_f204 (X := X) (B := B) (w0 := w0) S h1 (b3.m (by decide) (by decide) (Nat.le_refl _)) ht hU (by rw [full_id b3]; exact hE)
    rw [full_id b3] at h2
    refine ⟨x2, st _ ?_, h2⟩
    unfold fX7_refineOthers_188
    refine ei_n (by rw [q0.1]; decide) (ob_v (rg_I rfl rfl) ?_)
    rw [v3, q0.2]
    exact ei_t (by decide) e2
  · rw [if_neg q0] at hE ⊢
    obtain ⟨x2, e2, h2⟩ := lng hE
    refine ⟨x2, st _ ?_, h2⟩
    unfold fX7_refineOthers_188
    by_cases q1 : q.1 = 0
    · refine ei_n (by rw [q1]; decide) (ob_v (rg_I rfl rfl) ?_)
      rw [v3]
      have : 0 < q.2.2.2.2.1.length := List.length_pos_iff.mpr (fun e => q0 ⟨q1, e⟩)
      have := b3.2.2.1
      exact ei_n (nI_nle (by omega) (by omega)) e2
    · exact ei_t (nI_lt (a := 0) (by omega) (by omega)) e2
end
section
variable {X : px_X} {b B : Nat} {w0 w1 : px_W} {x x' x0 y : rg_S} {o t s n c T P first last bf bits N : Nat} {K : kS} {L0 : List Int32} {a a' : aS} {Z : Nat → Int}
/-- the first half of a block's turn in write, and the second -/
theorem x_blk (S : sX K o x0) (p : pX x0 P first last bf bits N Z) (h : xW K o L0 x0 a x) (hI : aIv first bf a) (hff : first = 0 → 0 < last → bf = 0) (hc : c < 4) (hT : 64 * T + 64 ≤ N) (hU : first = 0 → bf = 0 → K.U c) (hU4 : 0 < last → K.U (4 + c)) (hE : inE K (aBlk first last bf bits c (fun k => Z (64 * T + k)) a)) {k25 : Nat → Int32 → Int32 → px_W → Option (px_W)} {k73 : Nat → Int32 → Int32 → Int32 → px_W → Option (px_W)} {i u j : Int32} : ∃ x', (if nI first = 0 then (gO (rg_p lX B w0 x) (B + 195) 7).bind fun o84 => (fX7_writeDirect X (rg_p lX B w0 x) (B + 195) (nI (64 * T)) (nI c)).bind fun q85 => fX7_write_142 X k25 k73 (B + 195) i u j (nI c) (nI (64 * T)) q85 else fX7_write_142 X k25 k73 (B + 195) i u j (nI c) (nI (64 * T)) (rg_p lX B w0 x)) = k73 (B + 195) i u (j + 1) (rg_p lX B w0 x') ∧ xW K o L0 x0 (aBlk first last bf bits c (fun k => Z (64 * T + k)) a) x' := by
  have pl := p.2.2.2.2.2.2.2.1
  have pf := p.2.2.2.2.2.2.1
  have pb := p.2.2.2.2.2.2.2.2.1
  have pN := p.2.2.2.2.2.2.2.2.2.2.1
  have pz := p.2.2.2.2.2.2.2.2.2.2.2 (64 * T) (by omega)
  have gE : gr (if first = 0 then aDir bf bits c (Z (64 * T + 0)) a else a) (aBlk first last bf bits c (fun k => Z (64 * T + k)) a) := by
    show gr _ (if last = 0 then (if first = 0 then aDir bf bits c (Z (64 * T + 0)) a else a) else if bf = 0 then aOth first last bits (4 + c) (fun k => Z (64 * T + k)) (if first = 0 then aDir bf bits c (Z (64 * T + 0)) a else a) else aMore first last bits (4 + c) (fun k => Z (64 * T + k)) (if first = 0 then aDir bf bits c (Z (64 * T + 0)) a else a))
    generalize (if first = 0 then aDir bf bits c (Z (64 * T + 0)) a else a) = a1
    split
    · exact gr.rfl
    · split
      · exact gr_oth _ _ _ _ _ _
      · exact gr_more _ _ _ _ _ _
  have I1 : aIv first bf (if first = 0 then aDir bf bits c (Z (64 * T + 0)) a else a) := by
    split
    · refine ⟨pr_dir hI.1 (div_b bits pz.2.1 pz.2.2), fun e => ?_, fun e => ?_⟩
      · rw [dir_2.1]; exact hI.2.1 e
      · rw [dir_2.2.1]; exact hI.2.2 e
    · exact hI
  obtain ⟨x1, e1, h1⟩ : ∃ x1, (if nI first = 0 then (gO (rg_p lX B w0 x) (B + 195) 7).bind fun o84 => (fX7_writeDirect X (rg_p lX B w0 x) (B + 195) (nI (64 * T)) (nI c)).bind fun q85 => fX7_write_142 X k25 k73 (B + 195) i u j (nI c) (nI (64 * T)) q85 else fX7_write_142 X k25 k73 (B + 195) i u j (nI c) (nI (64 * T)) (rg_p lX B w0 x)) = fX7_write_142 X k25 k73 (B + 195) i u j (nI c) (nI (64 * T)) (rg_p lX B w0 x1) ∧ xW K o L0 x0 (if first = 0 then aDir bf bits c (Z (64 * T + 0)) a else a) x1 := by
    have hE1 := hE.g gE
    by_cases f0 : first = 0
    · rw [if_pos f0] at hE1 ⊢
      obtain ⟨x1, e1, h1⟩ := x_dir (X := X) (B := B) (w0 := w0) S p h hI.1 hc hT (hU f0) hE1
      exact ⟨x1, ei_t (by rw [f0]; rfl) (ob_v (rg_O rfl) (ob_v e1 rfl)), h1⟩
    · rw [if_neg f0]
      exact ⟨x, ei_n (nI_ne0 (by omega) (by omega)) rfl, h⟩
  unfold aBlk at hE ⊢
  generalize (if first = 0 then aDir bf bits c (Z (64 * T + 0)) a else a) = a1 at *
  obtain ⟨k1, k2, k3, k4, k5, k6⟩ := p.st S h1
  have e4 : (4 : Int32) + nI c = nI (4 + c) := nI_add 4 c
  by_cases l0 : last = 0
  · rw [if_pos l0] at hE ⊢
    refine ⟨x1, e1.trans ?_, h1⟩
    unfold fX7_write_142 fX7_write_180 fX7_write_205
    exact ob_v (rg_C rfl rfl) (ob_v (rg_I rfl rfl) (ei_t (by rw [k3, l0]; decide) (ob_v (rg_C rfl rfl) (ob_v (rg_I rfl rfl) (ei_t (by rw [k3, l0]; decide) rfl)))))
  · rw [if_neg l0] at hE ⊢
    have nl : ¬ nI last ≤ 0 := nI_nle (by omega) (by omega)
    by_cases b0 : bf = 0
    · rw [if_pos b0] at hE ⊢
      obtain ⟨x2, e2, h2⟩ := x_oth (X := X) (B := B) (w0 := w0) (t := 4 + c) S p h1 I1.1 (I1.2.2 b0) hT (by omega) (by omega) (hU4 (by omega)) hE
      refine ⟨x2, e1.trans ?_, h2⟩
      have er := x_isRef (X := X) (B := B) (w0 := w0) k4 pb
      rw [if_neg (by omega)] at er
      unfold fX7_write_142 fX7_write_180 fX7_write_205
      refine ob_v (rg_C rfl rfl) (ob_v (rg_I rfl rfl) ?_)
      rw [k3]
      refine ei_n nl (ob_v (rg_C rfl rfl) (ob_v (rg_O rfl) (ob_v er (ei_t rfl (ob_v (rg_C rfl rfl) (ob_v (rg_I rfl rfl) ?_))))))
      rw [k3, e4]
      exact ei_n nl (ob_v (rg_C rfl rfl) (ob_v (rg_Q rfl (by decide) (4 + c) (by omega) (by decide) (if_pos (by omega))) (ob_v (rg_O rfl) (ob_v e2 rfl))))
    · rw [if_neg b0] at hE ⊢
      have f1 : 1 ≤ first := by
        rcases Nat.eq_zero_or_pos first with z | z
        · exact absurd (hff z (by omega)) b0
        · exact z
      obtain ⟨x2, e2, h2⟩ := x_more (X := X) (B := B) (w0 := w0) (t := 4 + c) S p h1 I1.1 hT f1 (by omega) (hU4 (by omega)) hE
      refine ⟨x2, e1.trans ?_, h2⟩
      have er := x_isRef (X := X) (B := B) (w0 := w0) k4 pb
      rw [if_pos (by omega)] at er
      unfold fX7_write_142 fX7_write_205
      refine ob_v (rg_C rfl rfl) (ob_v (rg_I rfl rfl) ?_)
      rw [k3, e4]
      exact ei_n nl (ob_v (rg_C rfl rfl) (ob_v (rg_O rfl) (ob_v er (ei_n n10 (ob_v (rg_C rfl rfl) (ob_v (rg_Q rfl (by decide) (4 + c) (by omega) (by decide) (if_pos (by omega))) (ob_v (rg_O rfl) (ob_v e2 rfl))))))))
end
