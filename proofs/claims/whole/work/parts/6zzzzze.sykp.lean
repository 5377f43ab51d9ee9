/-! a scan is kept, by the reference -/
def scR (y : rg_S) (K nn fi la bf bb fr iv : Nat) : Prop := y.2.2.1 17 K = nI nn ∧ y.2.2.1 17 (K + 1) = nI fi ∧ y.2.2.1 17 (K + 2) = nI la ∧ y.2.2.1 17 (K + 3) = nI bf ∧ y.2.2.1 17 (K + 4) = nI bb ∧ y.2.2.1 17 (K + 5) = nI fr ∧ y.2.2.1 17 (K + 8) = nI iv
def scM (y : rg_S) (K : Nat) (mb : sg4) (i : Nat) : Prop := ∀ j, j < i → y.2.2.1 17 (K + 10 + 4 * j) = nI (mb j).1 ∧ y.2.2.1 17 (K + 11 + 4 * j) = nI (mb j).2.1 ∧ y.2.2.1 17 (K + 12 + 4 * j) = nI (mb j).2.2.1
def FYrr (y y' : rg_S) : Prop := y'.1 = y.1 ∧ y'.2.1 = y.2.1 ∧ (∀ a, a ≠ 17 → a ≠ 18 → y'.2.2.1 a = y.2.2.1 a) ∧ y'.2.2.2 = y.2.2.2
theorem FYrr.rfl {y : rg_S} : FYrr y y := ⟨Eq.refl _, Eq.refl _, fun _ _ _ => Eq.refl _, Eq.refl _⟩
theorem FYrr.trans {y y1 y2 : rg_S} (h : FYrr y y1) (h2 : FYrr y1 y2) : FYrr y y2 := ⟨h2.1.trans h.1, h2.2.1.trans h.2.1, fun a e e' => (h2.2.2.1 a e e').trans (h.2.2.1 a e e'), h2.2.2.2.trans h.2.2.2⟩
theorem FYrr.w17 {y : rg_S} {j : Nat} {v : Int32} : FYrr y (wRa y 17 j v) := ⟨Eq.refl _, Eq.refl _, fun _ h _ => wRa_n h, Eq.refl _⟩
theorem FYrr.w18 {y : rg_S} {f : Nat → Int32} : FYrr y (rg_wA y 18 f) := ⟨Eq.refl _, Eq.refl _, fun _ _ h => wA_n _ _ h, Eq.refl _⟩
theorem FYrr.g {y y' : rg_S} (h : FYrr y y') : FYg y y' := ⟨fun p k a => by rw [h.1], ⟨by rw [h.1], by rw [h.1]⟩, h.2.1, fun a e => h.2.2.1 a (by omega) (by omega), h.2.2.2⟩
section
variable {X : px_X} {b B : Nat} {w0 w1 : px_W} {y y' z z' : rg_S} {c : sgC} {p i n nn L kd K iv fi la bf bb fr : Nat} {f : sgF} {s : sgS} {D : Nat → Nat} {A1 : Int32} {mb : sg4}
theorem m_k163 {k93 : Nat → Int32 → Int32 → px_W → Option (px_W)} {cc : Nat} (hc : cc < 4) (hi : i < 4) (l6 : la ≤ 63) : ∀ (r f M : Nat) (y : rg_S), f + r = la + 1 → r < M → y.1 4 38 = nI la → y.1 4 40 = nI bb → y.2.2.1 19 i = nI cc → fX14_keepScan_163 X k93 M (b + 4) A1 (nI i) (nI f) (rg_p lM b w0 y) = k93 (b + 4) A1 (nI (i + 1)) (rg_p lM b w0 (rg_wA y 18 fun j => if 64 * cc + f ≤ j ∧ j ≤ 64 * cc + la then nI bb else y.2.2.1 18 j)) := by
  intro r
  induction r with
  | zero =>
    intro f M y hf hM h38 h40 h19
    obtain ⟨M, rfl⟩ : ∃ M', M = M' + 1 := ⟨M - 1, by omega⟩
    rw [fX14_keepScan_163.eq_2]
    refine ob_v (rg_I rfl rfl) ?_
    rw [h38]
    refine ei_t (nI_lt (by omega) (by omega)) ?_
    unfold fX14_keepScan_197
    rw [nI_1, wA_id]
    funext j
    rw [if_neg (by omega)]
  | succ r ih =>
    intro f M y hf hM h38 h40 h19
    obtain ⟨M, rfl⟩ : ∃ M', M = M' + 1 := ⟨M - 1, by omega⟩
    rw [fX14_keepScan_163.eq_2]
    refine ob_v (rg_I rfl rfl) ?_
    rw [h38]
    refine ei_n (nI_nlt (by omega) (by omega)) (ob_v (rg_C rfl rfl) (ob_v (rg_C rfl rfl) (ob_v (rg_A rfl (by decide) _ hi (by decide)) (ob_v (rg_I rfl rfl) ?_))))
    rw [h19, h40, show (64 : Int32) * nI cc + nI f = nI (64 * cc + f) from by rw [show (64 : Int32) = nI 64 from rfl, pk_mul, nI_add]]
    refine ob_v (rg_sA _ rfl (by decide) _ _ (by omega) (by decide)) ?_
    rw [nI_1, ih (f + 1) M (rg_wA y 18 (upd (y.2.2.1 18) (64 * cc + f) (id (nI bb)))) (by omega) (by omega) h38 h40 (by rw [wA_n _ _ (by decide)]; exact h19), wA_wA, wA_s]
    congr 3
    funext j
    by_cases e1 : j = 64 * cc + f
    · rw [if_neg (by omega), if_pos (by omega)]
      unfold upd
      rw [if_pos e1]
      rfl
    · by_cases e2 : 64 * cc + (f + 1) ≤ j ∧ j ≤ 64 * cc + la
      · rw [if_pos e2, if_pos (by omega)]
      · rw [if_neg e2, if_neg (by omega)]
        unfold upd
        rw [if_neg e1]
theorem m_k93 (nn4 : nn ≤ 4) (hK : K + 29 < 61440) (fl : fi ≤ la) (l6 : la ≤ 63) (hb : bb ≤ 13) (hmb : ∀ i, i < nn → (mb i).1 < 4) : ∀ (r i M : Nat) (y : rg_S), i + r = nn → r < M → y.1 4 30 = nI nn → y.1 4 37 = nI fi → y.1 4 38 = nI la → y.1 4 40 = nI bb → mmY y nn mb → laY y (sgNo s fi la bb mb i).1 → scR y K nn fi la bf bb fr iv → scM y K mb i → ∃ y', fX14_keepScan_93 X M (b + 4) (nI K) (nI i) (rg_p lM b w0 y) = fX14_keepScan_203 X (b + 4) (nI K) (rg_p lM b w0 y') ∧ FYrr y y' ∧ laY y' (sgNo s fi la bb mb nn).1 ∧ scR y' K nn fi la bf bb fr iv ∧ scM y' K mb nn := by
  intro r
  induction r with
  | zero =>
    intro i M y hi hM h30 h37 h38 h40 hm hl hR hS
    obtain ⟨M, rfl⟩ : ∃ M', M = M' + 1 := ⟨M - 1, by omega⟩
    have : i = nn := by omega
    subst this
    refine ⟨y, ?_, FYrr.rfl, hl, hR, hS⟩
    rw [fX14_keepScan_93.eq_2]
    refine ob_v (rg_I rfl rfl) ?_
    rw [h30]
    exact ei_t (nI_le (by omega) (by omega)) rfl
  | succ r ih =>
    intro i M y hi hM h30 h37 h38 h40 hm hl hR hS
    obtain ⟨M, rfl⟩ : ∃ M', M = M' + 1 := ⟨M - 1, by omega⟩
    have mi := hm i (by omega)
    have m4 := hmb i (by omega)
    generalize hy1 : wRa (wRa (wRa y 17 (K + 10 + 4 * i) (nI (mb i).1)) 17 (K + 11 + 4 * i) (nI (mb i).2.1)) 17 (K + 12 + 4 * i) (nI (mb i).2.2.1) = y1
    have F1 : FYrr y y1 := by
      rw [← hy1]
      exact FYrr.w17.trans (FYrr.w17.trans FYrr.w17)
    have q1 : ∀ j, j ≠ K + 10 + 4 * i → j ≠ K + 11 + 4 * i → j ≠ K + 12 + 4 * i → y1.2.2.1 17 j = y.2.2.1 17 j := by
      intro j h1 h2 h3
      rw [← hy1, wRa_s, if_neg h3, wRa_s, if_neg h2, wRa_s, if_neg h1]
    generalize hy2 : rg_wA y1 18 (fun j => if 64 * (mb i).1 + fi ≤ j ∧ j ≤ 64 * (mb i).1 + la then nI bb else y1.2.2.1 18 j) = y2
    have F2 : FYrr y1 y2 := by
      rw [← hy2]
      exact FYrr.w18
    have F := F1.trans F2
    have q2 : y2.2.2.1 17 = y1.2.2.1 17 := by rw [← hy2, wA_n _ _ (by decide)]
    have st : fX14_keepScan_93 X (M + 1) (b + 4) (nI K) (nI i) (rg_p lM b w0 y) = fX14_keepScan_93 X M (b + 4) (nI K) (nI (i + 1)) (rg_p lM b w0 y2) := by
      rw [fX14_keepScan_93.eq_2]
      refine ob_v (rg_I rfl rfl) ?_
      rw [h30, show (4 : Int32) * nI i = nI (4 * i) from by rw [show (4 : Int32) = nI 4 from rfl, pk_mul], show nI K + 10 = nI (K + 10) from nI_add _ 10, show nI K + 11 = nI (K + 11) from nI_add _ 11, show nI K + 12 = nI (K + 12) from nI_add _ 12, nI_add, nI_add, nI_add]
      refine ei_n (nI_ge (by omega) (by omega)) (ob_v (rg_C rfl rfl) (ob_v (rg_C rfl rfl) (ob_v (rg_A rfl (by decide) _ (by omega) (by decide)) ?_)))
      rw [mi.1]
      refine ob_v (rg_sA _ rfl (by decide) _ _ (by omega) (by decide)) (ob_v (rg_C rfl rfl) (ob_v (rg_C rfl rfl) (ob_v (rg_A rfl (by decide) _ (by omega) (by decide)) ?_)))
      rw [wA_n (o' := 20) _ _ (by decide), mi.2.1]
      refine ob_v (rg_sA _ rfl (by decide) _ _ (by omega) (by decide)) (ob_v (rg_C rfl rfl) (ob_v (rg_C rfl rfl) (ob_v (rg_A rfl (by decide) _ (by omega) (by decide)) ?_)))
      rw [wA_n (o' := 21) _ _ (by decide), wA_n (o' := 21) _ _ (by decide), mi.2.2.1]
      refine ob_v (rg_sA _ rfl (by decide) _ _ (by omega) (by decide)) (ob_v (rg_I rfl rfl) ?_)
      refine Eq.trans (b := fX14_keepScan_163 X (fX14_keepScan_93 X M) FU (b + 4) (nI K) (nI i) (y.1 4 37) (rg_p lM b w0 y1)) (by rw [← hy1]; rfl) ?_
      rw [h37, m_k163 (cc := (mb i).1) (bb := bb) (la := la) m4 (by omega) l6 (la + 1 - fi) fi FU y1 (by omega) (by unfold FU; omega) (by rw [F1.1]; exact h38) (by rw [F1.1]; exact h40) (by rw [F1.2.2.1 19 (by decide) (by decide)]; exact mi.1), hy2]
    obtain ⟨y3, e3, F3, l3, r3, s3⟩ := ih (i + 1) M y2 (by omega) (by omega) (by rw [F.1]; exact h30) (by rw [F.1]; exact h37) (by rw [F.1]; exact h38) (by rw [F.1]; exact h40) (by
      unfold mmY
      rw [F.2.2.1 19 (by decide) (by decide), F.2.2.1 20 (by decide) (by decide), F.2.2.1 21 (by decide) (by decide), F.2.2.1 22 (by decide) (by decide)]
      exact hm) (by
      intro j hj
      have lj := hl j hj
      have : y1.2.2.1 18 = y.2.2.1 18 := by rw [← hy1, wRa_n (by decide), wRa_n (by decide), wRa_n (by decide)]
      rw [← hy2, wA_s, this]
      show (if 64 * (mb i).1 + fi ≤ j ∧ j ≤ 64 * (mb i).1 + la then nI bb else y.2.2.1 18 j) = ltI (if 64 * (mb i).1 + fi ≤ j ∧ j ≤ 64 * (mb i).1 + la then bb + 1 else (sgNo s fi la bb mb i).1 j) ∧ (if 64 * (mb i).1 + fi ≤ j ∧ j ≤ 64 * (mb i).1 + la then bb + 1 else (sgNo s fi la bb mb i).1 j) ≤ 20
      by_cases e : 64 * (mb i).1 + fi ≤ j ∧ j ≤ 64 * (mb i).1 + la
      · rw [if_pos e, if_pos e]
        exact ⟨rfl, by omega⟩
      · rw [if_neg e, if_neg e]
        exact lj) (by
      unfold scR
      rw [q2, q1 _ (by omega) (by omega) (by omega), q1 _ (by omega) (by omega) (by omega), q1 _ (by omega) (by omega) (by omega), q1 _ (by omega) (by omega) (by omega), q1 _ (by omega) (by omega) (by omega), q1 _ (by omega) (by omega) (by omega), q1 _ (by omega) (by omega) (by omega)]
      exact hR) (by
      intro j hj
      rw [q2]
      by_cases e : j = i
      · rw [e, ← hy1]
        refine ⟨?_, ?_, ?_⟩
        · rw [wRa_s, if_neg (by omega), wRa_s, if_neg (by omega), wRa_s, if_pos rfl]
        · rw [wRa_s, if_neg (by omega), wRa_s, if_pos rfl]
        · rw [wRa_s, if_pos rfl]
      · rw [q1 _ (by omega) (by omega) (by omega), q1 _ (by omega) (by omega) (by omega), q1 _ (by omega) (by omega) (by omega)]
        exact hS j (by omega))
    exact ⟨y3, st.trans e3, F.trans F3, l3, r3, s3⟩
/-- what follows a scan's data -/
def kTl (X : px_X) (b : Nat) (k : Int32) (w : px_W) : Option px_W := (gQ w (b + 4) 14 2).bind fun v53 => if v53 = none then some w else (gI w (b + 4) 14 4).bind fun v54 => if v54 = 0 then (gR w (b + 4) 14 2).bind fun v56 => (gO w v56 15).bind fun o57 => (fX15_scanned X w v56 (b + 4) k).bind fun q58 => (pV q58.2 (b + 4) 14 3 (.int q58.1)).bind fun w59 => some w59 else some w
theorem kTl_0 {k : Int32} (h : y.2.1 4 2 = 0) : kTl X b k (rg_p lM b w0 y) = some (rg_p lM b w0 y) := by
  unfold kTl
  exact ob_v (rg_Q0 rfl rfl h) (ei_t rfl rfl)
theorem kTl_f {k : Int32} (h : ftY y f) : kTl X b k (rg_p lM b w0 y) = some (rg_p lM b w0 y) := by
  cases e : y.2.1 4 2 with
  | zero => exact kTl_0 e
  | succ n =>
    unfold kTl
    exact ob_v (rg_Q1 rfl rfl e) (ei_n (fun z => by cases z) (ob_v (rg_I rfl rfl) (ei_n h.n rfl)))
theorem m_keepS (hiv : iv < 65536) {k : Nat} (k16 : 30 * k + 29 < 61440) (nn4 : nn ≤ 4) (fl : fi ≤ la) (l6 : la ≤ 63) (hb : bb ≤ 13) (hmb : ∀ i, i < nn → (mb i).1 < 4) (h : fpY y D L p) (h20 : y.1 4 20 = nI iv) (h27 : y.1 4 27 = nI k) (h30 : y.1 4 30 = nI nn) (h37 : y.1 4 37 = nI fi) (h38 : y.1 4 38 = nI la) (h39 : y.1 4 39 = nI bf) (h40 : y.1 4 40 = nI bb) (hm : mmY y nn mb) (hl : laY y s.2.2.2.1) : ∃ y', fX14_keepScan X (rg_p lM b w0 y) (b + 4) = kTl X b (nI (30 * k)) (rg_p lM b w0 y') ∧ FYg y y' ∧ ((∃ f, sgDt D L iv (L + 1) p 0 = .inl f ∧ ftY y' f) ∨ (∃ e, sgDt D L iv (L + 1) p 0 = .inr e ∧ sgBad D e ∧ ftY y' (4, e + 1)) ∨ ∃ e, sgDt D L iv (L + 1) p 0 = .inr e ∧ ¬ sgBad D e ∧ fpY y' D L e ∧ y'.1 4 27 = nI (k + 1) ∧ (∀ j, ¬ (4 ≤ j ∧ j ≤ 6) → j ≠ 27 → y'.1 4 j = y.1 4 j) ∧ (∀ a, a ≠ 17 → a ≠ 18 → y'.2.2.1 a = y.2.2.1 a) ∧ laY y' (sgNo s fi la bb mb nn).1 ∧ scR y' (30 * k) nn fi la bf bb p iv ∧ scM y' (30 * k) mb nn ∧ y'.2.2.1 17 (30 * k + 6) = nI (e - p)) := by
  have e30 : (30 : Int32) * nI k = nI (30 * k) := by rw [show (30 : Int32) = nI 30 from rfl, pk_mul]
  generalize hK : 30 * k = K at *
  generalize hy1 : wRa (wRa (wRa (wRa (wRa (wRa (wRa y 17 K (nI nn)) 17 (K + 1) (nI fi)) 17 (K + 2) (nI la)) 17 (K + 3) (nI bf)) 17 (K + 4) (nI bb)) 17 (K + 5) (nI p)) 17 (K + 8) (nI iv) = y1
  have F1 : FYrr y y1 := by
    rw [← hy1]
    exact FYrr.w17.trans (FYrr.w17.trans (FYrr.w17.trans (FYrr.w17.trans (FYrr.w17.trans (FYrr.w17.trans FYrr.w17)))))
  have R1 : scR y1 K nn fi la bf bb p iv := by
    rw [← hy1]
    refine ⟨?_, ?_, ?_, ?_, ?_, ?_, ?_⟩
    · rw [wRa_s, if_neg (by omega), wRa_s, if_neg (by omega), wRa_s, if_neg (by omega), wRa_s, if_neg (by omega), wRa_s, if_neg (by omega), wRa_s, if_neg (by omega), wRa_s, if_pos rfl]
    · rw [wRa_s, if_neg (by omega), wRa_s, if_neg (by omega), wRa_s, if_neg (by omega), wRa_s, if_neg (by omega), wRa_s, if_neg (by omega), wRa_s, if_pos rfl]
    · rw [wRa_s, if_neg (by omega), wRa_s, if_neg (by omega), wRa_s, if_neg (by omega), wRa_s, if_neg (by omega), wRa_s, if_pos rfl]
    · rw [wRa_s, if_neg (by omega), wRa_s, if_neg (by omega), wRa_s, if_neg (by omega), wRa_s, if_pos rfl]
    · rw [wRa_s, if_neg (by omega), wRa_s, if_neg (by omega), wRa_s, if_pos rfl]
    · rw [wRa_s, if_neg (by omega), wRa_s, if_pos rfl]
    · rw [wRa_s, if_pos rfl]
  have q18 : y1.2.2.1 18 = y.2.2.1 18 := by
    rw [← hy1]
    rfl
  have st : fX14_keepScan X (rg_p lM b w0 y) (b + 4) = fX14_keepScan_93 X FU (b + 4) (nI K) (nI 0) (rg_p lM b w0 y1) := by
    unfold fX14_keepScan
    refine ob_v (rg_I rfl rfl) ?_
    rw [h27, e30, show nI K + 1 = nI (K + 1) from nI_add _ 1, show nI K + 2 = nI (K + 2) from nI_add _ 2, show nI K + 3 = nI (K + 3) from nI_add _ 3, show nI K + 4 = nI (K + 4) from nI_add _ 4, show nI K + 5 = nI (K + 5) from nI_add _ 5, show nI K + 8 = nI (K + 8) from nI_add _ 8]
    refine ob_v (rg_C rfl rfl) (ob_v (rg_I rfl rfl) ?_)
    rw [h30]
    refine ob_v (rg_sA _ rfl (by decide) _ _ (by omega) (by decide)) (ob_v (rg_C rfl rfl) (ob_v (rg_I rfl rfl) ?_))
    rw [wA_1, h37]
    refine ob_v (rg_sA _ rfl (by decide) _ _ (by omega) (by decide)) (ob_v (rg_C rfl rfl) (ob_v (rg_I rfl rfl) ?_))
    rw [wA_1, wA_1, h38]
    refine ob_v (rg_sA _ rfl (by decide) _ _ (by omega) (by decide)) (ob_v (rg_C rfl rfl) (ob_v (rg_I rfl rfl) ?_))
    rw [wA_1, wA_1, wA_1, h39]
    refine ob_v (rg_sA _ rfl (by decide) _ _ (by omega) (by decide)) (ob_v (rg_C rfl rfl) (ob_v (rg_I rfl rfl) ?_))
    rw [wA_1, wA_1, wA_1, wA_1, h40]
    refine ob_v (rg_sA _ rfl (by decide) _ _ (by omega) (by decide)) (ob_v (rg_C rfl rfl) (ob_v (rg_I rfl rfl) ?_))
    rw [wA_1, wA_1, wA_1, wA_1, wA_1, h.1]
    refine ob_v (rg_sA _ rfl (by decide) _ _ (by omega) (by decide)) (ob_v (rg_C rfl rfl) (ob_v (rg_I rfl rfl) ?_))
    rw [wA_1, wA_1, wA_1, wA_1, wA_1, wA_1, h20]
    refine ob_v (rg_sA _ rfl (by decide) _ _ (by omega) (by decide)) ?_
    rw [← hy1]
    rfl
  obtain ⟨y2, e2, F2, l2, r2, s2⟩ := m_k93 (X := X) (b := b) (w0 := w0) (s := s) (bf := bf) (fr := p) (iv := iv) nn4 k16 fl l6 hb hmb nn 0 FU y1 (by omega) (by unfold FU; omega) (by rw [F1.1]; exact h30) (by rw [F1.1]; exact h37) (by rw [F1.1]; exact h38) (by rw [F1.1]; exact h40) (by
    unfold mmY
    rw [F1.2.2.1 19 (by decide) (by decide), F1.2.2.1 20 (by decide) (by decide), F1.2.2.1 21 (by decide) (by decide), F1.2.2.1 22 (by decide) (by decide)]
    exact hm) (by
    unfold laY
    rw [q18]
    exact hl) R1 (fun j hj => absurd hj (Nat.not_lt_zero _))
  have F := F1.trans F2
  have p2 : fpY y2 D L p := by
    unfold fpY
    rw [F.1, F.2.2.1 5 (by decide) (by decide)]
    exact h
  obtain ⟨y3, e3, F3, o3⟩ := m_rdt (X := X) (b := b) (w0 := w0) (K := K) (k := k) hiv (by omega) p2 (by rw [F.1]; exact h20) (by rw [F.1]; exact h27) r2.2.2.2.2.2.1
  refine ⟨y3, ?_, F.g.trans F3.g, ?_⟩
  · rw [st, e2]
    unfold fX14_keepScan_203
    refine ob_v (rg_O rfl) (ob_v e3 ?_)
    rfl
  rcases o3 with o3 | o3 | ⟨e, t1, t2, t3, t4, t5, t6⟩
  · exact Or.inl o3
  · exact Or.inr (Or.inl o3)
  · refine Or.inr (Or.inr ⟨e, t1, t2, t3, t4, fun j h1 h2 => by rw [F3.1 _ _ (by omega), F.1], fun a h1 h2 => by rw [F3.2.2.1 a h1, F.2.2.1 a h1 h2], ?_, ?_, ?_, t5⟩)
    · unfold laY
      rw [F3.2.2.1 18 (by decide)]
      exact l2
    · unfold scR
      rw [t6 _ (by omega) (by omega), t6 _ (by omega) (by omega), t6 _ (by omega) (by omega), t6 _ (by omega) (by omega), t6 _ (by omega) (by omega), t6 _ (by omega) (by omega), t6 _ (by omega) (by omega)]
      exact r2
    · intro j hj
      rw [t6 _ (by omega) (by omega), t6 _ (by omega) (by omega), t6 _ (by omega) (by omega)]
      exact s2 j hj
end
