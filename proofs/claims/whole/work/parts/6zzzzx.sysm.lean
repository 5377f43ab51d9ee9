/-! members of a scan, by the reference -/
def mmY (y : rg_S) (n : Nat) (mb : sg4) : Prop := ∀ i, i < n → y.2.2.1 19 i = nI (mb i).1 ∧ y.2.2.1 20 i = nI (mb i).2.1 ∧ y.2.2.1 21 i = nI (mb i).2.2.1 ∧ y.2.2.1 22 i = nI (mb i).2.2.2
def FYm (y y' : rg_S) : Prop := (∀ p k, ¬ (p = 4 ∧ 4 ≤ k ∧ k ≤ 6) → y'.1 p k = y.1 p k) ∧ y'.2.1 = y.2.1 ∧ (∀ a, ¬ (19 ≤ a ∧ a ≤ 22) → y'.2.2.1 a = y.2.2.1 a) ∧ y'.2.2.2 = y.2.2.2
theorem FYm.rfl {y : rg_S} : FYm y y := ⟨fun _ _ _ => Eq.refl _, Eq.refl _, fun _ _ => Eq.refl _, Eq.refl _⟩
theorem FYm.trans {y y1 y2 : rg_S} (h : FYm y y1) (h2 : FYm y1 y2) : FYm y y2 := ⟨fun p k a => (h2.1 p k a).trans (h.1 p k a), h2.2.1.trans h.2.1, fun a e => (h2.2.2.1 a e).trans (h.2.2.1 a e), h2.2.2.2.trans h.2.2.2⟩
theorem FYq.m {y y' : rg_S} (h : FYq y y') : FYm y y' := ⟨h.1, by rw [h.2], fun _ _ => by rw [h.2], by rw [h.2]⟩
theorem FYm.wA {a : Nat} {y : rg_S} {f : Nat → Int32} (h : 19 ≤ a ∧ a ≤ 22) : FYm y (rg_wA y a f) := ⟨fun _ _ _ => Eq.refl _, Eq.refl _, fun _ _ => wA_n _ _ (by omega), Eq.refl _⟩
theorem FYm.g {y y' : rg_S} (h : FYm y y') : FYg y y' := ⟨fun p k a => h.1 p k (by omega), ⟨h.1 _ _ (by omega), h.1 _ _ (by omega)⟩, h.2.1, fun a e => h.2.2.1 a (by omega), h.2.2.2⟩
section
variable {X : px_X} {b B : Nat} {w0 w1 : px_W} {y y' z z' : rg_S} {c : sgC} {p i n nn : Nat} {f : sgF} {cs : sg4} {A1 A2 A3 A4 s0 : Int32}
theorem m_s475_0 {M : Nat} (h : ftY y f) : fX14_readScan_475 X (M + 1) (b + 4) A1 A2 (rg_p lM b w0 y) = some (rg_p lM b w0 y) := by
  have e : fX14_readScan_504 X (b + 4) (rg_p lM b w0 y) = some (rg_p lM b w0 y) := by
    unfold fX14_readScan_504
    rw [show FU = 3999999 + 1 from rfl, fX14_readScan_507.eq_2]
    exact ob_v (rg_I rfl rfl) (ei_c (fun _ => rfl) (fun _ => ob_v (rg_I rfl rfl) (ei_n h.n rfl)))
  rw [fX14_readScan_475.eq_2]
  exact ob_v (rg_I rfl rfl) (ei_c (fun _ => e) (fun _ => ob_v (rg_I rfl rfl) (ei_n h.n e)))
theorem m_s469_0 (hm : fX14_must X (rg_p lM b w0 z) (b + 4) s0 = some (rg_p lM b w0 z')) (hf : ftY z' f) : fX14_readScan_469 X (b + 4) A3 s0 (b + 4) (rg_p lM b w0 z) = some (rg_p lM b w0 z') := by
  unfold fX14_readScan_469
  exact ob_v (rg_O rfl) (ob_v hm (by rw [show FU = 3999999 + 1 from rfl]; exact m_s475_0 hf))
theorem m_s388_0 (hm : fX14_must X (rg_p lM b w0 z) (b + 4) s0 = some (rg_p lM b w0 z')) (hf : ftY z' f) : ∃ y', fX14_readScan_388 X (b + 4) A3 s0 (b + 4) (rg_p lM b w0 z) = some (rg_p lM b w0 y') ∧ FYg z' y' ∧ ftY y' f := by
  have h2 : ftY (rg_wI (rg_wI z' 4 39 0) 4 40 0) f := (hf.wi (by omega)).wi (by omega)
  refine ⟨rg_wI (rg_wI z' 4 39 0) 4 40 0, ?_, (FYg.wI (by omega)).trans (FYg.wI (by omega)), h2⟩
  unfold fX14_readScan_388
  refine ob_v (rg_O rfl) (ob_v hm (ob_v (rg_O rfl) (ob_v (m_nx0 hf) (ob_v (show dI 0 16 = some 0 from rfl) (ob_v (rg_pI rfl rfl _) (ob_v (show rI 0 16 = some 0 from rfl) (ob_v (rg_pI rfl rfl _) (ob_v (rg_I rfl rfl) (ei_t h2.l ?_)))))))))
  unfold fX14_readScan_464
  exact m_s469_0 (m_must1 (by decide)) h2
theorem m_s311_0 (hm : fX14_must X (rg_p lM b w0 z) (b + 4) s0 = some (rg_p lM b w0 z')) (hf : ftY z' f) : ∃ y', fX14_readScan_311 X (b + 4) A3 s0 (b + 4) (rg_p lM b w0 z) = some (rg_p lM b w0 y') ∧ FYg z' y' ∧ ftY y' f := by
  have h2 : ftY (rg_wI z' 4 38 0) f := hf.wi (by omega)
  obtain ⟨y', e, F, g⟩ := m_s388_0 (X := X) (b := b) (w0 := w0) (z := rg_wI z' 4 38 0) (z' := rg_wI z' 4 38 0) (A3 := A3) (s0 := 1) (m_must1 (by decide)) h2
  refine ⟨y', ?_, (FYg.wI (by omega)).trans F, g⟩
  unfold fX14_readScan_311
  refine ob_v (rg_O rfl) (ob_v hm (ob_v (rg_O rfl) (ob_v (m_nx0 hf) (ob_v (rg_pI rfl rfl _) (ob_v (rg_I rfl rfl) (ei_t h2.l ?_))))))
  unfold fX14_readScan_383
  exact e
theorem m_s236_0 (hf : ftY y f) : ∃ y', fX14_readScan_236 X (b + 4) (rg_p lM b w0 y) = some (rg_p lM b w0 y') ∧ FYg y y' ∧ ftY y' f := by
  have h2 : ftY (rg_wI y 4 37 0) f := hf.wi (by omega)
  have k : ∀ s0 : Int32, ∃ y', fX14_readScan_251 X (b + 4) s0 (rg_p lM b w0 y) = some (rg_p lM b w0 y') ∧ FYg y y' ∧ ftY y' f := by
    intro s0
    obtain ⟨y', e, F, g⟩ := m_s311_0 (X := X) (b := b) (w0 := w0) (z := rg_wI y 4 37 0) (z' := rg_wI y 4 37 0) (A3 := s0) (s0 := 1) (m_must1 (by decide)) h2
    refine ⟨y', ?_, (FYg.wI (by omega)).trans F, g⟩
    unfold fX14_readScan_251
    refine ob_v (rg_O rfl) (ob_v (m_nx0 hf) (ob_v (rg_pI rfl rfl _) (ob_v (rg_I rfl rfl) (ei_t h2.l ?_))))
    unfold fX14_readScan_306
    exact e
  by_cases d : y.1 4 12 = 194
  · obtain ⟨y', e, F, g⟩ := k 1
    refine ⟨y', ?_, F, g⟩
    unfold fX14_readScan_236
    exact ob_v (rg_I rfl rfl) (ei_t d e)
  · obtain ⟨y', e, F, g⟩ := k 0
    refine ⟨y', ?_, F, g⟩
    unfold fX14_readScan_236
    exact ob_v (rg_I rfl rfl) (ei_n d e)
theorem m_s45_0 {M : Nat} (hf : ftY y f) : ∃ y', fX14_readScan_45 X (M + 1) (b + 4) A1 A2 A3 (rg_p lM b w0 y) = some (rg_p lM b w0 y') ∧ FYg y y' ∧ ftY y' f := by
  obtain ⟨y', e, F, g⟩ := m_s236_0 (X := X) (b := b) (w0 := w0) hf
  refine ⟨y', ?_, F, g⟩
  rw [fX14_readScan_45.eq_2]
  exact ob_v (rg_I rfl rfl) (ei_c (fun _ => e) (fun _ => ob_v (rg_I rfl rfl) (ei_n hf.n e)))
theorem m_s166_0 {M : Nat} (hi : i < 4) (hf : ftY y f) : ∃ y', fX14_readScan_166 X (fX14_readScan_45 X (M + 1)) (b + 4) A1 A2 (nI i) (rg_p lM b w0 y) = some (rg_p lM b w0 y') ∧ FYg y y' ∧ ftY y' f := by
  have h2 : ftY (rg_wA (rg_wA y 20 (upd (y.2.2.1 20) i 0)) 21 (upd (y.2.2.1 21) i 0)) f := hf
  obtain ⟨y', e, F, g⟩ := m_s45_0 (X := X) (b := b) (w0 := w0) (A1 := A1) (A2 := A2) (A3 := nI i + 1) (M := M) h2
  refine ⟨y', ?_, ((FYg.wA (by omega)).trans (FYg.wA (by omega))).trans F, g⟩
  unfold fX14_readScan_166
  refine ob_v (rg_O rfl) (ob_v (m_nx0 hf) (ob_v (rg_C rfl rfl) (ob_v (show dI 0 16 = some 0 from rfl) (ob_v (rg_sA id rfl (by decide) _ _ hi (by decide)) (ob_v (rg_C rfl rfl) (ob_v (show rI 0 16 = some 0 from rfl) (ob_v (rg_sA id rfl (by decide) _ _ hi (by decide)) ?_)))))))
  dsimp only [id]
  rw [wA_n _ _ (show 21 ≠ 20 by decide)]
  refine ob_v (rg_I rfl rfl) (ei_t h2.l ?_)
  unfold fX14_readScan_222 fX14_readScan_227
  exact ob_v (rg_O rfl) (ob_v (m_must1 (by decide)) e)
theorem m_s107_0 {M : Nat} (hi : i < 4) (hf : ftY y f) : ∃ y', fX14_readScan_107 X (fX14_readScan_45 X (M + 1)) (b + 4) A1 A2 (nI i) A4 (rg_p lM b w0 y) = some (rg_p lM b w0 y') ∧ FYg y y' ∧ ftY y' f := by
  obtain ⟨y', e, F, g⟩ := m_s166_0 (X := X) (b := b) (w0 := w0) (A1 := A1) (A2 := A2) (M := M) hi hf
  refine ⟨y', ?_, F, g⟩
  unfold fX14_readScan_107
  exact ob_v (rg_I rfl rfl) (ei_n hf.n e)
theorem m_named {v : Nat} (n4 : n ≤ 4) (hv : v < 256) (hn : y.1 4 15 = nI n) (ok : csOk n cs) (hc : csY y n cs) : fX14_named X (rg_p lM b w0 y) (b + 4) (nI v) = some (ltI (sgX cs v n), rg_p lM b w0 y) := by
  have key : ∀ (r j M : Nat), j + r = n → r < M → fX14_named_4 X M (b + 4) (nI v) (ltI (sgX cs v j)) (nI j) (rg_p lM b w0 y) = some (ltI (sgX cs v n), rg_p lM b w0 y) := by
    intro r
    induction r with
    | zero =>
      intro j M hj hM
      obtain rfl : j = n := by omega
      obtain ⟨M, rfl⟩ : ∃ M', M = M' + 1 := ⟨M - 1, by omega⟩
      rw [fX14_named_4.eq_2]
      refine ob_v (rg_I rfl rfl) ?_
      rw [hn]
      exact ei_t (nI_le (by omega) (by omega)) rfl
    | succ r ih =>
      intro j M hj hM
      obtain ⟨M, rfl⟩ : ∃ M', M = M' + 1 := ⟨M - 1, by omega⟩
      have ih := ih (j + 1) M (by omega) (by omega)
      have okj := ok j (by omega)
      rw [fX14_named_4.eq_2]
      refine ob_v (rg_I rfl rfl) ?_
      rw [hn]
      refine ei_n (nI_ge (by omega) (by omega)) (ob_v (rg_C rfl rfl) (ob_v (rg_A rfl (by decide) _ (by omega) (by decide)) ?_))
      rw [(hc j (by omega)).1]
      have ex : sgX cs v (j + 1) = if (cs j).1 = v then j + 1 else sgX cs v j := rfl
      by_cases e : (cs j).1 = v
      · rw [ex, if_pos e, ltI_s] at ih
        refine ei_t (by rw [e]) ?_
        unfold fX14_named_27
        rw [nI_1]
        exact ih
      · rw [ex, if_neg e] at ih
        refine ei_n (fun z => e ((nI_eq (by omega) (by omega)).mp z)) ?_
        unfold fX14_named_27
        rw [nI_1]
        exact ih
  unfold fX14_named
  exact key n 0 FU (by omega) (by unfold FU; omega)
theorem m_mb (n4 : n ≤ 4) (nn4 : nn ≤ 4) (ok : csOk n cs) : ∀ (r i pv sm p M : Nat) (mb : sg4) (y : rg_S), i + r = nn → r + 1 < M → pv ≤ n → sm ≤ 10 → (nn = 1 → sm ≤ 4 * i) → y.1 4 15 = nI n → y.1 4 30 = nI nn → csY y n cs → kY y c p → mmY y i mb → ∃ y', ((∃ f, sgMb c cs n r i pv sm p mb = .inl f ∧ FYg y y' ∧ ftY y' f ∧ fX14_readScan_45 X M (b + 4) (nI sm) (ltI pv) (nI i) (rg_p lM b w0 y) = some (rg_p lM b w0 y')) ∨ ∃ p' mb', sgMb c cs n r i pv sm p mb = .inr (p', mb') ∧ FYm y y' ∧ kY y' c p' ∧ mmY y' nn mb' ∧ fX14_readScan_45 X M (b + 4) (nI sm) (ltI pv) (nI i) (rg_p lM b w0 y) = fX14_readScan_236 X (b + 4) (rg_p lM b w0 y')) := by
  intro r
  induction r with
  | zero =>
    intro i pv sm p M mb y hi hM hpv hsm h1 hn hnn hc h hmb
    obtain rfl : i = nn := by omega
    obtain ⟨M, rfl⟩ : ∃ M', M = M' + 1 := ⟨M - 1, by omega⟩
    refine ⟨y, Or.inr ⟨p, mb, rfl, FYm.rfl, h, hmb, ?_⟩⟩
    rw [fX14_readScan_45.eq_2]
    refine ob_v (rg_I rfl rfl) ?_
    rw [hnn]
    exact ei_t (nI_le (Nat.le_refl _) (by omega)) rfl
  | succ r ih =>
    intro i pv sm p M mb y hi hM hpv hsm h1 hn hnn hc h hmb
    obtain ⟨M, rfl⟩ : ∃ M', M = M' + 1 := ⟨M - 1, by omega⟩
    obtain ⟨M0, hM0⟩ : ∃ M', M = M' + 1 := ⟨M - 1, by omega⟩
    have i4 : i < 4 := by omega
    have hL := h.2.2.2.2.2.1
    generalize hy0 : rg_wA y 22 (upd (y.2.2.1 22) i (nI p)) = y0
    have F0 : FYm y y0 := by
      rw [← hy0]
      exact FYm.wA (by omega)
    have k0 : kY y0 c p := by
      rw [← hy0]
      exact h.w (by decide)
    obtain ⟨v1, y1, e1, F1, o1⟩ := m_nx (X := X) (b := b) (w0 := w0) k0
    have F01 : FYm y y1 := F0.trans F1.m
    have n1' : y1.1 4 15 = nI n := by rw [F01.1 _ _ (by omega)]; exact hn
    have c1' : csY y1 n cs := by
      unfold csY
      rw [F01.2.2.1 7 (by omega), F01.2.2.1 8 (by omega), F01.2.2.1 9 (by omega), F01.2.2.1 10 (by omega)]
      exact hc
    have start : ∀ (u : Nat), u < 256 → v1 = nI u → ∀ z, (if y1.1 4 4 = 0 then (if ltI pv < ltI (sgX cs u n) then fX14_readScan_107 X (fX14_readScan_45 X M) (b + 4) (nI sm) (ltI pv) (nI i) (ltI (sgX cs u n)) (rg_p lM b w0 y1) else (gR (rg_p lM b w0 y1) (b + 4) 14 34).bind fun v205 => (aN (rg_p lM b w0 y1) 0 v205 (nI i)).bind fun v206 => (gO (rg_p lM b w0 y1) (b + 4) 14).bind fun o207 => (fX14_wrong X (rg_p lM b w0 y1) (b + 4) 7 v206).bind fun q208 => fX14_readScan_107 X (fX14_readScan_45 X M) (b + 4) (nI sm) (ltI pv) (nI i) (ltI (sgX cs u n)) q208.2) else fX14_readScan_107 X (fX14_readScan_45 X M) (b + 4) (nI sm) (ltI pv) (nI i) (ltI (sgX cs u n)) (rg_p lM b w0 y1)) = z → fX14_readScan_45 X (M + 1) (b + 4) (nI sm) (ltI pv) (nI i) (rg_p lM b w0 y) = z := by
      intro u hu hv z hz
      rw [fX14_readScan_45.eq_2]
      refine ob_v (rg_I rfl rfl) ?_
      rw [hnn]
      refine ei_n (nI_ge (by omega) (by omega)) (ob_v (rg_I rfl rfl) (ei_t h.2.2.2.1 (ob_v (rg_C rfl rfl) (ob_v (rg_I rfl rfl) ?_))))
      rw [h.1]
      refine ob_v (rg_sA id rfl (by decide) _ _ i4 (by decide)) ?_
      dsimp only [id]
      rw [hy0]
      refine ob_v (rg_O rfl) (ob_v e1 (ob_v (rg_O rfl) ?_))
      dsimp only
      rw [hv]
      exact ob_v (m_named n4 hu n1' ok c1') (ob_v (rg_I rfl rfl) hz)
    unfold sgMb
    rcases o1 with ⟨f, r1, r2, r3⟩ | ⟨u, p1, r1, r2, r3, r4⟩
    · rw [r1]
      obtain ⟨y2, e2, F2, f2⟩ := m_s107_0 (X := X) (b := b) (w0 := w0) (A1 := nI sm) (A2 := ltI pv) (A4 := ltI (sgX cs 0 n)) (M := M0) i4 r3
      rw [← hM0] at e2
      exact ⟨y2, Or.inl ⟨f, rfl, F01.g.trans F2, f2, start 0 (by decide) r2 _ (ei_n r3.n e2)⟩⟩
    have g1 := sgN_p r1
    have start := start u r2 r3
    have Xle := sgX_le (cs := cs) (v := u) n
    rw [r1]
    show ∃ y', ((∃ f, (if sgX cs u n ≤ pv then .inl (7, p) else if 10 < sm + (cs (sgX cs u n - 1)).2.1 * (cs (sgX cs u n - 1)).2.2.1 then .inl (6, p) else sgB (sgI c 0 51 p1) fun t => if 3 < t.1 % 16 then .inl (6, p1) else sgMb c cs n r (i + 1) (sgX cs u n) (sm + (cs (sgX cs u n - 1)).2.1 * (cs (sgX cs u n - 1)).2.2.1) t.2 (uG mb i (sgX cs u n - 1, t.1 / 16, t.1 % 16, p))) = .inl f ∧ _) ∨ ∃ p' mb', (if sgX cs u n ≤ pv then .inl (7, p) else if 10 < sm + (cs (sgX cs u n - 1)).2.1 * (cs (sgX cs u n - 1)).2.2.1 then .inl (6, p) else sgB (sgI c 0 51 p1) fun t => if 3 < t.1 % 16 then .inl (6, p1) else sgMb c cs n r (i + 1) (sgX cs u n) (sm + (cs (sgX cs u n - 1)).2.1 * (cs (sgX cs u n - 1)).2.2.1) t.2 (uG mb i (sgX cs u n - 1, t.1 / 16, t.1 % 16, p))) = .inr (p', mb') ∧ _)
    generalize hX : sgX cs u n = XX at *
    have a22 : y1.2.2.1 22 i = nI p := by rw [F1.2, ← hy0, wA_s, pk_us]
    by_cases d1 : XX ≤ pv
    · rw [if_pos d1]
      obtain ⟨y2, e2, F2, f1, f2⟩ := m_sw (X := X) (b := b) (w0 := w0) (y := y1) (f := 7) (q := p) r4.2.2.2.1
      have ft : ftY y2 (7, p) := ftY.i f1 f2 (by decide) (by decide) (by omega)
      obtain ⟨y3, e3, F3, f3⟩ := m_s107_0 (X := X) (b := b) (w0 := w0) (A1 := nI sm) (A2 := ltI pv) (A4 := ltI XX) (M := M0) i4 ft
      rw [← hM0] at e3
      refine ⟨y3, Or.inl ⟨_, rfl, F01.g.trans (F2.g.trans F3), f3, start _ (ei_t r4.2.2.2.1 (ei_n (fun z => absurd ((ltI_lt (by omega) (by omega)).mp z) (by omega)) (ob_v (rg_C rfl rfl) (ob_v (rg_A rfl (by decide) _ i4 (by decide)) (ob_v (rg_O rfl) ?_)))))⟩⟩
      rw [a22]
      exact ob_v e2 e3
    rw [if_neg d1]
    obtain ⟨Y, rfl⟩ : ∃ Y, XX = Y + 1 := ⟨XX - 1, by omega⟩
    rw [show Y + 1 - 1 = Y by omega]
    have okY := ok Y (by omega)
    have cY := c1' Y (by omega)
    have hm4 : (cs Y).2.1 * (cs Y).2.2.1 ≤ 2 * 2 := Nat.mul_le_mul okY.2.1.2 okY.2.2.1.2
    generalize hS : sm + (cs Y).2.1 * (cs Y).2.2.1 = S at *
    generalize hy2 : rg_wA y1 19 (upd (y1.2.2.1 19) i (nI Y)) = y2
    have F2 : FYm y y2 := by
      rw [← hy2]
      exact F01.trans (FYm.wA (by omega))
    have k2 : kY y2 c p1 := by
      rw [← hy2]
      exact r4.w (by decide)
    have start2 : ∀ z, (if nI nn = 1 then fX14_readScan_158 X (fX14_readScan_45 X M) (b + 4) (nI S) (nI Y) (nI i) (b + 4) (rg_p lM b w0 y2) else if 10 < nI S then fX14_readScan_163 X (fX14_readScan_45 X M) (b + 4) (nI S) (nI Y) (nI i) 0 (b + 4) (rg_p lM b w0 y2) else fX14_readScan_158 X (fX14_readScan_45 X M) (b + 4) (nI S) (nI Y) (nI i) (b + 4) (rg_p lM b w0 y2)) = z → fX14_readScan_45 X (M + 1) (b + 4) (nI sm) (ltI pv) (nI i) (rg_p lM b w0 y) = z := by
      intro z hz
      refine start _ (ei_t r4.2.2.2.1 (ei_t ((ltI_lt (by omega) (by omega)).mpr (by omega)) ?_))
      unfold fX14_readScan_107
      rw [ltI_s]
      refine ob_v (rg_I rfl rfl) (ei_t r4.2.2.2.1 (ob_v (rg_C rfl rfl) (ob_v (rg_sA id rfl (by decide) _ _ i4 (by decide)) ?_)))
      dsimp only [id]
      rw [hy2]
      refine ob_v (rg_C rfl rfl) (ob_v (rg_A rfl (by decide) _ (by omega) (by decide)) (ob_v (rg_C rfl rfl) (ob_v (rg_A rfl (by decide) _ (by omega) (by decide)) (ob_v (rg_I rfl rfl) ?_))))
      rw [show y2.2.2.1 8 Y = nI (cs Y).2.1 by rw [← hy2, wA_n _ _ (by decide)]; exact cY.2.1, show y2.2.2.1 9 Y = nI (cs Y).2.2.1 by rw [← hy2, wA_n _ _ (by decide)]; exact cY.2.2.1, pk_mul, nI_add, hS, show y2.1 4 30 = nI nn by rw [F2.1 _ _ (by omega)]; exact hnn]
      exact hz
    by_cases d2 : 10 < S
    · rw [if_pos d2]
      have n1 : nn ≠ 1 := by
        intro z
        have := h1 z
        omega
      obtain ⟨y3, e3, F3, f3⟩ := m_mustF (X := X) (b := b) (w0 := w0) (y := y2) k2.2.2.2.1 k2.1 (by omega) (by omega)
      rw [show (6, p1 - 1) = (6, p) by rw [g1.1]; rfl] at f3
      obtain ⟨y4, e4, F4, f4⟩ := m_s166_0 (X := X) (b := b) (w0 := w0) (A1 := nI S) (A2 := nI Y) (M := M0) i4 f3
      rw [← hM0] at e4
      refine ⟨y4, Or.inl ⟨_, rfl, F2.g.trans (F3.g.trans F4), f4, start2 _ (ei_n (fun e => n1 ((nI_eq (b := 1) (by omega) (by omega)).mp e)) (ei_t (nI_lt (a := 10) d2 (by omega)) ?_))⟩⟩
      unfold fX14_readScan_163
      exact ob_v (rg_O rfl) (ob_v e3 e4)
    rw [if_neg d2]
    have start3 : ∀ z, fX14_readScan_166 X (fX14_readScan_45 X M) (b + 4) (nI S) (nI Y) (nI i) (rg_p lM b w0 y2) = z → fX14_readScan_45 X (M + 1) (b + 4) (nI sm) (ltI pv) (nI i) (rg_p lM b w0 y) = z := by
      intro z hz
      have e158 : fX14_readScan_158 X (fX14_readScan_45 X M) (b + 4) (nI S) (nI Y) (nI i) (b + 4) (rg_p lM b w0 y2) = z := by
        unfold fX14_readScan_158 fX14_readScan_163
        exact ob_v (rg_O rfl) (ob_v (m_must1 (by decide)) hz)
      exact start2 _ (ei_c (fun _ => e158) (fun _ => ei_n (nI_nlt (a := 10) (by omega) (by omega)) e158))
    obtain ⟨v3, y3, e3, F3, o3⟩ := m_nx (X := X) (b := b) (w0 := w0) k2
    unfold sgI
    rcases o3 with ⟨f, s1, s2, s3⟩ | ⟨t, p3, s1, s2, s3, s4⟩
    · rw [s1]
      have h2 : ftY (rg_wA (rg_wA y3 20 (upd (y3.2.2.1 20) i 0)) 21 (upd (y3.2.2.1 21) i 0)) f := s3
      obtain ⟨y4, e4, F4, f4⟩ := m_s45_0 (X := X) (b := b) (w0 := w0) (A1 := nI S) (A2 := nI Y) (A3 := nI i + 1) (M := M0) h2
      rw [← hM0] at e4
      refine ⟨y4, Or.inl ⟨f, rfl, F2.g.trans (F3.g.trans (((FYg.wA (by omega)).trans (FYg.wA (by omega))).trans F4)), f4, start3 _ ?_⟩⟩
      unfold fX14_readScan_166
      refine ob_v (rg_O rfl) (ob_v e3 (ob_v (rg_C rfl rfl) ?_))
      dsimp only
      rw [s2]
      refine ob_v (show dI 0 16 = some 0 from rfl) (ob_v (rg_sA id rfl (by decide) _ _ i4 (by decide)) (ob_v (rg_C rfl rfl) (ob_v (show rI 0 16 = some 0 from rfl) (ob_v (rg_sA id rfl (by decide) _ _ i4 (by decide)) ?_))))
      dsimp only [id]
      rw [wA_n _ _ (show 21 ≠ 20 by decide)]
      refine ob_v (rg_I rfl rfl) (ei_t h2.l ?_)
      unfold fX14_readScan_222 fX14_readScan_227
      exact ob_v (rg_O rfl) (ob_v (m_must1 (by decide)) e4)
    have g3 := sgN_p s1
    generalize hy4 : rg_wA (rg_wA y3 20 (upd (y3.2.2.1 20) i (nI (t / 16)))) 21 (upd (y3.2.2.1 21) i (nI (t % 16))) = y4
    have F4 : FYm y y4 := by
      rw [← hy4]
      exact F2.trans (F3.m.trans ((FYm.wA (by omega)).trans (FYm.wA (by omega))))
    have k4 : kY y4 c p3 := by
      rw [← hy4]
      exact (s4.w (by decide)).w (by decide)
    have n4' : ¬ 0 < y4.1 4 4 := by rw [k4.2.2.2.1]; decide
    have start4 : ∀ z, (if 4 ≤ nI (t / 16) then fX14_readScan_226 X (fX14_readScan_45 X M) (b + 4) (nI S) (nI Y) (nI i) (b + 4) (rg_p lM b w0 y4) else if 4 ≤ nI (t % 16) then fX14_readScan_226 X (fX14_readScan_45 X M) (b + 4) (nI S) (nI Y) (nI i) (b + 4) (rg_p lM b w0 y4) else fX14_readScan_222 X (fX14_readScan_45 X M) (b + 4) (nI S) (nI Y) (nI i) (b + 4) (rg_p lM b w0 y4)) = z → fX14_readScan_45 X (M + 1) (b + 4) (nI sm) (ltI pv) (nI i) (rg_p lM b w0 y) = z := by
      intro z hz
      refine start3 _ ?_
      unfold fX14_readScan_166
      refine ob_v (rg_O rfl) (ob_v e3 (ob_v (rg_C rfl rfl) ?_))
      dsimp only
      rw [s3]
      refine ob_v (dI_n (d := 16) (by omega) (by decide) (by decide)) (ob_v (rg_sA id rfl (by decide) _ _ i4 (by decide)) (ob_v (rg_C rfl rfl) (ob_v (rI_n (d := 16) (by omega) (by decide) (by decide)) (ob_v (rg_sA id rfl (by decide) _ _ i4 (by decide)) ?_))))
      dsimp only [id]
      rw [wA_n _ _ (show 21 ≠ 20 by decide), hy4]
      refine ob_v (rg_I rfl rfl) (ei_n n4' (ob_v (rg_C rfl rfl) (ob_v (rg_A rfl (by decide) _ i4 (by decide)) ?_)))
      rw [show y4.2.2.1 20 i = nI (t / 16) by rw [← hy4, wA_n _ _ (by decide), wA_s, pk_us]]
      by_cases c1 : 4 ≤ nI (t / 16)
      · rw [if_pos c1] at hz
        exact ei_t c1 hz
      · rw [if_neg c1] at hz
        refine ei_n c1 (ob_v (rg_C rfl rfl) (ob_v (rg_A rfl (by decide) _ i4 (by decide)) ?_))
        rw [show y4.2.2.1 21 i = nI (t % 16) by rw [← hy4, wA_s, pk_us]]
        exact hz
    have kb4 := k4.2.2.2.2.2.1
    rw [s1]
    show ∃ y', ((∃ f, sgB (if t < 0 ∨ 51 < t then (.inl (6, p1) : sgF ⊕ (Nat × Nat)) else .inr (t, p3)) (fun t => if 3 < t.1 % 16 then .inl (6, p1) else sgMb c cs n r (i + 1) (Y + 1) S t.2 (uG mb i (Y, t.1 / 16, t.1 % 16, p))) = .inl f ∧ _) ∨ ∃ p' mb', sgB (if t < 0 ∨ 51 < t then (.inl (6, p1) : sgF ⊕ (Nat × Nat)) else .inr (t, p3)) (fun t => if 3 < t.1 % 16 then .inl (6, p1) else sgMb c cs n r (i + 1) (Y + 1) S t.2 (uG mb i (Y, t.1 / 16, t.1 % 16, p))) = .inr (p', mb') ∧ _)
    by_cases d3 : 51 < t ∨ 3 < t % 16
    · have eb : sgB (if t < 0 ∨ 51 < t then (.inl (6, p1) : sgF ⊕ (Nat × Nat)) else .inr (t, p3)) (fun t => if 3 < t.1 % 16 then .inl (6, p1) else sgMb c cs n r (i + 1) (Y + 1) S t.2 (uG mb i (Y, t.1 / 16, t.1 % 16, p))) = .inl (6, p1) := by
        by_cases z : 51 < t
        · rw [if_pos (by omega)]; rfl
        · rw [if_neg (by omega)]
          show (if 3 < t % 16 then _ else _) = _
          rw [if_pos (by omega)]
      rw [eb]
      obtain ⟨y5, e5, F5, f5⟩ := m_mustF (X := X) (b := b) (w0 := w0) (y := y4) k4.2.2.2.1 k4.1 (by omega) (by omega)
      rw [show (6, p3 - 1) = (6, p1) by rw [g3.1]; rfl] at f5
      obtain ⟨y6, e6, F6, f6⟩ := m_s45_0 (X := X) (b := b) (w0 := w0) (A1 := nI S) (A2 := nI Y) (A3 := nI i + 1) (M := M0) f5
      rw [← hM0] at e6
      have e226 : fX14_readScan_226 X (fX14_readScan_45 X M) (b + 4) (nI S) (nI Y) (nI i) (b + 4) (rg_p lM b w0 y4) = some (rg_p lM b w0 y6) := by
        unfold fX14_readScan_226 fX14_readScan_227
        exact ob_v (rg_O rfl) (ob_v e5 e6)
      refine ⟨y6, Or.inl ⟨_, rfl, F4.g.trans (F5.g.trans F6), f6, start4 _ ?_⟩⟩
      by_cases c1 : 4 ≤ t / 16
      · exact ei_t (nI_le (a := 4) c1 (by omega)) e226
      · exact ei_n (nI_ge (b := 4) (by omega) (by omega)) (ei_t (nI_le (a := 4) (by omega) (by omega)) e226)
    rw [if_neg (by omega)]
    show ∃ y', ((∃ f, (if 3 < t % 16 then .inl (6, p1) else sgMb c cs n r (i + 1) (Y + 1) S p3 (uG mb i (Y, t / 16, t % 16, p))) = .inl f ∧ _) ∨ ∃ p' mb', (if 3 < t % 16 then .inl (6, p1) else sgMb c cs n r (i + 1) (Y + 1) S p3 (uG mb i (Y, t / 16, t % 16, p))) = .inr (p', mb') ∧ _)
    rw [if_neg (by omega)]
    have mb4 : mmY y4 (i + 1) (uG mb i (Y, t / 16, t % 16, p)) := by
      intro k hk
      rw [← hy4, wA_n _ _ (show 19 ≠ 21 by decide), wA_n _ _ (show 19 ≠ 20 by decide), wA_n _ _ (show 20 ≠ 21 by decide), wA_s, wA_s, wA_n _ _ (show 22 ≠ 21 by decide), wA_n _ _ (show 22 ≠ 20 by decide), F3.2, ← hy2, wA_s, wA_n _ _ (show 20 ≠ 19 by decide), wA_n _ _ (show 21 ≠ 19 by decide), wA_n _ _ (show 22 ≠ 19 by decide), F1.2, ← hy0, wA_n _ _ (show 19 ≠ 22 by decide), wA_n _ _ (show 20 ≠ 22 by decide), wA_n _ _ (show 21 ≠ 22 by decide), wA_s]
      by_cases z : k = i
      · rw [z, pk_us, pk_us, pk_us, pk_us, uG_s]
        exact ⟨rfl, rfl, rfl, rfl⟩
      · rw [pk_un z, pk_un z, pk_un z, pk_un z, uG_n _ _ z]
        exact hmb k (by omega)
    obtain ⟨y5, o5⟩ := ih (i + 1) (Y + 1) S p3 M _ y4 (by omega) (by omega) (by omega) (by omega) (fun z => by have := h1 z; omega) (by rw [F4.1 _ _ (by omega)]; exact hn) (by rw [F4.1 _ _ (by omega)]; exact hnn) (by
      unfold csY
      rw [F4.2.2.1 7 (by omega), F4.2.2.1 8 (by omega), F4.2.2.1 9 (by omega), F4.2.2.1 10 (by omega)]
      exact hc) k4 mb4
    have st5 : fX14_readScan_45 X (M + 1) (b + 4) (nI sm) (ltI pv) (nI i) (rg_p lM b w0 y) = fX14_readScan_45 X M (b + 4) (nI S) (ltI (Y + 1)) (nI (i + 1)) (rg_p lM b w0 y4) := by
      refine start4 _ (ei_n (nI_ge (b := 4) (by omega) (by omega)) (ei_n (nI_ge (b := 4) (by omega) (by omega)) ?_))
      unfold fX14_readScan_222 fX14_readScan_227
      refine ob_v (rg_O rfl) (ob_v (m_must1 (by decide)) ?_)
      rw [nI_1, ltI_s]
    refine ⟨y5, ?_⟩
    rw [st5]
    rcases o5 with ⟨f, w1, w2, w3, w4⟩ | ⟨p', mb', w1, w2, w3, w4, w5⟩
    · exact Or.inl ⟨f, w1, F4.g.trans w2, w3, w4⟩
    · exact Or.inr ⟨p', mb', w1, F4.trans w2, w3, w4, w5⟩
end
