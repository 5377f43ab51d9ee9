/-! the other coefficients of a block, read for the first time by the reference -/
theorem sh_le {z : Int} {b : Nat} (hb : b ≤ 9) : z.natAbs ≤ 1023 / 2 ^ b ↔ -1023 ≤ z * 2 ^ b ∧ z * 2 ^ b ≤ 1023 := by
  rcases (show b = 0 ∨ b = 1 ∨ b = 2 ∨ b = 3 ∨ b = 4 ∨ b = 5 ∨ b = 6 ∨ b = 7 ∨ b = 8 ∨ b = 9 by omega) with rfl | rfl | rfl | rfl | rfl | rfl | rfl | rfl | rfl | rfl <;> omega
theorem ne_i (z : Int) : -iI z = iI (-z) := by
  rw [show -iI z = 0 - iI z from (Int32.zero_sub (iI z)).symm, show (0 : Int32) = iI 0 from rfl, iI_sub, Int.zero_sub]
section
variable {X : px_X} {b B : Nat} {w0 w1 : px_W} {x x' y y' : rg_S} {D : Nat → Nat} {n t m c first last bf bb T q : Nat} {bs : Nat → Nat} {s s' : bSt} {W : zT} {a : zS}
theorem m_zEnd {r : Nat} {A : Int32} (hA : A = 0 ↔ first = 0) (hr : r < 15) (h : zY D n y a) (ok : zOk a) : ∃ y', fX13_readOthers_140 X (b + 24) A (nI r) (rg_p lM b w0 y) = some (rg_p lM b w0 y') ∧ zFY y y' ∧ zYo D n (zEnd D n first r a) y' := by
  unfold zEnd fX13_readOthers_140
  by_cases f0 : first = 0
  · rw [if_pos f0]
    by_cases r0 : r = 0
    · rw [if_pos r0]
      exact ⟨y, ei_t (hA.mpr f0) (ei_t (by rw [r0]; decide) rfl), zFY.rfl, Or.inr ⟨a, rfl, ok, h⟩⟩
    · rw [if_neg r0]
      exact ⟨_, ei_t (hA.mpr f0) (ei_n (nI_nle (by omega) (by omega)) (ob_v (rg_O rfl) (ob_v (m_wrong h.1.2.2.2.1 3) rfl))), zFY.wI (by omega), Or.inl ⟨3, rfl, by decide, by decide, wI_s _ _ _ _⟩⟩
  · rw [if_neg f0]
    obtain ⟨u, y1, e, F, hh⟩ := m_tbs (X := X) (b := b) (w0 := w0) (k := r) (by omega) h.1
    refine ⟨rg_wI y1 24 38 (nI (2 ^ r) + u - 1), ei_n (fun e => f0 (hA.mp e)) (ob_v (rg_O rfl) (ob_v e ?_)), F.q.trans (zFY.wI (by omega)), ?_⟩
    · rw [pw_16 (by omega)]
      exact ob_v (rg_pI rfl rfl _) rfl
    · rcases hh with ⟨t1, t2⟩ | ⟨v, s1, t1, t2, t3, t4⟩
      · exact Or.inl ⟨1, by rw [t1]; rfl, by decide, by decide, by rw [wI_n _ _ (by omega), t2]; rfl⟩
      · have := pw_r hr
        have := Nat.two_pow_pos r
        refine Or.inr ⟨(s1, 2 ^ r + v - 1, a.2.2), by rw [t1]; rfl, ok.r (a := (s1, a.2)) (by omega), ?_⟩
        rw [t3, nI_add, show nI (2 ^ r + v) - 1 = nI (2 ^ r + v - 1) from pk_sub (b := 1) (by omega)]
        exact (h.s F t4).r
theorem m_o78_0 {f M : Nat} {A1 A2 A4 A5 : Int32} (hf : y.1 24 46 = nI f) (h0 : 0 < f) (h9 : f < 100) : fX13_readOthers_78 X (M + 1) (b + 24) A1 A2 A4 A5 (rg_p lM b w0 y) = some (rg_p lM b w0 y) := by
  rw [fX13_readOthers_78.eq_2]
  refine ob_v (rg_I rfl rfl) (ei_c (fun _ => rfl) (fun _ => ob_v (rg_I rfl rfl) (ei_n ?_ rfl)))
  rw [hf]
  exact nI_ne0 h0 (by omega)
theorem m_o238_0 {f : Nat} {A4 A5 A9 S0 : Int32} {k78 : Nat → Int32 → Int32 → Int32 → Int32 → px_W → Option px_W} (hf : y.1 24 46 = nI f) (h0 : 0 < f) (h9 : f < 100) : fX13_readOthers_238 X k78 (b + 24) (nI c) (nI q) A4 A5 A9 S0 (rg_p lM b w0 y) = fX13_readOthers_276 X k78 (b + 24) (nI c) (nI q) A4 A5 (rg_p lM b w0 y) := by
  unfold fX13_readOthers_238 fX13_readOthers_273
  exact ob_v (rg_I rfl rfl) (ei_c (fun _ => ob_v (rg_I rfl rfl) (ob_v (rg_O rfl) (ob_v (m_become0 hf h0 h9) rfl))) (fun _ => ob_v (rg_O rfl) (ob_v (m_become0 hf h0 h9) rfl)))
theorem m_o238 {A4 : Int32} {kk : Nat} {z : Int} {k78 : Nat → Int32 → Int32 → Int32 → Int32 → px_W → Option px_W} (k : zKy y first last bf bb bs) (hf : y.1 24 46 = 0) (hc : c < 4) (hq : bs c + q = T) (hT : 64 * T + 64 ≤ 12288) (k0 : 0 < kk) (hk : kk < 64) (hz : z.natAbs ≤ 1024) :
    ∃ y', (if 0 ≤ iI z then fX13_readOthers_238 X k78 (b + 24) (nI c) (nI q) A4 (nI kk) (iI z) (iI z) (rg_p lM b w0 y) else fX13_readOthers_238 X k78 (b + 24) (nI c) (nI q) A4 (nI kk) (iI z) (-iI z) (rg_p lM b w0 y)) = fX13_readOthers_276 X k78 (b + 24) (nI c) (nI q) A4 (nI kk) (rg_p lM b w0 y') ∧ ((-1023 ≤ z * 2 ^ bb ∧ z * 2 ^ bb ≤ 1023) ∧ y' = rg_wA y 32 (upd (y.2.2.1 32) (64 * T + kk) (iI (z * 2 ^ bb))) ∨ ¬ (-1023 ≤ z * 2 ^ bb ∧ z * 2 ^ bb ≤ 1023) ∧ y' = rg_wI y 24 46 4) := by
  have hb : bb ≤ 9 := k.2.2.2.2.2.2.2.1
  have e31 := k.2.2.2.2.2.2.2.2 c hc
  have kn : ¬ kk = 0 := by omega
  have zb := dr_b hb hz
  have e238 : ∀ r, (if nI z.natAbs ≤ nI (1023 / 2 ^ bb) then fX13_readOthers_273 X k78 (b + 24) (nI c) (nI q) A4 (nI kk) (iI (z * 2 ^ bb)) (nI kk) (nI q) (nI c) (b + 24) (rg_p lM b w0 y) else fX13_readOthers_273 X k78 (b + 24) (nI c) (nI q) A4 (nI kk) (iI 9999) (nI kk) (nI q) (nI c) (b + 24) (rg_p lM b w0 y)) = r → (if 0 ≤ iI z then fX13_readOthers_238 X k78 (b + 24) (nI c) (nI q) A4 (nI kk) (iI z) (iI z) (rg_p lM b w0 y) else fX13_readOthers_238 X k78 (b + 24) (nI c) (nI q) A4 (nI kk) (iI z) (-iI z) (rg_p lM b w0 y)) = r := by
    intro r hr
    have one : fX13_readOthers_238 X k78 (b + 24) (nI c) (nI q) A4 (nI kk) (iI z) (nI z.natAbs) (rg_p lM b w0 y) = r := by
      unfold fX13_readOthers_238
      refine ob_v (rg_I rfl rfl) ?_
      rw [k.2.2.2.1, show (1023 : Int32) >>> (nI bb &&& 31) = nI (1023 / 2 ^ bb) from pk_shrN (n := 1023) (by decide) _ bb (sm_16 (by omega))]
      refine Eq.trans ?_ hr
      congr 1
      refine ob_v (rg_I rfl rfl) ?_
      rw [k.2.2.2.1, pw_16 (by omega), iI_pw]
    by_cases s0 : 0 ≤ z
    · refine ei_t ((iI_le (a := 0) (by omega) (by omega) (by omega) (by omega)).mpr s0) ?_
      rw [show nI z.natAbs = iI z by rw [iI_nat s0]; congr 1; omega] at one
      exact one
    · refine ei_n (fun e => s0 ((iI_le (a := 0) (by omega) (by omega) (by omega) (by omega)).mp e)) ?_
      rw [ne_i, show iI (-z) = nI z.natAbs by rw [iI_nat (by omega)]; congr 1; omega]
      exact one
  have d1 : 1023 / 2 ^ bb ≤ 1023 := Nat.div_le_self _ _
  by_cases o1 : z.natAbs ≤ 1023 / 2 ^ bb
  · have g' := (sh_le hb).mp o1
    rcases m_becomeS (X := X) (b := b) (w0 := w0) (k := kk) (z := z * 2 ^ bb) hc e31 hq hT hk (by omega) hf with ⟨e, g⟩ | ⟨e, g⟩
    · refine ⟨_, e238 _ (ei_t (nI_le o1 (by omega)) ?_), Or.inl ⟨g', rfl⟩⟩
      unfold fX13_readOthers_273
      exact ob_v (rg_O rfl) (ob_v e rfl)
    · exfalso
      unfold cKB at g
      rw [if_neg kn] at g
      exact g g'
  · have g' := fun h => o1 ((sh_le (z := z) hb).mpr h)
    rcases m_becomeS (X := X) (b := b) (w0 := w0) (k := kk) (z := 9999) hc e31 hq hT hk (by decide) hf with ⟨e, g⟩ | ⟨e, g⟩
    · exfalso
      exact absurd g.2 (by decide)
    · refine ⟨_, e238 _ (ei_n (nI_ge (by omega) (by omega)) ?_), Or.inr ⟨g', rfl⟩⟩
      unfold fX13_readOthers_273
      exact ob_v (rg_O rfl) (ob_v e rfl)
theorem m_zOth {A : Int32} (hA : A = 0 ↔ first = 0) (hc : c < 4) (hq : bs c + q = T) (hT : 64 * T + 64 ≤ 12288) (ht : t < 8) (hW : tbOk W.1 W.2.1 W.2.2) : ∀ (j M k : Nat) (y : rg_S) (a : zS), last + 1 ≤ k + j → 1 ≤ k → k ≤ last + 1 → j + 1 < M → zKy y first last bf bb bs → y.2.2.1 40 c = nI t → rT y t W.1 W.2.1 W.2.2 → zY D n y a → zOk a → ∃ y', fX13_readOthers_78 X M (b + 24) (nI c) (nI q) A (nI k) (rg_p lM b w0 y) = some (rg_p lM b w0 y') ∧ zFY y y' ∧ zYo D n (zOth D n W first last bb (64 * T) j k a) y' := by
  intro j
  induction j with
  | zero =>
    intro M k y a hk k1 k2 hM K h40 hw h ok
    obtain ⟨M, rfl⟩ : ∃ M', M = M' + 1 := ⟨M - 1, by omega⟩
    have l6 : last ≤ 63 := K.2.2.2.2.2.1
    refine ⟨y, ?_, zFY.rfl, Or.inr ⟨a, rfl, ok, h⟩⟩
    rw [fX13_readOthers_78.eq_2]
    refine ob_v (rg_I rfl rfl) (ei_t ?_ rfl)
    rw [K.2.1]
    exact nI_lt (by omega) (by omega)
  | succ j ih =>
    intro M k y a hk k1 k2 hM K h40 hw h ok
    obtain ⟨M, rfl⟩ : ∃ M', M = M' + 1 := ⟨M - 1, by omega⟩
    have l6 : last ≤ 63 := K.2.2.2.2.2.1
    have hb : bb ≤ 9 := K.2.2.2.2.2.2.2.1
    by_cases q0 : last < k
    · rw [zOth_d q0]
      refine ⟨y, ?_, zFY.rfl, Or.inr ⟨a, rfl, ok, h⟩⟩
      rw [fX13_readOthers_78.eq_2]
      refine ob_v (rg_I rfl rfl) (ei_t ?_ rfl)
      rw [K.2.1]
      exact nI_lt q0 (by omega)
    · unfold zOth
      rw [if_neg q0]
      obtain ⟨v, y1, e1, F1, hh⟩ := m_sb (X := X) (b := b) (w0 := w0) ht hW h.1 hw
      have K1 := K.f F1.q
      have st : ∀ (u : Nat) (r : Option px_W), u < 256 → v = nI u → (if y1.1 24 46 ≤ 0 then (if nI (u % 16) = 0 then (if 15 ≤ nI (u / 16) then fX13_readOthers_178 X (fX13_readOthers_78 X M) (b + 24) (nI c) (nI q) A (nI k) (nI (u / 16)) (nI (u % 16)) (rg_p lM b w0 y1) else fX13_readOthers_140 X (b + 24) A (nI (u / 16)) (rg_p lM b w0 y1)) else fX13_readOthers_178 X (fX13_readOthers_78 X M) (b + 24) (nI c) (nI q) A (nI k) (nI (u / 16)) (nI (u % 16)) (rg_p lM b w0 y1)) else some (rg_p lM b w0 y1)) = r → fX13_readOthers_78 X (M + 1) (b + 24) (nI c) (nI q) A (nI k) (rg_p lM b w0 y) = r := by
        intro u r hu hv hr
        rw [fX13_readOthers_78.eq_2]
        refine ob_v (rg_I rfl rfl) (ei_n ?_ (ob_v (rg_I rfl rfl) (ei_t h.1.2.2.2.1 (ob_v (rg_C rfl rfl) (ob_v (rg_A rfl (by decide) _ hc (by decide)) (ob_v (rg_O rfl) ?_))))))
        · rw [K.2.1]
          exact nI_nlt (by omega) (by omega)
        · rw [h40]
          refine ob_v e1 ?_
          dsimp only
          rw [hv]
          exact ob_v (dI_n (d := 16) (by omega) (by decide) (by decide)) (ob_v (rI_n (d := 16) (by omega) (by decide) (by decide)) (ob_v (rg_I rfl rfl) hr))
      rcases hh with ⟨f, t1, t2, t3, t4, t5⟩ | ⟨u, s1, t1, t2, t3, t4⟩
      · refine ⟨y1, st 0 _ (by decide) t5 (ei_n (by rw [t4]; exact nI_nle t2 (by omega)) rfl), F1.q, Or.inl ⟨f, by rw [t1]; rfl, t2, t3, t4⟩⟩
      · rw [t1]
        show ∃ y', _ ∧ _ ∧ zYo D n (if u % 16 = 0 ∧ u / 16 < 15 then _ else _) y'
        have h1 := h.s F1 t4
        have ok1 := ok.s s1
        have w1' := hw.q F1.q
        have h401 : y1.2.2.1 40 c = nI t := by
          rw [F1.2]
          exact h40
        have f0 : y1.1 24 46 ≤ 0 := by
          rw [t4.2.2.2.1]
          decide
        have st2 := fun r hr => st u r t2 t3 (ei_t f0 hr)
        by_cases qe : u % 16 = 0 ∧ u / 16 < 15
        · rw [if_pos qe]
          obtain ⟨y2, e2, F2, o2⟩ := m_zEnd (X := X) (b := b) (w0 := w0) hA qe.2 h1 ok1
          exact ⟨y2, st2 _ (ei_t (by rw [qe.1]; rfl) (ei_n (nI_ge (b := 15) qe.2 (by decide)) e2)), F1.q.trans F2, o2⟩
        · rw [if_neg qe]
          have st3 : ∀ r, fX13_readOthers_178 X (fX13_readOthers_78 X M) (b + 24) (nI c) (nI q) A (nI k) (nI (u / 16)) (nI (u % 16)) (rg_p lM b w0 y1) = r → fX13_readOthers_78 X (M + 1) (b + 24) (nI c) (nI q) A (nI k) (rg_p lM b w0 y) = r := by
            intro r hr
            by_cases z0 : u % 16 = 0
            · exact st2 _ (ei_t (by rw [z0]; rfl) (ei_t (nI_le (a := 15) (by omega) (by omega)) hr))
            · exact st2 _ (ei_n (nI_ne0 (by omega) (by omega)) hr)
          have e117 : fX13_readOthers_197 X (b + 24) (rg_p lM b w0 y1) = some (rg_p lM b w0 (rg_wI y1 24 46 3)) := by
            unfold fX13_readOthers_197
            exact ob_v (rg_O rfl) (ob_v (m_wrong t4.2.2.2.1 3) rfl)
          by_cases q3 : 10 < u % 16 ∨ last < k + u / 16
          · rw [if_pos q3]
            refine ⟨_, st3 _ ?_, F1.q.trans (zFY.wI (by omega)), Or.inl ⟨3, rfl, by decide, by decide, wI_s _ _ _ _⟩⟩
            unfold fX13_readOthers_178
            by_cases q4 : 10 < u % 16
            · exact ei_t (nI_lt (a := 10) q4 (by omega)) e117
            · refine ei_n (nI_nlt (b := u % 16) (a := 10) (by omega) (by decide)) (ob_v (rg_I rfl rfl) (ei_n ?_ e117))
              rw [K1.2.1, nI_add]
              exact nI_ge (by omega) (by omega)
          · rw [if_neg q3]
            have st4 : ∀ r, (if nI (u % 16) ≤ 0 then fX13_readOthers_276 X (fX13_readOthers_78 X M) (b + 24) (nI c) (nI q) A (nI (k + u / 16)) (rg_p lM b w0 y1) else (gO (rg_p lM b w0 y1) (b + 24) 13).bind fun o44 => (fX13_numberOf X (rg_p lM b w0 y1) (b + 24) (nI (u % 16))).bind fun q45 => if 0 ≤ q45.1 then fX13_readOthers_238 X (fX13_readOthers_78 X M) (b + 24) (nI c) (nI q) A (nI (k + u / 16)) q45.1 q45.1 q45.2 else fX13_readOthers_238 X (fX13_readOthers_78 X M) (b + 24) (nI c) (nI q) A (nI (k + u / 16)) q45.1 (-q45.1) q45.2) = r → fX13_readOthers_78 X (M + 1) (b + 24) (nI c) (nI q) A (nI k) (rg_p lM b w0 y) = r := by
              intro r hr
              refine st3 _ ?_
              unfold fX13_readOthers_178
              refine ei_n (nI_nlt (b := u % 16) (a := 10) (by omega) (by decide)) (ob_v (rg_I rfl rfl) ?_)
              rw [K1.2.1, nI_add]
              exact ei_t (nI_le (by omega) (by omega)) hr
            by_cases z0 : u % 16 = 0
            · rw [if_pos z0]
              obtain ⟨y2, e2, F2, o2⟩ := ih M (k + u / 16 + 1) y1 (s1, a.2) (by omega) (by omega) (by omega) (by omega) K1 h401 w1' h1 ok1
              refine ⟨y2, st4 _ (ei_t (by rw [z0]; decide) ?_), F1.q.trans F2, o2⟩
              unfold fX13_readOthers_276
              rw [show nI (k + u / 16) + 1 = nI (k + u / 16 + 1) from nI_add _ 1]
              exact e2
            · rw [if_neg z0]
              obtain ⟨v0, y2, e2, F2, hh2⟩ := m_numO (X := X) (b := b) (w0 := w0) (k := u % 16) (by omega) h1.1
              have K2 := K1.f F2.q
              have st5 : ∀ r, (if 0 ≤ v0 then fX13_readOthers_238 X (fX13_readOthers_78 X M) (b + 24) (nI c) (nI q) A (nI (k + u / 16)) v0 v0 (rg_p lM b w0 y2) else fX13_readOthers_238 X (fX13_readOthers_78 X M) (b + 24) (nI c) (nI q) A (nI (k + u / 16)) v0 (-v0) (rg_p lM b w0 y2)) = r → fX13_readOthers_78 X (M + 1) (b + 24) (nI c) (nI q) A (nI k) (rg_p lM b w0 y) = r := by
                intro r hr
                exact st4 _ (ei_n (nI_nle (by omega) (by omega)) (ob_v (rg_O rfl) (ob_v e2 hr)))
              have bad : ∀ (z : rg_S) (f : Nat), z.1 24 46 = nI f → 0 < f → f < 100 → fX13_readOthers_276 X (fX13_readOthers_78 X M) (b + 24) (nI c) (nI q) A (nI (k + u / 16)) (rg_p lM b w0 z) = some (rg_p lM b w0 z) := by
                intro z f hz f0 f9
                obtain ⟨M', rfl⟩ : ∃ M', M = M' + 1 := ⟨M - 1, by omega⟩
                unfold fX13_readOthers_276
                exact m_o78_0 hz f0 f9
              rcases hh2 with ⟨r1, r2⟩ | ⟨vv, s2, r1, r2, r3, r4⟩
              · have y26 : y2.1 24 46 = nI 1 := r2
                refine ⟨y2, st5 _ (ei_c (fun _ => ?_) (fun _ => ?_)), F1.q.trans F2.q, Or.inl ⟨1, by rw [r1]; rfl, by decide, by decide, y26⟩⟩
                · rw [m_o238_0 y26 (by decide) (by decide)]
                  exact bad y2 1 y26 (by decide) (by decide)
                · rw [m_o238_0 y26 (by decide) (by decide)]
                  exact bad y2 1 y26 (by decide) (by decide)
              · rw [r1]
                show ∃ y', _ ∧ _ ∧ zYo D n (if -1023 ≤ nmb (u % 16) vv * 2 ^ bb ∧ nmb (u % 16) vv * 2 ^ bb ≤ 1023 then zOth D n W first last bb (64 * T) j (k + u / 16 + 1) (s2, a.2.1, a.2.2.1, upd a.2.2.2 (64 * T + (k + u / 16)) (iI (nmb (u % 16) vv * 2 ^ bb))) else .inl 4) y'
                rw [r3] at st5
                have hz : (nmb (u % 16) vv).natAbs ≤ 1024 := by
                  have h2 := nmb_b r2
                  have h3 : 2 ^ (u % 16) ≤ 2 ^ 10 := Nat.pow_le_pow_right (by decide) (by omega)
                  omega
                have h2 := h1.s F2 r4
                obtain ⟨y3, e3, g3⟩ := m_o238 (X := X) (b := b) (w0 := w0) (A4 := A) (kk := k + u / 16) (z := nmb (u % 16) vv) (k78 := fX13_readOthers_78 X M) K2 r4.2.2.2.1 hc hq hT (by omega) (by omega) hz
                have zb := dr_b hb hz
                generalize nmb (u % 16) vv * 2 ^ bb = z at g3 zb ⊢
                rcases g3 with ⟨g, rfl⟩ | ⟨g, rfl⟩
                · rw [if_pos g]
                  have F3 : zFY y1 (rg_wA y2 32 (upd (y2.2.2.1 32) (64 * T + (k + u / 16)) (iI z))) := F2.q.trans (zFY.w32 _)
                  obtain ⟨y4, e4, F4, o4⟩ := ih M (k + u / 16 + 1) _ (s2, a.2.1, a.2.2.1, upd a.2.2.2 (64 * T + (k + u / 16)) (iI z)) (by omega) (by omega) (by omega) (by omega) (K1.f F3) (by rw [F3.2.2.1 40 (by decide) (by decide)]; exact h401) (w1'.q F3) h2.q ((ok.s s2).q (by
                    unfold cfOk
                    rw [if_neg (by omega), iI_t (by omega) (by omega)]
                    exact g))
                  refine ⟨y4, st5 _ (e3.trans ?_), F1.q.trans (F3.trans F4), o4⟩
                  unfold fX13_readOthers_276
                  rw [show nI (k + u / 16) + 1 = nI (k + u / 16 + 1) from nI_add _ 1]
                  exact e4
                · rw [if_neg g]
                  exact ⟨_, st5 _ (e3.trans (bad _ 4 (wI_s _ _ _ _) (by decide) (by decide))), F1.q.trans (F2.q.trans (zFY.wI (by omega))), Or.inl ⟨4, rfl, by decide, by decide, wI_s _ _ _ _⟩⟩
/-- the band is nothing yet: to make it nothing changes nothing -/
theorem m_o17 {A F : Int32} (k : zKy y first last bf bb bs) (h : zY D n y a) (hc : c < 4) (hq : bs c + q = T) (hT : 64 * T + 64 ≤ 12288) {fr : Nat} (hz : ∀ i, fr ≤ i → i ≤ last → a.2.2.2 (64 * T + i) = 0) : ∀ (j M i : Nat), last + 1 = i + j → fr ≤ i → j < M → fX13_readOthers_17 X M (b + 24) (nI c) (nI q) F A (nI i) (rg_p lM b w0 y) = fX13_readOthers_52 X (b + 24) (nI c) (nI q) F A (rg_p lM b w0 y) := by
  have l6 : last ≤ 63 := k.2.2.2.2.2.1
  intro j
  induction j with
  | zero =>
    intro M i hi _ hM
    obtain ⟨M, rfl⟩ : ∃ M', M = M' + 1 := ⟨M - 1, by omega⟩
    rw [fX13_readOthers_17.eq_2]
    refine ob_v (rg_I rfl rfl) (ei_t ?_ rfl)
    rw [k.2.1]
    exact nI_lt (by omega) (by omega)
  | succ j ih =>
    intro M i hi fi hM
    obtain ⟨M, rfl⟩ : ∃ M', M = M' + 1 := ⟨M - 1, by omega⟩
    rw [fX13_readOthers_17.eq_2]
    refine ob_v (rg_I rfl rfl) (ei_n ?_ (ob_v (rg_C rfl rfl) (ob_v (rg_C rfl rfl) (ob_v (rg_A rfl (by decide) _ hc (by decide)) ?_))))
    · rw [k.2.1]
      exact nI_nlt (by omega) (by omega)
    · rw [k.2.2.2.2.2.2.2.2 c hc, n64' hq, nI_add]
      refine ob_v (rg_sA _ rfl (by decide) _ _ (by omega) (by decide)) ?_
      have e0 : vp_nar .short 0 = y.2.2.1 32 (64 * T + i) := by
        rw [h.2.2.2 _ (by omega), hz i fi (by omega)]
        decide
      rw [e0, upd_id, wA_id rfl, show nI i + 1 = nI (i + 1) from nI_add _ 1]
      exact ih M (i + 1) (by omega) (by omega) (by omega)
theorem m_zOt (k : zKy y first last bf bb bs) (hc : c < 4) (hq : bs c + q = T) (hT : 64 * T + 64 ≤ 12288) (ht : t < 8) (hW : tbOk W.1 W.2.1 W.2.2) (h40 : y.2.2.1 40 c = nI t) (hw : rT y t W.1 W.2.1 W.2.2) (hl : 0 < last) (h : zY D n y a) (ok : zOk a) (hr : first = 0 → a.2.1 = 0) (hz : ∀ i, max 1 first ≤ i → i ≤ last → a.2.2.2 (64 * T + i) = 0) : ∃ y', fX13_readOthers X (rg_p lM b w0 y) (b + 24) (nI c) (nI q) (nI (max 1 first)) = some (rg_p lM b w0 y') ∧ zFY y y' ∧ zYo D n (zOt D n W first last bb (64 * T) a) y' := by
  have l6 : last ≤ 63 := k.2.2.2.2.2.1
  have fl : first ≤ last := k.2.2.2.2.1
  have o1 := ok.1
  have st : ∃ A : Int32, (A = 0 ↔ first = 0) ∧ ∀ r, fX13_readOthers_52 X (b + 24) (nI c) (nI q) (nI (max 1 first)) A (rg_p lM b w0 y) = r → fX13_readOthers X (rg_p lM b w0 y) (b + 24) (nI c) (nI q) (nI (max 1 first)) = r := by
    have e17 := fun A => m_o17 (X := X) (b := b) (w0 := w0) (A := A) (F := nI (max 1 first)) k h hc hq hT hz (last + 1 - max 1 first) FU (max 1 first) (by omega) (by omega) (by unfold FU; omega)
    by_cases f0 : first = 0
    · refine ⟨0, by simp [f0], fun r hr => ?_⟩
      unfold fX13_readOthers fX13_readOthers_12
      exact ob_v (rg_I rfl rfl) (ei_t (by rw [k.1, f0]; decide) ((e17 0).trans hr))
    · refine ⟨1, by simp [f0], fun r hr => ?_⟩
      unfold fX13_readOthers fX13_readOthers_12
      exact ob_v (rg_I rfl rfl) (ei_n (by rw [k.1]; exact nI_nle (by omega) (by omega)) ((e17 1).trans hr))
  obtain ⟨A, hA, st⟩ := st
  have go : ∃ y', fX13_readOthers_75 X (b + 24) (nI c) (nI q) (nI (max 1 first)) A (rg_p lM b w0 y) = some (rg_p lM b w0 y') ∧ zFY y y' ∧ zYo D n (zOth D n W first last bb (64 * T) 64 (max 1 first) a) y' := by
    obtain ⟨y1, e1, F1, o2⟩ := m_zOth (X := X) (b := b) (w0 := w0) (W := W) hA hc hq hT ht hW 64 FU (max 1 first) y a (by omega) (by omega) (by omega) (by unfold FU; omega) k h40 hw h ok
    refine ⟨y1, ?_, F1, o2⟩
    unfold fX13_readOthers_75
    exact e1
  unfold zOt
  by_cases q0 : 0 < a.2.1
  · rw [if_pos q0]
    refine ⟨_, st _ ?_, zFY.wI (y := y) (k := 38) (v := nI (a.2.1 - 1)) (by omega), Or.inr ⟨_, rfl, ok.r (by omega), h.r⟩⟩
    unfold fX13_readOthers_52
    refine ei_n (fun e => ?_) (ob_v (rg_I rfl rfl) ?_)
    · have := hr (hA.mp e)
      omega
    · rw [h.2.1]
      refine ei_n (nI_nle q0 (by omega)) (ob_v (rg_I rfl rfl) ?_)
      rw [h.2.1, show nI a.2.1 - 1 = nI (a.2.1 - 1) from pk_sub (b := 1) (by omega)]
      exact ob_v (rg_pI rfl rfl _) rfl
  · rw [if_neg q0]
    obtain ⟨y1, e1, F1, o2⟩ := go
    refine ⟨y1, st _ ?_, F1, o2⟩
    unfold fX13_readOthers_52
    exact ei_c (fun _ => e1) (fun _ => ob_v (rg_I rfl rfl) (ei_t (by rw [h.2.1, show a.2.1 = 0 by omega]; decide) e1))
end
