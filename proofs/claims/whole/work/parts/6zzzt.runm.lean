/-! loops over a scan's units, by the reference -/
def zCy (y : rg_S) (first last bf bb : Nat) (bs : Nat → Nat) (g : gG) (cm : Nat → Nat) (mm iv : Nat) (td ta : Nat → Nat) (Wd Wa : Nat → zT) : Prop := zKy y first last bf bb bs ∧ (∀ c, c < g.2.2.1 → bs c = gBs g c) ∧ uYr y g cm mm iv ∧ ∀ i, i < mm → zTy y (cm i) (td (cm i)) (ta (cm i)) first last bf (Wd (cm i)) (Wa (cm i))
def zIv (g : gG) (cm : Nat → Nat) (mm first last bf t : Nat) (a : zS) : Prop := (first = 0 → a.2.1 = 0) ∧ zNl g cm mm first last bf t a.2.2.2
section
variable {X : px_X} {b B : Nat} {w0 w1 : px_W} {y y' : rg_S} {D : Nat → Nat} {n mm i j u first last bf bb iv : Nat} {bs cm td ta : Nat → Nat} {Wd Wa : Nat → zT} {a : zS} {g : gG}
theorem zCy.f (h : zCy y first last bf bb bs g cm mm iv td ta Wd Wa) (F : zFY y y') : zCy y' first last bf bb bs g cm mm iv td ta Wd Wa := ⟨h.1.f F, h.2.1, h.2.2.1.f F, fun i hi => (h.2.2.2 i hi).f F⟩
theorem m_blk_t {c : Nat} (hg : gOk g) (hm : mOk g cm mm) (h : uYr y g cm mm iv) (hc : c < g.2.2.1) : ∃ k, k < 10000 ∧ fX13_blocksIn X (rg_p lM b w0 y) (b + 24) (nI c) = some (nI k, rg_p lM b w0 y) := by
  have h4 := hg.2.2.2.2.2.1
  by_cases q : ∀ i, i < mm → cm i ≠ c
  · exact ⟨0, by decide, m_blocks0 h (by omega) q⟩
  · obtain ⟨i, hq⟩ := Classical.not_forall.mp q
    obtain ⟨hi, he⟩ := Classical.not_imp.mp hq
    have he := Classical.not_not.mp he
    subst he
    refine ⟨_, ?_, m_blocksR hg hm h hi⟩
    have f := hg.2.2.2.2.2.2 (cm i) hc
    unfold uB
    split
    · omega
    · have : g.2.2.2.1 (cm i) * g.2.2.2.2 (cm i) ≤ 2 * 2 := Nat.mul_le_mul f.1.2 f.2.2
      omega
theorem m_h120_0 {f c M : Nat} {A1 A2 : Int32} {k4 : Nat → Int32 → Int32 → px_W → Option (px_W)} {k108 : Nat → Int32 → Int32 → Int32 → px_W → Option (px_W)} (hg : gOk g) (hm : mOk g cm mm) (h : uYr y g cm mm iv) (hc : c < g.2.2.1) (hf : y.1 24 46 = nI f) (h0 : 0 < f) (h9 : f < 100) {A5 : Int32} : fX13_readAll_120 X k4 k108 (M + 1) (b + 24) A1 A2 (nI c) A5 (rg_p lM b w0 y) = k108 (b + 24) A1 A2 (nI (c + 1)) (rg_p lM b w0 y) := by
  obtain ⟨k, hk, e⟩ := m_blk_t (X := X) (b := b) (w0 := w0) hg hm h hc
  rw [fX13_readAll_120.eq_2]
  have e159 : fX13_readAll_159 X k4 k108 (b + 24) A1 A2 (nI c) (rg_p lM b w0 y) = k108 (b + 24) A1 A2 (nI (c + 1)) (rg_p lM b w0 y) := by
    unfold fX13_readAll_159
    rw [nI_1]
  exact ob_v (rg_O rfl) (ob_v e (ei_c (fun _ => e159) (fun _ => ob_v (rg_I rfl rfl) (ei_n (by rw [hf]; exact nI_ne0 h0 (by omega)) e159))))
theorem m_js (hg : gOk g) (hm : mOk g cm mm) (hb : gBs g g.2.2.1 ≤ 192) (hff : first = 0 → 0 < last → bf = 0) (hu : u < uU g cm mm) (hi : i < mm) {A1 : Int32} {k4 : Nat → Int32 → Int32 → px_W → Option (px_W)} {k108 : Nat → Int32 → Int32 → Int32 → px_W → Option (px_W)} : ∀ (r j M : Nat) (y : rg_S) (a : zS), j + r = uB g mm (cm i) → r < M → zCy y first last bf bb bs g cm mm iv td ta Wd Wa → zY D n y a → zOk a → zIv g cm mm first last bf (16 * u + uO g cm mm i + j) a → ∃ y', fX13_readAll_120 X k4 k108 M (b + 24) A1 (nI u) (nI (cm i)) (nI j) (rg_p lM b w0 y) = k108 (b + 24) A1 (nI u) (nI (cm i + 1)) (rg_p lM b w0 y') ∧ zFY y y' ∧ zYo D n (zJs (zBk D n Wd Wa first last bf bb g mm u) (cm i) r j a) y' ∧ ∀ a', zJs (zBk D n Wd Wa first last bf bb g mm u) (cm i) r j a = .inr a' → zIv g cm mm first last bf (16 * u + uO g cm mm (i + 1)) a' := by
  have h4 := hg.2.2.2.2.2.1
  have hmm := hm.2.1
  have hc := hm.2.2.1 i hi
  have k1 : uO g cm mm (i + 1) = uO g cm mm i + uB g mm (cm i) := rfl
  have k2 := uO_mono (g := g) (cm := cm) (mm := mm) (show i + 1 ≤ mm by omega)
  have h10 := hm.2.2.2.2
  intro r
  induction r with
  | zero =>
    intro j M y a hj hM C h ok I
    obtain ⟨M, rfl⟩ : ∃ M', M = M' + 1 := ⟨M - 1, by omega⟩
    refine ⟨y, ?_, zFY.rfl, Or.inr ⟨a, rfl, ok, h⟩, fun a' e => ?_⟩
    · rw [fX13_readAll_120.eq_2]
      refine ob_v (rg_O rfl) (ob_v (m_blocksR hg hm C.2.2.1 hi) (ei_t (nI_le (by omega) (by omega)) ?_))
      unfold fX13_readAll_159
      rw [nI_1]
    · have := Sum.inr.inj e
      rw [← this]
      rw [show 16 * u + uO g cm mm i + j = 16 * u + uO g cm mm (i + 1) by omega] at I
      exact I
  | succ r ih =>
    intro j M y a hj hM C h ok I
    obtain ⟨M, rfl⟩ : ∃ M', M = M' + 1 := ⟨M - 1, by omega⟩
    obtain ⟨M0, hM0⟩ : ∃ M', M = M' + 1 := ⟨M - 1, by omega⟩
    have hj' : j < uB g mm (cm i) := by omega
    have tl := uT_lt hg hm hu hi hj'
    obtain ⟨y1, e1, F1, o1⟩ := m_zBlk (X := X) (b := b) (w0 := w0) (T := uT g mm u (cm i) j) (q := scQ g mm u (cm i) j) (c := cm i) C.1 hff h ok (by omega) (by rw [C.2.1 _ hc]; rfl) (by omega) (C.2.2.2 i hi) I.1 (fun b0 l0 k ka kb => I.2 b0 l0 u i j hu hi hj' (Nat.le_refl _) k ka kb)
    have C1 := C.f F1
    have st : fX13_readAll_120 X k4 k108 (M + 1) (b + 24) A1 (nI u) (nI (cm i)) (nI j) (rg_p lM b w0 y) = fX13_readAll_120 X k4 k108 M (b + 24) A1 (nI u) (nI (cm i)) (nI (j + 1)) (rg_p lM b w0 y1) := by
      rw [fX13_readAll_120.eq_2]
      refine ob_v (rg_O rfl) (ob_v (m_blocksR hg hm C.2.2.1 hi) (ei_n (nI_ge (by omega) (by omega)) (ob_v (rg_I rfl rfl) (ei_t h.1.2.2.2.1 (ob_v (rg_O rfl) (ob_v (m_blockOfR hg hm C.2.2.1 hu hi hj') (ob_v (rg_O rfl) (ob_v e1 ?_))))))))
      rw [nI_1]
    unfold zJs
    rcases o1 with ⟨f, r1, r2, r3, r4⟩ | ⟨a1, r1, r2, r3⟩
    · have ez : zBd (zBk D n Wd Wa first last bf bb g mm u (cm i) j a) (zJs (zBk D n Wd Wa first last bf bb g mm u) (cm i) r (j + 1)) = .inl f := by
        show zBd (zBlk D n (Wd (cm i)) (Wa (cm i)) first last bf bb (cm i) (uT g mm u (cm i) j) a) _ = _
        rw [r1]
        rfl
      rw [ez]
      refine ⟨y1, ?_, F1, Or.inl ⟨f, rfl, r2, r3, r4⟩, fun a' e => by cases e⟩
      rw [st, hM0]
      exact m_h120_0 hg hm C1.2.2.1 hc r4 r2 r3
    · have ez : zBd (zBk D n Wd Wa first last bf bb g mm u (cm i) j a) (zJs (zBk D n Wd Wa first last bf bb g mm u) (cm i) r (j + 1)) = zJs (zBk D n Wd Wa first last bf bb g mm u) (cm i) r (j + 1) a1 := by
        show zBd (zBlk D n (Wd (cm i)) (Wa (cm i)) first last bf bb (cm i) (uT g mm u (cm i) j) a) _ = _
        rw [r1]
        rfl
      obtain ⟨bs1, bs2⟩ := zBlk_s C.1.2.2.2.2.2.1 C.1.2.2.2.2.1 hff r1
      have I1 : zIv g cm mm first last bf (16 * u + uO g cm mm i + (j + 1)) a1 := ⟨fun f0 => bs2 f0 (I.1 f0), I.2.s hg hm C.1.2.2.2.2.2.1 hu hi hj' bs1⟩
      obtain ⟨y2, e2, F2, o2, I2⟩ := ih (j + 1) M y1 a1 (by omega) (by omega) C1 r3 r2 I1
      rw [ez]
      exact ⟨y2, st.trans e2, F1.trans F2, o2, I2⟩
theorem m_is0 {f : Nat} {A1 : Int32} {k4 : Nat → Int32 → Int32 → px_W → Option (px_W)} (hg : gOk g) (hm : mOk g cm mm) (h : uYr y g cm mm iv) (hf : y.1 24 46 = nI f) (h0 : 0 < f) (h9 : f < 100) : ∀ (d M c : Nat), c + d = g.2.2.1 → d < M → fX13_readAll_108 X k4 M (b + 24) A1 (nI u) (nI c) (rg_p lM b w0 y) = k4 (b + 24) A1 (nI (u + 1)) (rg_p lM b w0 y) := by
  have h4 := hg.2.2.2.2.2.1
  intro d
  induction d with
  | zero =>
    intro M c hc hM
    obtain ⟨M, rfl⟩ : ∃ M', M = M' + 1 := ⟨M - 1, by omega⟩
    rw [fX13_readAll_108.eq_2]
    refine ob_v (rg_I rfl rfl) ?_
    rw [h.2.2.2.1]
    refine ei_t (nI_le (by omega) (by omega)) ?_
    unfold fX13_readAll_165
    rw [nI_1]
  | succ d ih =>
    intro M c hc hM
    obtain ⟨M, rfl⟩ : ∃ M', M = M' + 1 := ⟨M - 1, by omega⟩
    rw [fX13_readAll_108.eq_2]
    refine ob_v (rg_I rfl rfl) ?_
    rw [h.2.2.2.1]
    refine ei_n (nI_ge (by omega) (by omega)) ?_
    rw [show FU = 3999999 + 1 from rfl, m_h120_0 hg hm h (by omega) hf h0 h9]
    exact ih M (c + 1) (by omega) (by omega)
theorem m_is (hg : gOk g) (hm : mOk g cm mm) (hb : gBs g g.2.2.1 ≤ 192) (hff : first = 0 → 0 < last → bf = 0) (hu : u < uU g cm mm) {A1 : Int32} {k4 : Nat → Int32 → Int32 → px_W → Option (px_W)} : ∀ (d M c i : Nat) (y : rg_S) (a : zS), c + d = g.2.2.1 → d < M → i ≤ mm → (∀ k, k < i → cm k < c) → (∀ k, i ≤ k → k < mm → c ≤ cm k) → zCy y first last bf bb bs g cm mm iv td ta Wd Wa → zY D n y a → zOk a → zIv g cm mm first last bf (16 * u + uO g cm mm i) a → ∃ y', fX13_readAll_108 X k4 M (b + 24) A1 (nI u) (nI c) (rg_p lM b w0 y) = k4 (b + 24) A1 (nI (u + 1)) (rg_p lM b w0 y') ∧ zFY y y' ∧ zYo D n (zIs (zBk D n Wd Wa first last bf bb g mm u) cm (uB g mm) (mm - i) i a) y' ∧ ∀ a', zIs (zBk D n Wd Wa first last bf bb g mm u) cm (uB g mm) (mm - i) i a = .inr a' → zIv g cm mm first last bf (16 * u + uO g cm mm mm) a' := by
  have h4 := hg.2.2.2.2.2.1
  intro d
  induction d with
  | zero =>
    intro M c i y a hc hM hi p1 p2 C h ok I
    obtain ⟨M, rfl⟩ : ∃ M', M = M' + 1 := ⟨M - 1, by omega⟩
    have im : i = mm := by
      rcases Nat.lt_or_ge i mm with q | q
      · have e1 := p2 i (Nat.le_refl _) q
        have e2 := hm.2.2.1 i q
        omega
      · omega
    rw [im, Nat.sub_self]
    rw [im] at I
    refine ⟨y, ?_, zFY.rfl, Or.inr ⟨a, rfl, ok, h⟩, fun a' e => ?_⟩
    · rw [fX13_readAll_108.eq_2]
      refine ob_v (rg_I rfl rfl) ?_
      rw [C.2.2.1.2.2.2.1]
      refine ei_t (nI_le (by omega) (by omega)) ?_
      unfold fX13_readAll_165
      rw [nI_1]
    · have := Sum.inr.inj e
      rw [← this]
      exact I
  | succ d ih =>
    intro M c i y a hc hM hi p1 p2 C h ok I
    obtain ⟨M, rfl⟩ : ∃ M', M = M' + 1 := ⟨M - 1, by omega⟩
    have st : ∀ r, fX13_readAll_120 X k4 (fX13_readAll_108 X k4 M) FU (b + 24) A1 (nI u) (nI c) (nI 0) (rg_p lM b w0 y) = r → fX13_readAll_108 X k4 (M + 1) (b + 24) A1 (nI u) (nI c) (rg_p lM b w0 y) = r := by
      intro r hr
      rw [fX13_readAll_108.eq_2]
      refine ob_v (rg_I rfl rfl) ?_
      rw [C.2.2.1.2.2.2.1]
      exact ei_n (nI_ge (by omega) (by omega)) hr
    by_cases q : i < mm ∧ cm i = c
    · obtain ⟨q1, q2⟩ := q
      have f := hg.2.2.2.2.2.2 (cm i) (hm.2.2.1 i q1)
      have ub : uB g mm (cm i) < 10 := by
        unfold uB
        split
        · omega
        · have : g.2.2.2.1 (cm i) * g.2.2.2.2 (cm i) ≤ 2 * 2 := Nat.mul_le_mul f.1.2 f.2.2
          omega
      obtain ⟨y1, e1, F1, o1, I1⟩ := m_js (X := X) (b := b) (w0 := w0) (A1 := A1) (k4 := k4) (k108 := fX13_readAll_108 X k4 M) hg hm hb hff hu q1 (uB g mm (cm i)) 0 FU y a (by omega) (by unfold FU; omega) C h ok I
      have C1 := C.f F1
      rw [show mm - i = mm - (i + 1) + 1 by omega]
      unfold zIs
      rw [q2] at e1
      rcases o1 with ⟨f, r1, r2, r3, r4⟩ | ⟨a1, r1, r2, r3⟩
      · rw [r1]
        exact ⟨y1, st _ (e1.trans (m_is0 hg hm C1.2.2.1 r4 r2 r3 d M (c + 1) (by omega) (by omega))), F1, Or.inl ⟨f, rfl, r2, r3, r4⟩, fun a' e => by cases e⟩
      · obtain ⟨y2, e2, F2, o2, I2⟩ := ih M (c + 1) (i + 1) y1 a1 (by omega) (by omega) (by omega) (fun k hk => by
          rcases Nat.lt_or_ge k i with z | z
          · have := p1 k z
            omega
          · rw [show k = i by omega]
            omega) (fun k ka kb => by
          have := hm.2.2.2.1 i k (by omega) kb
          omega) C1 r3 r2 (I1 a1 r1)
        rw [r1]
        exact ⟨y2, st _ (e1.trans e2), F1.trans F2, o2, I2⟩
    · have ne : ∀ k, k < mm → cm k ≠ c := by
        intro k hk e
        rcases Nat.lt_trichotomy k i with z | z | z
        · have := p1 k z
          omega
        · exact q ⟨by omega, by rw [← z]; exact e⟩
        · have g1 := hm.2.2.2.1 i k z hk
          have g2 := p2 i (Nat.le_refl _) (by omega)
          omega
      obtain ⟨y2, e2, F2, o2, I2⟩ := ih M (c + 1) i y a (by omega) (by omega) hi (fun k hk => by have := p1 k hk; omega) (fun k ka kb => by
        have g1 := p2 k ka kb
        have g2 := ne k kb
        omega) C h ok I
      refine ⟨y2, st _ ?_, F2, o2, I2⟩
      rw [show FU = 3999999 + 1 from rfl, fX13_readAll_120.eq_2]
      refine ob_v (rg_O rfl) (ob_v (m_blocks0 C.2.2.1 (by omega) ne) (ei_t (nI_le (Nat.le_refl _) (by omega)) ?_))
      unfold fX13_readAll_159
      rw [nI_1]
      exact e2
/-- predictions begin anew -/
theorem m_rp0 {k4 : Nat → Int32 → Int32 → px_W → Option (px_W)} {a1 a2 a3 : Int32} (h : a2 = 0 ∨ a3 ≠ 0) : fX13_readAll_64 X k4 (b + 24) a1 a2 a3 (rg_p lM b w0 y) = fX13_readAll_105 X k4 (b + 24) a1 a2 (rg_p lM b w0 (rg_wA y 44 (fU 4 (fun _ => 0) (y.2.2.1 44)))) := by
  unfold fX13_readAll_64
  have e := rg_lpF (F := fun M (s : Int32 × rg_S) => fX13_readAll_67 X k4 M (b + 24) a1 a2 a3 s.1 (rg_p lM b w0 s.2)) 4 (fun i => (nI i, rg_wA y 44 (fU i (fun _ => 0) (y.2.2.1 44)))) (r := fX13_readAll_105 X k4 (b + 24) a1 a2 (rg_p lM b w0 (rg_wA y 44 (fU 4 (fun _ => 0) (y.2.2.1 44))))) (by omega) ?_ ?_
  · dsimp only at e
    rw [fU_0, wA_id rfl] at e
    exact e
  · intro M i hi
    dsimp only
    rw [fX13_readAll_67.eq_2]
    refine ei_n (nI_ge (b := 4) (by omega) (by omega)) (ob_v (rg_C rfl rfl) ?_)
    have st : fX13_readAll_87 X k4 (fX13_readAll_67 X k4 M) (b + 24) a1 a2 a3 (nI i) (nI i) (b + 44) (rg_p lM b w0 (rg_wA y 44 (fU i (fun _ => 0) (y.2.2.1 44)))) = fX13_readAll_67 X k4 M (b + 24) a1 a2 a3 (nI (i + 1)) (rg_p lM b w0 (rg_wA y 44 (fU (i + 1) (fun _ => 0) (y.2.2.1 44)))) := by
      unfold fX13_readAll_87 fX13_readAll_98
      refine ob_v (rg_sA _ rfl (by decide) _ _ hi (by decide)) ?_
      rw [wA_s, wA_wA, id, nI_1, ← fU_s i (fun _ => 0) (y.2.2.1 44)]
    by_cases h0 : a2 = 0
    · exact ei_t h0 st
    · exact ei_n h0 (ei_n (h.resolve_left h0) st)
  · intro M
    dsimp only
    rw [fX13_readAll_67.eq_2]
    exact ei_t (by decide) rfl
theorem m_rp1 {k4 : Nat → Int32 → Int32 → px_W → Option (px_W)} {a1 a2 : Int32} (h : a2 ≠ 0) : fX13_readAll_64 X k4 (b + 24) a1 a2 0 (rg_p lM b w0 y) = fX13_readAll_105 X k4 (b + 24) a1 a2 (rg_p lM b w0 y) := by
  unfold fX13_readAll_64
  refine rg_lpF (F := fun M (s : Int32) => fX13_readAll_67 X k4 M (b + 24) a1 a2 0 s (rg_p lM b w0 y)) 4 (fun i => nI i) (r := fX13_readAll_105 X k4 (b + 24) a1 a2 (rg_p lM b w0 y)) (by omega) ?_ ?_
  · intro M i hi
    rw [fX13_readAll_67.eq_2]
    refine ei_n (nI_ge (b := 4) (by omega) (by omega)) (ob_v (rg_C rfl rfl) (ei_n h (ei_t rfl (ob_v (rg_C rfl rfl) (ob_v (rg_A rfl (by decide) _ hi (by decide)) ?_)))))
    unfold fX13_readAll_98
    refine ob_v (rg_sA _ rfl (by decide) _ _ hi (by decide)) ?_
    rw [id, upd_id, wA_id rfl, nI_1]
  · intro M
    rw [fX13_readAll_67.eq_2]
    exact ei_t (by decide) rfl
theorem zY.z {s : bSt} {r : Nat} {p : Nat → Int} {Q : Nat → Int32} (h : zY D n y (s, r, p, Q)) : zY D n (rg_wA y 44 (fU 4 (fun _ => 0) (y.2.2.1 44))) (s, r, (fun _ => 0), Q) := by
  obtain ⟨⟨g1, g2, g3, g4, g5, g6, g7, g8⟩, g9, g10, g11⟩ := h
  refine ⟨⟨g1, g2, g3, g4, g5, ?_, g7, g8⟩, g9, fun c hc => ?_, ?_⟩
  · rw [wA_n _ _ (by decide)]; exact g6
  · rw [wA_s, fU_lt hc]
    rfl
  · rw [wA_n _ _ (by decide)]; exact g11
theorem m_h4_0 {f M : Nat} {A1 A2 : Int32} (hg : gOk g) (hm : mOk g cm mm) (h : uYr y g cm mm iv) (hf : y.1 24 46 = nI f) (h0 : 0 < f) (h9 : f < 100) : fX13_readAll_4 X (M + 1) (b + 24) A1 A2 (rg_p lM b w0 y) = some (rg_p lM b w0 y) := by
  have e171 : fX13_readAll_171 X (b + 24) (rg_p lM b w0 y) = some (rg_p lM b w0 y) := by
    unfold fX13_readAll_171
    exact ob_v (rg_I rfl rfl) (ei_n (by rw [hf]; exact nI_ne0 h0 (by omega)) rfl)
  rw [fX13_readAll_4.eq_2]
  exact ob_v (rg_O rfl) (ob_v (m_unitsR hg hm h) (ei_c (fun _ => e171) (fun _ => ob_v (rg_I rfl rfl) (ei_n (by rw [hf]; exact nI_ne0 h0 (by omega)) e171))))
/-- what comes before a unit -/
theorem m_pre {M : Nat} (hg : gOk g) (hm : mOk g cm mm) (hiv : iv < 65536) (hu : u < uU g cm mm) {p : Nat → Int} (C : zCy y first last bf bb bs g cm mm iv td ta Wd Wa) (h : zY D n y (a.1, a.2.1, p, a.2.2.2)) (hp : u ≠ 0 → p = a.2.2.1) (ok : zOk a) (ha : u = 0 → a.2.2.1 = fun _ => 0) : ∃ y1, fX13_readAll_4 X (M + 1) (b + 24) (nI ((u - 1) / iv)) (nI u) (rg_p lM b w0 y) = fX13_readAll_105 X (fX13_readAll_4 X M) (b + 24) (nI (u / iv)) (nI u) (rg_p lM b w0 y1) ∧ zFY y y1 ∧ zYo D n (zRs D n iv u a) y1 := by
  have ul := uU_lt hg hm
  have e27 := C.2.2.1.2.2.2.2.1
  have st : ∀ z, (if nI iv ≤ 0 then fX13_readAll_43 X (fX13_readAll_4 X M) (b + 24) (nI ((u - 1) / iv)) (nI u) (rg_p lM b w0 y) else if nI u ≤ 0 then fX13_readAll_43 X (fX13_readAll_4 X M) (b + 24) (nI ((u - 1) / iv)) (nI u) (rg_p lM b w0 y) else (rI (nI u) (nI iv)).bind fun v60 => if v60 = 0 then fX13_readAll_44 X (fX13_readAll_4 X M) (b + 24) (nI ((u - 1) / iv)) (nI u) 1 (rg_p lM b w0 y) else fX13_readAll_43 X (fX13_readAll_4 X M) (b + 24) (nI ((u - 1) / iv)) (nI u) (rg_p lM b w0 y)) = z → fX13_readAll_4 X (M + 1) (b + 24) (nI ((u - 1) / iv)) (nI u) (rg_p lM b w0 y) = z := by
    intro z hz
    rw [fX13_readAll_4.eq_2]
    refine ob_v (rg_O rfl) (ob_v (m_unitsR hg hm C.2.2.1) (ei_n (nI_ge (by omega) (by omega)) (ob_v (rg_I rfl rfl) (ei_t h.1.2.2.2.1 (ob_v (rg_I rfl rfl) ?_)))))
    rw [e27]
    by_cases i0 : nI iv ≤ 0
    · rw [if_pos i0] at hz
      exact ei_t i0 hz
    · rw [if_neg i0] at hz
      refine ei_n i0 ?_
      by_cases u0 : nI u ≤ 0
      · rw [if_pos u0] at hz
        exact ei_t u0 hz
      · rw [if_neg u0] at hz
        refine ei_n u0 (ob_v (rg_I rfl rfl) ?_)
        rw [e27]
        exact hz
  have e43 : u ≠ 0 → fX13_readAll_43 X (fX13_readAll_4 X M) (b + 24) (nI ((u - 1) / iv)) (nI u) (rg_p lM b w0 y) = fX13_readAll_105 X (fX13_readAll_4 X M) (b + 24) (nI ((u - 1) / iv)) (nI u) (rg_p lM b w0 y) := by
    intro u0
    unfold fX13_readAll_43 fX13_readAll_44
    exact ei_t rfl (m_rp1 (nI_ne0 (by omega) (by omega)))
  unfold zRs
  by_cases q : 0 < iv ∧ 0 < u ∧ u % iv = 0
  · rw [if_pos q]
    obtain ⟨i0, u1, r0⟩ := q
    have h : zY D n y a := by
      have := hp (by omega)
      rw [this] at h
      exact h
    have dm := Nat.div_add_mod u iv
    have ml := Nat.mod_lt u i0
    have d1 : 1 ≤ u / iv := by
      rw [r0] at dm
      rcases Nat.eq_zero_or_pos (u / iv) with z | z
      · rw [z] at dm
        omega
      · exact z
    have d2 : (u - 1) / iv = u / iv - 1 := by
      have e : u - 1 = iv - 1 + iv * (u / iv - 1) := by
        have : iv * (u / iv - 1) + iv = iv * (u / iv) := by
          rw [← Nat.mul_succ]
          congr 1
          omega
        omega
      rw [e, Nat.add_mul_div_left _ _ i0, Nat.div_eq_of_lt (by omega), Nat.zero_add]
    have d3 : u / iv ≤ u := Nat.div_le_self _ _
    obtain ⟨y1, e1, F1, o1⟩ := m_pass (X := X) (b := b) (w0 := w0) (code := 208 + (u / iv - 1) % 8) (by omega) (by omega) h ok
    have e44 : fX13_readAll_44 X (fX13_readAll_4 X M) (b + 24) (nI ((u - 1) / iv)) (nI u) 1 (rg_p lM b w0 y) = fX13_readAll_105 X (fX13_readAll_4 X M) (b + 24) (nI (u / iv)) (nI u) (rg_p lM b w0 (rg_wA y1 44 (fU 4 (fun _ => 0) (y1.2.2.1 44)))) := by
      unfold fX13_readAll_44
      refine ei_n (by decide) (ob_v (rI_n (d := 8) (by omega) (by decide) (by decide)) (ob_v (rg_O rfl) ?_))
      rw [d2, show (208 : Int32) + nI ((u / iv - 1) % 8) = nI (208 + (u / iv - 1) % 8) from nI_add 208 _]
      refine ob_v e1 ?_
      rw [nI_1, show u / iv - 1 + 1 = u / iv by omega]
      exact m_rp0 (Or.inr (by decide))
    refine ⟨_, st _ (ei_n (nI_nle i0 (by omega)) (ei_n (nI_nle u1 (by omega)) (ob_v (rI_n (by omega) i0 (by omega)) (ei_t (by rw [r0]; rfl) e44)))), F1.trans (zFY.w44 _), ?_⟩
    unfold zRc at o1
    split at o1
    · rename_i cc
      rw [if_pos cc]
      rcases o1 with ⟨f, r1, r2, r3, r4⟩ | ⟨a1, r1, r2, r3⟩
      · cases r1
      · have := Sum.inr.inj r1
        subst this
        refine Or.inr ⟨_, rfl, ⟨by show 0 < 65536; decide, fun _ => by show (0 : Int).natAbs ≤ 1024; decide, ok.2.2⟩, ?_⟩
        have := zY.z r3
        rw [cc.1.1] at this
        exact this
    · rename_i cc
      rw [if_neg cc]
      rcases o1 with ⟨f, r1, r2, r3, r4⟩ | ⟨a1, r1, r2, r3⟩
      · exact Or.inl ⟨f, r1, r2, r3, r4⟩
      · cases r1
  · rw [if_neg q]
    by_cases u0 : u = 0
    · subst u0
      have hz := ha rfl
      have e43' : fX13_readAll_43 X (fX13_readAll_4 X M) (b + 24) (nI ((0 - 1) / iv)) (nI 0) (rg_p lM b w0 y) = fX13_readAll_105 X (fX13_readAll_4 X M) (b + 24) (nI (0 / iv)) (nI 0) (rg_p lM b w0 (rg_wA y 44 (fU 4 (fun _ => 0) (y.2.2.1 44)))) := by
        unfold fX13_readAll_43 fX13_readAll_44
        exact ei_t rfl (m_rp0 (Or.inl rfl))
      refine ⟨_, st _ (ei_c (fun _ => e43') (fun _ => ei_t (by decide) e43')), zFY.w44 _, Or.inr ⟨a, rfl, ok, ?_⟩⟩
      obtain ⟨s, r, p', Q⟩ := a
      have hz : p' = fun _ => 0 := hz
      have := zY.z h
      rw [hz]
      exact this
    · have h : zY D n y a := by
        have := hp u0
        rw [this] at h
        exact h
      have d2 : (u - 1) / iv = u / iv := by
        by_cases i0 : 0 < iv
        · have r0 : u % iv ≠ 0 := fun e => q ⟨i0, by omega, e⟩
          have dm := Nat.div_add_mod u iv
          have ml := Nat.mod_lt u i0
          have e : u - 1 = (u % iv - 1) + iv * (u / iv) := by omega
          rw [e, Nat.add_mul_div_left _ _ i0, Nat.div_eq_of_lt (by omega), Nat.zero_add]
        · rw [show iv = 0 by omega, Nat.div_zero, Nat.div_zero]
      have e43 := e43 u0
      rw [← d2]
      refine ⟨y, st _ ?_, zFY.rfl, Or.inr ⟨a, rfl, ok, h⟩⟩
      by_cases i0 : 0 < iv
      · refine ei_n (nI_nle i0 (by omega)) (ei_n (nI_nle (by omega) (by omega)) (ob_v (rI_n (by omega) i0 (by omega)) (ei_n (nI_ne0 ?_ ?_) e43)))
        · have : u % iv ≠ 0 := fun e => q ⟨i0, by omega, e⟩
          omega
        · exact Nat.lt_of_le_of_lt (Nat.mod_le _ _) (by omega)
      · exact ei_t (by rw [show iv = 0 by omega]; decide) e43
theorem zRs_i {t : Nat} {a' : zS} (I : zIv g cm mm first last bf t a) (e : zRs D n iv u a = .inr a') : zIv g cm mm first last bf t a' := by
  unfold zRs at e
  split at e
  · split at e
    · have := Sum.inr.inj e
      rw [← this]
      exact ⟨fun _ => rfl, I.2⟩
    · cases e
  · have := Sum.inr.inj e
    rw [← this]
    exact I
theorem m_us (hg : gOk g) (hm : mOk g cm mm) (hb : gBs g g.2.2.1 ≤ 192) (hff : first = 0 → 0 < last → bf = 0) (hiv : iv < 65536) : ∀ (r u M : Nat) (y : rg_S) (a : zS), u + r = uU g cm mm → r + 1 < M → zCy y first last bf bb bs g cm mm iv td ta Wd Wa → (∃ p, zY D n y (a.1, a.2.1, p, a.2.2.2) ∧ (u ≠ 0 → p = a.2.2.1)) → zOk a → zIv g cm mm first last bf (16 * u) a → (u = 0 → a.2.2.1 = fun _ => 0) → ∃ y', fX13_readAll_4 X M (b + 24) (nI ((u - 1) / iv)) (nI u) (rg_p lM b w0 y) = some (rg_p lM b w0 y') ∧ zFY y y' ∧ ((∃ f, zBd (zUn (zBk D n Wd Wa first last bf bb g mm) (zRs D n iv) cm (uB g mm) mm r u a) (zFn n) = .inl f ∧ 0 < f ∧ f < 100 ∧ y'.1 24 46 = nI f) ∨ ∃ a', zBd (zUn (zBk D n Wd Wa first last bf bb g mm) (zRs D n iv) cm (uB g mm) mm r u a) (zFn n) = .inr a' ∧ y'.1 24 46 = 0 ∧ zOk a' ∧ ∀ i, i < 12288 → y'.2.2.1 32 i = a'.2.2.2 i) := by
  have h4 := hg.2.2.2.2.2.1
  have ul := uU_lt hg hm
  have h10 := hm.2.2.2.2
  intro r
  induction r with
  | zero =>
    intro u M y a hu hM C h ok I ha
    obtain ⟨p, h, hp⟩ := h
    have h : zY D n y a := by
      have := hp (by omega)
      rw [this] at h
      exact h
    obtain ⟨M, rfl⟩ : ∃ M', M = M' + 1 := ⟨M - 1, by omega⟩
    obtain ⟨y1, e1, F1, o1⟩ := m_end (X := X) (b := b) (w0 := w0) h ok
    refine ⟨y1, ?_, F1, ?_⟩
    · rw [fX13_readAll_4.eq_2]
      refine ob_v (rg_O rfl) (ob_v (m_unitsR hg hm C.2.2.1) (ei_t (nI_le (by omega) (by omega)) ?_))
      unfold fX13_readAll_171
      exact ob_v (rg_I rfl rfl) (ei_t h.1.2.2.2.1 (ob_v (rg_O rfl) (ob_v e1 rfl)))
    · show (∃ f, zFn n a = .inl f ∧ _) ∨ ∃ a', zFn n a = .inr a' ∧ _
      rcases o1 with o1 | ⟨o1, o2, o3⟩
      · exact Or.inl o1
      · exact Or.inr ⟨a, o1, o2, ok, o3⟩
  | succ r ih =>
    intro u M y a hu hM C h ok I ha
    obtain ⟨p, h, hp⟩ := h
    obtain ⟨M, rfl⟩ : ∃ M', M = M' + 1 := ⟨M - 1, by omega⟩
    obtain ⟨M0, hM0⟩ : ∃ M', M = M' + 1 := ⟨M - 1, by omega⟩
    obtain ⟨y1, e1, F1, o1⟩ := m_pre (X := X) (b := b) (w0 := w0) (M := M) hg hm hiv (show u < uU g cm mm by omega) C h hp ok ha
    have C1 := C.f F1
    have faulty : ∀ (z : rg_S) (f : Nat), zFY y z → z.1 24 46 = nI f → 0 < f → f < 100 → fX13_readAll_4 X M (b + 24) (nI (u / iv)) (nI (u + 1)) (rg_p lM b w0 z) = some (rg_p lM b w0 z) := by
      intro z f Fz hz f0 f9
      rw [hM0]
      exact m_h4_0 hg hm (C.f Fz).2.2.1 hz f0 f9
    rcases o1 with ⟨f, r1, r2, r3, r4⟩ | ⟨a1, r1, r2, r3⟩
    · refine ⟨y1, e1.trans ?_, F1, Or.inl ⟨f, ?_, r2, r3, r4⟩⟩
      · unfold fX13_readAll_105
        exact (m_is0 hg hm C1.2.2.1 r4 r2 r3 g.2.2.1 FU 0 (by omega) (by unfold FU; omega)).trans (faulty y1 f F1 r4 r2 r3)
      · rw [zUn, r1]
        rfl
    · have I1 := zRs_i I r1
      obtain ⟨y2, e2, F2, o2, I2⟩ := m_is (X := X) (b := b) (w0 := w0) (A1 := nI (u / iv)) (k4 := fX13_readAll_4 X M) hg hm hb hff (show u < uU g cm mm by omega) g.2.2.1 FU 0 0 y1 a1 (by omega) (by unfold FU; omega) (Nat.zero_le _) (fun k hk => absurd hk (Nat.not_lt_zero _)) (fun k _ _ => Nat.zero_le _) C1 r3 r2 I1
      rw [Nat.sub_zero] at o2 I2
      have F12 := F1.trans F2
      have ez : zBd (zUn (zBk D n Wd Wa first last bf bb g mm) (zRs D n iv) cm (uB g mm) mm (r + 1) u a) (zFn n) = zBd (zBd (zIs (zBk D n Wd Wa first last bf bb g mm u) cm (uB g mm) mm 0 a1) (zUn (zBk D n Wd Wa first last bf bb g mm) (zRs D n iv) cm (uB g mm) mm r (u + 1))) (zFn n) := by
        rw [zUn, r1]
        rfl
      rw [ez]
      have e12 : fX13_readAll_4 X (M + 1) (b + 24) (nI ((u - 1) / iv)) (nI u) (rg_p lM b w0 y) = fX13_readAll_4 X M (b + 24) (nI (u / iv)) (nI (u + 1)) (rg_p lM b w0 y2) := by
        refine e1.trans ?_
        unfold fX13_readAll_105
        exact e2
      rcases o2 with ⟨f, s1, s2, s3, s4⟩ | ⟨a2, s1, s2, s3⟩
      · refine ⟨y2, e12.trans (faulty y2 f F12 s4 s2 s3), F12, Or.inl ⟨f, ?_, s2, s3, s4⟩⟩
        rw [s1]
        rfl
      · have I3 := I2 a2 s1
        obtain ⟨y3, e3, F3, o3⟩ := ih (u + 1) M y2 a2 (by omega) (by omega) (C.f F12) ⟨_, s3, fun _ => rfl⟩ s2 ⟨I3.1, I3.2.m (by omega)⟩ (fun e => absurd e (by omega))
        refine ⟨y3, e12.trans ?_, F12.trans F3, ?_⟩
        · rw [show u + 1 - 1 = u by omega] at e3
          exact e3
        · rw [s1]
          exact o3
end
