/-! loops over a scan's units, by the class -/
section
variable {X : px_X} {b B : Nat} {w0 w1 : px_W} {x x' y y' : rg_S} {D : Nat → Nat} {n d0 P mm m i j u first last bf bb L iv : Nat} {cm td ta : Nat → Nat} {Wd Wa : Nat → zT} {a : zS} {g : gG}
theorem x_h107_0 {f M : Nat} {A4 A5 A6 : Int32} {k49 : Nat → Nat → Int32 → Int32 → px_W → Option (Int32 × px_W)} (k : zKx x P first last bf bb) (hf : x.1 95 6 = nI f) (h0 : 0 < f) (h9 : f < 100) : fX6_read_107 X k49 (M + 1) (B + 95) (B + 49) A4 A5 A6 (rg_p lX B w0 x) = fX6_read_274 X k49 (B + 95) (B + 49) A4 A5 (rg_p lX B w0 x) := by
  rw [fX6_read_107.eq_2]
  exact ob_v k.g2 (ob_v (rg_I rfl rfl) (ei_c (fun _ => rfl) (fun _ => ob_v (rg_I rfl rfl) (ei_n (by rw [hf]; exact nI_ne0 h0 (by omega)) rfl))))
theorem x_js (hg : gOk g) (hm : mOk g cm mm) (hb : gBs g g.2.2.1 ≤ 192) (hff : first = 0 → 0 < last → bf = 0) (hu : u < uU g cm mm) (hi : i < mm) {A4 : Int32} {k49 : Nat → Nat → Int32 → Int32 → px_W → Option (Int32 × px_W)} : ∀ (r j M : Nat) (x : rg_S) (a : zS), j + r = uB g mm (cm i) → 1 ≤ M → zCx x P first last bf bb g cm mm td ta Wd Wa → zX P cm mm D n d0 x a → zOk a → ∃ x', zFX P x x' ∧ ((∃ f, zJs (zBk D n Wd Wa first last bf bb g mm u) (cm i) r j a = .inl f ∧ 0 < f ∧ f < 100 ∧ x'.1 95 6 = nI f ∧ fX6_read_107 X k49 (r + M) (B + 95) (B + 49) A4 (nI u) (nI (uO g cm mm i + j)) (rg_p lX B w0 x) = fX6_read_274 X k49 (B + 95) (B + 49) A4 (nI u) (rg_p lX B w0 x')) ∨ ∃ a', zJs (zBk D n Wd Wa first last bf bb g mm u) (cm i) r j a = .inr a' ∧ zOk a' ∧ zX P cm mm D n d0 x' a' ∧ fX6_read_107 X k49 (r + M) (B + 95) (B + 49) A4 (nI u) (nI (uO g cm mm i + j)) (rg_p lX B w0 x) = fX6_read_107 X k49 M (B + 95) (B + 49) A4 (nI u) (nI (uO g cm mm (i + 1))) (rg_p lX B w0 x')) := by
  have h4 := hg.2.2.2.2.2.1
  have hmm := hm.2.1
  have k1 : uO g cm mm (i + 1) = uO g cm mm i + uB g mm (cm i) := rfl
  have k2 := uO_mono (g := g) (cm := cm) (mm := mm) (show i + 1 ≤ mm by omega)
  have h10 := hm.2.2.2.2
  intro r
  induction r with
  | zero =>
    intro j M x a hj hM C h ok
    refine ⟨x, zFX.rfl, Or.inr ⟨a, rfl, ok, h, ?_⟩⟩
    rw [Nat.zero_add, k1, show j = uB g mm (cm i) by omega]
  | succ r ih =>
    intro j M x a hj hM C h ok
    have hj' : j < uB g mm (cm i) := by omega
    have tl := uT_lt hg hm hu hi hj'
    obtain ⟨x1, e1, F1, o1⟩ := x_zBlk (X := X) (B := B) (w0 := w0) (A4 := A4) (A5 := nI u) (A6 := nI (uO g cm mm i + j)) (k49 := k49) (k107 := fX6_read_107 X k49 (r + M)) (T := uT g mm u (cm i) j) C.1 hff h ok hi (by omega) hm.inj (by omega) (C.2.2 i hi)
    have C1 := C.f F1
    have p46 := (C.2.1.2.2.2.2 i j hi hj' (by omega)).1
    have st : fX6_read_107 X k49 (r + 1 + M) (B + 95) (B + 49) A4 (nI u) (nI (uO g cm mm i + j)) (rg_p lX B w0 x) = fX6_read_107 X k49 (r + M) (B + 95) (B + 49) A4 (nI u) (nI (uO g cm mm i + (j + 1))) (rg_p lX B w0 x1) := by
      rw [show r + 1 + M = r + M + 1 by omega, fX6_read_107.eq_2]
      refine ob_v C.1.g2 (ob_v (rg_I rfl rfl) ?_)
      rw [C.2.1.2.2.2.1]
      refine ei_n (nI_ge (by omega) (by omega)) (ob_v (rg_I rfl rfl) (ei_t h.1.2.2.2.1 (ob_v C.1.g2 (ob_v (rg_C rfl rfl) (ob_v (rg_A rfl (by decide) _ (by omega) (by decide)) (ob_v C.1.g2 (ob_v C.1.g1 (ob_v (rg_O rfl) (ob_v (x_rblockAt C.2.1 C.1.1 hg hm hu hi hj') ?_)))))))))
      dsimp only
      rw [p46, show (64 : Int32) * nI (uT g mm u (cm i) j) = nI (64 * uT g mm u (cm i) j) from by rw [show (64 : Int32) = nI 64 from rfl, pk_mul]]
      refine e1.trans ?_
      unfold fX6_read_268
      rw [nI_1]
      rfl
    unfold zJs
    rcases o1 with ⟨f, r1, r2, r3, r4⟩ | ⟨a1, r1, r2, r3⟩
    · refine ⟨x1, F1, Or.inl ⟨f, ?_, r2, r3, r4, ?_⟩⟩
      · show zBd (zBlk D n (Wd (cm i)) (Wa (cm i)) first last bf bb (cm i) (uT g mm u (cm i) j) a) _ = _
        rw [r1]
        rfl
      · rw [st]
        obtain ⟨M', hM'⟩ : ∃ M', r + M = M' + 1 := ⟨r + M - 1, by omega⟩
        rw [hM']
        exact x_h107_0 C1.1 r4 r2 r3
    · obtain ⟨x2, F2, o2⟩ := ih (j + 1) M x1 a1 (by omega) hM C1 r3 r2
      refine ⟨x2, F1.trans F2, ?_⟩
      rw [st]
      have ez : zBd (zBk D n Wd Wa first last bf bb g mm u (cm i) j a) (zJs (zBk D n Wd Wa first last bf bb g mm u) (cm i) r (j + 1)) = zJs (zBk D n Wd Wa first last bf bb g mm u) (cm i) r (j + 1) a1 := by
        show zBd (zBlk D n (Wd (cm i)) (Wa (cm i)) first last bf bb (cm i) (uT g mm u (cm i) j) a) _ = _
        rw [r1]
        rfl
      rw [ez]
      exact o2
theorem x_is (hg : gOk g) (hm : mOk g cm mm) (hb : gBs g g.2.2.1 ≤ 192) (hff : first = 0 → 0 < last → bf = 0) (hu : u < uU g cm mm) {A4 : Int32} {k49 : Nat → Nat → Int32 → Int32 → px_W → Option (Int32 × px_W)} : ∀ (r i M : Nat) (x : rg_S) (a : zS), i + r = mm → 1 ≤ M → zCx x P first last bf bb g cm mm td ta Wd Wa → zX P cm mm D n d0 x a → zOk a → ∃ x', fX6_read_107 X k49 (uO g cm mm mm - uO g cm mm i + M) (B + 95) (B + 49) A4 (nI u) (nI (uO g cm mm i)) (rg_p lX B w0 x) = fX6_read_274 X k49 (B + 95) (B + 49) A4 (nI u) (rg_p lX B w0 x') ∧ zFX P x x' ∧ zXo P cm mm D n d0 (zIs (zBk D n Wd Wa first last bf bb g mm u) cm (uB g mm) r i a) x' := by
  have h10 := hm.2.2.2.2
  intro r
  induction r with
  | zero =>
    intro i M x a hi hM C h ok
    obtain rfl : i = mm := by omega
    refine ⟨x, ?_, zFX.rfl, Or.inr ⟨a, rfl, ok, h⟩⟩
    obtain ⟨M', rfl⟩ : ∃ M', M = M' + 1 := ⟨M - 1, by omega⟩
    rw [Nat.sub_self, Nat.zero_add, fX6_read_107.eq_2]
    refine ob_v C.1.g2 (ob_v (rg_I rfl rfl) ?_)
    rw [C.2.1.2.2.2.1]
    exact ei_t (nI_le (Nat.le_refl _) (by omega)) rfl
  | succ r ih =>
    intro i M x a hi hM C h ok
    have k1 : uO g cm mm (i + 1) = uO g cm mm i + uB g mm (cm i) := rfl
    have k2 := uO_mono (g := g) (cm := cm) (mm := mm) (show i + 1 ≤ mm by omega)
    obtain ⟨x1, F1, o1⟩ := x_js (X := X) (B := B) (w0 := w0) (A4 := A4) (k49 := k49) (i := i) hg hm hb hff hu (by omega) (uB g mm (cm i)) 0 (uO g cm mm mm - uO g cm mm (i + 1) + M) x a (by omega) (by omega) C h ok
    have ef : uB g mm (cm i) + (uO g cm mm mm - uO g cm mm (i + 1) + M) = uO g cm mm mm - uO g cm mm i + M := by omega
    rw [ef, Nat.add_zero] at o1
    unfold zIs
    rcases o1 with ⟨f, r1, r2, r3, r4, r5⟩ | ⟨a1, r1, r2, r3, r4⟩
    · exact ⟨x1, r5, F1, Or.inl ⟨f, by rw [r1]; rfl, r2, r3, r4⟩⟩
    · obtain ⟨x2, e2, F2, o2⟩ := ih (i + 1) M x1 a1 (by omega) hM (C.f F1) r3 r2
      refine ⟨x2, r4.trans e2, F1.trans F2, ?_⟩
      rw [r1]
      exact o2
theorem x_h49_0 {f M : Nat} {A4 A5 : Int32} (k : zKx x P first last bf bb) (hf : x.1 95 6 = nI f) (h0 : 0 < f) (h9 : f < 100) : fX6_read_49 X (M + 1) (B + 95) (B + 49) A4 A5 (rg_p lX B w0 x) = fX6_read_280 X (B + 95) (rg_p lX B w0 x) := by
  rw [fX6_read_49.eq_2]
  exact ob_v k.g2 (ob_v (rg_I rfl rfl) (ei_c (fun _ => rfl) (fun _ => ob_v (rg_I rfl rfl) (ei_n (by rw [hf]; exact nI_ne0 h0 (by omega)) rfl))))
theorem x_us (hg : gOk g) (hm : mOk g cm mm) (hb : gBs g g.2.2.1 ≤ 192) (hff : first = 0 → 0 < last → bf = 0) (hiv : iv < 65536) (hL1 : L ≤ 16384) (hL2 : d0 + n ≤ L) : ∀ (r u M : Nat) (x : rg_S) (a : zS), u + r = uU g cm mm → r + 1 < M → x.1 1 1 = nI L → zCx x P first last bf bb g cm mm td ta Wd Wa → zX P cm mm D n d0 x a → zOk a → ∃ x', fX6_read_49 X M (B + 95) (B + 49) (nI iv) (nI u) (rg_p lX B w0 x) = fX6_read_280 X (B + 95) (rg_p lX B w0 x') ∧ zFX P x x' ∧ zXo P cm mm D n d0 (zUn (zBk D n Wd Wa first last bf bb g mm) (zRs D n iv) cm (uB g mm) mm r u a) x' := by
  have h10 := hm.2.2.2.2
  have h4 := hg.2.2.2.2.2.1
  have hmm := hm.2.1
  have ul := uU_lt hg hm
  intro r
  induction r with
  | zero =>
    intro u M x a hu hM hL C h ok
    obtain ⟨M, rfl⟩ : ∃ M', M = M' + 1 := ⟨M - 1, by omega⟩
    refine ⟨x, ?_, zFX.rfl, Or.inr ⟨a, rfl, ok, h⟩⟩
    rw [fX6_read_49.eq_2]
    refine ob_v C.1.g2 (ob_v (rg_I rfl rfl) ?_)
    rw [C.2.1.2.1]
    exact ei_t (nI_le (by omega) (by omega)) rfl
  | succ r ih =>
    intro u M x a hu hM hL C h ok
    obtain ⟨M, rfl⟩ : ∃ M', M = M' + 1 := ⟨M - 1, by omega⟩
    obtain ⟨M0, hM0⟩ : ∃ M', M = M' + 1 := ⟨M - 1, by omega⟩
    have hu' : u < uU g cm mm := by omega
    -- what comes before the unit
    have pre : ∃ x1, fX6_read_49 X (M + 1) (B + 95) (B + 49) (nI iv) (nI u) (rg_p lX B w0 x) = fX6_read_104 X (fX6_read_49 X M) (B + 95) (B + 49) (nI iv) (nI u) (rg_p lX B w0 x1) ∧ zFX P x x1 ∧ zXo P cm mm D n d0 (zRs D n iv u a) x1 := by
      have st : ∀ z, (if nI iv ≤ 0 then fX6_read_104 X (fX6_read_49 X M) (B + 95) (B + 49) (nI iv) (nI u) (rg_p lX B w0 x) else if nI u ≤ 0 then fX6_read_104 X (fX6_read_49 X M) (B + 95) (B + 49) (nI iv) (nI u) (rg_p lX B w0 x) else (rI (nI u) (nI iv)).bind fun v136 => if v136 = 0 then (dI (nI u) (nI iv)).bind fun v138 => (rI (v138 - 1) 8).bind fun v139 => (gO (rg_p lX B w0 x) (B + 95) 6).bind fun o140 => (fX6_passRestart X (rg_p lX B w0 x) (B + 95) (208 + v139)).bind fun q141 => fX6_read_104 X (fX6_read_49 X M) (B + 95) (B + 49) (nI iv) (nI u) q141 else fX6_read_104 X (fX6_read_49 X M) (B + 95) (B + 49) (nI iv) (nI u) (rg_p lX B w0 x)) = z → fX6_read_49 X (M + 1) (B + 95) (B + 49) (nI iv) (nI u) (rg_p lX B w0 x) = z := by
        intro z hz
        rw [fX6_read_49.eq_2]
        refine ob_v C.1.g2 (ob_v (rg_I rfl rfl) ?_)
        rw [C.2.1.2.1]
        exact ei_n (nI_ge (by omega) (by omega)) (ob_v (rg_I rfl rfl) (ei_t h.1.2.2.2.1 hz))
      unfold zRs
      by_cases q : 0 < iv ∧ 0 < u ∧ u % iv = 0
      · rw [if_pos q]
        have d1 : 1 ≤ u / iv := by
          have dm := Nat.div_add_mod u iv
          rw [q.2.2] at dm
          rcases Nat.eq_zero_or_pos (u / iv) with z | z
          · rw [z] at dm
            omega
          · exact z
        have d3 : u / iv ≤ u := Nat.div_le_self _ _
        obtain ⟨x1, e1, F1, o1⟩ := x_pass (X := X) (B := B) (w0 := w0) (code := 208 + (u / iv - 1) % 8) (by omega) (by omega) (by omega) C.1 hL hL1 hL2 h ok
        refine ⟨x1, st _ (ei_n (nI_nle q.1 (by omega)) (ei_n (nI_nle q.2.1 (by omega)) (ob_v (rI_n (by omega) q.1 (by omega)) (ei_t (by rw [q.2.2]; rfl) (ob_v (dI_n (by omega) q.1 (by omega)) ?_))))), F1, o1⟩
        rw [show nI (u / iv) - 1 = nI (u / iv - 1) from pk_sub (b := 1) d1]
        refine ob_v (rI_n (d := 8) (by omega) (by decide) (by decide)) (ob_v (rg_O rfl) ?_)
        rw [show (208 : Int32) + nI ((u / iv - 1) % 8) = nI (208 + (u / iv - 1) % 8) from nI_add 208 _]
        exact ob_v e1 rfl
      · rw [if_neg q]
        refine ⟨x, st _ ?_, zFX.rfl, Or.inr ⟨a, rfl, ok, h⟩⟩
        by_cases i0 : 0 < iv
        · refine ei_n (nI_nle i0 (by omega)) ?_
          by_cases u0 : 0 < u
          · refine ei_n (nI_nle u0 (by omega)) (ob_v (rI_n (by omega) i0 (by omega)) (ei_n (nI_ne0 ?_ ?_) rfl))
            · have : u % iv ≠ 0 := fun e => q ⟨i0, u0, e⟩
              omega
            · exact Nat.lt_of_le_of_lt (Nat.mod_le _ _) (by omega)
          · exact ei_t (by rw [show u = 0 by omega]; decide) rfl
        · exact ei_t (by rw [show iv = 0 by omega]; decide) rfl
    obtain ⟨x1, e1, F1, o1⟩ := pre
    have C1 := C.f F1
    unfold zUn
    have nxt : ∀ z : rg_S, fX6_read_274 X (fX6_read_49 X M) (B + 95) (B + 49) (nI iv) (nI u) (rg_p lX B w0 z) = fX6_read_49 X M (B + 95) (B + 49) (nI iv) (nI (u + 1)) (rg_p lX B w0 z) := by
      intro z
      unfold fX6_read_274
      rw [nI_1]
    rcases o1 with ⟨f, r1, r2, r3, r4⟩ | ⟨a1, r1, r2, r3⟩
    · refine ⟨x1, e1.trans ?_, F1, Or.inl ⟨f, by rw [r1]; rfl, r2, r3, r4⟩⟩
      unfold fX6_read_104
      rw [show FU = 3999999 + 1 from rfl, x_h107_0 C1.1 r4 r2 r3, nxt, hM0]
      exact x_h49_0 C1.1 r4 r2 r3
    · obtain ⟨x2, e2, F2, o2⟩ := x_is (X := X) (B := B) (w0 := w0) (A4 := nI iv) (k49 := fX6_read_49 X M) hg hm hb hff hu' mm 0 (FU - uO g cm mm mm) x1 a1 (by omega) (by unfold FU; omega) C1 r3 r2
      have ef : uO g cm mm mm - uO g cm mm 0 + (FU - uO g cm mm mm) = FU := by
        show uO g cm mm mm - 0 + (FU - uO g cm mm mm) = FU
        unfold FU
        omega
      rw [ef] at e2
      have e2' : fX6_read_104 X (fX6_read_49 X M) (B + 95) (B + 49) (nI iv) (nI u) (rg_p lX B w0 x1) = fX6_read_49 X M (B + 95) (B + 49) (nI iv) (nI (u + 1)) (rg_p lX B w0 x2) := by
        unfold fX6_read_104
        exact e2.trans (nxt x2)
      have F12 := F1.trans F2
      rw [r1]
      show ∃ x', _ ∧ _ ∧ zXo P cm mm D n d0 (zBd (zIs (zBk D n Wd Wa first last bf bb g mm u) cm (uB g mm) mm 0 a1) (zUn (zBk D n Wd Wa first last bf bb g mm) (zRs D n iv) cm (uB g mm) mm r (u + 1))) x'
      rcases o2 with ⟨f, s1, s2, s3, s4⟩ | ⟨a2, s1, s2, s3⟩
      · refine ⟨x2, e1.trans (e2'.trans ?_), F12, Or.inl ⟨f, by rw [s1]; rfl, s2, s3, s4⟩⟩
        rw [hM0]
        exact x_h49_0 (C.f F12).1 s4 s2 s3
      · have hP' := C.1.1
        unfold isP at hP'
        obtain ⟨x3, e3, F3, o3⟩ := ih (u + 1) M x2 a2 (by omega) (by omega) (by rw [F12.1 _ _ (by omega)]; exact hL) (C.f F12) s3 s2
        refine ⟨x3, e1.trans (e2'.trans e3), F12.trans F3, ?_⟩
        rw [s1]
        exact o3
/-- the end of the data -/
theorem x_fin (k : zKx x P first last bf bb) (h10 : x.1 41 10 = nI (d0 + n)) (hdn : d0 + n ≤ 16384) {r : Nat ⊕ zS} (o : zXo P cm mm D n d0 r x) : ∃ x', fX6_read_280 X (B + 95) (rg_p lX B w0 x) = some (match zBd r (zFn n) with | .inl f => nI (10 + f) | .inr _ => 0, rg_p lX B w0 x') ∧ zFX P x x' ∧ ∀ a, zBd r (zFn n) = .inr a → ∀ i, i < 12288 → x'.2.2.1 (P + 6) i = a.2.2.2 i := by
  have e317 : ∀ (z : rg_S) (f : Nat), z.1 95 6 = nI f → 0 < f → f < 100 → fX6_read_317 X (B + 95) (rg_p lX B w0 z) = some (nI (10 + f), rg_p lX B w0 z) := by
    intro z f hz f0 f9
    unfold fX6_read_317
    refine ob_v (rg_I rfl rfl) (ei_n (by rw [hz]; exact nI_ne0 f0 (by omega)) (ob_v (rg_I rfl rfl) ?_))
    rw [hz, show (10 : Int32) + nI f = nI (10 + f) from nI_add 10 f]
  have e291 : ∀ (z : rg_S) (f : Nat), z.1 95 6 = nI f → 0 < f → f < 100 → fX6_read_291 X (B + 95) (rg_p lX B w0 z) = some (nI (10 + f), rg_p lX B w0 z) := by
    intro z f hz f0 f9
    unfold fX6_read_291
    exact ob_v (rg_I rfl rfl) (ei_n (by rw [hz]; exact nI_ne0 f0 (by omega)) (e317 z f hz f0 f9))
  rcases o with ⟨f, r1, r2, r3, r4⟩ | ⟨a, r1, r2, r3⟩
  · rw [r1]
    refine ⟨x, ?_, zFX.rfl, fun a e => by cases e⟩
    unfold fX6_read_280
    exact ob_v (rg_I rfl rfl) (ei_n (by rw [r4]; exact nI_ne0 r2 (by omega)) (e291 x f r4 r2 r3))
  · rw [r1]
    show ∃ x', fX6_read_280 X (B + 95) (rg_p lX B w0 x) = some (match zFn n a with | .inl f => nI (10 + f) | .inr _ => 0, rg_p lX B w0 x') ∧ zFX P x x' ∧ ∀ a', zFn n a = .inr a' → ∀ i, i < 12288 → x'.2.2.1 (P + 6) i = a'.2.2.2 i
    obtain ⟨x1, e1, F1, p1, hh⟩ := x_ends (X := X) (B := B) (w0 := w0) r3 r2
    have k1 := k.f F1
    have hP' := k.1
    unfold isP at hP'
    have h101 : x1.1 41 10 = nI (d0 + n) := by rw [F1.1 _ _ (by omega)]; exact h10
    have st : ∀ z, fX6_read_291 X (B + 95) (rg_p lX B w0 x1) = z → fX6_read_280 X (B + 95) (rg_p lX B w0 x) = z := by
      intro z hz
      unfold fX6_read_280
      exact ob_v (rg_I rfl rfl) (ei_t r3.1.2.2.2.1 (ob_v (rg_O rfl) (ob_v e1 hz)))
    have sn : a.1.1 ≤ n := r3.1.2.2.2.2.2.2.2.2.2.2.1
    unfold zFn
    rcases hh with ⟨c1, c2⟩ | ⟨c1, c2⟩
    · have st2 : ∀ z, (if nI (d0 + a.1.1) = nI (d0 + n) then fX6_read_317 X (B + 95) (rg_p lX B w0 x1) else (pV (rg_p lX B w0 x1) (B + 95) 6 6 (.int 5)).bind fun w79 => fX6_read_317 X (B + 95) w79) = z → fX6_read_280 X (B + 95) (rg_p lX B w0 x) = z := by
        intro z hz
        refine st _ ?_
        unfold fX6_read_291
        refine ob_v (rg_I rfl rfl) (ei_t c2.1.2.2.2.1 (ob_v (rg_I rfl rfl) (ob_v k1.g2 (ob_v (rg_I rfl rfl) ?_))))
        rw [p1, h101]
        exact hz
      by_cases q : a.1.1 = n
      · rw [if_pos ⟨c1, q⟩]
        refine ⟨x1, st2 _ (ei_t (by rw [q]) ?_), F1, fun a' e => ?_⟩
        · unfold fX6_read_317
          exact ob_v (rg_I rfl rfl) (ei_t c2.1.2.2.2.1 rfl)
        · have := Sum.inr.inj e
          rw [← this]
          exact c2.2.2.2
      · rw [if_neg (fun e => q e.2)]
        refine ⟨_, st2 _ (ei_n (fun e => q ?_) (ob_v (rg_pI rfl rfl _) (e317 _ 5 (wI_s _ _ _ _) (by decide) (by decide)))), F1.trans (zFX.wI (by omega)), fun a' e => by cases e⟩
        have := (nI_eq (by omega) (by omega)).mp e
        omega
    · rw [if_neg (fun e => c1 e.1)]
      exact ⟨x1, st _ (e291 x1 5 c2 (by decide) (by decide)), F1, fun a' e => by cases e⟩
end
