/-! a scan's band, and whether it fits, by the class -/
def FXbd (x x' : rg_S) : Prop := (∀ p k, ¬ (p = 40 ∧ 6 ≤ k ∧ k ≤ 8) → ¬ (p = 41 ∧ 1 ≤ k ∧ k ≤ 4) → x'.1 p k = x.1 p k) ∧ x'.2 = x.2
theorem FXbd.trans {x x1 x2 : rg_S} (h : FXbd x x1) (h2 : FXbd x1 x2) : FXbd x x2 := ⟨fun p k a b => (h2.1 p k a b).trans (h.1 p k a b), h2.2.trans h.2⟩
theorem FXp.b {x x' : rg_S} (h : FXp x x') : FXbd x x' := ⟨fun p k a _ => h.1 p k a, h.2⟩
theorem FXbd.wI {k : Nat} {x : rg_S} {v : Int32} (h : 1 ≤ k ∧ k ≤ 4) : FXbd x (rg_wI x 41 k v) := ⟨fun p k' _ b => wI_n _ _ (by omega), Eq.refl _⟩
section
variable {X : px_X} {b B : Nat} {w0 w1 : px_W} {x x' : rg_S} {c : sgC} {p P n : Nat} {cs mb : sg4} {lt q : Nat → Nat}
theorem x_bn {kd sm : Nat} (hkd : kd = 192 ∨ kd = 194) (h11 : x.1 40 11 = nI kd) (h410 : x.1 41 0 = nI sm) (hsm : 1 ≤ sm ∧ sm ≤ 4) (h : kX x c p) : ∃ v x', fX8_readBand X (rg_p lX B w0 x) (B + 40) = some (v, rg_p lX B w0 x') ∧ FXbd x x' ∧ ((∃ f, sgBn c kd sm p = .inl f ∧ v = 0 ∧ ftX x' f) ∨ ∃ fi la bf bb p', sgBn c kd sm p = .inr (fi, la, bf, bb, p') ∧ v = 1 ∧ kX x' c p' ∧ x'.1 41 1 = nI fi ∧ x'.1 41 2 = nI la ∧ x'.1 41 3 = nI bf ∧ x'.1 41 4 = nI bb) := by
  generalize hpr : (if kd = 194 then (1 : Int32) else 0) = pr
  have pr0 : pr = 0 ↔ ¬ kd = 194 := by
    rw [← hpr]
    split
    · exact ⟨fun e => absurd e (by decide), fun e => absurd (by assumption) e⟩
    · exact ⟨fun _ => by assumption, fun _ => rfl⟩
  unfold sgBn
  generalize h1 : (if kd = 194 ∧ sm = 1 then 63 else 0) = hi1
  have b1 : hi1 ≤ 63 := by rw [← h1]; split <;> omega
  have st1 : ∀ z, fX8_readBand_39 X (B + 40) pr (nI hi1) (nI 0) (B + 40) (rg_p lX B w0 x) = z → fX8_readBand X (rg_p lX B w0 x) (B + 40) = z := by
    intro z hz
    unfold fX8_readBand
    refine ob_v (rg_I rfl rfl) ?_
    rw [h11]
    by_cases k4 : kd = 194
    · rw [if_pos k4] at hpr
      refine ei_t (by rw [k4]; rfl) ?_
      unfold fX8_readBand_15
      refine ei_n (by decide) (ob_v (rg_C rfl rfl) (ob_v (rg_I rfl rfl) ?_))
      rw [h410]
      by_cases s1 : sm = 1
      · rw [if_pos ⟨k4, s1⟩] at h1
        rw [← hpr, ← h1] at hz
        exact ei_t (by rw [s1]; rfl) hz
      · rw [if_neg (fun e => s1 e.2)] at h1
        rw [← hpr, ← h1] at hz
        exact ei_n (fun e => s1 ((nI_eq (b := 1) (by omega) (by omega)).mp e)) hz
    · rw [if_neg k4] at hpr
      rw [if_neg (fun e => k4 e.1)] at h1
      refine ei_n (fun e => k4 ((nI_eq (b := 194) (by omega) (by omega)).mp e)) ?_
      unfold fX8_readBand_15
      rw [← hpr, ← h1] at hz
      exact ei_t rfl hz
  obtain ⟨v1, x1, e1, F1, o1⟩ := x_in (X := X) (B := B) (w0 := w0) (lo := 0) (hi := hi1) h (by omega) (by omega)
  rcases o1 with ⟨f, r1, r2, r3⟩ | ⟨fi, p1, r1, r2, r3, r4⟩
  · rw [r1]
    refine ⟨0, x1, st1 _ ?_, F1.b, Or.inl ⟨f, rfl, rfl, r3⟩⟩
    unfold fX8_readBand_39
    exact ob_v (rg_O rfl) (ob_v e1 (ei_t r2 rfl))
  have nv1 : ¬ v1 = -1 := by rw [r3]; exact ne1 (by omega)
  have g1 := sgI_p r1
  rw [r1]
  show ∃ v x', _ ∧ _ ∧ ((∃ f, sgB (sgI c (if kd = 194 then fi else 63) (if kd = 194 ∧ fi = 0 then 0 else 63) p1) _ = .inl f ∧ _) ∨ ∃ a1 a2 a3 a4 a5, sgB (sgI c (if kd = 194 then fi else 63) (if kd = 194 ∧ fi = 0 then 0 else 63) p1) _ = .inr (a1, a2, a3, a4, a5) ∧ _)
  generalize h2 : (if kd = 194 then fi else 63) = lo2
  generalize h3 : (if kd = 194 ∧ fi = 0 then 0 else 63) = hi2
  have b2 : lo2 ≤ 63 := by rw [← h2]; split <;> omega
  have b3 : hi2 ≤ 63 := by rw [← h3]; split <;> omega
  have st2 : ∀ z, fX8_readBand_77 X (B + 40) pr (nI fi) (nI hi2) (nI lo2) (B + 40) (rg_p lX B w0 x1) = z → fX8_readBand X (rg_p lX B w0 x) (B + 40) = z := by
    intro z hz
    refine st1 _ ?_
    unfold fX8_readBand_39
    refine ob_v (rg_O rfl) (ob_v e1 (ei_n nv1 ?_))
    dsimp only
    rw [r3]
    by_cases k4 : kd = 194
    · rw [if_pos k4] at h2
      refine ei_n (fun e => pr0.mp e k4) ?_
      unfold fX8_readBand_60
      refine ei_n (fun e => pr0.mp e k4) ?_
      rw [← h2] at hz
      by_cases f0 : fi = 0
      · rw [if_pos ⟨k4, f0⟩] at h3
        rw [← h3] at hz
        exact ei_t (by rw [f0]; rfl) hz
      · rw [if_neg (fun e => f0 e.2)] at h3
        rw [← h3] at hz
        exact ei_n (nI_ne0 (by omega) (by omega)) hz
    · rw [if_neg k4] at h2
      rw [if_neg (fun e => k4 e.1)] at h3
      rw [← h2, ← h3] at hz
      refine ei_t (pr0.mpr k4) ?_
      unfold fX8_readBand_60
      exact ei_t (pr0.mpr k4) hz
  obtain ⟨v2, x2, e2, F2, o2⟩ := x_in (X := X) (B := B) (w0 := w0) (lo := lo2) (hi := hi2) r4 (by omega) (by omega)
  rcases o2 with ⟨f, s1, s2, s3⟩ | ⟨la, p2, s1, s2, s3, s4⟩
  · rw [s1]
    refine ⟨0, x2, st2 _ ?_, (F1.trans F2).b, Or.inl ⟨f, rfl, rfl, s3⟩⟩
    unfold fX8_readBand_77
    refine ob_v (rg_O rfl) (ob_v e2 (ei_t s2 ?_))
    unfold fX8_readBand_108
    exact ei_t rfl rfl
  have nv2 : ¬ v2 = -1 := by rw [s3]; exact ne1 (by omega)
  have g2 := sgI_p s1
  rw [s1]
  show ∃ v x', _ ∧ _ ∧ ((∃ f, sgB (sgI c 0 (if kd = 194 then 255 else 0) p2) _ = .inl f ∧ _) ∨ ∃ a1 a2 a3 a4 a5, sgB (sgI c 0 (if kd = 194 then 255 else 0) p2) _ = .inr (a1, a2, a3, a4, a5) ∧ _)
  generalize h4 : (if kd = 194 then 255 else 0) = hi3
  have b4 : hi3 ≤ 255 := by rw [← h4]; split <;> omega
  obtain ⟨v3, x3, e3, F3, o3⟩ := x_in (X := X) (B := B) (w0 := w0) (lo := 0) (hi := hi3) s4 (by omega) (by omega)
  have st3 : ∀ z, fX8_readBand_108 X (B + 40) (nI fi) (nI la) v3 (rg_p lX B w0 x3) = z → fX8_readBand X (rg_p lX B w0 x) (B + 40) = z := by
    intro z hz
    refine st2 _ ?_
    unfold fX8_readBand_77
    refine ob_v (rg_O rfl) (ob_v e2 (ei_n nv2 ?_))
    dsimp only
    rw [s3]
    have e105 : fX8_readBand_105 X (B + 40) (nI fi) (nI la) (nI hi3) 0 (B + 40) (rg_p lX B w0 x2) = z := by
      unfold fX8_readBand_105
      exact ob_v (rg_O rfl) (ob_v e3 hz)
    by_cases k4 : kd = 194
    · rw [if_pos k4] at h4
      rw [← h4] at e105
      exact ei_n (fun e => pr0.mp e k4) e105
    · rw [if_neg k4] at h4
      rw [← h4] at e105
      exact ei_t (pr0.mpr k4) e105
  have F13 := (F1.trans (F2.trans F3)).b
  rcases o3 with ⟨f, t1, t2, t3⟩ | ⟨bo, p3, t1, t2, t3, t4⟩
  · rw [t1]
    refine ⟨0, x3, st3 _ ?_, F13, Or.inl ⟨f, rfl, rfl, t3⟩⟩
    unfold fX8_readBand_108
    exact ei_t t2 rfl
  have nv3 : ¬ v3 = -1 := by rw [t3]; exact ne1 (by omega)
  have g3 := sgI_p t1
  rw [t1]
  show ∃ v x', _ ∧ _ ∧ ((∃ f, (if 13 < bo % 16 ∨ bo / 16 ≠ 0 ∧ bo / 16 ≠ bo % 16 + 1 then .inl (6, p2) else .inr (fi, la, bo / 16, bo % 16, p3) : sgF ⊕ (Nat × Nat × Nat × Nat × Nat)) = .inl f ∧ _) ∨ ∃ a1 a2 a3 a4 a5, (if 13 < bo % 16 ∨ bo / 16 ≠ 0 ∧ bo / 16 ≠ bo % 16 + 1 then .inl (6, p2) else .inr (fi, la, bo / 16, bo % 16, p3) : sgF ⊕ (Nat × Nat × Nat × Nat × Nat)) = .inr (a1, a2, a3, a4, a5) ∧ _)
  generalize hx4 : rg_wI (rg_wI (rg_wI (rg_wI x3 41 1 (nI fi)) 41 2 (nI la)) 41 3 (nI (bo / 16))) 41 4 (nI (bo % 16)) = x4
  have F4 : FXbd x3 x4 := by
    rw [← hx4]
    exact (FXbd.wI (by omega)).trans ((FXbd.wI (by omega)).trans ((FXbd.wI (by omega)).trans (FXbd.wI (by omega))))
  have q1 : x4.1 41 1 = nI fi := by rw [← hx4, wI_n _ _ (by omega), wI_n _ _ (by omega), wI_n _ _ (by omega), wI_s]
  have q2 : x4.1 41 2 = nI la := by rw [← hx4, wI_n _ _ (by omega), wI_n _ _ (by omega), wI_s]
  have q3 : x4.1 41 3 = nI (bo / 16) := by rw [← hx4, wI_n _ _ (by omega), wI_s]
  have q4 : x4.1 41 4 = nI (bo % 16) := by rw [← hx4, wI_s]
  have k4 : kX x4 c p3 := by
    obtain ⟨y1, y2, y3, y4, y5, y7, y9⟩ := t4
    have w : ∀ o k, o ≠ 41 → x4.1 o k = x3.1 o k := by
      intro o k hk
      rw [← hx4, wI_n _ _ (by omega), wI_n _ _ (by omega), wI_n _ _ (by omega), wI_n _ _ (by omega)]
    refine ⟨by rw [w _ _ (by decide)]; exact y1, by rw [w _ _ (by decide)]; exact y2, by rw [w _ _ (by decide)]; exact y3, by rw [w _ _ (by decide)]; exact y4, by rw [w _ _ (by decide)]; exact y5, y7, ?_⟩
    rw [← hx4]
    exact y9
  have st4 : ∀ z, (if (13 : Int32) < nI (bo % 16) then fX8_readBand_200 X (B + 40) (rg_p lX B w0 x4) else if nI (bo / 16) = 0 then some (1, rg_p lX B w0 x4) else if nI (bo / 16) = nI (bo % 16 + 1) then some (1, rg_p lX B w0 x4) else fX8_readBand_200 X (B + 40) (rg_p lX B w0 x4)) = z → fX8_readBand X (rg_p lX B w0 x) (B + 40) = z := by
    intro z hz
    refine st3 _ ?_
    unfold fX8_readBand_108
    refine ei_n nv3 ?_
    rw [t3]
    refine ob_v (rg_C rfl rfl) (ob_v (rg_pI rfl rfl _) (ob_v (rg_C rfl rfl) (ob_v (rg_pI rfl rfl _) (ob_v (rg_C rfl rfl) (ob_v (dI_n (d := 16) (by omega) (by decide) (by decide)) (ob_v (rg_pI rfl rfl _) (ob_v (rg_C rfl rfl) (ob_v (rI_n (d := 16) (by omega) (by decide) (by decide)) (ob_v (rg_pI rfl rfl _) ?_)))))))))
    rw [hx4]
    refine ob_v (rg_C rfl rfl) (ob_v (rg_I rfl rfl) ?_)
    rw [q4]
    by_cases d1 : (13 : Int32) < nI (bo % 16)
    · rw [if_pos d1] at hz
      exact ei_t d1 hz
    · rw [if_neg d1] at hz
      refine ei_n d1 (ob_v (rg_C rfl rfl) (ob_v (rg_I rfl rfl) ?_))
      rw [q3]
      by_cases d2 : nI (bo / 16) = 0
      · rw [if_pos d2] at hz
        exact ei_t d2 hz
      · rw [if_neg d2] at hz
        refine ei_n d2 (ob_v (rg_C rfl rfl) (ob_v (rg_I rfl rfl) (ob_v (rg_C rfl rfl) (ob_v (rg_I rfl rfl) ?_))))
        rw [q3, q4, nI_1]
        exact hz
  obtain ⟨x5, e5, F5, f5⟩ := x_ref (X := X) (B := B) (w0 := w0) k4 (by omega)
  rw [show (6, p3 - 1) = (6, p2) by rw [g3.1]; rfl] at f5
  have e200 : fX8_readBand_200 X (B + 40) (rg_p lX B w0 x4) = some (0, rg_p lX B w0 x5) := by
    unfold fX8_readBand_200
    exact ob_v (rg_O rfl) (ob_v e5 rfl)
  by_cases d1 : 13 < bo % 16
  · rw [if_pos (Or.inl d1)]
    exact ⟨0, x5, st4 _ (ei_t (nI_lt (a := 13) d1 (by omega)) e200), F13.trans (F4.trans F5.b), Or.inl ⟨_, rfl, rfl, f5⟩⟩
  · have nd1 : ¬ (13 : Int32) < nI (bo % 16) := nI_nlt (a := 13) (by omega) (by omega)
    by_cases d2 : bo / 16 = 0
    · rw [if_neg (by omega)]
      exact ⟨1, x4, st4 _ (ei_n nd1 (ei_t (by rw [d2]; rfl) rfl)), F13.trans F4, Or.inr ⟨_, _, _, _, _, rfl, rfl, k4, q1, q2, q3, q4⟩⟩
    · have nd2 : ¬ nI (bo / 16) = 0 := nI_ne0 (by omega) (by omega)
      by_cases d3 : bo / 16 = bo % 16 + 1
      · rw [if_neg (by omega)]
        exact ⟨1, x4, st4 _ (ei_n nd1 (ei_n nd2 (ei_t (by rw [d3]) rfl))), F13.trans F4, Or.inr ⟨_, _, _, _, _, rfl, rfl, k4, q1, q2, q3, q4⟩⟩
      · rw [if_pos (Or.inr ⟨d2, d3⟩)]
        exact ⟨0, x5, st4 _ (ei_n nd1 (ei_n nd2 (ei_n (fun e => d3 ((nI_eq (by omega) (by omega)).mp e)) e200))), F13.trans (F4.trans F5.b), Or.inl ⟨_, rfl, rfl, f5⟩⟩
def laX (x : rg_S) (lt : Nat → Nat) : Prop := ∀ i, i < 256 → x.2.2.1 53 i = ltI (lt i) ∧ lt i ≤ 20
theorem x_f87 {cc fi la bf : Nat} (hc : cc < 4) (l6 : la ≤ 63) (hb : bf ≤ 16) (h2 : x.1 41 2 = nI la) (h3 : x.1 41 3 = nI bf) (hl : laX x lt) : ∀ (r k M : Nat), k + r = la + 1 → r < M → fX8_fitsWhatWasSent_87 X M (B + 40) (nI cc) (nI k) (rg_p lX B w0 x) = if (∀ j, j < 64 → k ≤ j → j ≤ la → lt (64 * cc + j) = (if bf = 0 then 0 else bf + 1)) then some (1, rg_p lX B w0 x) else fX8_fitsWhatWasSent_161 X (B + 40) (rg_p lX B w0 x) := by
  intro r
  induction r with
  | zero =>
    intro k M hk hM
    obtain ⟨M, rfl⟩ : ∃ M', M = M' + 1 := ⟨M - 1, by omega⟩
    rw [if_pos (fun j _ a b => absurd a (by omega)), fX8_fitsWhatWasSent_87.eq_2]
    refine ob_v (rg_C rfl rfl) (ob_v (rg_I rfl rfl) ?_)
    rw [h2]
    exact ei_t (nI_lt (by omega) (by omega)) rfl
  | succ r ih =>
    intro k M hk hM
    obtain ⟨M, rfl⟩ : ∃ M', M = M' + 1 := ⟨M - 1, by omega⟩
    have hk2 := hl (64 * cc + k) (by omega)
    have ih := ih (k + 1) M (by omega) (by omega)
    have start : ∀ z, (if bf = 0 then (if ltI (lt (64 * cc + k)) = -1 then fX8_fitsWhatWasSent_154 X (fX8_fitsWhatWasSent_87 X M) (B + 40) (nI cc) (nI k) 1 (rg_p lX B w0 x) else fX8_fitsWhatWasSent_154 X (fX8_fitsWhatWasSent_87 X M) (B + 40) (nI cc) (nI k) 0 (rg_p lX B w0 x)) else (if ltI (lt (64 * cc + k)) = nI bf then fX8_fitsWhatWasSent_154 X (fX8_fitsWhatWasSent_87 X M) (B + 40) (nI cc) (nI k) 1 (rg_p lX B w0 x) else fX8_fitsWhatWasSent_154 X (fX8_fitsWhatWasSent_87 X M) (B + 40) (nI cc) (nI k) 0 (rg_p lX B w0 x))) = z → fX8_fitsWhatWasSent_87 X (M + 1) (B + 40) (nI cc) (nI k) (rg_p lX B w0 x) = z := by
      intro z hz
      rw [fX8_fitsWhatWasSent_87.eq_2]
      refine ob_v (rg_C rfl rfl) (ob_v (rg_I rfl rfl) ?_)
      rw [h2]
      refine ei_n (nI_nlt (by omega) (by omega)) (ob_v (rg_C rfl rfl) ?_)
      rw [show (64 : Int32) * nI cc + nI k = nI (64 * cc + k) from by rw [show (64 : Int32) = nI 64 from rfl, pk_mul, nI_add]]
      refine ob_v (rg_A rfl (by decide) _ (by omega) (by decide)) (ob_v (rg_C rfl rfl) (ob_v (rg_I rfl rfl) ?_))
      rw [h3, hk2.1]
      by_cases b0 : bf = 0
      · rw [if_pos b0] at hz
        exact ei_t (by rw [b0]; rfl) hz
      · rw [if_neg b0] at hz
        refine ei_n (nI_ne0 (by omega) (by omega)) (ob_v (rg_C rfl rfl) (ob_v (rg_I rfl rfl) ?_))
        rw [h3]
        exact hz
    have yes : fX8_fitsWhatWasSent_154 X (fX8_fitsWhatWasSent_87 X M) (B + 40) (nI cc) (nI k) 1 (rg_p lX B w0 x) = fX8_fitsWhatWasSent_87 X M (B + 40) (nI cc) (nI (k + 1)) (rg_p lX B w0 x) := by
      unfold fX8_fitsWhatWasSent_154
      rw [nI_1]
      exact ei_n (by decide) rfl
    have no : fX8_fitsWhatWasSent_154 X (fX8_fitsWhatWasSent_87 X M) (B + 40) (nI cc) (nI k) 0 (rg_p lX B w0 x) = fX8_fitsWhatWasSent_161 X (B + 40) (rg_p lX B w0 x) := by
      unfold fX8_fitsWhatWasSent_154
      exact ei_t rfl rfl
    have key : ltI (lt (64 * cc + k)) = (if bf = 0 then -1 else nI bf) ↔ lt (64 * cc + k) = (if bf = 0 then 0 else bf + 1) := by
      by_cases b0 : bf = 0
      · rw [if_pos b0, if_pos b0]
        exact ltI_eq (b := 0) (by omega) (by omega)
      · rw [if_neg b0, if_neg b0]
        exact ltI_eq (b := bf + 1) (by omega) (by omega)
    by_cases d : lt (64 * cc + k) = (if bf = 0 then 0 else bf + 1)
    · have d' := key.mpr d
      have e : (∀ j, j < 64 → k ≤ j → j ≤ la → lt (64 * cc + j) = (if bf = 0 then 0 else bf + 1)) ↔ (∀ j, j < 64 → k + 1 ≤ j → j ≤ la → lt (64 * cc + j) = (if bf = 0 then 0 else bf + 1)) := by
        refine ⟨fun h j a b => h j a (by omega), fun h j a b => ?_⟩
        rcases Nat.eq_or_lt_of_le b with z | z
        · rw [← z]
          exact fun _ => d
        · exact h j a z
      refine start _ ?_
      by_cases b0 : bf = 0
      · rw [if_pos b0] at d'
        rw [if_pos b0, if_pos d', yes, ih]
        by_cases e1 : (∀ j, j < 64 → k + 1 ≤ j → j ≤ la → lt (64 * cc + j) = (if bf = 0 then 0 else bf + 1))
        · rw [if_pos e1, if_pos (e.mpr e1)]
        · rw [if_neg e1, if_neg (fun z => e1 (e.mp z))]
      · rw [if_neg b0] at d'
        rw [if_neg b0, if_pos d', yes, ih]
        by_cases e1 : (∀ j, j < 64 → k + 1 ≤ j → j ≤ la → lt (64 * cc + j) = (if bf = 0 then 0 else bf + 1))
        · rw [if_pos e1, if_pos (e.mpr e1)]
        · rw [if_neg e1, if_neg (fun z => e1 (e.mp z))]
    · rw [if_neg (fun z => d (z k (by omega) (Nat.le_refl _) (by omega)))]
      have d' := fun z => d (key.mp z)
      refine start _ ?_
      by_cases b0 : bf = 0
      · rw [if_pos b0] at d'
        rw [if_pos b0, if_neg d', no]
      · rw [if_neg b0] at d'
        rw [if_neg b0, if_neg d', no]
theorem fc1 {kd fi L : Nat} (k : kd = 192) (z : L = 0) : ¬ (if kd = 192 then L ≠ 0 else 0 < fi ∧ L = 0) := by
  rw [if_pos k]
  exact fun e => e z
theorem fc2 {kd fi L : Nat} (k : kd = 192) (z : ¬ L = 0) : (if kd = 192 then L ≠ 0 else 0 < fi ∧ L = 0) := by
  rw [if_pos k]
  exact z
theorem fc3 {kd fi L : Nat} (k : ¬ kd = 192) (f0 : 0 < fi) (z : L = 0) : (if kd = 192 then L ≠ 0 else 0 < fi ∧ L = 0) := by
  rw [if_neg k]
  exact ⟨f0, z⟩
theorem fc4 {kd fi L : Nat} (k : ¬ kd = 192) (z : ¬ (0 < fi ∧ L = 0)) : ¬ (if kd = 192 then L ≠ 0 else 0 < fi ∧ L = 0) := by
  rw [if_neg k]
  exact z
/-- whether each member fits -/
theorem x_ft {kd fi la bf nn : Nat} (hkd : kd = 192 ∨ kd = 194) (nn4 : nn ≤ 4) (p1 : 1 ≤ p) (h : kX x c p) (h11 : x.1 40 11 = nI kd) (h0 : x.1 41 0 = nI nn) (h1 : x.1 41 1 = nI fi) (h2 : x.1 41 2 = nI la) (h3 : x.1 41 3 = nI bf) (fl : fi ≤ la) (l6 : la ≤ 63) (hb : bf ≤ 16) (hm : mmX x nn mb) (hm4 : ∀ i, i < nn → (mb i).1 < 4 ∧ (mb i).2.2.2 ≤ 16384) (hl : laX x lt) : ∀ (r i M : Nat), i + r = nn → r < M → (∃ f x', sgFt kd fi la bf lt mb (p - 1) r i = .inl f ∧ FXp x x' ∧ ftX x' f ∧ fX8_readScan_42 X M (B + 40) (nI i) (rg_p lX B w0 x) = some (0, rg_p lX B w0 x')) ∨ (sgFt kd fi la bf lt mb (p - 1) r i = .inr () ∧ fX8_readScan_42 X M (B + 40) (nI i) (rg_p lX B w0 x) = fX8_readScan_69 X (B + 40) (rg_p lX B w0 x)) := by
  intro r
  induction r with
  | zero =>
    intro i M hi hM
    obtain ⟨M, rfl⟩ : ∃ M', M = M' + 1 := ⟨M - 1, by omega⟩
    refine Or.inr ⟨rfl, ?_⟩
    rw [fX8_readScan_42.eq_2]
    refine ob_v (rg_C rfl rfl) (ob_v (rg_I rfl rfl) ?_)
    rw [h0]
    exact ei_t (nI_le (by omega) (by omega)) rfl
  | succ r ih =>
    intro i M hi hM
    obtain ⟨M, rfl⟩ : ∃ M', M = M' + 1 := ⟨M - 1, by omega⟩
    have mi := hm i (by omega)
    have m4 := hm4 i (by omega)
    have l0 := hl (64 * (mb i).1) (by omega)
    have lp := x_f87 (X := X) (B := B) (w0 := w0) (cc := (mb i).1) (fi := fi) m4.1 l6 hb h2 h3 hl (la + 1 - fi) fi FU (by omega) (by unfold FU; omega)
    have start : ∀ z, (fX8_fitsWhatWasSent X (rg_p lX B w0 x) (B + 40) (nI i)).bind (fun q63 => if q63.1 = 0 then some (0, q63.2) else fX8_readScan_42 X M (B + 40) (nI (i + 1)) q63.2) = z → fX8_readScan_42 X (M + 1) (B + 40) (nI i) (rg_p lX B w0 x) = z := by
      intro z hz
      rw [fX8_readScan_42.eq_2]
      refine ob_v (rg_C rfl rfl) (ob_v (rg_I rfl rfl) ?_)
      rw [h0]
      refine ei_n (nI_ge (by omega) (by omega)) (ob_v (rg_O rfl) ?_)
      rw [nI_1]
      exact hz
    have one : ∀ s0 : Int32, (s0 = 0 ↔ lt (64 * (mb i).1) = 0) → fX8_fitsWhatWasSent_28 X (B + 40) (nI i) (nI (mb i).1) s0 (rg_p lX B w0 x) = if (if kd = 192 then lt (64 * (mb i).1) ≠ 0 else 0 < fi ∧ lt (64 * (mb i).1) = 0) then fX8_fitsWhatWasSent_60 X (B + 40) (nI i) (rg_p lX B w0 x) else fX8_fitsWhatWasSent_78 X (B + 40) (nI (mb i).1) (rg_p lX B w0 x) := by
      intro s0 hs
      unfold fX8_fitsWhatWasSent_28
      refine ob_v (rg_I rfl rfl) ?_
      rw [h11]
      by_cases k2 : kd = 192
      · refine ei_t (by rw [k2]; rfl) ?_
        by_cases z : lt (64 * (mb i).1) = 0
        · rw [if_neg (fc1 (fi := fi) k2 z)]
          exact ei_t (hs.mpr z) rfl
        · rw [if_pos (fc2 (fi := fi) k2 z)]
          exact ei_n (fun e => z (hs.mp e)) rfl
      · refine ei_n (fun e => k2 ((nI_eq (b := 192) (by omega) (by omega)).mp e)) (ob_v (rg_C rfl rfl) (ob_v (rg_I rfl rfl) ?_))
        rw [h1]
        by_cases f0 : 0 < fi
        · refine ei_n (nI_nle f0 (by omega)) ?_
          by_cases z : lt (64 * (mb i).1) = 0
          · rw [if_pos (fc3 k2 f0 z)]
            exact ei_t (hs.mpr z) rfl
          · rw [if_neg (fc4 k2 (fun e => z e.2) : ¬ (if kd = 192 then lt (64 * (mb i).1) ≠ 0 else 0 < fi ∧ lt (64 * (mb i).1) = 0))]
            exact ei_n (fun e => z (hs.mp e)) rfl
        · rw [if_neg (fc4 k2 (fun e => f0 e.1) : ¬ (if kd = 192 then lt (64 * (mb i).1) ≠ 0 else 0 < fi ∧ lt (64 * (mb i).1) = 0))]
          exact ei_t (by rw [show fi = 0 by omega]; decide) rfl
    have all : fX8_fitsWhatWasSent X (rg_p lX B w0 x) (B + 40) (nI i) = if (if kd = 192 then lt (64 * (mb i).1) ≠ 0 else 0 < fi ∧ lt (64 * (mb i).1) = 0) then fX8_fitsWhatWasSent_60 X (B + 40) (nI i) (rg_p lX B w0 x) else fX8_fitsWhatWasSent_78 X (B + 40) (nI (mb i).1) (rg_p lX B w0 x) := by
      unfold fX8_fitsWhatWasSent
      refine ob_v (rg_C rfl rfl) (ob_v (rg_C rfl rfl) (ob_v (rg_A rfl (by decide) _ (by omega) (by decide)) (ob_v (rg_C rfl rfl) ?_)))
      rw [mi.1, show (64 : Int32) * nI (mb i).1 = nI (64 * (mb i).1) from by rw [show (64 : Int32) = nI 64 from rfl, pk_mul]]
      refine ob_v (rg_A rfl (by decide) _ (by omega) (by decide)) ?_
      rw [l0.1]
      by_cases z : lt (64 * (mb i).1) = 0
      · rw [← one 0 ⟨fun _ => z, fun _ => rfl⟩]
        exact ei_t (by rw [z]; rfl) rfl
      · rw [← one 1 ⟨fun e => absurd e (by decide), fun e => absurd e z⟩]
        exact ei_n (fun e => z ((ltI_eq (b := 0) (by omega) (by omega)).mp e)) rfl
    unfold sgFt
    by_cases d1 : (if kd = 192 then lt (64 * (mb i).1) ≠ 0 else 0 < fi ∧ lt (64 * (mb i).1) = 0)
    · rw [if_pos d1] at all ⊢
      obtain ⟨x2, e2, F2, f1, f2⟩ := x_fail (X := X) (B := B) (w0 := w0) (x := x) (f := 7) (q := (mb i).2.2.2)
      refine Or.inl ⟨_, x2, rfl, F2, ftX.i f1 f2 (by decide) (by decide) (by omega), start _ ?_⟩
      rw [all]
      unfold fX8_fitsWhatWasSent_60
      refine ob_v (v := (0, rg_p lX B w0 x2)) (ob_v (rg_C rfl rfl) (ob_v (rg_C rfl rfl) (ob_v (rg_A rfl (by decide) _ (by omega) (by decide)) (ob_v (rg_O rfl) ?_)))) (ei_t rfl rfl)
      rw [mi.2.2.2]
      exact ob_v e2 rfl
    · rw [if_neg d1] at all ⊢
      have e78 : fX8_fitsWhatWasSent_78 X (B + 40) (nI (mb i).1) (rg_p lX B w0 x) = if (∀ j, j < 64 → fi ≤ j → j ≤ la → lt (64 * (mb i).1 + j) = (if bf = 0 then 0 else bf + 1)) then some (1, rg_p lX B w0 x) else fX8_fitsWhatWasSent_161 X (B + 40) (rg_p lX B w0 x) := by
        unfold fX8_fitsWhatWasSent_78
        refine ob_v (rg_C rfl rfl) (ob_v (rg_I rfl rfl) ?_)
        rw [h1]
        exact lp
      by_cases d2 : (∀ j, j < 64 → fi ≤ j → j ≤ la → lt (64 * (mb i).1 + j) = (if bf = 0 then 0 else bf + 1))
      · rw [if_pos d2] at e78 ⊢
        have st2 : fX8_readScan_42 X (M + 1) (B + 40) (nI i) (rg_p lX B w0 x) = fX8_readScan_42 X M (B + 40) (nI (i + 1)) (rg_p lX B w0 x) := by
          refine start _ ?_
          rw [all, e78]
          exact ob_v (v := (1, rg_p lX B w0 x)) rfl (ei_n (by show ¬ (1 : Int32) = 0; decide) rfl)
        rw [st2]
        exact ih (i + 1) M (by omega) (by omega)
      · rw [if_neg d2] at e78 ⊢
        obtain ⟨x2, e2, F2, f2⟩ := x_ref (X := X) (B := B) (w0 := w0) h p1
        refine Or.inl ⟨_, x2, rfl, F2, f2, start _ ?_⟩
        rw [all, e78]
        unfold fX8_fitsWhatWasSent_161
        exact ob_v (v := (0, rg_p lX B w0 x2)) (ob_v (rg_O rfl) (ob_v e2 rfl)) (ei_t rfl rfl)
end
