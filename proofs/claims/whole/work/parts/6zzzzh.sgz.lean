/-! a whole scan's segment, by the class -/
def FXsg (P : Nat) (x x' : rg_S) : Prop := (∀ p k, ¬ (40 ≤ p ∧ p ≤ 94) → ¬ (p = P ∧ k ≤ 2) → x'.1 p k = x.1 p k) ∧ x'.2.1 = x.2.1 ∧ (∀ a, ¬ (40 ≤ a ∧ a ≤ 94) → a ≠ P + 1 → a ≠ P + 2 → a ≠ P + 7 → x'.2.2.1 a = x.2.2.1 a) ∧ x'.2.2.2 = x.2.2.2
theorem FXsg.rfl {P : Nat} {x : rg_S} : FXsg P x x := ⟨fun _ _ _ _ => Eq.refl _, Eq.refl _, fun _ _ _ _ _ => Eq.refl _, Eq.refl _⟩
theorem FXsg.trans {P : Nat} {x x1 x2 : rg_S} (h : FXsg P x x1) (h2 : FXsg P x1 x2) : FXsg P x x2 := ⟨fun p k a b => (h2.1 p k a b).trans (h.1 p k a b), h2.2.1.trans h.2.1, fun a e d e' d' => (h2.2.2.1 a e d e' d').trans (h.2.2.1 a e d e' d'), h2.2.2.2.trans h.2.2.2⟩
theorem FXp.sg {P : Nat} {x x' : rg_S} (h : FXp x x') : FXsg P x x' := ⟨fun p k a _ => h.1 p k (by omega), by rw [h.2], fun _ _ _ _ _ => by rw [h.2], by rw [h.2]⟩
theorem FXm.sg {P : Nat} {x x' : rg_S} (h : FXm x x') : FXsg P x x' := ⟨fun p k a _ => h.1 p k (by omega), h.2.1, fun a e _ _ _ => h.2.2.1 a (by omega), h.2.2.2⟩
theorem FXbd.sg {P : Nat} {x x' : rg_S} (h : FXbd x x') : FXsg P x x' := ⟨fun p k a _ => h.1 p k (by omega) (by omega), by rw [h.2], fun _ _ _ _ _ => by rw [h.2], by rw [h.2]⟩
theorem FXn.sg {P : Nat} {x x' : rg_S} (h : FXn P x x') : FXsg P x x' := ⟨fun p k a _ => by rw [h.1], h.2.1, fun a e _ _ d => h.2.2.1 a (by omega) d, h.2.2.2⟩
theorem FXd.sg {P : Nat} {x x' : rg_S} (h : FXd x x') : FXsg P x x' := ⟨fun p k a _ => h.1 p k (by omega) (by omega), by rw [h.2], fun _ _ _ _ _ => by rw [h.2], by rw [h.2]⟩
theorem FXa.sg {P o : Nat} {x x' : rg_S} (ho : 40 ≤ o ∧ o ≤ 94) (h : FXa o x x') : FXsg P x x' := ⟨fun p k a _ => h.1 p k (by omega), h.2.1, fun a e _ _ _ => h.2.2.1 a (by omega), h.2.2.2⟩
theorem FXws.sg {P : Nat} {x x' : rg_S} (h : FXws x x') : FXsg P x x' := ⟨fun p k a _ => h.1 p k (by omega) (by omega), h.2.1, fun a e _ _ _ => h.2.2.1 a (by omega), h.2.2.2⟩
theorem FXf.sg {P : Nat} {x x' : rg_S} (h : FXf P x x') : FXsg P x x' := ⟨fun p k a b => h.1 p k (by omega) b, h.2.1, fun a e d1 d2 _ => h.2.2.1 a (by omega) (by omega) d1 d2, h.2.2.2⟩
theorem FXsg.wI {P o k : Nat} {x : rg_S} {v : Int32} (h : 40 ≤ o ∧ o ≤ 94) : FXsg P x (rg_wI x o k v) := ⟨fun p k' a _ => wI_n _ _ (by omega), Eq.refl _, fun _ _ _ _ _ => Eq.refl _, Eq.refl _⟩
/-- what the class knows of the file, but for what was sent -/
def sX0 (x : rg_S) (P : Nat) (s : sgS) : Prop := isP P ∧ x.2.1 40 1 = P ∧ x.1 40 4 = nI (s.1 1) ∧ x.1 40 5 = nI (s.1 2) ∧ x.1 40 11 = nI (s.1 3) ∧ (x.1 40 12 = if s.1 9 = 0 then 0 else 1) ∧ x.1 P 2 = nI (s.1 6) ∧ (s.1 3 ≠ 0 → x.1 P 0 = nI (s.1 4)) ∧ qX x s.2.1 ∧ wsX x s.2.2.1 ∧ csX x P (s.1 6) s.2.2.2.2.1
def fsX (x : rg_S) (P : Nat) (s : sgS) : Prop := sX0 x P s ∧ (x.1 40 13 = if s.1 7 = 0 then 0 else 1) ∧ laX x s.2.2.2.1 ∧ stX x P s.2.2.2.1 s.2.2.2.2.2.2
def scX (x : rg_S) (s : sgS) : Prop := x.1 41 0 = nI (s.1 10) ∧ x.1 41 1 = nI (s.1 11) ∧ x.1 41 2 = nI (s.1 12) ∧ x.1 41 3 = nI (s.1 13) ∧ x.1 41 4 = nI (s.1 14) ∧ x.1 41 9 = nI (s.1 15) ∧ x.1 41 10 = nI (s.1 16) ∧ mmX x (s.1 10) s.2.2.2.2.2.1
/-- what holds of every state -/
def sgOk (s : sgS) : Prop := s.1 1 < 65536 ∧ (s.1 3 = 0 ∨ s.1 3 = 192 ∨ s.1 3 = 194) ∧ s.1 6 ≤ 4 ∧ (s.1 3 ≠ 0 → 1 ≤ s.1 6) ∧ (s.1 3 = 0 → s.1 6 = 0 ∧ s.1 7 = 0 ∧ s.1 8 = 0) ∧ csOk (s.1 6) s.2.2.2.2.1 ∧ (∀ i, s.2.1 i ≤ 255) ∧ (∀ i, s.2.2.2.1 i ≤ 14) ∧ (s.1 8 = 0 ↔ ∀ k, k < s.1 6 → s.2.2.2.1 (64 * k) = 0)
section
variable {X : px_X} {b B : Nat} {w0 w1 : px_W} {x x' : rg_S} {c : sgC} {p P : Nat} {s : sgS}
/-- numbers and places that only a scan's reading changes -/
def FXk (P : Nat) (x x' : rg_S) : Prop := (∀ p k, p ≠ 41 → ¬ (p = 40 ∧ (6 ≤ k ∧ k ≤ 8 ∨ k = 13)) → x'.1 p k = x.1 p k) ∧ x'.2.1 = x.2.1 ∧ (∀ a, ¬ (42 ≤ a ∧ a ≤ 45) → a ≠ 53 → a ≠ P + 7 → x'.2.2.1 a = x.2.2.1 a) ∧ x'.2.2.2 = x.2.2.2
theorem FXk.trans {x x1 x2 : rg_S} (h : FXk P x x1) (h2 : FXk P x1 x2) : FXk P x x2 := ⟨fun p k a b => (h2.1 p k a b).trans (h.1 p k a b), h2.2.1.trans h.2.1, fun a e d e' => (h2.2.2.1 a e d e').trans (h.2.2.1 a e d e'), h2.2.2.2.trans h.2.2.2⟩
theorem FXp.kk (h : FXp x x') : FXk P x x' := ⟨fun p k _ a => h.1 p k (by omega), by rw [h.2], fun _ _ _ _ => by rw [h.2], by rw [h.2]⟩
theorem FXm.kk (h : FXm x x') : FXk P x x' := ⟨fun p k _ a => h.1 p k (by omega), h.2.1, fun a e _ _ => h.2.2.1 a e, h.2.2.2⟩
theorem FXbd.kk (h : FXbd x x') : FXk P x x' := ⟨fun p k d a => h.1 p k (by omega) (by omega), by rw [h.2], fun _ _ _ _ => by rw [h.2], by rw [h.2]⟩
theorem FXn.kk (h : FXn P x x') : FXk P x x' := ⟨fun p k d a => by rw [h.1], h.2.1, fun a _ e d => h.2.2.1 a e d, h.2.2.2⟩
theorem FXd.kk (h : FXd x x') : FXk P x x' := ⟨fun p k d a => h.1 p k (by omega) (by omega), by rw [h.2], fun _ _ _ _ => by rw [h.2], by rw [h.2]⟩
theorem FXk.wI {o k : Nat} {v : Int32} (h : o = 41 ∨ o = 40 ∧ k = 13) : FXk P x (rg_wI x o k v) := ⟨fun p k' a b => wI_n _ _ (by omega), Eq.refl _, fun _ _ _ _ => Eq.refl _, Eq.refl _⟩
theorem sX0.f (h : sX0 x P s) (F : FXk P x x') : sX0 x' P s := by
  obtain ⟨h1, h2, h3, h4, h5, h6, h7, h8, h9, h10, h11⟩ := h
  have hP' := h1
  unfold isP at hP'
  refine ⟨h1, by rw [F.2.1]; exact h2, by rw [F.1 _ _ (by omega) (by omega)]; exact h3, by rw [F.1 _ _ (by omega) (by omega)]; exact h4, by rw [F.1 _ _ (by omega) (by omega)]; exact h5, by rw [F.1 _ _ (by omega) (by omega)]; exact h6, by rw [F.1 _ _ (by omega) (by omega)]; exact h7, fun e => by rw [F.1 _ _ (by omega) (by omega)]; exact h8 e, ?_, ?_, ?_⟩
  · unfold qX
    rw [F.2.2.1 52 (by omega) (by omega) (by omega)]
    exact h9
  · intro t ht
    rcases h10 t ht with ⟨g1, g2⟩ | ⟨W, g1, g2, g3, g4⟩
    · exact Or.inl ⟨g1, by rw [F.1 _ _ (by omega) (by omega)]; exact g2⟩
    · refine Or.inr ⟨W, g1, g2, g3, ?_⟩
      unfold wX
      rw [F.1 _ _ (by omega) (by omega), F.1 _ _ (by omega) (by omega), F.2.2.1 (55 + 5 * t + 1) (by omega) (by omega) (by omega), F.2.2.1 (55 + 5 * t + 2) (by omega) (by omega) (by omega), F.2.2.1 (55 + 5 * t + 3) (by omega) (by omega) (by omega), F.2.2.1 (55 + 5 * t + 4) (by omega) (by omega) (by omega)]
      exact g4
  · unfold csX
    rw [F.2.2.1 50 (by omega) (by omega) (by omega), F.2.2.1 51 (by omega) (by omega) (by omega), F.2.2.1 (P + 1) (by omega) (by omega) (by omega), F.2.2.1 (P + 2) (by omega) (by omega) (by omega)]
    exact h11
theorem sX0.n {s2 : sgS} (h : sX0 x P s) (e1 : s2.1 1 = s.1 1) (e2 : s2.1 2 = s.1 2) (e3 : s2.1 3 = s.1 3) (e4 : s2.1 4 = s.1 4) (e6 : s2.1 6 = s.1 6) (e9 : s2.1 9 = s.1 9) (eq : s2.2.1 = s.2.1) (ew : s2.2.2.1 = s.2.2.1) (ec : s2.2.2.2.2.1 = s.2.2.2.2.1) : sX0 x P s2 := by
  unfold sX0
  rw [e1, e2, e3, e4, e6, e9, eq, ew, ec]
  exact h
theorem kX.wi {o k : Nat} {v : Int32} (h : kX x c p) (hk : ¬ (o = 40 ∧ (k = 6 ∨ 8 ≤ k ∧ k ≤ 10)) ∧ ¬ (o = 1 ∧ k = 1)) : kX (rg_wI x o k v) c p := by
  obtain ⟨h1, h2, h3, h4, h5, h7, h9⟩ := h
  exact ⟨by rw [wI_n _ _ (by omega)]; exact h1, by rw [wI_n _ _ (by omega)]; exact h2, by rw [wI_n _ _ (by omega)]; exact h3, by rw [wI_n _ _ (by omega)]; exact h4, by rw [wI_n _ _ (by omega)]; exact h5, h7, h9⟩
theorem kX.n (hP : isP P) (h : kX x c p) (F : FXn P x x') : kX x' c p := by
  unfold isP at hP
  obtain ⟨h1, h2, h3, h4, h5, h7, h9⟩ := h
  rw [← F.1] at h1 h2 h3 h4 h5
  exact ⟨h1, h2, h3, h4, h5, h7, by rw [F.2.2.1 2 (by omega) (by omega)]; exact h9⟩
/-- the numbers of a scan -/
def sgEd (s2 : sgS) (e : Nat) : sgS := (uG (uG s2.1 0 e) 16 e, s2.2)
theorem x_scan (hs : fsX x P s) (ok : sgOk s) (k0 : s.1 3 ≠ 0) (p1 : 1 ≤ p) (h : kX x c p) : ∃ v x', fX8_readScan X (rg_p lX B w0 x) (B + 40) = some (v, rg_p lX B w0 x') ∧ FXsg P x x' ∧ (∀ k, k ≠ 13 → ¬ (6 ≤ k ∧ k ≤ 8) → x'.1 40 k = x.1 40 k) ∧ x'.1 P 1 = x.1 P 1 ∧ ((∃ f, sgB (sgSc c s p) (fun s2 => sgB (sgDt c.1 c.2.1 (s.1 1) (c.2.1 + 1) (s2.1 0) 0) fun e => (.inr (sgEd s2 e) : sgF ⊕ sgS)) = .inl f ∧ v = 0 ∧ ftX x' f) ∨ ∃ s3, sgB (sgSc c s p) (fun s2 => sgB (sgDt c.1 c.2.1 (s.1 1) (c.2.1 + 1) (s2.1 0) 0) fun e => (.inr (sgEd s2 e) : sgF ⊕ sgS)) = .inr s3 ∧ v = 1 ∧ kX x' c (s3.1 0) ∧ fsX x' P s3 ∧ scX x' s3) := by
  obtain ⟨s0, h13, hla, hst⟩ := hs
  have s0' := s0
  obtain ⟨hP, hr, h4, h5, h11, h12, hn, h0, hq, hT, hc⟩ := s0'
  obtain ⟨k1, k3, k6, k6b, k7, kc, kq, kl, k8⟩ := ok
  have hP' := hP
  unfold isP at hP'
  have hkd : s.1 3 = 192 ∨ s.1 3 = 194 := by omega
  have hL := h.2.2.2.2.2.1
  have fr : ∀ {z : rg_S}, FXk P x z → (∀ k, k ≠ 13 → ¬ (6 ≤ k ∧ k ≤ 8) → z.1 40 k = x.1 40 k) ∧ z.1 P 1 = x.1 P 1 := by
    intro z F
    exact ⟨fun k a d => F.1 40 k (by omega) (by omega), F.1 P 1 (by omega) (by omega)⟩
  unfold sgSc
  obtain ⟨v1, x1, e1, F1, o1⟩ := x_in (X := X) (B := B) (w0 := w0) (lo := 1) (hi := 4) h (by omega) (by omega)
  generalize hx2 : rg_wI x1 41 0 v1 = x2
  have G2 : FXk P x x2 := by
    rw [← hx2]
    exact F1.kk.trans (FXk.wI (Or.inl rfl))
  have S2 : FXsg P x x2 := by
    rw [← hx2]
    exact F1.sg.trans (FXsg.wI (by omega))
  have i410 : x2.1 41 0 = v1 := by rw [← hx2, wI_s]
  have st2 : ∀ z, (if v1 = -1 then some (0, rg_p lX B w0 x2) else (gO (rg_p lX B w0 x2) (B + 40) 8).bind fun o72 => (fX8_readMembers X (rg_p lX B w0 x2) (B + 40)).bind fun q73 => if q73.1 = 0 then some (0, q73.2) else (gO q73.2 (B + 40) 8).bind fun o75 => (fX8_readBand X q73.2 (B + 40)).bind fun q76 => if q76.1 = 0 then some (0, q76.2) else fX8_readScan_42 X FU (B + 40) 0 q76.2) = z → fX8_readScan X (rg_p lX B w0 x) (B + 40) = z := by
    intro z hz
    unfold fX8_readScan
    refine ob_v (rg_C rfl rfl) (ob_v (rg_O rfl) (ob_v e1 (ob_v (rg_pI rfl rfl _) (ob_v (rg_C rfl rfl) (ob_v (rg_I rfl rfl) ?_)))))
    dsimp only
    rw [hx2, i410]
    exact hz
  rcases o1 with ⟨f, r1, r2, r3⟩ | ⟨nn, p1', r1, r2, r3, r4⟩
  · rw [r1]
    refine ⟨0, x2, st2 _ (ei_t r2 rfl), S2, (fr G2).1, (fr G2).2, Or.inl ⟨f, rfl, rfl, ?_⟩⟩
    unfold ftX
    rw [← hx2, wI_n _ _ (by omega), wI_n _ _ (by omega)]
    exact r3
  have nv1 : ¬ v1 = -1 := by rw [r3]; exact ne1 (by omega)
  obtain ⟨n1, n2, n3, n4, n5, n6⟩ := sgI_p r1
  have k2 : kX x2 c p1' := by
    rw [← hx2]
    exact r4.wi (by omega)
  rw [r3] at i410
  rw [r1, sgB_B]
  show ∃ v x', _ ∧ _ ∧ _ ∧ _ ∧ ((∃ f, sgB (sgB (sgMb c s.2.2.2.2.1 (s.1 6) nn 0 0 0 p1' (fun _ => (0, 0, 0, 0))) _) _ = .inl f ∧ _) ∨ ∃ s3, sgB (sgB (sgMb c s.2.2.2.2.1 (s.1 6) nn 0 0 0 p1' (fun _ => (0, 0, 0, 0))) _) _ = .inr s3 ∧ _)
  have s2' := s0.f G2
  obtain ⟨v3, x3, e3, F3, o3⟩ := x_mb (X := X) (B := B) (w0 := w0) (c := c) (nn := nn) hP k6 n6 kc nn 0 0 0 p1' FU (fun _ => (0, 0, 0, 0)) x2 (by omega) (by unfold FU; omega) (by omega) (by omega) s2'.2.1 s2'.2.2.2.2.2.2.1 i410 s2'.2.2.2.2.2.2.2.2.2.2 k2 (fun i hi => absurd hi (Nat.not_lt_zero _))
  have st3 : ∀ z, (if v3 = 0 then some (0, rg_p lX B w0 x3) else (gO (rg_p lX B w0 x3) (B + 40) 8).bind fun o75 => (fX8_readBand X (rg_p lX B w0 x3) (B + 40)).bind fun q76 => if q76.1 = 0 then some (0, q76.2) else fX8_readScan_42 X FU (B + 40) 0 q76.2) = z → fX8_readScan X (rg_p lX B w0 x) (B + 40) = z := by
    intro z hz
    refine st2 _ (ei_n nv1 (ob_v (rg_O rfl) (ob_v (v := (v3, rg_p lX B w0 x3)) ?_ hz)))
    unfold fX8_readMembers
    exact e3
  have G3 : FXk P x x3 := G2.trans F3.kk
  have S3 : FXsg P x x3 := S2.trans F3.sg
  rcases o3 with ⟨f, a1, a2, a3⟩ | ⟨p3, mb, a1, a2, a3, a4⟩
  · rw [a1]
    exact ⟨0, x3, st3 _ (ei_t a2 rfl), S3, (fr G3).1, (fr G3).2, Or.inl ⟨f, rfl, rfl, a3⟩⟩
  obtain ⟨mok, mp⟩ := sgMb_ok (by omega) nn 0 0 0 p1' (fun _ => (0, 0, 0, 0)) ⟨fun k hk => absurd hk (Nat.not_lt_zero _), fun j k _ hk => absurd hk (Nat.not_lt_zero _), by show 0 ≤ 10; decide⟩ (fun k hk => absurd hk (Nat.not_lt_zero _)) rfl a1
  rw [Nat.zero_add] at mok
  rw [a1, sgB_B]
  show ∃ v x', _ ∧ _ ∧ _ ∧ _ ∧ ((∃ f, sgB (sgB (sgBn c (s.1 3) nn p3) _) _ = .inl f ∧ _) ∨ ∃ s3, sgB (sgB (sgBn c (s.1 3) nn p3) _) _ = .inr s3 ∧ _)
  have s3' := s0.f G3
  have i3 : x3.1 41 0 = nI nn := by rw [F3.1 _ _ (by omega)]; exact i410
  obtain ⟨v4, x4, e4, F4, o4⟩ := x_bn (X := X) (B := B) (w0 := w0) (x := x3) hkd s3'.2.2.2.2.1 i3 ⟨n5, n6⟩ a3
  have st4 : ∀ z, (if v4 = 0 then some (0, rg_p lX B w0 x4) else fX8_readScan_42 X FU (B + 40) 0 (rg_p lX B w0 x4)) = z → fX8_readScan X (rg_p lX B w0 x) (B + 40) = z := by
    intro z hz
    exact st3 _ (ei_n (by rw [a2]; decide) (ob_v (rg_O rfl) (ob_v e4 hz)))
  have G4 : FXk P x x4 := G3.trans F4.kk
  have S4 : FXsg P x x4 := S3.trans F4.sg
  rcases o4 with ⟨f, b1, b2, b3⟩ | ⟨fi, la, bf, bb, p4, b1, b2, b3, b4, b5, b6, b7⟩
  · rw [b1]
    exact ⟨0, x4, st4 _ (ei_t b2 rfl), S4, (fr G4).1, (fr G4).2, Or.inl ⟨f, rfl, rfl, b3⟩⟩
  obtain ⟨u1, u2, u3, u4, u5, u6, u7, u8, u9⟩ := sgBn_ok hkd b1
  rw [b1, sgB_B]
  show ∃ v x', _ ∧ _ ∧ _ ∧ _ ∧ ((∃ f, sgB (sgB (sgFt (s.1 3) fi la bf s.2.2.2.1 mb (p4 - 1) nn 0) _) _ = .inl f ∧ _) ∨ ∃ s3, sgB (sgB (sgFt (s.1 3) fi la bf s.2.2.2.1 mb (p4 - 1) nn 0) _) _ = .inr s3 ∧ _)
  have s4' := s0.f G4
  have i4 : x4.1 41 0 = nI nn := by rw [F4.1 _ _ (by omega) (by omega)]; exact i3
  have m4 : mmX x4 nn mb := by
    unfold mmX
    rw [F4.2]
    exact a4
  have l4 : laX x4 s.2.2.2.1 := by
    unfold laX
    rw [F4.2, F3.2.2.1 53 (by omega), ← hx2, wI_2, F1.2]
    exact hla
  have t4 : stX x4 P s.2.2.2.1 s.2.2.2.2.2.2 := by
    unfold stX
    rw [F4.2, F3.2.2.1 (P + 7) (by omega), ← hx2, wI_2, F1.2]
    exact hst
  have st5 : ∀ z, fX8_readScan_42 X FU (B + 40) (nI 0) (rg_p lX B w0 x4) = z → fX8_readScan X (rg_p lX B w0 x) (B + 40) = z := by
    intro z hz
    exact st4 _ (ei_n (by rw [b2]; decide) hz)
  rcases x_ft (X := X) (B := B) (w0 := w0) (x := x4) (c := c) (p := p4) (kd := s.1 3) (mb := mb) (lt := s.2.2.2.1) hkd n6 (by omega) b3 s4'.2.2.2.2.1 i4 b4 b5 b6 u1 u2 (by omega) m4 (fun i hi => ⟨by have := (mok.1 i hi).1; omega, by have := (mok.1 i hi).2.2.2; omega⟩) l4 nn 0 FU (by omega) (by unfold FU; omega) with ⟨f, x5, c1, c2, c3, c4⟩ | ⟨c1, c2⟩
  · rw [c1]
    exact ⟨0, x5, st5 _ c4, S4.trans c2.sg, (fr (G4.trans c2.kk)).1, (fr (G4.trans c2.kk)).2, Or.inl ⟨f, rfl, rfl, c3⟩⟩
  rw [c1, sgB_B]
  show ∃ v x', _ ∧ _ ∧ _ ∧ _ ∧ ((∃ f, sgB (sgB (sgTb fi la bf s.2.1 s.2.2.1 s.2.2.2.2.1 mb nn 0) _) _ = .inl f ∧ _) ∨ ∃ s3, sgB (sgB (sgTb fi la bf s.2.1 s.2.2.1 s.2.2.2.2.1 mb nn 0) _) _ = .inr s3 ∧ _)
  have st6 : ∀ z, fX8_readScan_71 X FU (B + 40) (nI 0) (rg_p lX B w0 x4) = z → fX8_readScan X (rg_p lX B w0 x) (B + 40) = z := by
    intro z hz
    refine st5 _ (c2.trans ?_)
    unfold fX8_readScan_69
    exact hz
  rcases x_tb (X := X) (B := B) (w0 := w0) (x := x4) (P := P) (n := s.1 6) (nn := nn) (cs := s.2.2.2.2.1) (mb := mb) (q := s.2.1) (T := s.2.2.1) (fi := fi) (la := la) (bf := bf) n6 k6 (by omega) u2 (by omega) i4 b4 b5 b6 m4 mok s4'.2.2.2.2.2.2.2.2.2.2 kc s4'.2.2.2.2.2.2.2.2.1 kq s4'.2.2.2.2.2.2.2.2.2.1 nn 0 FU (by omega) (by unfold FU; omega) with ⟨f, x5, d1, d2, d3, d4⟩ | ⟨d1, d2⟩
  · rw [d1]
    exact ⟨0, x5, st6 _ d4, S4.trans d2.sg, (fr (G4.trans d2.kk)).1, (fr (G4.trans d2.kk)).2, Or.inl ⟨f, rfl, rfl, d3⟩⟩
  rw [d1, sgB_B]
  obtain ⟨v7, x7, e7, F7, o7⟩ := x_ends1 (X := X) (B := B) (w0 := w0) b3
  unfold sgE
  rcases o7.symm with ⟨g1, g2, g3⟩ | ⟨g1, g2, g3⟩
  · rw [if_neg g1]
    refine ⟨0, x7, st6 _ (d2.trans ?_), S4.trans F7.sg, (fr (G4.trans F7.kk)).1, (fr (G4.trans F7.kk)).2, Or.inl ⟨_, rfl, rfl, g3⟩⟩
    unfold fX8_readScan_98
    exact ob_v (rg_O rfl) (ob_v e7 (ei_t g2 rfl))
  rw [if_pos g1]
  subst g3
  generalize hs2 : ((fun k => if k = 0 then p4 else if k = 7 then (if s.1 9 ≠ 0 ∧ s.1 8 = 0 then 1 else 0) else if k = 8 then s.1 8 + 1 else if k = 10 then nn else if k = 11 then fi else if k = 12 then la else if k = 13 then bf else if k = 14 then bb else if k = 15 then p4 else s.1 k, s.2.1, s.2.2.1, (sgNo s fi la bb mb nn).1, s.2.2.2.2.1, mb, (sgNo s fi la bb mb nn).2) : sgS) = s2
  have sv : ∀ k, s2.1 k = if k = 0 then p4 else if k = 7 then (if s.1 9 ≠ 0 ∧ s.1 8 = 0 then 1 else 0) else if k = 8 then s.1 8 + 1 else if k = 10 then nn else if k = 11 then fi else if k = 12 then la else if k = 13 then bf else if k = 14 then bb else if k = 15 then p4 else s.1 k := by
    intro k
    rw [← hs2]
  show ∃ v x', _ ∧ _ ∧ _ ∧ _ ∧ ((∃ f, sgB (sgDt c.1 c.2.1 (s.1 1) (c.2.1 + 1) (s2.1 0) 0) (fun e => (.inr (sgEd s2 e) : sgF ⊕ sgS)) = .inl f ∧ _) ∨ ∃ s3, sgB (sgDt c.1 c.2.1 (s.1 1) (c.2.1 + 1) (s2.1 0) 0) (fun e => (.inr (sgEd s2 e) : sgF ⊕ sgS)) = .inr s3 ∧ _)
  rw [show s2.1 0 = p4 from sv 0]
  -- lines are due
  generalize hx8 : rg_wI x7 40 13 (if s.1 9 ≠ 0 ∧ s.1 8 = 0 then 1 else 0) = x8
  have G8 : FXk P x x8 := by
    rw [← hx8]
    exact G4.trans (FXk.wI (Or.inr ⟨rfl, rfl⟩))
  have S8 : FXsg P x x8 := by
    rw [← hx8]
    exact S4.trans (FXsg.wI (by omega))
  have i8 : ∀ k, x8.1 41 k = x7.1 41 k := fun k => by rw [← hx8, wI_n _ _ (by omega)]
  have st8 : ∀ z, fX8_readScan_132 X FU (B + 40) (nI 0) (rg_p lX B w0 x8) = z → fX8_readScan X (rg_p lX B w0 x) (B + 40) = z := by
    intro z hz
    refine st6 _ (d2.trans ?_)
    have e127 : ∀ v : Int32, v = (if s.1 9 ≠ 0 ∧ s.1 8 = 0 then 1 else 0) → fX8_readScan_127 X (B + 40) v (B + 40) (rg_p lX B w0 x7) = z := by
      intro v ev
      unfold fX8_readScan_127
      refine ob_v (rg_pZ rfl rfl _ (by rw [ev]; split <;> decide)) ?_
      rw [ev, hx8]
      exact hz
    unfold fX8_readScan_98
    refine ob_v (rg_O rfl) (ob_v e7 (ei_n (by show ¬ v7 = 0; rw [g2]; decide) (ob_v (rg_I rfl rfl) ?_)))
    dsimp only
    rw [s4'.2.2.2.2.2.1]
    by_cases w : s.1 9 = 0
    · rw [if_pos w]
      refine ei_t rfl ?_
      unfold fX8_readScan_126
      exact e127 0 (by rw [if_neg (fun e => e.1 w)])
    · rw [if_neg w]
      have fs := x_fst (X := X) (B := B) (w0 := w0) (x := x7) (P := P) (n := s.1 6) (lt := s.2.2.2.1) hP s4'.2.1 s4'.2.2.2.2.2.2.1 k6 l4 (s.1 6) 0 FU (by omega) (by unfold FU; omega) (fun k hk => absurd hk (Nat.not_lt_zero _))
      refine ei_n (by decide) (ob_v (rg_O rfl) (ob_v (v := (if (∀ k, k < s.1 6 → s.2.2.2.1 (64 * k) = 0) then 1 else 0, rg_p lX B w0 x7)) (by unfold fX8_isFirstScan; exact fs) ?_))
      dsimp only
      by_cases z8 : s.1 8 = 0
      · rw [if_pos (k8.mp z8)]
        exact ei_n (by decide) (e127 1 (by rw [if_pos ⟨w, z8⟩]))
      · rw [if_neg (fun e => z8 (k8.mpr e))]
        refine ei_t rfl ?_
        unfold fX8_readScan_126
        exact e127 0 (by rw [if_neg (fun e => z8 e.2)])
  have q8 : x8.2 = x7.2 := by rw [← hx8]; rfl
  obtain ⟨x9, e9, F9, l9, t9⟩ := x_notes (X := X) (B := B) (w0 := w0) (P := P) (n := s.1 6) (nn := nn) (mb := mb) (fi := fi) (la := la) (bb := bb) (s := s) hP k6 n6 u1 u2 u3 mok kc nn 0 FU x8 (by omega) (by unfold FU; omega) (by rw [q8]; exact s4'.2.1) (by rw [i8]; exact i4) (by rw [i8]; exact b4) (by rw [i8]; exact b5) (by rw [i8]; exact b7) (by unfold mmX; rw [q8]; exact m4) (by unfold csX; rw [q8]; exact s4'.2.2.2.2.2.2.2.2.2.2) (by unfold qX; rw [q8]; exact s4'.2.2.2.2.2.2.2.2.1) (by unfold laX; rw [q8]; exact l4) (by unfold stX; rw [q8]; exact t4)
  have k9 : kX x9 c p4 := by
    refine kX.n hP ?_ F9
    rw [← hx8]
    exact b3.wi (by omega)
  have G9 : FXk P x x9 := G8.trans F9.kk
  have S9 : FXsg P x x9 := S8.trans F9.sg
  generalize hx10 : rg_wI x9 41 9 (nI p4) = x10
  have k10 : kX x10 c p4 := by
    rw [← hx10]
    exact k9.wi (by omega)
  have G10 : FXk P x x10 := by
    rw [← hx10]
    exact G9.trans (FXk.wI (Or.inl rfl))
  have S10 : FXsg P x x10 := by
    rw [← hx10]
    exact S9.trans (FXsg.wI (by omega))
  have s10 := s0.f G10
  obtain ⟨v11, x11, e11, F11, y11, o11⟩ := x_dt (X := X) (B := B) (w0 := w0) (c := c) (iv := s.1 1) k1 (c.2.1 + 1) p4 0 FU x10 (by omega) (by unfold FU; omega) s10.2.2.1 k10
  have st11 : ∀ z, zR v11 (rg_p lX B w0 x11) = z → fX8_readScan X (rg_p lX B w0 x) (B + 40) = z := by
    intro z hz
    refine st8 _ (e9.trans ?_)
    unfold fX8_readScan_162 fX8_findEndOfData
    refine ob_v (rg_O rfl) (ob_v (v := (v11, rg_p lX B w0 x11)) (ob_v (rg_C rfl rfl) (ob_v (rg_I rfl rfl) ?_)) hz)
    rw [k9.1]
    refine ob_v (rg_pI rfl rfl _) ?_
    rw [hx10]
    exact e11
  have G11 : FXk P x x11 := G10.trans F11.kk
  have S11 : FXsg P x x11 := S10.trans F11.sg
  rcases o11 with ⟨f, w1, w2, w3⟩ | ⟨e, w1, w2, w3, w4⟩
  · rw [w1]
    rw [w2] at st11
    exact ⟨0, x11, st11 _ rfl, S11, (fr G11).1, (fr G11).2, Or.inl ⟨f, rfl, rfl, w3⟩⟩
  rw [w1]
  rw [w2] at st11
  have z0 : ∀ k, k ≠ 0 → k ≠ 16 → (sgEd s2 e).1 k = s2.1 k := by
    intro k a b
    exact (uG_n _ _ b).trans (uG_n _ _ a)
  have i11 : ∀ k, k ≠ 9 → k ≠ 10 → x11.1 41 k = x7.1 41 k := by
    intro k a b
    rw [F11.1 41 k (by omega) (by omega), ← hx10, wI_n _ _ (by omega), F9.1, i8]
  refine ⟨1, x11, st11 _ rfl, S11, (fr G11).1, (fr G11).2, Or.inr ⟨_, rfl, rfl, ?_, ⟨(s0.f G11).n ?_ ?_ ?_ ?_ ?_ ?_ (by rw [← hs2]; rfl) (by rw [← hs2]; rfl) (by rw [← hs2]; rfl), ?_, ?_, ?_⟩, ?_, ?_, ?_, ?_, ?_, ?_, ?_, ?_⟩⟩
  · rw [show (sgEd s2 e).1 0 = e from rfl]
    exact w4
  · rw [z0 1 (by decide) (by decide), sv]; rfl
  · rw [z0 2 (by decide) (by decide), sv]; rfl
  · rw [z0 3 (by decide) (by decide), sv]; rfl
  · rw [z0 4 (by decide) (by decide), sv]; rfl
  · rw [z0 6 (by decide) (by decide), sv]; rfl
  · rw [z0 9 (by decide) (by decide), sv]; rfl
  · rw [F11.1 _ _ (by omega) (by omega), ← hx10, wI_n _ _ (by omega), F9.1, ← hx8, wI_s, z0 7 (by decide) (by decide), sv]
    show _ = if (if s.1 9 ≠ 0 ∧ s.1 8 = 0 then 1 else 0) = 0 then 0 else 1
    by_cases w : s.1 9 ≠ 0 ∧ s.1 8 = 0
    · rw [if_pos w, if_pos w]; rfl
    · rw [if_neg w, if_neg w]; rfl
  · unfold laX
    rw [F11.2, ← hx10, wI_2]
    show ∀ i, i < 256 → x9.2.2.1 53 i = ltI (s2.2.2.2.1 i) ∧ s2.2.2.2.1 i ≤ 20
    rw [← hs2]
    exact l9
  · unfold stX
    rw [F11.2, ← hx10, wI_2]
    show ∀ j, j < 256 → s2.2.2.2.1 (64 * (j / 64)) ≠ 0 → x9.2.2.1 (P + 7) j = nI (s2.2.2.2.2.2.2 j)
    rw [← hs2]
    exact t9
  · rw [i11 0 (by decide) (by decide), z0 10 (by decide) (by decide), sv]; exact i4
  · rw [i11 1 (by decide) (by decide), z0 11 (by decide) (by decide), sv]; exact b4
  · rw [i11 2 (by decide) (by decide), z0 12 (by decide) (by decide), sv]; exact b5
  · rw [i11 3 (by decide) (by decide), z0 13 (by decide) (by decide), sv]; exact b6
  · rw [i11 4 (by decide) (by decide), z0 14 (by decide) (by decide), sv]; exact b7
  · rw [y11, ← hx10, wI_s, z0 15 (by decide) (by decide), sv]; rfl
  · rw [show (sgEd s2 e).1 16 = e from rfl]
    exact w3
  · rw [z0 10 (by decide) (by decide), sv]
    show mmX x11 nn s2.2.2.2.2.2.1
    rw [← hs2]
    unfold mmX
    rw [F11.2, ← hx10, wI_2, F9.2.2.1 42 (by omega) (by omega), F9.2.2.1 43 (by omega) (by omega), F9.2.2.1 44 (by omega) (by omega), F9.2.2.1 45 (by omega) (by omega), q8]
    exact m4
end
