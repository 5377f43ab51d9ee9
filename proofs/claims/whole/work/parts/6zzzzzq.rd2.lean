/-! the second pass over a file, by the reference -/
theorem rg_R3 {ly : Nat → Option rg_K} {B : Nat} {w0 : px_W} {s : rg_S} {o ci k z n : Nat} {ks : List (Nat × Nat)} (h : ly o = some (.inl (ci, ks))) (hk : ks[k]? = some (3, z)) (hs : s.2.1 o k = n + 1) : gR (rg_p ly B w0 s) (B + o) ci k = some (B + n) := by
  have e := rg_get (B := B) (s := s) (o := o) hk
  simp only [rg_v, hs] at e
  exact gR_c (rg_ob h) k e
section
variable {D : Nat → Nat} {L : Nat}
theorem sgNs_k (hD : ∀ i, D i < 256) (hL : L ≤ 16384) : ∀ (r : Nat) (s : sgS) (o : Bool × sgS), sgOk s → sgO2 s → sgNs D L r s = .inr o → sgKp s o.2 ∧ sgOk o.2 ∧ sgO2 o.2 ∧ o.2.1 8 = s.1 8 + (if o.1 = true then 1 else 0) := by
  intro r
  induction r with
  | zero => intro s o _ _ h; cases h
  | succ r ih =>
    intro s o ok o2 h
    rw [sgNs_e] at h
    obtain ⟨a, h1, h2⟩ := sgB_i h
    obtain ⟨a', h1a, h1b⟩ := sgB_i h1
    have h1c : sgCs a'.1 s ∧ a' = a := by
      split at h1b
      · exact ⟨by assumption, Sum.inr.inj h1b⟩
      · cases h1b
    obtain ⟨hcs, rfl⟩ := h1c
    have mp := sgMk_p (u := a'.1) (q := a'.2) h1a
    by_cases c7 : a'.1 = 217
    · rw [if_pos c7] at h2
      rw [← Sum.inr.inj h2]
      obtain ⟨o1', oq, o3, o4, o5, o6, o7, o8, o9, o10⟩ := o2
      exact ⟨fun _ => ⟨rfl, rfl, rfl, rfl, rfl, fun _ => rfl⟩, ok, ⟨o1', oq, o3, o4, o5, o6, ⟨by show 4 * s.1 2 + 2 ≤ a'.2; omega, by show 10 * s.1 8 + 2 ≤ a'.2; omega⟩, o8, o9, o10⟩, rfl⟩
    · rw [if_neg c7] at h2
      obtain ⟨s2, h3, h4⟩ := sgB_i h2
      obtain ⟨k1, k2, k3, _⟩ := sgSg_ok (fun i _ => hD i) hL ok o2 hcs mp.1 h3
      have k8 := sgSg_8 h3
      have k8 : s2.1 8 = s.1 8 + (if a'.1 = 218 then 1 else 0) := k8
      by_cases c8 : a'.1 = 218
      · rw [if_pos c8] at h4 k8
        rw [← Sum.inr.inj h4]
        exact ⟨k3, k1, k2, k8⟩
      · rw [if_neg c8] at h4 k8
        obtain ⟨j1, j2, j3, j4⟩ := ih _ _ k1 k2 h4
        exact ⟨k3.trans j1, j2, j3, by rw [j4, k8]; rfl⟩
theorem sgPs_k (hD : ∀ i, D i < 256) (hL : L ≤ 16384) : ∀ (r : Nat) (s sf : sgS), sgOk s → sgO2 s → sgPs D L r s = .inr sf → sgKp s sf ∧ s.1 8 ≤ sf.1 8 := by
  intro r
  induction r with
  | zero => intro s sf _ _ h; cases h
  | succ r ih =>
    intro s sf ok o2 h
    unfold sgPs at h
    obtain ⟨o, h1, h2⟩ := sgB_i h
    obtain ⟨j1, j2, j3, j4⟩ := sgNs_k hD hL _ _ _ ok o2 h1
    by_cases z : o.1 = true
    · rw [if_pos z] at h2
      obtain ⟨i1, i2⟩ := ih _ _ j2 j3 h2
      exact ⟨j1.trans i1, by omega⟩
    · rw [if_neg z] at h2
      rw [← Sum.inr.inj h2]
      exact ⟨j1, by omega⟩
end
def FYo (y y' : rg_S) : Prop := (∀ p k, p ≠ 4 → ¬ (p = 0 ∧ k = 8) → ¬ (p = 24 ∧ (k = 16 ∨ 22 ≤ k ∧ k ≤ 27 ∨ k = 29 ∨ k = 38 ∨ 43 ≤ k ∧ k ≤ 46)) → y'.1 p k = y.1 p k) ∧ y'.2.1 = y.2.1 ∧ (∀ a, ¬ (6 ≤ a ∧ a ≤ 23) → ¬ (32 ≤ a ∧ a ≤ 41) → a ≠ 44 → a ≠ 56 → a ≠ 57 → y'.2.2.1 a = y.2.2.1 a) ∧ y'.2.2.2 = y.2.2.2
theorem FYo.trans {y y1 y2 : rg_S} (h : FYo y y1) (h2 : FYo y1 y2) : FYo y y2 := ⟨fun p k a c d => (h2.1 p k a c d).trans (h.1 p k a c d), h2.2.1.trans h.2.1, fun a e0 e1 e2 e3 e4 => (h2.2.2.1 a e0 e1 e2 e3 e4).trans (h.2.2.1 a e0 e1 e2 e3 e4), h2.2.2.2.trans h.2.2.2⟩
theorem FYg.o {y y' : rg_S} (h : FYg y y') : FYo y y' := ⟨fun p k a _ _ => h.1 p k a, h.2.2.1, fun a e _ _ _ _ => h.2.2.2.1 a e, h.2.2.2.2⟩
theorem FYzz.o {y y' : rg_S} (h : FYzz y y') : FYo y y' := ⟨fun p k _ a c => h.1 p k a c, h.2.1, fun a _ e1 e2 e3 e4 => h.2.2.1 a e1 e2 e3 e4, h.2.2.2⟩
theorem FYo.w3 {y : rg_S} {v : Int32} : FYo y (rg_wI y 4 3 v) := ⟨fun p k a _ _ => wI_n _ _ (by omega), Eq.refl _, fun _ _ _ _ _ _ => Eq.refl _, Eq.refl _⟩
def i2Y (y : rg_S) (D : Nat → Nat) (L : Nat) (g : gG) (s : sgS) (Q : Nat → Int32) : Prop := y.2.1 4 2 = 1 ∧ inBy y D L ∧ gYf y g ∧ (∀ i, i < 12288 → y.2.2.1 32 i = Q i) ∧ (∀ i, i < 12288 → cfOk (i % 64) (Q i)) ∧ zNo g s.2.2.2.1 Q ∧ stYn y g.2.2.1 s.2.2.2.1 s.2.2.2.2.2.2
section
variable {X : px_X} {b B : Nat} {w0 w1 : px_W} {y y' : rg_S} {L : Nat} {D : Nat → Nat} {g : gG} {s sf : sgS} {Q : Nat → Int32}
theorem gYf.q (h : gYf y g) (F : FYg y y') : gYf y' g := by
  unfold gYf
  rw [F.1 24 2 (by omega), F.1 24 10 (by omega), F.1 24 11 (by omega), F.2.2.2.1 25 (by omega), F.2.2.2.1 26 (by omega), F.2.2.2.1 27 (by omega), F.2.2.2.1 29 (by omega), F.2.2.2.1 30 (by omega), F.2.2.2.1 31 (by omega)]
  exact h
theorem gYf.z (h : gYf y g) (F : FYzz y y') : gYf y' g := by
  unfold gYf
  rw [F.1 24 2 (by omega) (by omega), F.1 24 10 (by omega) (by omega), F.1 24 11 (by omega) (by omega), F.2.2.1 25 (by omega) (by omega) (by omega) (by omega), F.2.2.1 26 (by omega) (by omega) (by omega) (by omega), F.2.2.1 27 (by omega) (by omega) (by omega) (by omega), F.2.2.1 29 (by omega) (by omega) (by omega) (by omega), F.2.2.1 30 (by omega) (by omega) (by omega) (by omega), F.2.2.1 31 (by omega) (by omega) (by omega) (by omega)]
  exact h
theorem stYn.q {n : Nat} {lt st : Nat → Nat} (h : stYn y n lt st) (F : FYg y y') : stYn y' n lt st := by
  unfold stYn
  rw [F.2.2.2.1 56 (by omega), F.2.2.2.1 57 (by omega)]
  exact h
theorem fsY.z (h : fsY y s) (F : FYzz y y') : fsY y' s := h.f (fun k _ => F.1 4 k (by omega) (by omega)) (fun a _ => F.2.2.1 a (by omega) (by omega) (by omega) (by omega))
theorem fpY.z {p : Nat} (h : fpY y D L p) (F : FYzz y y') : fpY y' D L p := by
  unfold fpY
  rw [F.1 4 6 (by omega) (by omega), F.1 4 4 (by omega) (by omega), F.1 4 7 (by omega) (by omega), F.1 4 1 (by omega) (by omega), F.1 4 5 (by omega) (by omega), F.2.2.1 5 (by omega) (by omega) (by omega) (by omega)]
  exact h
theorem m_rd2 {H : Nat} (hD : ∀ i, D i < 256) (hg : gOk (gOf sf H)) (hb : gBs (gOf sf H) (gOf sf H).2.2.1 ≤ 192) : ∀ (r M r' : Nat) (y : rg_S) (s : sgS) (Q : Nat → Int32), s.1 8 + r = sf.1 8 → L + 10 < s.1 0 + M → L < s.1 0 + r' → sgPs D L r' s = .inr sf → fpY y D L (s.1 0) → fsY y s → sgOk s → sgO2 s → y.1 4 3 = 0 → i2Y y D L (gOf sf H) s Q → ∃ y', FYo y y' ∧ fX14_readFile_56 X M (b + 4) (ln7 s) 1 (rg_p lM b w0 y) = some (rg_p lM b w0 y') ∧ y'.1 4 4 = 0 ∧ ((∃ f k, sgRd D L (gOf sf H) r s Q = .inl (f, k) ∧ 0 < f ∧ f < 200 ∧ k < 20000 ∧ y'.1 4 3 = nI f ∧ y'.1 0 8 = nI k) ∨ ∃ Q', sgRd D L (gOf sf H) r s Q = .inr Q' ∧ y'.1 4 3 = 0 ∧ fsY y' sf ∧ i2Y y' D L (gOf sf H) sf Q') := by
  intro r
  induction r with
  | zero =>
    intro M r' y s Q h8 hM hr' hps hp hs ok o2 h3 hi
    have hL := hp.2.2.2.2.1
    have oc := o2.2.2.2.2.2.2.1
    cases r' with
    | zero => cases hps
    | succ r' =>
    unfold sgPs at hps
    obtain ⟨o, e1, e2⟩ := sgB_i hps
    obtain ⟨j1, j2, j3, j4⟩ := sgNs_k hD hL.1 _ _ _ ok o2 e1
    have of : o = (false, sf) := by
      by_cases z : o.1 = true
      · rw [if_pos z] at e2 j4
        have := (sgPs_k hD hL.1 _ _ _ j2 j3 e2).2
        omega
      · rw [if_neg z] at e2
        refine Prod.ext ?_ (Sum.inr.inj e2)
        cases h : o.1
        · rfl
        · exact absurd h z
    rw [of] at e1
    have na := (sgNs_a hD hL.1 _ _ _ ok o2 e1).2 rfl
    obtain ⟨y1, F1, o1⟩ := m_nsS (X := X) (b := b) (w0 := w0) (D := D) (L := L) (L + 1) M y s (by omega) hM hp hs ok o2 h3
    rcases o1 with ⟨f, r1, _⟩ | ⟨s2, r1, r2, r3, r4⟩ | ⟨s2, r1, _⟩ | ⟨s2, M', r1, _⟩
    · rw [e1] at r1; cases r1
    · rw [e1] at r1
      have := congrArg Prod.snd (Sum.inr.inj r1)
      have : sf = s2 := this
      subst this
      refine ⟨y1, F1.o, r4, r2.2.1, Or.inr ⟨Q, rfl, by rw [F1.2.1.2]; exact h3, r3, ?_⟩⟩
      obtain ⟨i1, i2, i3, i4, i5, i6, i7⟩ := hi
      refine ⟨by rw [F1.2.2.1]; exact i1, ?_, i3.q F1, ?_, i5, ?_, ?_⟩
      · unfold inBy
        rw [F1.2.2.2.1 5 (by omega)]
        exact i2
      · rw [F1.2.2.2.1 32 (by omega)]
        exact i4
      · rw [na.1]
        exact i6
      · rw [na.1, na.2]
        exact i7.q F1
    · rw [e1] at r1
      have := congrArg Prod.fst (Sum.inr.inj r1)
      cases this
    · rw [e1] at r1
      have := congrArg Prod.fst (Sum.inr.inj r1)
      cases this
  | succ r ih =>
    intro M r' y s Q h8 hM hr' hps hp hs ok o2 h3 hi
    have hL := hp.2.2.2.2.1
    have oc := o2.2.2.2.2.2.2.1
    cases r' with
    | zero => cases hps
    | succ r' =>
    unfold sgPs at hps
    obtain ⟨o, e1, e2⟩ := sgB_i hps
    obtain ⟨j1, j2, j3, j4⟩ := sgNs_k hD hL.1 _ _ _ ok o2 e1
    have ot : o.1 = true := by
      by_cases z : o.1 = true
      · exact z
      · rw [if_neg z] at e2 j4
        rw [← Sum.inr.inj e2] at h8
        omega
    rw [if_pos ot] at e2 j4
    obtain ⟨ob, s2⟩ := o
    obtain rfl : ob = true := ot
    have A : sgA D L s.2.2.2.1 s2 := (sgNs_a hD hL.1 _ _ _ ok o2 e1).1 rfl
    have N8 := sgNs_n8 hD hL.1 _ _ _ ok o2 e1
    have kn : s2.1 3 ≠ 0 := A.2.2.2.2.2.2.2.1
    have j4 : s2.1 8 = s.1 8 + 1 := j4
    have j2 : sgOk s2 := j2
    have j3 : sgO2 s2 := j3
    have e2 : sgPs D L r' s2 = .inr sf := e2
    have kp2 : sgKp s2 sf := (sgPs_k hD hL.1 _ _ _ j2 j3 e2).1
    have ge : gOf sf H = gOf s2 H := gOf_k kp2 kn
    have g6 : (gOf sf H).2.2.1 = s2.1 6 := by rw [ge]; rfl
    obtain ⟨y1, F1, o1⟩ := m_nsS (X := X) (b := b) (w0 := w0) (D := D) (L := L) (L + 1) M y s (by omega) hM hp hs ok o2 h3
    have same : ∀ {s3 : sgS}, sgNs D L (L + 1) s = .inr (true, s3) → s3 = s2 := by
      intro s3 h
      rw [e1] at h
      exact (congrArg Prod.snd (Sum.inr.inj h)).symm
    rcases o1 with ⟨f, r1, _⟩ | ⟨s3, r1, _⟩ | ⟨s3, r1, r2, r3, _⟩ | ⟨s3, M', r1, _, r3, r4, r5, r6, r7, ⟨r8, r8b, r8c⟩, r9, r10, r11⟩
    · rw [e1] at r1; cases r1
    · rw [e1] at r1
      have := congrArg Prod.fst (Sum.inr.inj r1)
      cases this
    · obtain rfl := same r1
      obtain ⟨_, _, _, _, ⟨_, g2, g3, g4, _⟩, _⟩ := A
      have := sgPs_bad (L := L) (r := r') r3 (by omega) (by rw [g3]; exact g4) (by omega)
      rw [this] at e2
      cases e2
    obtain rfl := same r1
    have l2 := r6.2.2.2.2.1
    have c2 := j3.2.2.2.2.2.2.1
    obtain ⟨i1, i2, i3, i4, i5, i6, i7⟩ := hi
    rw [show s.1 8 = s3.1 8 - 1 by omega] at r8 r8b r8c r11
    have i1' : y1.2.1 4 2 = 0 + 1 := by rw [F1.2.2.1]; exact i1
    have hin1 : inBy y1 D L := by
      unfold inBy
      rw [F1.2.2.2.1 5 (by omega)]
      exact i2
    obtain ⟨v, y2, e3, F2, p2, o3⟩ := m_scnd (X := X) (b := b) (w0 := w0) (y := y1) (D := D) (L := L) (g := gOf sf H) (s2 := s3) (lt0 := s.2.2.2.1) (st0 := s.2.2.2.2.2.2) (Q := Q) hg hb (by show gOf sf H = gOf s3 H; exact ge) A N8 j2 j3 hL.1 (by omega) (fun i hi => (r6.2.2.2.2.2 i hi).1) hin1 r7 r8 r8b r8c (i3.q F1) (by rw [F1.2.2.2.1 32 (by omega)]; exact i4) i5 i6 (by rw [← g6]; exact i7.q F1)
    generalize hy3 : rg_wI y2 4 3 v = y3
    have kt : kTl X b (nI (30 * (s3.1 8 - 1))) (rg_p lM b w0 y1) = some (rg_p lM b w0 y3) := by
      unfold kTl
      refine ob_v (rg_Q1 rfl rfl i1') (ei_n (fun z => by cases z) (ob_v (rg_I rfl rfl) (ei_t r6.2.1 (ob_v (rg_R3 rfl rfl i1') (ob_v (rg_O rfl) (ob_v e3 (ob_v (rg_pI rfl rfl _) ?_)))))))
      rw [hy3]
    have F3 : FYo y y3 := by
      rw [← hy3]
      exact F1.o.trans (F2.o.trans FYo.w3)
    have q4 : y3.1 4 4 = 0 := by
      rw [← hy3, wI_n _ _ (by omega), F2.1 _ _ (by omega) (by omega)]
      exact r6.2.1
    have q3 : y3.1 4 3 = v := by rw [← hy3, wI_s]
    have q8 : y3.1 0 8 = nI (s.1 8) := by
      rw [← hy3, wI_n _ _ (by omega), p2, show s3.1 8 - 1 = s.1 8 by omega]
    obtain ⟨M', rfl⟩ : ∃ M0, M' = M0 + 1 := ⟨M' - 1, by omega⟩
    have ext : ∀ (f : Nat), 0 < f → f < 200 → v = nI f → fX14_readFile_56 X M (b + 4) (ln7 s) 1 (rg_p lM b w0 y) = some (rg_p lM b w0 y3) := by
      intro f f0 f2 hv
      obtain ⟨u, hu⟩ := sTl_e (b := b) (w0 := w0) (y := y3)
      rw [r11]
      refine ob_v (ob_v kt hu) ?_
      rw [fX14_readFile_56.eq_2]
      refine ei_n (by decide) (ob_v (rg_I rfl rfl) (ei_t q4 (ob_v (rg_I rfl rfl) (ei_n ?_ rfl))))
      rw [q3, hv]
      exact nI_ne0 (by omega) (by omega)
    have unf : sgRd D L (gOf sf H) (r + 1) s Q = if 9 < s3.1 14 then .inl (10, s.1 8) else (match sgR D (gOf sf H) s3 Q with
      | .inl f => .inl (10 + f, s.1 8)
      | .inr a => sgRd D L (gOf sf H) r s3 a.2.2.2) := by
      rw [sgRd, e1]
      rfl
    rw [unf]
    rcases o3 with ⟨b9, hv⟩ | ⟨b9, f, t1, t2, t3, t4⟩ | ⟨b9, a, t1, t2, t3, t4, t5, t6⟩
    · rw [if_pos b9]
      exact ⟨y3, F3, ext 10 (by decide) (by decide) hv, q4, Or.inl ⟨10, s.1 8, rfl, by decide, by decide, by omega, by rw [q3, hv]; rfl, q8⟩⟩
    · rw [if_neg (by omega), t1]
      exact ⟨y3, F3, ext (10 + f) (by omega) (by omega) t2, q4, Or.inl ⟨10 + f, s.1 8, rfl, by omega, by omega, by omega, by rw [q3, t2], q8⟩⟩
    · rw [if_neg (by omega), t1]
      have fs3 : fsY y3 s3 := by
        rw [← hy3]
        exact (r7.z F2).f (fun k hk => wI_n _ _ (by omega)) (fun a _ => rfl)
      have fp3 : fpY y3 D L (s3.1 0) := by
        rw [← hy3]
        obtain ⟨z1, z2, z3, z4, z5, z6⟩ := r6.z F2
        exact ⟨by rw [wI_n _ _ (by omega)]; exact z1, by rw [wI_n _ _ (by omega)]; exact z2, by rw [wI_n _ _ (by omega)]; exact z3, by rw [wI_n _ _ (by omega)]; exact z4, ⟨z5.1, z5.2.1, by rw [wI_n _ _ (by omega)]; exact z5.2.2⟩, z6⟩
      have q32 : y3.2 = y2.2 := by rw [← hy3]; rfl
      obtain ⟨y4, F4, e4, q4', o4⟩ := ih (M' + 1) r' y3 s3 a.2.2.2 (by omega) r5 (by omega) e2 fp3 fs3 j2 j3 (by rw [q3, t2]) ⟨by rw [q32, F2.2.1]; exact i1', by
        unfold inBy
        rw [q32, F2.2.2.1 5 (by omega) (by omega) (by omega) (by omega)]
        exact hin1, by
        have gg := (i3.q F1).z F2
        unfold gYf
        rw [q32, ← hy3, wI_n _ _ (by omega), wI_n _ _ (by omega), wI_n _ _ (by omega)]
        exact gg, by rw [q32]; exact t3, t4, t5, by
        unfold stYn
        rw [q32, g6]
        exact t6⟩
      refine ⟨y4, F3.trans F4, ?_, q4', o4⟩
      rw [r11]
      exact (ob_v (ob_v kt (sTl_7 fs3 j3 kn r9 (by omega) (by omega))) rfl).trans e4
end
