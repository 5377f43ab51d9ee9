/-! members and band of a scan, by the class -/
def ltI (n : Nat) : Int32 := if n = 0 then -1 else nI (n - 1)
theorem ltI_0 : ltI 0 = -1 := rfl
theorem ltI_s (n : Nat) : ltI (n + 1) = nI n := rfl
theorem nI_nn {n : Nat} (h : n < 1000000) : (-1 : Int32) < nI n := by
  rw [Int32.lt_iff_toInt_lt, show ((-1 : Int32)).toInt = -1 by decide, nI_toInt (by omega)]
  omega
theorem ltI_lt {a b : Nat} (ha : a < 1000000) (hb : b < 1000000) : ltI a < ltI b ↔ a < b := by
  rcases a with _ | a
  · rcases b with _ | b
    · exact ⟨fun h => absurd h (by decide), fun h => absurd h (by omega)⟩
    · exact ⟨fun _ => by omega, fun _ => nI_nn (by omega)⟩
  · rcases b with _ | b
    · refine ⟨fun h => absurd h ?_, fun h => absurd h (by omega)⟩
      show ¬ nI a < -1
      rw [Int32.lt_iff_toInt_lt, show ((-1 : Int32)).toInt = -1 by decide, nI_toInt (by omega)]
      omega
    · rw [ltI_s, ltI_s]
      refine ⟨fun h => ?_, fun h => nI_lt (by omega) (by omega)⟩
      rcases Nat.lt_or_ge a b with z | z
      · omega
      · exact absurd h (nI_nlt z (by omega))
theorem ltI_eq {a b : Nat} (ha : a < 1000000) (hb : b < 1000000) : ltI a = ltI b ↔ a = b := by
  rcases a with _ | a
  · rcases b with _ | b
    · exact ⟨fun _ => rfl, fun _ => rfl⟩
    · exact ⟨fun h => absurd h.symm (ne1 (by omega)), fun h => absurd h (by omega)⟩
  · rcases b with _ | b
    · exact ⟨fun h => absurd h (ne1 (by omega)), fun h => absurd h (by omega)⟩
    · rw [ltI_s, ltI_s, nI_eq (by omega) (by omega)]
      omega
theorem sgX_le {cs : sg4} {v : Nat} : ∀ n, sgX cs v n ≤ n
  | 0 => Nat.le_refl _
  | n + 1 => by
    unfold sgX
    split
    · exact Nat.le_refl _
    · exact Nat.le_succ_of_le (sgX_le n)
theorem sgX_u {cs : sg4} {n v j : Nat} (ok : csOk n cs) (hj : j < n) (e : (cs j).1 = v) : sgX cs v n = j + 1 := by
  have key : ∀ m, m ≤ n → j < m → sgX cs v m = j + 1 := by
    intro m
    induction m with
    | zero => intro _ h; omega
    | succ m ih =>
      intro hm hjm
      unfold sgX
      by_cases z : j = m
      · rw [if_pos (by rw [← z]; exact e), z]
      · rw [if_neg (fun z2 => (ok m (by omega)).2.2.2.2 j (by omega) (e.trans z2.symm))]
        exact ih (by omega) (by omega)
  exact key n (Nat.le_refl _) hj
def FXm (x x' : rg_S) : Prop := (∀ p k, ¬ (p = 40 ∧ 6 ≤ k ∧ k ≤ 8) → x'.1 p k = x.1 p k) ∧ x'.2.1 = x.2.1 ∧ (∀ a, ¬ (42 ≤ a ∧ a ≤ 45) → x'.2.2.1 a = x.2.2.1 a) ∧ x'.2.2.2 = x.2.2.2
theorem FXm.rfl {x : rg_S} : FXm x x := ⟨fun _ _ _ => Eq.refl _, Eq.refl _, fun _ _ => Eq.refl _, Eq.refl _⟩
theorem FXm.trans {x x1 x2 : rg_S} (h : FXm x x1) (h2 : FXm x1 x2) : FXm x x2 := ⟨fun p k a => (h2.1 p k a).trans (h.1 p k a), h2.2.1.trans h.2.1, fun a e => (h2.2.2.1 a e).trans (h.2.2.1 a e), h2.2.2.2.trans h.2.2.2⟩
theorem FXp.m {x x' : rg_S} (h : FXp x x') : FXm x x' := ⟨h.1, by rw [h.2], fun _ _ => by rw [h.2], by rw [h.2]⟩
theorem FXm.wA {a : Nat} {x : rg_S} {f : Nat → Int32} (h : 42 ≤ a ∧ a ≤ 45) : FXm x (rg_wA x a f) := ⟨fun _ _ _ => Eq.refl _, Eq.refl _, fun _ _ => wA_n _ _ (by omega), Eq.refl _⟩
def mmX (x : rg_S) (n : Nat) (mb : sg4) : Prop := ∀ i, i < n → x.2.2.1 42 i = nI (mb i).1 ∧ x.2.2.1 43 i = nI (mb i).2.1 ∧ x.2.2.1 44 i = nI (mb i).2.2.1 ∧ x.2.2.1 45 i = nI (mb i).2.2.2
section
variable {X : px_X} {b B : Nat} {w0 w1 : px_W} {x x' : rg_S} {c : sgC} {p P n : Nat} {cs : sg4}
theorem x_named {v : Nat} (hP : isP P) (hr : x.2.1 40 1 = P) (hn : x.1 P 2 = nI n) (n4 : n ≤ 4) (hv : v < 256) (ok : csOk n cs) (hc : csX x P n cs) : fX8_componentNamed X (rg_p lX B w0 x) (B + 40) (nI v) = some (ltI (sgX cs v n), rg_p lX B w0 x) := by
  have key : ∀ (r j M : Nat), j + r = n → r < M → (∀ k, k < j → (cs k).1 ≠ v) → fX8_componentNamed_2 X M (B + 40) (nI v) (nI j) (rg_p lX B w0 x) = some (ltI (sgX cs v n), rg_p lX B w0 x) := by
    intro r
    induction r with
    | zero =>
      intro j M hj hM hk
      obtain ⟨M, rfl⟩ : ∃ M', M = M' + 1 := ⟨M - 1, by omega⟩
      rw [(sgX_0 n).mpr (fun k h => hk k (by omega)), fX8_componentNamed_2.eq_2]
      refine ob_v (gP hr) (ob_v (rg_I hP.o rfl) ?_)
      rw [hn]
      exact ei_t (nI_le (by omega) (by omega)) rfl
    | succ r ih =>
      intro j M hj hM hk
      obtain ⟨M, rfl⟩ : ∃ M', M = M' + 1 := ⟨M - 1, by omega⟩
      rw [fX8_componentNamed_2.eq_2]
      refine ob_v (gP hr) (ob_v (rg_I hP.o rfl) ?_)
      rw [hn]
      refine ei_n (nI_ge (by omega) (by omega)) (ob_v (rg_C rfl rfl) (ob_v (rg_A rfl (by decide) _ (by omega) (by decide)) ?_))
      have okj := ok j (by omega)
      rw [(hc j (by omega)).1]
      by_cases e : (cs j).1 = v
      · rw [sgX_u ok (show j < n by omega) e, ltI_s]
        exact ei_t (by rw [e]) rfl
      · rw [nI_1]
        refine ei_n (fun z => e ((nI_eq (by omega) (by omega)).mp z)) (ih (j + 1) M (by omega) (by omega) (fun k hk2 => ?_))
        rcases Nat.lt_or_ge k j with z | z
        · exact hk k z
        · rw [show k = j by omega]
          exact e
  unfold fX8_componentNamed
  exact key n 0 FU (by omega) (by unfold FU; omega) (fun k hk => absurd hk (Nat.not_lt_zero _))
theorem x_mb {nn : Nat} (hP : isP P) (n4 : n ≤ 4) (nn4 : nn ≤ 4) (ok : csOk n cs) : ∀ (r i pv sm p M : Nat) (mb : sg4) (x : rg_S), i + r = nn → r < M → pv ≤ n → sm ≤ 10 → x.2.1 40 1 = P → x.1 P 2 = nI n → x.1 41 0 = nI nn → csX x P n cs → kX x c p → mmX x i mb → ∃ v x', fX8_readMembers_6 X M (B + 40) (ltI pv) (nI sm) (nI i) (rg_p lX B w0 x) = some (v, rg_p lX B w0 x') ∧ FXm x x' ∧ ((∃ f, sgMb c cs n r i pv sm p mb = .inl f ∧ v = 0 ∧ ftX x' f) ∨ ∃ p' mb', sgMb c cs n r i pv sm p mb = .inr (p', mb') ∧ v = 1 ∧ kX x' c p' ∧ mmX x' nn mb') := by
  have hP' := hP
  unfold isP at hP'
  intro r
  induction r with
  | zero =>
    intro i pv sm p M mb x hi hM hpv hsm hr hn hnn hc h hmb
    obtain rfl : i = nn := by omega
    obtain ⟨M, rfl⟩ : ∃ M', M = M' + 1 := ⟨M - 1, by omega⟩
    refine ⟨1, x, ?_, FXm.rfl, Or.inr ⟨p, mb, rfl, rfl, h, hmb⟩⟩
    rw [fX8_readMembers_6.eq_2]
    refine ob_v (rg_C rfl rfl) (ob_v (rg_I rfl rfl) ?_)
    rw [hnn]
    exact ei_t (nI_le (Nat.le_refl _) (by omega)) rfl
  | succ r ih =>
    intro i pv sm p M mb x hi hM hpv hsm hr hn hnn hc h hmb
    obtain ⟨M, rfl⟩ : ∃ M', M = M' + 1 := ⟨M - 1, by omega⟩
    obtain ⟨v1, x1, e1, F1, o1⟩ := x_nx (X := X) (B := B) (w0 := w0) h
    unfold sgMb
    rcases o1 with ⟨f, r1, r2, r3⟩ | ⟨u, p1, r1, r2, r3, r4⟩
    · rw [r1]
      refine ⟨0, x1, ?_, F1.m, Or.inl ⟨f, rfl, rfl, r3⟩⟩
      rw [fX8_readMembers_6.eq_2]
      refine ob_v (rg_C rfl rfl) (ob_v (rg_I rfl rfl) ?_)
      rw [hnn]
      exact ei_n (nI_ge (by omega) (by omega)) (ob_v (rg_O rfl) (ob_v e1 (ei_t r2 rfl)))
    have g1 := sgN_p r1
    have nv1 : ¬ v1 = -1 := by rw [r3]; exact ne1 (by omega)
    have r1' : x1.2.1 40 1 = P := by rw [F1.2]; exact hr
    have n1' : x1.1 P 2 = nI n := by rw [F1.1 _ _ (by omega)]; exact hn
    have c1' : csX x1 P n cs := by
      unfold csX
      rw [F1.2]
      exact hc
    have nm := x_named (X := X) (B := B) (w0 := w0) (v := u) hP r1' n1' n4 r2 ok c1'
    have Xle := sgX_le (cs := cs) (v := u) n
    rw [r1]
    show ∃ v x', _ ∧ _ ∧ ((∃ f, (if sgX cs u n ≤ pv then .inl (7, p) else if 10 < sm + (cs (sgX cs u n - 1)).2.1 * (cs (sgX cs u n - 1)).2.2.1 then .inl (6, p) else sgB (sgI c 0 51 p1) fun t => if 3 < t.1 % 16 then .inl (6, p1) else sgMb c cs n r (i + 1) (sgX cs u n) (sm + (cs (sgX cs u n - 1)).2.1 * (cs (sgX cs u n - 1)).2.2.1) t.2 (uG mb i (sgX cs u n - 1, t.1 / 16, t.1 % 16, p))) = .inl f ∧ _) ∨ ∃ p' mb', (if sgX cs u n ≤ pv then .inl (7, p) else if 10 < sm + (cs (sgX cs u n - 1)).2.1 * (cs (sgX cs u n - 1)).2.2.1 then .inl (6, p) else sgB (sgI c 0 51 p1) fun t => if 3 < t.1 % 16 then .inl (6, p1) else sgMb c cs n r (i + 1) (sgX cs u n) (sm + (cs (sgX cs u n - 1)).2.1 * (cs (sgX cs u n - 1)).2.2.1) t.2 (uG mb i (sgX cs u n - 1, t.1 / 16, t.1 % 16, p))) = .inr (p', mb') ∧ _)
    generalize hX : sgX cs u n = XX at *
    have start : ∀ z, (if ltI pv < ltI XX then (gR (rg_p lX B w0 x1) (B + 40) 8 1).bind fun v54 => (gR (rg_p lX B w0 x1) v54 2 6).bind fun v55 => (aN (rg_p lX B w0 x1) 0 v55 (ltI XX)).bind fun v56 => (gR (rg_p lX B w0 x1) (B + 40) 8 1).bind fun v57 => (gR (rg_p lX B w0 x1) v57 2 7).bind fun v58 => (aN (rg_p lX B w0 x1) 0 v58 (ltI XX)).bind fun v59 => if (nI sm + (v56 * v59)) ≤ 10 then (gR (rg_p lX B w0 x1) (B + 40) 8 2).bind fun v61 => (gR (rg_p lX B w0 x1) v61 5 5).bind fun v62 => (sN id (rg_p lX B w0 x1) 0 v62 (nI i) (ltI XX)).bind fun w63 => (gR w63 (B + 40) 8 2).bind fun v64 => (gR w63 v64 5 8).bind fun v65 => (gI w63 (B + 40) 8 8).bind fun v66 => (sN id w63 0 v65 (nI i) (v66 - 1)).bind fun w67 => (gO w67 (B + 40) 8).bind fun o68 => (fX8_byteIn X w67 (B + 40) 0 51).bind fun q69 => if q69.1 = ((-1)) then some (0, q69.2) else (rI q69.1 16).bind fun v71 => if v71 ≤ 3 then (gR q69.2 (B + 40) 8 2).bind fun v73 => (gR q69.2 v73 5 6).bind fun v74 => (dI q69.1 16).bind fun v75 => (sN id q69.2 0 v74 (nI i) v75).bind fun w76 => (gR w76 (B + 40) 8 2).bind fun v77 => (gR w76 v77 5 7).bind fun v78 => (rI q69.1 16).bind fun v79 => (sN id w76 0 v78 (nI i) v79).bind fun w80 => fX8_readMembers_6 X M (B + 40) (ltI XX) (nI sm + (v56 * v59)) (nI i + 1) w80 else fX8_readMembers_150 X (B + 40) q69.2 else fX8_readMembers_93 X (B + 40) (rg_p lX B w0 x1) else fX8_readMembers_45 X (B + 40) (rg_p lX B w0 x1)) = z → fX8_readMembers_6 X (M + 1) (B + 40) (ltI pv) (nI sm) (nI i) (rg_p lX B w0 x) = z := by
      intro z hz
      rw [fX8_readMembers_6.eq_2]
      refine ob_v (rg_C rfl rfl) (ob_v (rg_I rfl rfl) ?_)
      rw [hnn]
      refine ei_n (nI_ge (by omega) (by omega)) (ob_v (rg_O rfl) (ob_v e1 (ei_n nv1 (ob_v (rg_O rfl) ?_))))
      dsimp only
      rw [r3]
      exact ob_v nm hz
    by_cases d1 : XX ≤ pv
    · rw [if_pos d1]
      obtain ⟨x2, e2, F2, f1, f2⟩ := x_fail (X := X) (B := B) (w0 := w0) (x := x1) (f := 7) (q := p)
      have hL := h.2.2.2.2.2.1
      refine ⟨0, x2, start _ (ei_n (fun z => absurd ((ltI_lt (by omega) (by omega)).mp z) (by omega)) ?_), (F1.trans F2).m, Or.inl ⟨_, rfl, rfl, ftX.i f1 f2 (by decide) (by decide) (by omega)⟩⟩
      unfold fX8_readMembers_45
      refine ob_v (rg_I rfl rfl) (ob_v (rg_O rfl) ?_)
      rw [r4.1, g1.1, show nI (p + 1) - 1 = nI p from pk_sub (a := p + 1) (b := 1) (by omega)]
      exact ob_v e2 rfl
    rw [if_neg d1]
    obtain ⟨Y, rfl⟩ : ∃ Y, XX = Y + 1 := ⟨XX - 1, by omega⟩
    rw [show Y + 1 - 1 = Y by omega]
    have okY := ok Y (by omega)
    have cY := c1' Y (by omega)
    have hm4 : (cs Y).2.1 * (cs Y).2.2.1 ≤ 2 * 2 := Nat.mul_le_mul okY.2.1.2 okY.2.2.1.2
    generalize hS : sm + (cs Y).2.1 * (cs Y).2.2.1 = S at *
    have start2 : ∀ z, (if nI S ≤ 10 then (gR (rg_p lX B w0 x1) (B + 40) 8 2).bind fun v61 => (gR (rg_p lX B w0 x1) v61 5 5).bind fun v62 => (sN id (rg_p lX B w0 x1) 0 v62 (nI i) (nI Y)).bind fun w63 => (gR w63 (B + 40) 8 2).bind fun v64 => (gR w63 v64 5 8).bind fun v65 => (gI w63 (B + 40) 8 8).bind fun v66 => (sN id w63 0 v65 (nI i) (v66 - 1)).bind fun w67 => (gO w67 (B + 40) 8).bind fun o68 => (fX8_byteIn X w67 (B + 40) 0 51).bind fun q69 => if q69.1 = ((-1)) then some (0, q69.2) else (rI q69.1 16).bind fun v71 => if v71 ≤ 3 then (gR q69.2 (B + 40) 8 2).bind fun v73 => (gR q69.2 v73 5 6).bind fun v74 => (dI q69.1 16).bind fun v75 => (sN id q69.2 0 v74 (nI i) v75).bind fun w76 => (gR w76 (B + 40) 8 2).bind fun v77 => (gR w76 v77 5 7).bind fun v78 => (rI q69.1 16).bind fun v79 => (sN id w76 0 v78 (nI i) v79).bind fun w80 => fX8_readMembers_6 X M (B + 40) (nI Y) (nI S) (nI i + 1) w80 else fX8_readMembers_150 X (B + 40) q69.2 else fX8_readMembers_93 X (B + 40) (rg_p lX B w0 x1)) = z → fX8_readMembers_6 X (M + 1) (B + 40) (ltI pv) (nI sm) (nI i) (rg_p lX B w0 x) = z := by
      intro z hz
      refine start _ (ei_t ((ltI_lt (by omega) (by omega)).mpr (by omega)) (ob_v (gP r1') (ob_v (rg_C hP.o rfl) ?_)))
      rw [ltI_s]
      refine ob_v (rg_A hP.a1 (by decide) _ (by omega) (by decide)) (ob_v (gP r1') (ob_v (rg_C hP.o rfl) (ob_v (rg_A hP.a2 (by decide) _ (by omega) (by decide)) ?_)))
      rw [cY.2.1, cY.2.2.1, pk_mul, nI_add, hS]
      exact hz
    by_cases d2 : 10 < S
    · rw [if_pos d2]
      obtain ⟨x2, e2, F2, f2⟩ := x_ref (X := X) (B := B) (w0 := w0) r4 (by omega)
      rw [show (6, p1 - 1) = (6, p) by rw [g1.1]; rfl] at f2
      refine ⟨0, x2, start2 _ (ei_n (show ¬ nI S ≤ nI 10 from nI_ge d2 (by omega)) ?_), (F1.trans F2).m, Or.inl ⟨_, rfl, rfl, f2⟩⟩
      unfold fX8_readMembers_93
      exact ob_v (rg_O rfl) (ob_v e2 rfl)
    rw [if_neg d2]
    generalize hx2 : rg_wA (rg_wA x1 42 (upd (x1.2.2.1 42) i (nI Y))) 45 (upd (x1.2.2.1 45) i (nI p)) = x2
    have F2 : FXm x1 x2 := by
      rw [← hx2]
      exact (FXm.wA (by omega)).trans (FXm.wA (by omega))
    have k2 : kX x2 c p1 := by
      rw [← hx2]
      exact (r4.w (by decide)).w (by decide)
    obtain ⟨v3, x3, e3, F3, o3⟩ := x_in (X := X) (B := B) (w0 := w0) (lo := 0) (hi := 51) k2 (by omega) (by omega)
    have start3 : ∀ z, (if v3 = ((-1)) then some (0, rg_p lX B w0 x3) else (rI v3 16).bind fun v71 => if v71 ≤ 3 then (gR (rg_p lX B w0 x3) (B + 40) 8 2).bind fun v73 => (gR (rg_p lX B w0 x3) v73 5 6).bind fun v74 => (dI v3 16).bind fun v75 => (sN id (rg_p lX B w0 x3) 0 v74 (nI i) v75).bind fun w76 => (gR w76 (B + 40) 8 2).bind fun v77 => (gR w76 v77 5 7).bind fun v78 => (rI v3 16).bind fun v79 => (sN id w76 0 v78 (nI i) v79).bind fun w80 => fX8_readMembers_6 X M (B + 40) (nI Y) (nI S) (nI i + 1) w80 else fX8_readMembers_150 X (B + 40) (rg_p lX B w0 x3)) = z → fX8_readMembers_6 X (M + 1) (B + 40) (ltI pv) (nI sm) (nI i) (rg_p lX B w0 x) = z := by
      intro z hz
      refine start2 _ (ei_t (show nI S ≤ nI 10 from nI_le (by omega) (by omega)) (ob_v (rg_C rfl rfl) (ob_v (rg_C rfl rfl) (ob_v (rg_sA id rfl (by decide) _ _ (by omega) (by decide)) (ob_v (rg_C rfl rfl) (ob_v (rg_C rfl rfl) (ob_v (rg_I rfl rfl) ?_)))))))
      rw [wA_1, r4.1, g1.1, show nI (p + 1) - 1 = nI p from pk_sub (a := p + 1) (b := 1) (by omega)]
      refine ob_v (rg_sA id rfl (by decide) _ _ (by omega) (by decide)) (ob_v (rg_O rfl) ?_)
      dsimp only [id]
      rw [wA_n _ _ (show 45 ≠ 42 by decide), hx2]
      exact ob_v e3 hz
    have F13 : FXm x x3 := F1.m.trans (F2.trans F3.m)
    rcases o3 with ⟨f, s1, s2, s3⟩ | ⟨t, p3, s1, s2, s3, s4⟩
    · rw [s1]
      exact ⟨0, x3, start3 _ (ei_t s2 rfl), F13, Or.inl ⟨f, rfl, rfl, s3⟩⟩
    have g3 := sgI_p s1
    have nv3 : ¬ v3 = -1 := by rw [s3]; exact ne1 (by omega)
    rw [s1]
    show ∃ v x', _ ∧ _ ∧ ((∃ f, (if 3 < t % 16 then .inl (6, p1) else sgMb c cs n r (i + 1) (Y + 1) S p3 (uG mb i (Y, t / 16, t % 16, p))) = .inl f ∧ _) ∨ ∃ p' mb', (if 3 < t % 16 then .inl (6, p1) else sgMb c cs n r (i + 1) (Y + 1) S p3 (uG mb i (Y, t / 16, t % 16, p))) = .inr (p', mb') ∧ _)
    have e16 : rI v3 16 = some (nI (t % 16)) := by
      rw [s3]
      exact rI_n (d := 16) (by omega) (by decide) (by decide)
    by_cases d3 : 3 < t % 16
    · rw [if_pos d3]
      obtain ⟨x4, e4, F4, f4⟩ := x_ref (X := X) (B := B) (w0 := w0) s4 (by omega)
      rw [show (6, p3 - 1) = (6, p1) by rw [g3.1]; rfl] at f4
      refine ⟨0, x4, start3 _ (ei_n nv3 (ob_v e16 (ei_n (show ¬ nI (t % 16) ≤ nI 3 from nI_ge d3 (by omega)) ?_))), F13.trans F4.m, Or.inl ⟨_, rfl, rfl, f4⟩⟩
      unfold fX8_readMembers_150
      exact ob_v (rg_O rfl) (ob_v e4 rfl)
    rw [if_neg d3]
    generalize hx4 : rg_wA (rg_wA x3 43 (upd (x3.2.2.1 43) i (nI (t / 16)))) 44 (upd (x3.2.2.1 44) i (nI (t % 16))) = x4
    have F4 : FXm x3 x4 := by
      rw [← hx4]
      exact (FXm.wA (by omega)).trans (FXm.wA (by omega))
    have F14 := F13.trans F4
    have k4 : kX x4 c p3 := by
      rw [← hx4]
      exact (s4.w (by decide)).w (by decide)
    have mb4 : mmX x4 (i + 1) (uG mb i (Y, t / 16, t % 16, p)) := by
      intro k hk
      rw [← hx4, wA_n _ _ (show 42 ≠ 44 by decide), wA_n _ _ (show 42 ≠ 43 by decide), wA_n _ _ (show 43 ≠ 44 by decide), wA_s, wA_s, wA_n _ _ (show 45 ≠ 44 by decide), wA_n _ _ (show 45 ≠ 43 by decide), F3.2, ← hx2, wA_n _ _ (show 42 ≠ 45 by decide), wA_s, wA_s, wA_n _ _ (show 43 ≠ 45 by decide), wA_n _ _ (show 43 ≠ 42 by decide), wA_n _ _ (show 44 ≠ 45 by decide), wA_n _ _ (show 44 ≠ 42 by decide)]
      by_cases z : k = i
      · rw [z, pk_us, pk_us, pk_us, pk_us, uG_s]
        exact ⟨rfl, rfl, rfl, rfl⟩
      · rw [pk_un z, pk_un z, pk_un z, pk_un z, uG_n _ _ z, F1.2]
        exact hmb k (by omega)
    obtain ⟨v5, x5, e5, F5, o5⟩ := ih (i + 1) (Y + 1) S p3 M _ x4 (by omega) (by omega) (by omega) (by omega) (by rw [F14.2.1]; exact hr) (by rw [F14.1 _ _ (by omega)]; exact hn) (by rw [F14.1 _ _ (by omega)]; exact hnn) (by
      unfold csX
      rw [F14.2.2.1 50 (by omega), F14.2.2.1 51 (by omega), F14.2.2.1 (P + 1) (by omega), F14.2.2.1 (P + 2) (by omega)]
      exact hc) k4 mb4
    refine ⟨v5, x5, start3 _ (ei_n nv3 (ob_v e16 (ei_t (show nI (t % 16) ≤ nI 3 from nI_le (by omega) (by omega)) (ob_v (rg_C rfl rfl) (ob_v (rg_C rfl rfl) ?_))))), F14.trans F5, o5⟩
    rw [s3]
    refine ob_v (dI_n (d := 16) (by omega) (by decide) (by decide)) (ob_v (rg_sA id rfl (by decide) _ _ (by omega) (by decide)) (ob_v (rg_C rfl rfl) (ob_v (rg_C rfl rfl) (ob_v (rI_n (d := 16) (by omega) (by decide) (by decide)) (ob_v (rg_sA id rfl (by decide) _ _ (by omega) (by decide)) ?_)))))
    dsimp only [id]
    rw [wA_n _ _ (show 44 ≠ 43 by decide), hx4, nI_1]
    exact e5
end
