/-! coefficients made more exact: pure, and the class -/
abbrev zQ : Type := Nat × bSt × (Nat → Int32)
def zUp (D : Nat → Nat) (n b at' : Nat) : Nat → Nat → Nat → bSt → (Nat → Int32) → Nat ⊕ zQ
  | 0, k, _, s, Q => .inr (k, s, Q)
  | j + 1, k, z, s, Q => if Q (at' + k) = 0 then (if z = 0 then .inr (k, s, Q) else zUp D n b at' j (k + 1) (z - 1) s Q) else zOb (tB D n s) fun u s' => zUp D n b at' j (k + 1) z s' (if u = 1 then upd Q (at' + k) (rfv b (Q (at' + k))) else Q)
def zUb (o : Nat ⊕ zQ) (f : Nat → bSt → (Nat → Int32) → Nat ⊕ zS) : Nat ⊕ zS := match o with
  | .inl e => .inl e
  | .inr q => f q.1 q.2.1 q.2.2
def zSg (D : Nat → Nat) (n b z : Nat) (s : bSt) (f : Int32 → bSt → Nat ⊕ zS) : Nat ⊕ zS := if z = 0 then f 0 s else zOb (tB D n s) fun u s' => f (if u = 1 then nI (2 ^ b) else -nI (2 ^ b)) s'
def zTl (D : Nat → Nat) (n last b at' k : Nat) (a : zS) : Nat ⊕ zS := zUb (zUp D n b at' (last + 1 - k) k 64 a.1 a.2.2.2) fun _ s Q => .inr (s, a.2.1 - 1, a.2.2.1, Q)
def zMo (D : Nat → Nat) (n : Nat) (W : zT) (last b at' : Nat) : Nat → Nat → zS → Nat ⊕ zS
  | 0, _, a => .inr a
  | j + 1, k, a => if last < k then .inr a else zSb (zSy D n W a.1) fun u s =>
    if 1 < u % 16 then .inl 3
    else if u % 16 = 0 ∧ u / 16 < 15 then zOb (tN D n (u / 16) 0 s) fun v s2 => zTl D n last b at' k (s2, 2 ^ (u / 16) + v, a.2.2)
    else zSg D n b (u % 16) s fun v s2 => zUb (zUp D n b at' (last + 1 - k) k (u / 16) s2 a.2.2.2) fun k' s3 Q => if last < k' then .inl 3 else zMo D n W last b at' j (k' + 1) (s3, a.2.1, a.2.2.1, upd Q (at' + k') v)
def zMr (D : Nat → Nat) (n : Nat) (W : zT) (first last b at' : Nat) (a : zS) : Nat ⊕ zS := if 0 < a.2.1 then zTl D n last b at' first a else zMo D n W last b at' 64 first a
theorem zMo_d {D : Nat → Nat} {n : Nat} {W : zT} {last b at' j k : Nat} {a : zS} (h : last < k) : zMo D n W last b at' j k a = .inr a := by
  cases j with
  | zero => rfl
  | succ j =>
    unfold zMo
    exact if_pos h
theorem zUp_k {D : Nat → Nat} {n b at' last : Nat} : ∀ (j k z : Nat) (s : bSt) (Q : Nat → Int32) (k' : Nat) (s' : bSt) (Q' : Nat → Int32), k + j = last + 1 → zUp D n b at' j k z s Q = .inr (k', s', Q') → k ≤ k' ∧ k' ≤ last + 1 ∧ (k' ≤ last → Q' (at' + k') = 0) := by
  intro j
  induction j with
  | zero =>
    intro k z s Q k' s' Q' hk e
    have := Sum.inr.inj e
    have e1 : k = k' := congrArg Prod.fst this
    omega
  | succ j ih =>
    intro k z s Q k' s' Q' hk e
    unfold zUp at e
    by_cases q : Q (at' + k) = 0
    · rw [if_pos q] at e
      by_cases z0 : z = 0
      · rw [if_pos z0] at e
        have := Sum.inr.inj e
        have e1 : k = k' := congrArg Prod.fst this
        have e2 : Q = Q' := congrArg (fun p : zQ => p.2.2) this
        rw [← e1, ← e2]
        exact ⟨by omega, by omega, fun _ => q⟩
      · rw [if_neg z0] at e
        have := ih _ _ _ _ _ _ _ (by omega) e
        exact ⟨by omega, this.2⟩
    · rw [if_neg q] at e
      cases ht : tB D n s with
      | none =>
        rw [ht] at e
        cases e
      | some p =>
        rw [ht] at e
        have := ih (k + 1) z p.2 _ k' s' Q' (by omega) e
        exact ⟨by omega, this.2⟩
theorem nI_mn1 {z : Nat} (h : 0 < z) : nI z + (-1) = nI (z - 1) := by
  rw [← Int32.sub_eq_add_neg]
  exact pk_sub (b := 1) (by omega)
section
variable {X : px_X} {b B : Nat} {w0 w1 : px_W} {x x' y y' : rg_S} {D : Nat → Nat} {n d0 t P mm m first last bf bb T q : Nat} {cm bs : Nat → Nat} {s s' : bSt} {W : zT} {a : zS}
theorem x_ref1 {i : Nat} (k : zKx x P first last bf bb) (h : zX P cm mm D n d0 x a) (ok : zOk a) (hi : i < 12288) (h6 : i % 64 ≠ 0) : ∃ x', fX6_refineOne X (rg_p lX B w0 x) (B + 95) (nI i) = some (rg_p lX B w0 x') ∧ zFX P x x' ∧ (tB D n a.1 = none ∧ x'.1 95 6 = 1 ∨ ∃ u s', tB D n a.1 = some (u, s') ∧ zOk (s', a.2.1, a.2.2.1, if u = 1 then upd a.2.2.2 i (rfv bb (a.2.2.2 i)) else a.2.2.2) ∧ zX P cm mm D n d0 x' (s', a.2.1, a.2.2.1, if u = 1 then upd a.2.2.2 i (rfv bb (a.2.2.2 i)) else a.2.2.2)) := by
  have hb : bb ≤ 9 := k.2.2.2.2.2.2.2.2.2.2
  obtain ⟨v, x1, e1, F1, hh⟩ := x_tB (X := X) (B := B) (w0 := w0) h.1
  have k1 := k.f (F1.q (P := P))
  have eq := h.2.2.2 i hi
  have st : ∀ r, (if v = 1 then (if (mabs (a.2.2.2 i) &&& nI (2 ^ bb)) = 0 then (gR (rg_p lX B w0 x1) (B + 95) 6 1).bind fun v21 => (gR (rg_p lX B w0 x1) v21 2 11).bind fun v22 => (if a.2.2.2 i ≤ 0 then fX6_refineOne_58 X (a.2.2.2 i - nI (2 ^ bb)) (nI i) v22 (rg_p lX B w0 x1) else fX6_refineOne_58 X (a.2.2.2 i + nI (2 ^ bb)) (nI i) v22 (rg_p lX B w0 x1)) else some (rg_p lX B w0 x1)) else some (rg_p lX B w0 x1)) = r → fX6_refineOne X (rg_p lX B w0 x) (B + 95) (nI i) = r := by
    intro r hr
    unfold fX6_refineOne
    refine ob_v k.g1 (ob_v (rg_C k.1.o rfl) (ob_v (rg_A k.1.a6 (by decide) _ hi (by decide)) (ob_v k.g2 (ob_v (rg_I rfl rfl) (ob_v (rg_O rfl) (ob_v e1 ?_))))))
    rw [k.2.2.2.2.2.2.1, pw_16 (by omega), eq]
    exact hr
  rcases hh with ⟨t1, t2, t3⟩ | ⟨u, s1, t1, t2, t3⟩
  · exact ⟨x1, st _ (ei_n (by rw [t3]; decide) rfl), F1.q, Or.inl ⟨t1, t2⟩⟩
  · have h1 := h.s F1 t3
    have cf := ok.2.2 i hi
    by_cases u1 : u = 1
    · have ok2 : zOk (s1, a.2.1, a.2.2.1, if u = 1 then upd a.2.2.2 i (rfv bb (a.2.2.2 i)) else a.2.2.2) := by
        rw [if_pos u1]
        exact (ok.s s1).q (cf_rf hb h6 cf)
      have v1 : v = 1 := by rw [t2, u1]; rfl
      by_cases q1 : mabs (a.2.2.2 i) &&& nI (2 ^ bb) = 0
      · refine ⟨rg_wA x1 (P + 6) (upd (x1.2.2.1 (P + 6)) i (rfv bb (a.2.2.2 i))), st _ (ei_t v1 (ei_t q1 (ob_v k1.g1 (ob_v (rg_C k.1.o rfl) ?_)))), F1.q.trans (zFX.w6 _), Or.inr ⟨u, s1, t1, ok2, ?_⟩⟩
        · by_cases q2 : a.2.2.2 i ≤ 0
          · rw [show rfv bb (a.2.2.2 i) = a.2.2.2 i - nI (2 ^ bb) by unfold rfv; rw [if_pos q1, if_pos q2]]
            refine ei_t q2 ?_
            unfold fX6_refineOne_58
            exact ob_v (rg_sA id k.1.a6 (by decide) _ _ hi (by decide)) rfl
          · rw [show rfv bb (a.2.2.2 i) = a.2.2.2 i + nI (2 ^ bb) by unfold rfv; rw [if_pos q1, if_neg q2]]
            refine ei_n q2 ?_
            unfold fX6_refineOne_58
            exact ob_v (rg_sA id k.1.a6 (by decide) _ _ hi (by decide)) rfl
        · rw [if_pos u1]
          exact h1.q k.1
      · refine ⟨x1, st _ (ei_t v1 (ei_n q1 rfl)), F1.q, Or.inr ⟨u, s1, t1, ok2, ?_⟩⟩
        rw [if_pos u1]
        unfold rfv
        rw [if_neg q1, upd_id]
        exact h1
    · refine ⟨x1, st _ (ei_n (fun e => ?_) rfl), F1.q, Or.inr ⟨u, s1, t1, ?_, ?_⟩⟩
      · rw [t2] at e
        have := (tB_ok h.1.2.2.2.2.2.2.2.2.1 h.1.2.2.2.2.2.2.2.2.2 t1).2
        exact u1 ((nI_eq (b := 1) (by omega) (by omega)).mp e)
      · rw [if_neg u1]
        exact ok.s s1
      · rw [if_neg u1]
        exact h1
theorem x_up0 {M f : Nat} {A A4 A5 : Int32} (k : zKx x P first last bf bb) (hf : x.1 95 6 = nI f) (h0 : 0 < f) (h9 : f < 100) : fX6_refineUpTo_6 X (M + 1) (B + 95) A A4 A5 (rg_p lX B w0 x) = some (A5, rg_p lX B w0 x) := by
  rw [fX6_refineUpTo_6.eq_2]
  refine ob_v k.g2 (ob_v (rg_I rfl rfl) (ei_c (fun _ => rfl) (fun _ => ob_v (rg_I rfl rfl) (ei_n ?_ rfl))))
  rw [hf]
  exact nI_ne0 h0 (by omega)
theorem x_zUp (hT : 64 * T + 64 ≤ 12288) : ∀ (j M k z : Nat) (x : rg_S) (a : zS), k + j = last + 1 → 1 ≤ k → z < 1000 → j + 1 < M → zKx x P first last bf bb → zX P cm mm D n d0 x a → zOk a → ∃ u x', fX6_refineUpTo_6 X M (B + 95) (nI (64 * T)) (nI z) (nI k) (rg_p lX B w0 x) = some (u, rg_p lX B w0 x') ∧ zFX P x x' ∧ ((∃ f, zUp D n bb (64 * T) j k z a.1 a.2.2.2 = .inl f ∧ 0 < f ∧ f < 100 ∧ x'.1 95 6 = nI f) ∨ ∃ k' s' Q', zUp D n bb (64 * T) j k z a.1 a.2.2.2 = .inr (k', s', Q') ∧ u = nI k' ∧ zOk (s', a.2.1, a.2.2.1, Q') ∧ zX P cm mm D n d0 x' (s', a.2.1, a.2.2.1, Q')) := by
  intro j
  induction j with
  | zero =>
    intro M k z x a hk k1 hz hM K h ok
    obtain ⟨M, rfl⟩ : ∃ M', M = M' + 1 := ⟨M - 1, by omega⟩
    have l6 : last ≤ 63 := K.2.2.2.2.2.2.2.2.1
    refine ⟨_, x, ?_, zFX.rfl, Or.inr ⟨k, a.1, a.2.2.2, rfl, rfl, ok, h⟩⟩
    rw [fX6_refineUpTo_6.eq_2]
    refine ob_v K.g2 (ob_v (rg_I rfl rfl) (ei_t ?_ rfl))
    rw [K.2.2.2.2.1]
    exact nI_lt (by omega) (by omega)
  | succ j ih =>
    intro M k z x a hk k1 hz hM K h ok
    obtain ⟨M, rfl⟩ : ∃ M', M = M' + 1 := ⟨M - 1, by omega⟩
    have l6 : last ≤ 63 := K.2.2.2.2.2.2.2.2.1
    have st : ∀ r, (if a.2.2.2 (64 * T + k) = 0 then (if nI z = 0 then some (nI k, rg_p lX B w0 x) else fX6_refineUpTo_62 X (fX6_refineUpTo_6 X M) (B + 95) (nI (64 * T)) (nI z + (-1)) (nI k) (rg_p lX B w0 x)) else (gO (rg_p lX B w0 x) (B + 95) 6).bind fun o19 => (fX6_refineOne X (rg_p lX B w0 x) (B + 95) (nI (64 * T + k))).bind fun q20 => fX6_refineUpTo_62 X (fX6_refineUpTo_6 X M) (B + 95) (nI (64 * T)) (nI z) (nI k) q20) = r → fX6_refineUpTo_6 X (M + 1) (B + 95) (nI (64 * T)) (nI z) (nI k) (rg_p lX B w0 x) = r := by
      intro r hr
      rw [fX6_refineUpTo_6.eq_2]
      refine ob_v K.g2 (ob_v (rg_I rfl rfl) (ei_n ?_ (ob_v (rg_I rfl rfl) (ei_t h.1.2.2.2.1 (ob_v K.g1 (ob_v (rg_C K.1.o rfl) ?_))))))
      · rw [K.2.2.2.2.1]
        exact nI_nlt (by omega) (by omega)
      · rw [nI_add]
        refine ob_v (rg_A K.1.a6 (by decide) _ (by omega) (by decide)) ?_
        rw [h.2.2.2 _ (by omega)]
        exact hr
    unfold zUp
    by_cases q1 : a.2.2.2 (64 * T + k) = 0
    · rw [if_pos q1]
      by_cases z0 : z = 0
      · rw [if_pos z0]
        exact ⟨_, x, st _ (ei_t q1 (ei_t (by rw [z0]; rfl) rfl)), zFX.rfl, Or.inr ⟨k, a.1, a.2.2.2, rfl, rfl, ok, h⟩⟩
      · rw [if_neg z0]
        obtain ⟨u, x1, e1, F1, o1⟩ := ih M (k + 1) (z - 1) x a (by omega) (by omega) (by omega) (by omega) K h ok
        refine ⟨u, x1, st _ (ei_t q1 (ei_n (nI_ne0 (by omega) (by omega)) ?_)), F1, o1⟩
        unfold fX6_refineUpTo_62
        rw [nI_mn1 (by omega), show nI k + 1 = nI (k + 1) from nI_add _ 1]
        exact e1
    · rw [if_neg q1]
      obtain ⟨x1, e1, F1, hh⟩ := x_ref1 (X := X) (B := B) (w0 := w0) (i := 64 * T + k) K h ok (by omega) (by omega)
      have K1 := K.f F1
      have st2 : ∀ r, fX6_refineUpTo_6 X M (B + 95) (nI (64 * T)) (nI z) (nI (k + 1)) (rg_p lX B w0 x1) = r → fX6_refineUpTo_6 X (M + 1) (B + 95) (nI (64 * T)) (nI z) (nI k) (rg_p lX B w0 x) = r := by
        intro r hr
        refine st _ (ei_n q1 (ob_v (rg_O rfl) (ob_v e1 ?_)))
        unfold fX6_refineUpTo_62
        rw [show nI k + 1 = nI (k + 1) from nI_add _ 1]
        exact hr
      rcases hh with ⟨t1, t2⟩ | ⟨u, s1, t1, t2, t3⟩
      · obtain ⟨M', rfl⟩ : ∃ M', M = M' + 1 := ⟨M - 1, by omega⟩
        have x16 : x1.1 95 6 = nI 1 := t2
        exact ⟨_, x1, st2 _ (x_up0 K1 x16 (by decide) (by decide)), F1, Or.inl ⟨1, by rw [t1]; rfl, by decide, by decide, x16⟩⟩
      · obtain ⟨u2, x2, e2, F2, o2⟩ := ih M (k + 1) z x1 _ (by omega) (by omega) hz (by omega) K1 t3 t2
        refine ⟨u2, x2, st2 _ e2, F1.trans F2, ?_⟩
        rw [t1]
        exact o2
/-- the end of a block in a run -/
theorem x_zTl (hT : 64 * T + 64 ≤ 12288) {k : Nat} (K : zKx x P first last bf bb) (k1 : 1 ≤ k) (k2 : k ≤ last + 1) (h : zX P cm mm D n d0 x a) (ok : zOk a) (hr : 0 < a.2.1) : ∃ x', fX6_refineOthers_194 X (B + 95) (nI (64 * T)) (nI k) (rg_p lX B w0 x) = some (rg_p lX B w0 x') ∧ zFX P x x' ∧ zXo P cm mm D n d0 (zTl D n last bb (64 * T) k a) x' := by
  have o1 := ok.1
  have l6 : last ≤ 63 := K.2.2.2.2.2.2.2.2.1
  obtain ⟨u, x1, e1, F1, hh⟩ := x_zUp (X := X) (B := B) (w0 := w0) (cm := cm) (mm := mm) (D := D) (n := n) (d0 := d0) hT (last + 1 - k) FU k 64 x a (by omega) k1 (by decide) (by unfold FU; omega) K h ok
  refine ⟨rg_wI x1 95 7 (x1.1 95 7 - 1), ?_, F1.trans (zFX.wI (by omega)), ?_⟩
  · unfold fX6_refineOthers_194 fX6_refineUpTo
    refine ob_v (rg_I rfl rfl) (ei_n (by rw [h.2.1]; exact nI_nle hr (by omega)) (ob_v (rg_I rfl rfl) (ei_t h.1.2.2.2.1 (ob_v (rg_O rfl) (ob_v e1 (ob_v (rg_I rfl rfl) (ob_v (rg_pI rfl rfl _) rfl)))))))
  · unfold zTl
    rcases hh with ⟨f, t1, t2, t3, t4⟩ | ⟨k', s', Q', t1, t2, t3, t4⟩
    · exact Or.inl ⟨f, by rw [t1]; rfl, t2, t3, by rw [wI_n _ _ (by omega)]; exact t4⟩
    · refine Or.inr ⟨(s', a.2.1 - 1, a.2.2.1, Q'), by rw [t1]; rfl, t3.r (by omega), ?_⟩
      rw [t4.2.1, show nI a.2.1 - 1 = nI (a.2.1 - 1) from pk_sub (b := 1) (by omega)]
      exact t4.r
theorem cf_pw {i : Nat} {v : Int32} (hb : bb ≤ 9) (hv : v = 0 ∨ v = nI (2 ^ bb) ∨ v = -nI (2 ^ bb)) : cfOk i v := by
  have p2 : 2 ^ bb ≤ 2 ^ 9 := Nat.pow_le_pow_right (by decide) hb
  have p0 := Nat.two_pow_pos bb
  generalize 2 ^ bb = u at hv p2 p0
  unfold cfOk
  rcases hv with rfl | rfl | rfl
  · split <;> decide
  · rw [iI_n, iI_t (by omega) (by omega)]
    split <;> omega
  · rw [iI_n, ne_i, iI_t (by omega) (by omega)]
    split <;> omega
theorem x_zMo (hP : isP P) (hT : 64 * T + 64 ≤ 12288) (ht : t < 8) (hW : tbOk W.1 W.2.1 W.2.2) : ∀ (j M k : Nat) (x : rg_S) (a : zS), last + 1 ≤ k + j → 1 ≤ k → k ≤ last + 1 → j < M → zKx x P first last bf bb → wX x t W.1 W.2.1 W.2.2 → zX P cm mm D n d0 x a → zOk a → a.2.1 = 0 → ∃ x', fX6_refineOthers_8 X M (B + 95) (nI (64 * T)) (B + (55 + 5 * t)) (nI k) (rg_p lX B w0 x) = some (rg_p lX B w0 x') ∧ zFX P x x' ∧ zXo P cm mm D n d0 (zMo D n W last bb (64 * T) j k a) x' := by
  intro j
  have e194 : ∀ (x : rg_S) (a : zS) (k : Int32), zX P cm mm D n d0 x a → a.2.1 = 0 → fX6_refineOthers_194 X (B + 95) (nI (64 * T)) k (rg_p lX B w0 x) = some (rg_p lX B w0 x) := by
    intro x a k h r0
    unfold fX6_refineOthers_194
    exact ob_v (rg_I rfl rfl) (ei_t (by rw [h.2.1, r0]; decide) rfl)
  have edone : ∀ (M k : Nat) (x : rg_S) (a : zS), last < k → k < 100 → zKx x P first last bf bb → zX P cm mm D n d0 x a → a.2.1 = 0 → fX6_refineOthers_8 X (M + 1) (B + 95) (nI (64 * T)) (B + (55 + 5 * t)) (nI k) (rg_p lX B w0 x) = some (rg_p lX B w0 x) := by
    intro M k x a hk k9 K h r0
    rw [fX6_refineOthers_8.eq_2]
    refine ob_v (rg_I rfl rfl) (ei_t (by rw [h.2.1, r0]; rfl) (ob_v K.g2 (ob_v (rg_I rfl rfl) (ei_t ?_ (e194 x a _ h r0)))))
    rw [K.2.2.2.2.1]
    exact nI_lt hk (by omega)
  induction j with
  | zero =>
    intro M k x a hk k1 k2 hM K hw h ok r0
    obtain ⟨M, rfl⟩ : ∃ M', M = M' + 1 := ⟨M - 1, by omega⟩
    have l6 : last ≤ 63 := K.2.2.2.2.2.2.2.2.1
    exact ⟨x, edone M k x a (by omega) (by omega) K h r0, zFX.rfl, Or.inr ⟨a, rfl, ok, h⟩⟩
  | succ j ih =>
    intro M k x a hk k1 k2 hM K hw h ok r0
    obtain ⟨M, rfl⟩ : ∃ M', M = M' + 1 := ⟨M - 1, by omega⟩
    have l6 : last ≤ 63 := K.2.2.2.2.2.2.2.2.1
    have hb : bb ≤ 9 := K.2.2.2.2.2.2.2.2.2.2
    by_cases q0 : last < k
    · rw [zMo_d q0]
      exact ⟨x, edone M k x a (by omega) (by omega) K h r0, zFX.rfl, Or.inr ⟨a, rfl, ok, h⟩⟩
    · unfold zMo
      rw [if_neg q0]
      obtain ⟨v, x1, e1, F1, hh⟩ := x_sb (X := X) (B := B) (w0 := w0) ht hW h.1 hw
      have K1 := K.f (F1.q (P := P))
      have st : ∀ (v48 v49 : Int32) (r : Option px_W), dI v 16 = some v48 → rI v 16 = some v49 → (if x1.1 95 6 = 0 then (if v49 ≤ 1 then fX6_refineOthers_65 X (fX6_refineOthers_8 X M) (B + 95) (nI (64 * T)) (B + (55 + 5 * t)) (nI k) v48 v49 (rg_p lX B w0 x1) else (pV (rg_p lX B w0 x1) (B + 95) 6 6 (.int 3)).bind fun w84 => fX6_refineOthers_65 X (fX6_refineOthers_8 X M) (B + 95) (nI (64 * T)) (B + (55 + 5 * t)) (nI k) v48 v49 w84) else fX6_refineOthers_65 X (fX6_refineOthers_8 X M) (B + 95) (nI (64 * T)) (B + (55 + 5 * t)) (nI k) v48 v49 (rg_p lX B w0 x1)) = r → fX6_refineOthers_8 X (M + 1) (B + 95) (nI (64 * T)) (B + (55 + 5 * t)) (nI k) (rg_p lX B w0 x) = r := by
        intro v48 v49 r hd hrr hr
        rw [fX6_refineOthers_8.eq_2]
        refine ob_v (rg_I rfl rfl) (ei_t (by rw [h.2.1, r0]; rfl) (ob_v K.g2 (ob_v (rg_I rfl rfl) (ei_n ?_ (ob_v (rg_O rfl) (ob_v e1 (ob_v hd (ob_v hrr (ob_v (rg_I rfl rfl) hr)))))))))
        rw [K.2.2.2.2.1]
        exact nI_nlt (by omega) (by omega)
      have e65 : ∀ (z : rg_S) (f : Nat) (v48 v49 : Int32), z.1 95 6 = nI f → 0 < f → f < 100 → fX6_refineOthers_65 X (fX6_refineOthers_8 X M) (B + 95) (nI (64 * T)) (B + (55 + 5 * t)) (nI k) v48 v49 (rg_p lX B w0 z) = some (rg_p lX B w0 z) := by
        intro z f v48 v49 hz f0 f9
        unfold fX6_refineOthers_65
        exact ob_v (rg_I rfl rfl) (ei_n (by rw [hz]; exact nI_ne0 f0 (by omega)) rfl)
      rcases hh with ⟨f, t1, t2, t3, t4, t5⟩ | ⟨u, s1, t1, t2, t3, t4⟩
      · refine ⟨x1, st 0 (-1) _ (by rw [t5]; rfl) (by rw [t5]; rfl) (ei_n (by rw [t4]; exact nI_ne0 t2 (by omega)) (e65 x1 f _ _ t4 t2 t3)), F1.q, Or.inl ⟨f, by rw [t1]; rfl, t2, t3, t4⟩⟩
      · rw [t1]
        show ∃ x', _ ∧ _ ∧ zXo P cm mm D n d0 (if 1 < u % 16 then .inl 3 else _) x'
        have h1 := h.s F1 t4
        have ok1 := ok.s s1
        have w1' := hw.q hP (F1.q (P := P)) ht
        have st2 := fun r hr => st (nI (u / 16)) (nI (u % 16)) r (by rw [t3]; exact dI_n (d := 16) (by omega) (by decide) (by decide)) (by rw [t3]; exact rI_n (d := 16) (by omega) (by decide) (by decide)) (ei_t t4.2.2.2.1 hr)
        by_cases q1 : 1 < u % 16
        · rw [if_pos q1]
          exact ⟨_, st2 _ (ei_n (nI_ge (a := 1) q1 (by omega)) (ob_v (rg_pI rfl rfl _) (e65 _ 3 _ _ (wI_s _ _ _ _) (by decide) (by decide)))), F1.q.trans (zFX.wI (by omega)), Or.inl ⟨3, rfl, by decide, by decide, wI_s _ _ _ _⟩⟩
        · rw [if_neg q1]
          have st3 : ∀ r, (if nI (u % 16) = 0 then (if 15 ≤ nI (u / 16) then fX6_refineOthers_94 X (fX6_refineOthers_8 X M) (B + 95) (nI (64 * T)) (B + (55 + 5 * t)) (nI k) (nI (u / 16)) (nI (u % 16)) (rg_p lX B w0 x1) else fX6_refineOthers_85 X (B + 95) (nI (64 * T)) (nI k) (nI (u / 16)) (rg_p lX B w0 x1)) else fX6_refineOthers_94 X (fX6_refineOthers_8 X M) (B + 95) (nI (64 * T)) (B + (55 + 5 * t)) (nI k) (nI (u / 16)) (nI (u % 16)) (rg_p lX B w0 x1)) = r → fX6_refineOthers_8 X (M + 1) (B + 95) (nI (64 * T)) (B + (55 + 5 * t)) (nI k) (rg_p lX B w0 x) = r := by
            intro r hr
            refine st2 _ (ei_t (nI_le (b := 1) (by omega) (by decide)) ?_)
            unfold fX6_refineOthers_65
            exact ob_v (rg_I rfl rfl) (ei_t t4.2.2.2.1 hr)
          by_cases qe : u % 16 = 0 ∧ u / 16 < 15
          · rw [if_pos qe]
            obtain ⟨x2, e2, F2, hh2⟩ := x_start (X := X) (B := B) (w0 := w0) qe.2 h1
            have K2 := K1.f F2
            have st4 : ∀ r, fX6_refineOthers_194 X (B + 95) (nI (64 * T)) (nI k) (rg_p lX B w0 x2) = r → fX6_refineOthers_8 X (M + 1) (B + 95) (nI (64 * T)) (B + (55 + 5 * t)) (nI k) (rg_p lX B w0 x) = r := by
              intro r hr
              refine st3 _ (ei_t (by rw [qe.1]; rfl) (ei_n (nI_ge (b := 15) qe.2 (by decide)) ?_))
              unfold fX6_refineOthers_85
              exact ob_v (rg_O rfl) (ob_v e2 hr)
            rcases hh2 with ⟨r1, r2⟩ | ⟨vv, s2, r1, r2, r3⟩
            · have x26 : x2.1 95 6 = nI 1 := r2
              refine ⟨x2, st4 _ ?_, F1.q.trans F2, Or.inl ⟨1, by rw [r1]; rfl, by decide, by decide, x26⟩⟩
              unfold fX6_refineOthers_194
              exact ob_v (rg_I rfl rfl) (ei_c (fun _ => rfl) (fun _ => ob_v (rg_I rfl rfl) (ei_n (by rw [x26]; decide) rfl)))
            · rw [r1]
              have := pw_r qe.2
              have := Nat.two_pow_pos (u / 16)
              obtain ⟨x3, e3, F3, o3⟩ := x_zTl (X := X) (B := B) (w0 := w0) hT K2 k1 k2 r3 (ok1.r (by omega)) (by show 0 < 2 ^ (u / 16) + vv; omega)
              exact ⟨x3, st4 _ e3, F1.q.trans (F2.trans F3), o3⟩
          · rw [if_neg qe]
            have st4 : ∀ r, fX6_refineOthers_94 X (fX6_refineOthers_8 X M) (B + 95) (nI (64 * T)) (B + (55 + 5 * t)) (nI k) (nI (u / 16)) (nI (u % 16)) (rg_p lX B w0 x1) = r → fX6_refineOthers_8 X (M + 1) (B + 95) (nI (64 * T)) (B + (55 + 5 * t)) (nI k) (rg_p lX B w0 x) = r := by
              intro r hr
              by_cases z0 : u % 16 = 0
              · exact st3 _ (ei_t (by rw [z0]; rfl) (ei_t (nI_le (a := 15) (by omega) (by omega)) hr))
              · exact st3 _ (ei_n (nI_ne0 (by omega) (by omega)) hr)
            have go : ∀ (v : Int32) (s2 : bSt) (x2 : rg_S), (v = 0 ∨ v = nI (2 ^ bb) ∨ v = -nI (2 ^ bb)) → zFX P x x2 → zX P cm mm D n d0 x2 (s2, a.2) → ∃ x', fX6_refineOthers_133 X (fX6_refineOthers_8 X M) (B + 95) (nI (64 * T)) (B + (55 + 5 * t)) (nI k) (nI (u / 16)) v (rg_p lX B w0 x2) = some (rg_p lX B w0 x') ∧ zFX P x x' ∧ zXo P cm mm D n d0 (zUb (zUp D n bb (64 * T) (last + 1 - k) k (u / 16) s2 a.2.2.2) fun k' s3 Q => if last < k' then .inl 3 else zMo D n W last bb (64 * T) j (k' + 1) (s3, a.2.1, a.2.2.1, upd Q (64 * T + k') v)) x' := by
              intro v s2 x2 hv Fx2 h2
              have K2 := K.f Fx2
              obtain ⟨u2, x3, e3, F3, hh3⟩ := x_zUp (X := X) (B := B) (w0 := w0) (cm := cm) (mm := mm) (D := D) (n := n) (d0 := d0) hT (last + 1 - k) FU k (u / 16) x2 (s2, a.2) (by omega) k1 (by omega) (by unfold FU; omega) K2 h2 (ok.s s2)
              have K3 := K2.f F3
              have s133 : ∀ r, (if x3.1 95 6 = 0 then (if u2 ≤ nI last then fX6_refineOthers_167 X (fX6_refineOthers_8 X M) (B + 95) (nI (64 * T)) (B + (55 + 5 * t)) u2 v (rg_p lX B w0 x3) else (pV (rg_p lX B w0 x3) (B + 95) 6 6 (.int 3)).bind fun w59 => fX6_refineOthers_167 X (fX6_refineOthers_8 X M) (B + 95) (nI (64 * T)) (B + (55 + 5 * t)) u2 v w59) else fX6_refineOthers_167 X (fX6_refineOthers_8 X M) (B + 95) (nI (64 * T)) (B + (55 + 5 * t)) u2 v (rg_p lX B w0 x3)) = r → fX6_refineOthers_133 X (fX6_refineOthers_8 X M) (B + 95) (nI (64 * T)) (B + (55 + 5 * t)) (nI k) (nI (u / 16)) v (rg_p lX B w0 x2) = r := by
                intro r hr
                unfold fX6_refineOthers_133 fX6_refineUpTo
                refine ob_v (rg_O rfl) (ob_v e3 (ob_v (rg_I rfl rfl) ?_))
                refine Eq.trans ?_ hr
                congr 1
                refine ob_v K3.g2 (ob_v (rg_I rfl rfl) ?_)
                rw [K3.2.2.2.2.1]
              have e167 : ∀ (z : rg_S) (f : Nat), z.1 95 6 = nI f → 0 < f → f < 100 → fX6_refineOthers_167 X (fX6_refineOthers_8 X M) (B + 95) (nI (64 * T)) (B + (55 + 5 * t)) u2 v (rg_p lX B w0 z) = some (rg_p lX B w0 z) := by
                intro z f hz f0 f9
                unfold fX6_refineOthers_167
                exact ob_v (rg_I rfl rfl) (ei_n (by rw [hz]; exact nI_ne0 f0 (by omega)) rfl)
              rcases hh3 with ⟨f, r1, r2, r3, r4⟩ | ⟨k', s3, Q', r1, r2, r3, r4⟩
              · exact ⟨x3, s133 _ (ei_n (by rw [r4]; exact nI_ne0 r2 (by omega)) (e167 x3 f r4 r2 r3)), Fx2.trans F3, Or.inl ⟨f, by rw [r1]; rfl, r2, r3, r4⟩⟩
              · obtain ⟨b1, b2, b3⟩ := zUp_k (last := last) _ _ _ _ _ _ _ _ (by omega) r1
                rw [r1]
                show ∃ x', _ ∧ _ ∧ zXo P cm mm D n d0 (if last < k' then .inl 3 else zMo D n W last bb (64 * T) j (k' + 1) (s3, a.2.1, a.2.2.1, upd Q' (64 * T + k') v)) x'
                by_cases q5 : last < k'
                · rw [if_pos q5]
                  refine ⟨_, s133 _ (ei_t r4.1.2.2.2.1 (ei_n ?_ (ob_v (rg_pI rfl rfl _) (e167 _ 3 (wI_s _ _ _ _) (by decide) (by decide))))), Fx2.trans (F3.trans (zFX.wI (by omega))), Or.inl ⟨3, rfl, by decide, by decide, wI_s _ _ _ _⟩⟩
                  rw [r2]
                  exact nI_ge q5 (by omega)
                · rw [if_neg q5]
                  have F4 : zFX P x (rg_wA x3 (P + 6) (upd (x3.2.2.1 (P + 6)) (64 * T + k') v)) := Fx2.trans (F3.trans (zFX.w6 _))
                  obtain ⟨x4, e4, F5, o4⟩ := ih M (k' + 1) _ (s3, a.2.1, a.2.2.1, upd Q' (64 * T + k') v) (by omega) (by omega) (by omega) (by omega) (K.f F4) (hw.q hP F4 ht) (r4.q hP) (r3.q (cf_pw hb hv)) r0
                  refine ⟨x4, s133 _ (ei_t r4.1.2.2.2.1 (ei_t ?_ ?_)), F4.trans F5, o4⟩
                  · rw [r2]
                    exact nI_le (by omega) (by omega)
                  · unfold fX6_refineOthers_167
                    refine ob_v (rg_I rfl rfl) (ei_t r4.1.2.2.2.1 (ob_v K3.g1 (ob_v (rg_C hP.o rfl) ?_)))
                    rw [r2, nI_add]
                    refine ob_v (rg_sA id hP.a6 (by decide) _ _ (by omega) (by decide)) ?_
                    rw [show nI k' + 1 = nI (k' + 1) from nI_add _ 1]
                    exact e4
            unfold zSg
            by_cases z0 : u % 16 = 0
            · rw [if_pos z0]
              obtain ⟨x2, e2, F2, o2⟩ := go 0 s1 x1 (Or.inl rfl) F1.q h1
              refine ⟨x2, st4 _ ?_, F2, o2⟩
              unfold fX6_refineOthers_94
              exact ei_t (by rw [z0]; rfl) e2
            · rw [if_neg z0]
              obtain ⟨v5, x5, e5, F5, hh5⟩ := x_tB (X := X) (B := B) (w0 := w0) h1.1
              have K5 := K1.f (F5.q (P := P))
              have st5 : ∀ r, (if v5 = 1 then fX6_refineOthers_133 X (fX6_refineOthers_8 X M) (B + 95) (nI (64 * T)) (B + (55 + 5 * t)) (nI k) (nI (u / 16)) (nI (2 ^ bb)) (rg_p lX B w0 x5) else fX6_refineOthers_133 X (fX6_refineOthers_8 X M) (B + 95) (nI (64 * T)) (B + (55 + 5 * t)) (nI k) (nI (u / 16)) (-nI (2 ^ bb)) (rg_p lX B w0 x5)) = r → fX6_refineOthers_8 X (M + 1) (B + 95) (nI (64 * T)) (B + (55 + 5 * t)) (nI k) (rg_p lX B w0 x) = r := by
                intro r hr
                refine st4 _ ?_
                unfold fX6_refineOthers_94
                refine ei_n (nI_ne0 (by omega) (by omega)) (ob_v (rg_O rfl) (ob_v e5 ?_))
                refine Eq.trans ?_ hr
                congr 1
                · refine ob_v K5.g2 (ob_v (rg_I rfl rfl) ?_)
                  rw [K5.2.2.2.2.2.2.1, pw_16 (by omega)]
                · refine ob_v K5.g2 (ob_v (rg_I rfl rfl) ?_)
                  rw [K5.2.2.2.2.2.2.1, pw_16 (by omega)]
              rcases hh5 with ⟨r1, r2, r3⟩ | ⟨u5, s5, r1, r2, r3⟩
              · have x56 : x5.1 95 6 = nI 1 := r2
                have e133 : fX6_refineOthers_133 X (fX6_refineOthers_8 X M) (B + 95) (nI (64 * T)) (B + (55 + 5 * t)) (nI k) (nI (u / 16)) (-nI (2 ^ bb)) (rg_p lX B w0 x5) = some (rg_p lX B w0 x5) := by
                  unfold fX6_refineOthers_133 fX6_refineUpTo fX6_refineOthers_167
                  exact ob_v (rg_O rfl) (ob_v (x_up0 (M := 3999999) K5 x56 (by decide) (by decide)) (ob_v (rg_I rfl rfl) (ei_n (by rw [x56]; decide) (ob_v (rg_I rfl rfl) (ei_n (by rw [x56]; decide) rfl)))))
                exact ⟨x5, st5 _ (ei_n (by rw [r3]; decide) e133), F1.q.trans F5.q, Or.inl ⟨1, by rw [r1]; rfl, by decide, by decide, x56⟩⟩
              · rw [r1]
                have hu := (tB_ok h1.1.2.2.2.2.2.2.2.2.1 h1.1.2.2.2.2.2.2.2.2.2 r1).2
                by_cases u1 : u5 = 1
                · obtain ⟨x6, e6, F6, o6⟩ := go (nI (2 ^ bb)) s5 x5 (Or.inr (Or.inl rfl)) (F1.q.trans F5.q) (h1.s F5 r3)
                  refine ⟨x6, st5 _ (ei_t (by rw [r2, u1]; rfl) e6), F6, ?_⟩
                  show zXo P cm mm D n d0 (zUb (zUp D n bb (64 * T) (last + 1 - k) k (u / 16) s5 a.2.2.2) fun k' s3 Q => if last < k' then .inl 3 else zMo D n W last bb (64 * T) j (k' + 1) (s3, a.2.1, a.2.2.1, upd Q (64 * T + k') (if u5 = 1 then nI (2 ^ bb) else -nI (2 ^ bb)))) x6
                  rw [if_pos u1]
                  exact o6
                · obtain ⟨x6, e6, F6, o6⟩ := go (-nI (2 ^ bb)) s5 x5 (Or.inr (Or.inr rfl)) (F1.q.trans F5.q) (h1.s F5 r3)
                  refine ⟨x6, st5 _ (ei_n (fun e => u1 ((nI_eq (b := 1) (by omega) (by omega)).mp (r2 ▸ e))) e6), F6, ?_⟩
                  show zXo P cm mm D n d0 (zUb (zUp D n bb (64 * T) (last + 1 - k) k (u / 16) s5 a.2.2.2) fun k' s3 Q => if last < k' then .inl 3 else zMo D n W last bb (64 * T) j (k' + 1) (s3, a.2.1, a.2.2.1, upd Q (64 * T + k') (if u5 = 1 then nI (2 ^ bb) else -nI (2 ^ bb)))) x6
                  rw [if_neg u1]
                  exact o6
theorem x_zMr (k : zKx x P first last bf bb) (f1 : 1 ≤ first) (hT : 64 * T + 64 ≤ 12288) (ht : t < 8) (hW : tbOk W.1 W.2.1 W.2.2) (hw : wX x t W.1 W.2.1 W.2.2) (h : zX P cm mm D n d0 x a) (ok : zOk a) : ∃ x', fX6_refineOthers X (rg_p lX B w0 x) (B + 95) (nI (64 * T)) (B + (55 + 5 * t)) = some (rg_p lX B w0 x') ∧ zFX P x x' ∧ zXo P cm mm D n d0 (zMr D n W first last bb (64 * T) a) x' := by
  have l6 : last ≤ 63 := k.2.2.2.2.2.2.2.2.1
  have fl : first ≤ last := k.2.2.2.2.2.2.2.1
  have o1 := ok.1
  have st : ∀ r, fX6_refineOthers_8 X FU (B + 95) (nI (64 * T)) (B + (55 + 5 * t)) (nI first) (rg_p lX B w0 x) = r → fX6_refineOthers X (rg_p lX B w0 x) (B + 95) (nI (64 * T)) (B + (55 + 5 * t)) = r := by
    intro r hr
    unfold fX6_refineOthers
    refine ob_v k.g2 (ob_v (rg_I rfl rfl) ?_)
    rw [k.2.2.2.1]
    exact hr
  unfold zMr
  by_cases q0 : 0 < a.2.1
  · rw [if_pos q0]
    obtain ⟨x1, e1, F1, o2⟩ := x_zTl (X := X) (B := B) (w0 := w0) hT k f1 (by omega) h ok q0
    refine ⟨x1, st _ ?_, F1, o2⟩
    rw [show FU = 3999999 + 1 from rfl, fX6_refineOthers_8.eq_2]
    exact ob_v (rg_I rfl rfl) (ei_n (by rw [h.2.1]; exact nI_ne0 q0 (by omega)) e1)
  · rw [if_neg q0]
    obtain ⟨x1, e1, F1, o2⟩ := x_zMo (X := X) (B := B) (w0 := w0) (W := W) k.1 hT ht hW 64 FU first x a (by omega) f1 (by omega) (by unfold FU; omega) k hw h ok (by omega)
    exact ⟨x1, st _ e1, F1, o2⟩
end
